/-! has, recall -/
theorem r_isDefect {post : Int32 → MSt → Prop} {p : Int32} {n : Nat} {T : MSt} (hn : n ≤ 40) (hc : mdc T = nI n) (h1 : qz n p → post 1 T) (h0 : ¬ qz n p → post 0 T) : wp_M_isDefect post p T := by
  refine r_in (fun a b => h1 ⟨a, fun c => b ?_⟩) (fun a => h0 (fun c => a.elim c.1 (fun d => c.2 ?_)))
  · rw [hc]; exact (nI_sub1 hn p).mpr c
  · rw [hc] at d; exact (nI_sub1 hn p).mp d
theorem mEq_th {S T : MSt} (h : mEq S T) : mth T = mth S := h.2.2.2.2.2.2.2.2.2.2.2.2.2.2.1
theorem op_has {P : PD} {n : Nat} {df : Nat → Nat × Nat × Nat} {d hp : Nat} {S : XSt} {T : MSt} {p x y : Int32} {o : Nat → Int64} {F : Int32 → LSt → Prop} {FIN : Int32 → Int64 → LSt → MSt → Prop} (h : Rel P n df d hp S T) (hF : ∀ r O, wp_M_has (fun b U => FIN r b O U) p x y T → F r O) (hA : ∀ r b O U, Agree r b O U → FIN r b O U) : wp_L_has F p x y (o, S) := by
  have hn := h.1
  have hd := h.2.1
  have c1 := h.2.2.1
  have c2 := h.2.2.2.1
  have c3 := h.2.2.2.2.1
  have c4 := h.2.2.2.2.2.1
  have hrow := h.2.2.2.2.2.2.2.2.2.1
  have bad1 : ¬ (qz d p ∧ qz n x ∧ ¬ y < 0 ∧ ¬ 1 < y) → wp_M_has (fun b U => FIN 1 b (o, S) U) p x y T := by
    intro q
    have bad : wpJ_M_has_26 (fun b U => FIN 1 b (o, S) U) p x y T := thrL h hA (thc1 _ _ _) (by decide)
    exact r_isDefect (n := d) (by omega) c4 (fun q1 => ⟨fun e => absurd e (by decide), fun _ => r_MisPiece hn c2 (fun q2 => ⟨fun e => absurd e (by decide), fun _ => r_in (fun z1 z2 => absurd ⟨q1, q2, z1, z2⟩ q) (fun _ => ⟨fun _ => bad, fun e => absurd rfl e⟩)⟩) (fun _ => ⟨fun _ => bad, fun e => absurd rfl e⟩)⟩) (fun _ => ⟨fun _ => bad, fun e => absurd rfl e⟩)
  unfold wp_L_has wp_X_has
  refine r_needDefect (fun u1 u2 => ?_) (fun z => ⟨rfl, hF _ _ (bad1 (fun q => z.elim q.1.1 (fun w => q.1.2 ?_)))⟩)
  rotate_left
  · rw [← c3]
    exact (nlt_le _ _).mp w
  refine r_needPiece (fun hz => ?_) (fun hz => ⟨rfl, hF _ _ (bad1 (fun q => hz ((pz_qz c1).mpr q.2.1)))⟩)
  refine r_needPart (fun y1 y2 => ?_) (fun z => ⟨rfl, hF _ _ (bad1 (fun q => z.elim q.2.2.1 (fun w => w ((le_nlt _ _).mpr q.2.2.2))))⟩)
  clear bad1
  have hqd : qz d p := ⟨u1, fun z => by
    have u3 : p < nI d := by rw [← c3]; exact u2
    exact (le_nlt _ _).mp z u3⟩
  obtain ⟨dd, hdd, rfl⟩ := qz_of (n := d) (by omega) hqd
  obtain ⟨i, hi, rfl⟩ := qz_of hn ((pz_qz c1).mp hz)
  have hp1 := qz_in hn hi
  have ec : (nI i).toNatClampNeg = i := nI_clamp (by omega)
  obtain ⟨G, g1, gX, gM⟩ := fwdBoth h hdd
  have bG := FI_bd (g1 i hi) (hrow i hi).2.2.1.2.2.1 (hrow i hi).2.2.1.2.2.2.1
  refine gX _ (fun S' hS' cX => ⟨hp1, ?_⟩)
  have tX := cX.2.2.2.2.2 i hi
  have ez : lN (G i).2 = 0 ↔ (G i).2 = 0 := pk_lEQ (b := 0) (by omega) (by decide)
  rw [ec, tX.1, tX.2, ez]
  have key : ∀ (r : Int64), (r = (if (G i).2 = 0 then (-1) else if y = 0 then lN (G i).1 else lN (G i).2)) → (vp_in 0 1 ∧ ∀ S4 : LSt, S4 = luO (o, S') 0 r → F 0 S4) := by
    intro r er
    refine ⟨in01, fun O eO => hF _ _ ?_⟩
    have g := out_put eO
    refine r_isDefect (n := d) (by omega) c4 (fun q1 => ⟨fun e => absurd e (by decide), fun _ => r_MisPiece hn c2 (fun q2 => ⟨fun e => absurd e (by decide), fun _ => r_in (fun z1 z2 => ⟨fun e => absurd e (by decide), fun _ => r_thr0 (fun U0 hU0 => ⟨fun _ => gM U0 _ hU0 (fun T' hT' cM => ⟨hp1, ?_⟩), fun e => absurd rfl e⟩)⟩) (fun z => absurd z (fun z => z.elim y1 (fun w => (le_nlt _ _).mp y2 w)))⟩) (fun z => absurd (qz_nI hn hi) z)⟩) (fun z => absurd hqd z)
    have tM := cM.2.2.2.2.2 i hi
    have fin : ∀ b : Int64, b = r → FIN 0 b O T' := fun b eb => hA _ _ _ _ ⟨by rw [mEq_th hT']; exact mTh_th hU0, fun _ => by rw [g.1, eb], P, n, df, d, hp, by rw [g.2]; exact Rel_eq (Rel_th h hU0) hS' hT'⟩
    rw [ec, tM.1, tM.2]
    by_cases hb : (G i).2 = 0
    · rw [if_pos hb, if_pos hb]
      rw [if_pos hb] at er
      exact ⟨fun z => absurd z (by decide), fun _ => fin _ er.symm⟩
    · rw [if_neg hb, if_neg hb]
      rw [if_neg hb] at er
      refine ⟨fun _ => ⟨fun z => ⟨hp1, fin _ ?_⟩, fun z => ⟨hp1, fin _ ?_⟩⟩, fun z => absurd ((pk_lLE (a := 0) (b := (G i).1) (by decide) (by omega)).mpr (Nat.zero_le _)) z⟩
      · rw [er, if_pos z]
      · rw [er, if_neg z]
  refine ⟨fun z => key _ (by rw [if_pos z]), fun z => ⟨fun z1 => ⟨hp1, key _ (by rw [if_neg z, if_pos z1])⟩, fun z1 => ⟨hp1, key _ (by rw [if_neg z, if_neg z1])⟩⟩⟩
theorem rec_loop {P : PD} {n : Nat} {G : Nat → Nat × Nat} (hn : n ≤ 40) (hG : ∀ i, i < n → P 9 i ≤ 3 ∧ (G i).1 < 2 ^ 63 ∧ (G i).2 < 2 ^ 63) (p1 : Int32) : ∀ (k j : Nat) (cnt : Int32), j + k = n → ∃ r : Int32, (∀ (S : XSt) (post : Int32 → XSt → Prop) (xp : String → XSt → Prop) (p0 : Int32) (f : Nat), xpc S = nI n → (∀ i, i < n → xSt S i = nI (P 9 i) ∧ xFL S i = lN (G i).2) → k < f → post r S → wpL_X_recall_29 post xp p0 p1 f S cnt (nI j)) ∧
    (∀ (T : MSt) (post : Int32 → MSt → Prop) (p0 : Int32) (f : Nat), mpc T = nI n → (∀ i, i < n → mSt T i = nI (if P 9 i = 3 then 0 else P 9 i) ∧ mFU T i = (if (G i).2 = 0 then (-1) else lN (G i).1)) → k < f → post r T → wpL_M_recall_39 post p0 p1 f T cnt (nI j))
  | 0, j, cnt, hj => by
    have e : j = n := by omega
    subst e
    refine ⟨-1, fun S post xp p0 f hc hs hf hK => ?_, fun T post p0 f hc hs hf hK => ?_⟩
    · obtain ⟨f, rfl⟩ : ∃ g, f = g + 1 := ⟨f - 1, by omega⟩
      exact ⟨fun _ => hK, fun z => absurd (by rw [hc]; exact nI_le (Nat.le_refl _) (by omega)) z⟩
    · obtain ⟨f, rfl⟩ : ∃ g, f = g + 1 := ⟨f - 1, by omega⟩
      exact ⟨fun _ => hK, fun z => absurd (by rw [hc]; exact nI_le (Nat.le_refl _) (by omega)) z⟩
  | k + 1, j, cnt, hj => by
    have hjn : j < n := by omega
    have hp := qz_in hn hjn
    have ec : (nI j).toNatClampNeg = j := nI_clamp (by omega)
    obtain ⟨q9, q1, q2⟩ := hG j hjn
    have ez : lN (G j).2 = 0 ↔ (G j).2 = 0 := pk_lEQ (b := 0) q2 (by decide)
    have em : (if (G j).2 = 0 then (-1 : Int64) else lN (G j).1) < 0 ↔ (G j).2 = 0 := by
      by_cases hb : (G j).2 = 0
      · rw [if_pos hb]
        exact ⟨fun _ => hb, fun _ => by decide⟩
      · rw [if_neg hb]
        exact ⟨fun z => absurd z (l63 q1), fun z => absurd z hb⟩
    by_cases hl : (P 9 j = 0 ∨ P 9 j = 3) ∧ ¬ (G j).2 = 0
    · by_cases he : cnt = p1
      · refine ⟨nI j, fun S post xp p0 f hc hs hf hK => ?_, fun T post p0 f hc hs hf hK => ?_⟩
        · obtain ⟨f, rfl⟩ : ∃ g, f = g + 1 := ⟨f - 1, by omega⟩
          obtain ⟨s1, s2⟩ := hs j hjn
          refine ⟨fun z => absurd z (by rw [hc]; exact nI_ge hjn (by omega)), fun _ => r_isLive hp (fun a => ⟨fun e => absurd e (by decide), fun _ => ⟨hp, ?_⟩⟩) (fun a => absurd ?_ a)⟩
          · rw [ec, s2, ez]
            exact ⟨fun z => absurd z hl.2, fun _ => ⟨fun _ => hK, fun z => absurd he z⟩⟩
          · rw [ec, s1, i0 q9, i3 q9]
            exact hl.1
        · obtain ⟨f, rfl⟩ : ∃ g, f = g + 1 := ⟨f - 1, by omega⟩
          obtain ⟨s1, s2⟩ := hs j hjn
          refine ⟨fun z => absurd z (by rw [hc]; exact nI_ge hjn (by omega)), fun _ => ⟨hp, ?_⟩⟩
          rw [ec, s1, s2, live_m q9, em]
          exact ⟨fun _ => ⟨hp, fun z => absurd z hl.2, fun _ => ⟨fun _ => hK, fun z => absurd he z⟩⟩, fun z => absurd hl.1 z⟩
      · obtain ⟨r, rX, rM⟩ := rec_loop hn hG p1 k (j + 1) (cnt + 1) (by omega)
        refine ⟨r, fun S post xp p0 f hc hs hf hK => ?_, fun T post p0 f hc hs hf hK => ?_⟩
        · obtain ⟨f, rfl⟩ : ∃ g, f = g + 1 := ⟨f - 1, by omega⟩
          obtain ⟨s1, s2⟩ := hs j hjn
          refine ⟨fun z => absurd z (by rw [hc]; exact nI_ge hjn (by omega)), fun _ => r_isLive hp (fun a => ⟨fun e => absurd e (by decide), fun _ => ⟨hp, ?_⟩⟩) (fun a => absurd ?_ a)⟩
          · rw [ec, s2, ez]
            refine ⟨fun z => absurd z hl.2, fun _ => ⟨fun z => absurd z he, fun _ v ev w ew => ?_⟩⟩
            rw [ev, ew, nI_1]
            exact rX S post xp p0 f hc hs (by omega) hK
          · rw [ec, s1, i0 q9, i3 q9]
            exact hl.1
        · obtain ⟨f, rfl⟩ : ∃ g, f = g + 1 := ⟨f - 1, by omega⟩
          obtain ⟨s1, s2⟩ := hs j hjn
          refine ⟨fun z => absurd z (by rw [hc]; exact nI_ge hjn (by omega)), fun _ => ⟨hp, ?_⟩⟩
          rw [ec, s1, s2, live_m q9, em]
          refine ⟨fun _ => ⟨hp, fun z => absurd z hl.2, fun _ => ⟨fun z => absurd z he, fun _ v ev w ew => ?_⟩⟩, fun z => absurd hl.1 z⟩
          rw [ev, ew, nI_1]
          exact rM T post p0 f hc hs (by omega) hK
    · obtain ⟨r, rX, rM⟩ := rec_loop hn hG p1 k (j + 1) cnt (by omega)
      refine ⟨r, fun S post xp p0 f hc hs hf hK => ?_, fun T post p0 f hc hs hf hK => ?_⟩
      · obtain ⟨f, rfl⟩ : ∃ g, f = g + 1 := ⟨f - 1, by omega⟩
        obtain ⟨s1, s2⟩ := hs j hjn
        refine ⟨fun z => absurd z (by rw [hc]; exact nI_ge hjn (by omega)), fun _ => r_isLive hp (fun a => ⟨fun e => absurd e (by decide), fun _ => ⟨hp, ?_⟩⟩) (fun a => ⟨fun _ w ew => ?_, fun e => absurd rfl e⟩)⟩
        · rw [ec, s1, i0 q9, i3 q9] at a
          rw [ec, s2, ez]
          refine ⟨fun _ w ew => ?_, fun z => absurd ⟨a, z⟩ hl⟩
          rw [ew, nI_1]
          exact rX S post xp p0 f hc hs (by omega) hK
        · rw [ew, nI_1]
          exact rX S post xp p0 f hc hs (by omega) hK
      · obtain ⟨f, rfl⟩ : ∃ g, f = g + 1 := ⟨f - 1, by omega⟩
        obtain ⟨s1, s2⟩ := hs j hjn
        have go : wpJ_M_recall_81 post p0 p1 (wpL_M_recall_39 post p0 p1 f) T cnt (nI j) := fun w ew => by
          rw [ew, nI_1]
          exact rM T post p0 f hc hs (by omega) hK
        refine ⟨fun z => absurd z (by rw [hc]; exact nI_ge hjn (by omega)), fun _ => ⟨hp, ?_⟩⟩
        rw [ec, s1, s2, live_m q9, em]
        exact ⟨fun a => ⟨hp, fun _ => go, fun z => absurd ⟨a, z⟩ hl⟩, fun _ => go⟩
theorem op_recall {P : PD} {n : Nat} {df : Nat → Nat × Nat × Nat} {d hp : Nat} {S : XSt} {T : MSt} {p x : Int32} {o : Nat → Int64} {F : Int32 → LSt → Prop} {FIN : Int32 → Int32 → LSt → MSt → Prop} (h : Rel P n df d hp S T) (hF : ∀ r O, wp_M_recall (fun b U => FIN r b O U) p x T → F r O) (hA : ∀ r b O U, Agree r b.toInt64 O U → FIN r b O U) : wp_L_recall F p x (o, S) := by
  have hn := h.1
  have hd := h.2.1
  have c3 := h.2.2.2.2.1
  have c4 := h.2.2.2.2.2.1
  have hrow := h.2.2.2.2.2.2.2.2.2.1
  have bad1 : ¬ (qz d p ∧ 0 ≤ x) → wp_M_recall (fun b U => FIN 1 b (o, S) U) p x T := by
    intro q
    have bad : wpJ_M_recall_13 (fun b U => FIN 1 b (o, S) U) p x T := thrA h hA (thc1 _ _ _) (by decide)
    exact r_isDefect (n := d) (by omega) c4 (fun q1 => ⟨fun e => absurd e (by decide), fun _ => ⟨fun z => absurd ⟨q1, z⟩ q, fun _ => bad⟩⟩) (fun _ => ⟨fun _ => bad, fun e => absurd rfl e⟩)
  unfold wp_L_recall wp_X_recall
  refine r_needDefect (fun u1 u2 => ⟨fun hx => ?_, fun hx => ⟨rfl, hF _ _ (bad1 (fun q => hx q.2))⟩⟩) (fun z => ⟨rfl, hF _ _ (bad1 (fun q => z.elim q.1.1 (fun w => q.1.2 ?_)))⟩)
  rotate_left
  · rw [← c3]
    exact (nlt_le _ _).mp w
  clear bad1
  have hqd : qz d p := ⟨u1, fun z => by
    have u3 : p < nI d := by rw [← c3]; exact u2
    exact (le_nlt _ _).mp z u3⟩
  obtain ⟨dd, hdd, rfl⟩ := qz_of (n := d) (by omega) hqd
  obtain ⟨G, g1, gX, gM⟩ := fwdBoth h hdd
  have hG : ∀ i, i < n → P 9 i ≤ 3 ∧ (G i).1 < 2 ^ 63 ∧ (G i).2 < 2 ^ 63 := fun i hi => by
    have bG := FI_bd (g1 i hi) (hrow i hi).2.2.1.2.2.1 (hrow i hi).2.2.1.2.2.2.1
    exact ⟨(hrow i hi).2.2.2, by omega, by omega⟩
  obtain ⟨r, rX, rM⟩ := rec_loop (P := P) hn hG x n 0 0 (by omega)
  refine gX _ (fun S' hS' cX => ⟨n + 1, rX S' _ _ _ (n + 1) cX.2.1 (fun i hi => ⟨(cX.1 i hi).2.2.2.2.2.2.2.2, (cX.2.2.2.2.2 i hi).2⟩) (by omega) ⟨in01, fun O eO => hF _ _ ?_⟩⟩)
  have g := out_put eO
  refine r_isDefect (n := d) (by omega) c4 (fun q1 => ⟨fun e => absurd e (by decide), fun _ => ⟨fun _ => r_thr0 (fun U0 hU0 => ⟨fun _ => gM U0 _ hU0 (fun T' hT' cM => ⟨n + 1, rM T' _ _ (n + 1) cM.2.1 (fun i hi => ⟨(cM.1 i hi).2.2.2.2.2.2.2.2.1, (cM.2.2.2.2.2 i hi).1⟩) (by omega) (hA _ _ _ _ ?_)⟩), fun e => absurd rfl e⟩), fun z => absurd hx z⟩⟩) (fun z => absurd hqd z)
  exact ⟨by rw [mEq_th hT']; exact mTh_th hU0, fun _ => g.1, P, n, df, d, hp, by rw [g.2]; exact Rel_eq (Rel_th h hU0) hS' hT'⟩

