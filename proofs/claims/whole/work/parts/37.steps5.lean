/-! at (the reference), told -/
theorem mo_at {K : Int32 → MSt → Prop} {p x : Int32} {T : MSt} {n : Nat} {P : PD} (hn : n ≤ 40) (hc : mpc T = nI n) (hs : ∀ i, i < n → MR P i T ∧ P 9 i ≤ 3) (h1 : ¬ (qz n p ∧ ¬ (x < 0 ∨ 6 < x)) → ∀ U, mTh T U 1 → K 0 U)
    (h3 : ∀ i, i < n → p = nI i → ¬ (x < 0 ∨ 6 < x) → ∀ U, mTh T U 0 → K (atV P i x) U) : wp_M_at K p x T := by
  have bad : ¬ (qz n p ∧ ¬ (x < 0 ∨ 6 < x)) → wpJ_M_at_19 K p x T := fun q => r_thr (thc1 _ _ _) (by decide) (fun U hU => ⟨fun e => absurd e (by decide), fun _ => h1 q U hU⟩)
  refine r_MisPiece hn hc (fun hz => ⟨fun e => absurd e (by decide), fun _ => ?_⟩) (fun hz => ⟨fun _ => bad (fun q => hz q.1), fun e => absurd rfl e⟩)
  refine r_in (fun a b => ⟨fun e => absurd e (by decide), fun _ => ?_⟩) (fun a => ⟨fun _ => bad (fun q => q.2 a), fun e => absurd rfl e⟩)
  have hx : ¬ (x < 0 ∨ 6 < x) := fun q => q.elim a b
  obtain ⟨i, hi, rfl⟩ := qz_of hn hz
  have hp := qz_in hn hi
  have ec : (nI i).toNatClampNeg = i := nI_clamp (by omega)
  obtain ⟨⟨r1, r2, r3, r4, r5, r6, r7, r8, r9, r10⟩, hle⟩ := hs i hi
  refine r_thr0 (fun U hU => ⟨fun _ => ?_, fun e => absurd rfl e⟩)
  have fin : ∀ v : Int32, v = atV P i x → K v U := fun v e => by rw [e]; exact h3 i hi rfl hx U hU
  obtain ⟨b1, b2, b3, b4, b5, b6, b7, b8, b9, b10, b11, -⟩ := hU
  rw [ec, b2, b3, b4, b5, b6, b7, b11]
  rcases tableAt x with q | rfl | rfl | rfl | rfl | rfl | rfl | rfl
  · exact absurd q hx
  · exact ⟨fun e => absurd e (by decide), fun _ => ⟨fun _ => ⟨hp, fin _ (by rw [r8]; rfl)⟩, fun e => absurd rfl e⟩⟩
  · exact ⟨fun e => absurd e (by decide), fun _ => ⟨fun e => absurd e (by decide), fun _ => ⟨fun _ => ⟨hp, fin _ (by rw [r2]; rfl)⟩, fun e => absurd rfl e⟩⟩⟩
  · exact ⟨fun e => absurd e (by decide), fun _ => ⟨fun e => absurd e (by decide), fun _ => ⟨fun e => absurd e (by decide), fun _ => ⟨hp, fin _ (by rw [r9]; rfl)⟩⟩⟩⟩
  · refine ⟨fun _ => ⟨fun _ => ⟨hp, fun z => fin _ ?_, fun z => fin _ ?_⟩, fun e => absurd rfl e⟩, fun e => absurd (by decide) e⟩
    · rw [← z, r10]; rfl
    · rw [r10] at z
      show (1 : Int32) = nI (if P 9 i = 3 then 1 else 0)
      by_cases h3 : P 9 i = 3
      · rw [if_pos h3]; rfl
      · rw [if_neg h3] at z; exact absurd rfl z
  · exact ⟨fun _ => ⟨fun e => absurd e (by decide), fun _ => ⟨fun _ => ⟨hp, fin _ (by rw [r3]; rfl)⟩, fun e => absurd rfl e⟩⟩, fun e => absurd (by decide) e⟩
  · exact ⟨fun _ => ⟨fun e => absurd e (by decide), fun _ => ⟨fun e => absurd e (by decide), fun _ => ⟨fun _ => ⟨hp, fin _ (by rw [r4]; rfl)⟩, fun e => absurd rfl e⟩⟩⟩, fun e => absurd (by decide) e⟩
  · exact ⟨fun _ => ⟨fun e => absurd e (by decide), fun _ => ⟨fun e => absurd e (by decide), fun _ => ⟨fun e => absurd e (by decide), fun _ => ⟨hp, fin _ (by rw [r7]; rfl)⟩⟩⟩⟩, fun e => absurd (by decide) e⟩
theorem op_at {P : PD} {n : Nat} {df : Nat → Nat × Nat × Nat} {d hp : Nat} {S : XSt} {T : MSt} {p x : Int32} {o : Nat → Int64} {F : Int32 → LSt → Prop} {FIN : Int32 → Int32 → LSt → MSt → Prop} (h : Rel P n df d hp S T) (hF : ∀ r O, wp_M_at (fun b U => FIN r b O U) p x T → F r O) (hA : ∀ r b O U, Agree r b.toInt64 O U → FIN r b O U) : wp_L_at F p x (o, S) := by
  have hn := h.1
  have c1 := h.2.2.1
  have c2 := h.2.2.2.1
  have hrow := h.2.2.2.2.2.2.2.2.2.1
  have hM : ∀ i, i < n → MR P i T ∧ P 9 i ≤ 3 := fun i hi => ⟨(hrow i hi).2.1, (hrow i hi).2.2.2⟩
  refine xo_at (P := P) hn c1 (fun i hi => ⟨(hrow i hi).1, (hrow i hi).2.2.2⟩) (fun q => hF _ _ (mo_at (P := P) hn c2 hM (fun _ U hU => hA _ _ _ _ (Agree_th h hU (by decide))) (fun i hi e z => absurd ⟨by rw [e]; exact qz_nI hn hi, z⟩ q)))
    (fun i hi ei q O o1 o2 => hF _ _ (mo_at (P := P) hn c2 hM (fun z => absurd ⟨by rw [ei]; exact qz_nI hn hi, q⟩ z) (fun j hj ej _ U hU => hA _ _ _ _ ?_)))
  have e := nI_inj hn hi hj ei ej
  subst e
  exact ⟨mTh_th hU, fun _ => o1, P, n, df, d, hp, by rw [o2]; exact Rel_th h hU⟩
/-! told -/
theorem lsum_mono {P : PD} : ∀ {n m : Nat}, n ≤ m → lsum P n ≤ lsum P m
  | n, 0, h => by have e : n = 0 := by omega
                  rw [e]; exact Nat.le_refl _
  | n, m + 1, h => by
    rcases Nat.lt_or_ge n (m + 1) with q | q
    · have := lsum_mono (P := P) (n := n) (m := m) (by omega)
      rw [lsum]
      omega
    · have e : n = m + 1 := by omega
      rw [e]; exact Nat.le_refl _
theorem lw_X {P : PD} {n : Nat} {S : XSt} {post : Int64 → XSt → Prop} (hn : n ≤ 40) (hc : xpc S = nI n) (hs : ∀ i, i < n → xSt S i = nI (P 9 i) ∧ P 9 i ≤ 3 ∧ xWe S i = nI (P 8 i)) (hb : lsum P n ≤ 40000000) (h : post (lN (lsum P n)) S) : ∀ k j : Nat, j + k = n → wpL_X_liveWeight_4 post (k + 1) S (lN (lsum P j)) (nI j)
  | 0, j, hj => by
    have e : j = n := by omega
    subst e
    refine ⟨fun _ => h, fun q => absurd ?_ q⟩
    rw [hc]; exact nI_le (Nat.le_refl _) (by omega)
  | k + 1, j, hj => by
    have hjn : j < n := by omega
    have hp := qz_in hn hjn
    have ec : (nI j).toNatClampNeg = j := nI_clamp (by omega)
    obtain ⟨s1, s2, s3⟩ := hs j hjn
    refine ⟨fun q => absurd q (by rw [hc]; exact nI_ge hjn (by omega)), fun _ => r_isLive hp (fun a => ⟨fun e => absurd e (by decide), fun _ => ⟨hp, fun v ev w ew => ?_⟩⟩) (fun a => ⟨fun _ w ew => ?_, fun e => absurd rfl e⟩)⟩
    · rw [ec, s1, i0 s2, i3 s2] at a
      have hl := lsum_le hjn a
      rw [ec, s3, nI_l (by omega), lN_add] at ev
      have e1 : lsum P j + P 8 j = lsum P (j + 1) := by rw [lsum, if_pos a]
      rw [ev, ew, e1, nI_1]
      exact lw_X hn hc hs hb h k (j + 1) (by omega)
    · rw [ec, s1, i0 s2, i3 s2] at a
      have e1 : lsum P j = lsum P (j + 1) := by rw [lsum, if_neg a]; omega
      rw [ew, e1, nI_1]
      exact lw_X hn hc hs hb h k (j + 1) (by omega)
theorem live_m {s : Nat} (h : s ≤ 3) : nI (if s = 3 then 0 else s) = 0 ↔ (s = 0 ∨ s = 3) := by
  by_cases h3 : s = 3
  · subst h3
    decide
  · rw [if_neg h3, i0 h]
    exact ⟨fun q => Or.inl q, fun q => q.elim id (fun z => absurd z h3)⟩
theorem lw_M {P : PD} {n : Nat} {T : MSt} {p : Int32} {post : Int64 → MSt → Prop} (hn : n ≤ 40) (hc : mpc T = nI n) (hs : ∀ i, i < n → mSt T i = nI (if P 9 i = 3 then 0 else P 9 i) ∧ P 9 i ≤ 3 ∧ mWe T i = nI (P 8 i)) (hb : lsum P n ≤ 40000000) (h : post (lN (lsum P n)) T) : ∀ k j : Nat, j + k = n → wpL_M_told_53 post p (k + 1) T (lN (lsum P j)) (nI j)
  | 0, j, hj => by
    have e : j = n := by omega
    subst e
    refine ⟨fun _ => h, fun q => absurd ?_ q⟩
    rw [hc]; exact nI_le (Nat.le_refl _) (by omega)
  | k + 1, j, hj => by
    have hjn : j < n := by omega
    have hp := qz_in hn hjn
    have ec : (nI j).toNatClampNeg = j := nI_clamp (by omega)
    obtain ⟨s1, s2, s3⟩ := hs j hjn
    refine ⟨fun q => absurd q (by rw [hc]; exact nI_ge hjn (by omega)), fun _ => ⟨hp, ?_⟩⟩
    rw [ec, s1, live_m s2, s3]
    refine ⟨fun a => ⟨hp, fun v ev w ew => ?_⟩, fun a v ev w ew => ?_⟩
    · have hl := lsum_le hjn a
      rw [nI_l (by omega), lN_add] at ev
      have e1 : lsum P j + P 8 j = lsum P (j + 1) := by rw [lsum, if_pos a]
      rw [ev, ew, e1, nI_1]
      exact lw_M hn hc hs hb h k (j + 1) (by omega)
    · have e1 : lsum P j = lsum P (j + 1) := by rw [lsum, if_neg a]; omega
      have e2 : lN (lsum P j) + 0 = lN (lsum P j) := by
        rw [show (0 : Int64) = lN 0 from rfl, lN_add]; rfl
      rw [ev, ew, e2, e1, nI_1]
      exact lw_M hn hc hs hb h k (j + 1) (by omega)
theorem table2 (x : Int32) : (x < 0 ∨ 2 < x) ∨ x = 0 ∨ x = 1 ∨ x = 2 := by
  by_cases h : x < 0 ∨ 2 < x
  · exact Or.inl h
  · right
    have h1 : ¬ x < 0 := fun q => h (Or.inl q)
    have h2 : ¬ 2 < x := fun q => h (Or.inr q)
    rw [Int32.lt_iff_toInt_lt] at h1 h2
    have e0 : (0 : Int32).toInt = 0 := by decide
    have e6 : (2 : Int32).toInt = 2 := by decide
    rw [e0] at h1
    rw [e6] at h2
    obtain ⟨j, hj, e⟩ := nI_of (x := x) (by rw [Int32.lt_iff_toInt_lt, Int32.toInt_zero]; omega)
    rw [e, nI_toInt hj] at h1 h2
    have h7 : j = 0 ∨ j = 1 ∨ j = 2 := by omega
    rcases h7 with rfl | rfl | rfl <;> subst e <;> simp [nI]
theorem op_told {P : PD} {n : Nat} {df : Nat → Nat × Nat × Nat} {d hp : Nat} {S : XSt} {T : MSt} {x : Int32} {o : Nat → Int64} {F : Int32 → LSt → Prop} {FIN : Int32 → Int64 → LSt → MSt → Prop} (h : Rel P n df d hp S T) (hF : ∀ r O, wp_M_told (fun b U => FIN r b O U) x T → F r O) (hA : ∀ r b O U, Agree r b O U → FIN r b O U) : wp_L_told F x (o, S) := by
  have hn := h.1
  have c1 := h.2.2.1
  have c2 := h.2.2.2.1
  have c5 := h.2.2.2.2.2.2.1
  have c6 := h.2.2.2.2.2.2.2.1
  have c7 := h.2.2.2.2.2.2.2.2.1
  have hrow := h.2.2.2.2.2.2.2.2.2.1
  have hls := h.2.2.2.2.2.2.2.2.2.2.1
  have hb : lsum P n ≤ 40000000 := by omega
  have good : ∀ (b : Int64) (O : LSt) (U : MSt), mTh T U 0 → O.1 0 = b → O.2 = S → FIN 0 b O U := fun b O U hU o1 o2 => hA _ _ _ _ ⟨mTh_th hU, fun _ => o1, P, n, df, d, hp, by rw [o2]; exact Rel_th h hU⟩
  unfold wp_L_told wp_X_told
  rcases table2 x with q | rfl | rfl | rfl
  · have ne : ∀ j : Nat, j ≤ 2 → ¬ x = nI j := fun j hj e => by
      rw [e, Int32.lt_iff_toInt_lt, Int32.lt_iff_toInt_lt, nI_toInt (by omega)] at q
      have e0 : (0 : Int32).toInt = 0 := by decide
      have e6 : (2 : Int32).toInt = 2 := by decide
      rw [e0, e6] at q
      omega
    refine ⟨fun e => absurd e (ne 0 (by omega)), fun _ => ⟨fun e => absurd e (ne 1 (by omega)), fun _ => ⟨fun e => absurd e (ne 2 (by omega)), fun _ => ⟨rfl, hF _ _ ?_⟩⟩⟩⟩
    exact r_in (fun a b => absurd q (fun z => z.elim a b)) (fun _ => ⟨fun _ => r_thr (thc1 _ _ _) (by decide) (fun U hU => ⟨fun e => absurd e (by decide), fun _ => hA _ _ _ _ (Agree_th h hU (by decide))⟩), fun e => absurd rfl e⟩)
  · refine ⟨fun _ => ⟨n + 1, lw_X (P := P) hn c1 (fun i hi => ⟨(hrow i hi).1.2.2.2.2.2.2.2.2, (hrow i hi).2.2.2, (hrow i hi).1.2.2.2.2.2.2.2.1⟩) hb ⟨in01, fun O eO => hF _ _ ?_⟩ n 0 (by omega)⟩, fun e => absurd rfl e⟩
    have g := out_put eO
    refine r_in (fun _ _ => ⟨fun e => absurd e (by decide), fun _ => r_thr0 (fun U hU => ⟨fun _ => ⟨fun _ => ?_, fun e => absurd (by decide) e⟩, fun e => absurd rfl e⟩)⟩) (fun e => absurd e (by decide))
    have hR := Rel_th h hU
    have hrowR := hR.2.2.2.2.2.2.2.2.2.1
    exact ⟨n + 1, lw_M (P := P) hn hR.2.2.2.1 (fun i hi => ⟨(hrowR i hi).2.1.2.2.2.2.2.2.2.2.1, (hrowR i hi).2.2.2, (hrowR i hi).2.1.2.2.2.2.2.2.2.1⟩) hb (good _ _ _ hU g.1 g.2) n 0 (by omega)⟩
  · refine ⟨fun e => absurd e (by decide), fun _ => ⟨fun _ => ⟨in01, fun O eO => hF _ _ ?_⟩, fun e => absurd rfl e⟩⟩
    have g := out_put eO
    refine r_in (fun _ _ => ⟨fun e => absurd e (by decide), fun _ => r_thr0 (fun U hU => ⟨fun _ => ⟨fun e => absurd e (by decide), fun _ => ⟨fun _ => ?_, fun e => absurd rfl e⟩⟩, fun e => absurd rfl e⟩)⟩) (fun e => absurd e (by decide))
    exact good _ _ _ hU (by rw [g.1, mTh_hp hU, c5, c6]) g.2
  · refine ⟨fun e => absurd e (by decide), fun _ => ⟨fun e => absurd e (by decide), fun _ => ⟨fun _ => ⟨in01, fun O eO => hF _ _ ?_⟩, fun e => absurd rfl e⟩⟩⟩
    have g := out_put eO
    refine r_in (fun _ _ => ⟨fun e => absurd e (by decide), fun _ => r_thr0 (fun U hU => ⟨fun _ => ⟨fun e => absurd e (by decide), fun _ => ⟨fun e => absurd e (by decide), fun _ => ?_⟩⟩, fun e => absurd rfl e⟩)⟩) (fun e => absurd e (by decide))
    have hR := Rel_th h hU
    exact good _ _ _ hU (by rw [g.1, ← hR.2.2.2.2.2.2.2.2.1]) g.2

