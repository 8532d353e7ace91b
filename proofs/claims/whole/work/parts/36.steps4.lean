/-! scrap, at, told -/
theorem xo_scrap {K : Int32 → LSt → Prop} {p : Int32} {o : Nat → Int64} {S : XSt} {n : Nat} {P : PD} (hn : n ≤ 40) (hc : xpc S = nI n) (hs : ∀ i, i < n → xSt S i = nI (P 9 i) ∧ P 9 i ≤ 3) (h1 : ¬ qz n p → K 1 (o, S)) (h2 : ∀ i, i < n → p = nI i → ¬ P 9 i = 0 → K 2 (o, S))
    (h3 : ∀ i, i < n → p = nI i → P 9 i = 0 → ∀ S1 S2 O, S1 = xuSt S p 2 → S2 = xshp S1 (xhp S + xWe S i) → O.1 0 = (xhp S + xWe S i).toInt64 → O.2 = S2 → K 0 O) : wp_L_scrap K p (o, S) := by
  unfold wp_L_scrap wp_X_scrap
  refine r_needPiece (fun hz => ?_) (fun hz => Or.inl ⟨rfl, h1 (fun q => hz ((pz_qz hc).mpr q))⟩)
  obtain ⟨i, hi, rfl⟩ := qz_of hn ((pz_qz hc).mp hz)
  have hp := qz_in hn hi
  have ec : (nI i).toNatClampNeg = i := nI_clamp (by omega)
  obtain ⟨e, hle⟩ := hs i hi
  refine r_needFree hp (fun q => ⟨hp, fun S4 e4 => ⟨hp, fun S6 e6 => ⟨in01, fun O eO => ?_⟩⟩⟩) (fun q => Or.inr ⟨rfl, h2 i hi rfl (fun y => q ?_)⟩)
  · rw [ec, e] at q
    have f4 := xESt e4
    have f6 := xEhp e6
    have g := out_put eO
    have w4 : xWe S4 = xWe S := by simp only [f4]
    have h4 : xhp S4 = xhp S := by simp only [f4]
    rw [ec, w4, h4] at e6
    have h6 : xhp S6 = xhp S + xWe S i := (xEhp e6).2.2.2.2.2.2.2.2.2.2.2.2.2.2.2.2.2.1
    exact h3 i hi rfl ((i0 hle).mp q) S4 S6 O e4 e6 (by rw [g.1, h6]) g.2
  · rw [ec, e, y]; rfl
/-- !isPiece(k), !isAtHand(k): the two first flags of the reference's checks -/
theorem mo_hand {K : Int32 → Int32 → MSt → Prop} {p : Int32} {T : MSt} {n : Nat} {P : PD} (hn : n ≤ 40) (hc : mpc T = nI n) (hs : ∀ i, i < n → mSt T i = nI (if P 9 i = 3 then 0 else P 9 i) ∧ mHe T i = nI (if P 9 i = 3 then 1 else 0) ∧ P 9 i ≤ 3) (h1 : ¬ qz n p → K 1 1 T) (h2 : ∀ i, i < n → p = nI i → ¬ P 9 i = 0 → K 0 1 T) (h3 : ∀ i, i < n → p = nI i → P 9 i = 0 → K 0 0 T) :
    wp_M_isPiece (fun r1 S1 => ((r1 = 0 → wp_M_isAtHand (fun r2 S2 => ((r2 = 0 → K 1 1 S2) ∧ (¬ r2 = 0 → K 1 0 S2))) p S1) ∧ (¬ r1 = 0 → wp_M_isAtHand (fun r2 S2 => ((r2 = 0 → K 0 1 S2) ∧ (¬ r2 = 0 → K 0 0 S2))) p S1))) p T := by
  refine r_MisPiece hn hc (fun hz => ⟨fun e => absurd e (by decide), fun _ => ?_⟩) (fun hz => ⟨fun _ => ?_, fun e => absurd rfl e⟩)
  · refine r_isAtHand hn hc (fun i hi e a b => ⟨fun e => absurd e (by decide), fun _ => h3 i hi e ?_⟩) (fun q => absurd hz q) (fun i hi e a => ⟨fun _ => h2 i hi e (fun q => a ?_), fun e => absurd rfl e⟩)
    · rw [(hs i hi).1] at a
      rw [(hs i hi).2.1] at b
      exact (atHand (hs i hi).2.2).mp ⟨a, b⟩
    · rw [(hs i hi).1, (hs i hi).2.1]
      exact (atHand (hs i hi).2.2).mpr q
  · refine r_isAtHand hn hc (fun i hi e _ _ => absurd (by rw [e]; exact qz_nI hn hi) hz) (fun _ => ⟨fun _ => h1 hz, fun e => absurd rfl e⟩) (fun i hi e _ => absurd (by rw [e]; exact qz_nI hn hi) hz)
theorem mo_scrap {K : Int32 → MSt → Prop} {p : Int32} {T : MSt} {n : Nat} {P : PD} (hn : n ≤ 40) (hc : mpc T = nI n) (hs : ∀ i, i < n → mSt T i = nI (if P 9 i = 3 then 0 else P 9 i) ∧ mHe T i = nI (if P 9 i = 3 then 1 else 0) ∧ P 9 i ≤ 3) (h1 : ¬ qz n p → ∀ U, mTh T U 1 → K 0 U) (h2 : ∀ i, i < n → p = nI i → ¬ P 9 i = 0 → ∀ U, mTh T U 2 → K 0 U)
    (h3 : ∀ i, i < n → p = nI i → P 9 i = 0 → ∀ U0 U1 U2, mTh T U0 0 → U1 = muSt U0 p 2 → U2 = mshp U1 (mhp T + mWe T i) → K (mhp T + mWe T i) U2) : wp_M_scrap K p T := by
  refine mo_hand (K := fun a b S => wpJ_M_scrap_27 K p S b a) (P := P) hn hc hs (fun q => r_thr (thc1 _ _ _) (by decide) (fun U hU => ⟨fun e => absurd e (by decide), fun _ => h1 q U hU⟩)) (fun i hi e q => r_thr (thc2 _ _) (by decide) (fun U hU => ⟨fun e => absurd e (by decide), fun _ => h2 i hi e q U hU⟩)) (fun i hi e q => r_thr0 (fun U0 hU0 => ⟨fun _ => ?_, fun e => absurd rfl e⟩))
  have hp : vp_in p 40 := by rw [e]; exact qz_in hn hi
  have ec : p.toNatClampNeg = i := by rw [e]; exact nI_clamp (by omega)
  refine ⟨hp, fun U1 e1 => ⟨hp, fun U2 e2 => ?_⟩⟩
  have f1 := mESt e1
  have w1 : mWe U1 = mWe T := by simp only [f1]; exact hU0.2.1
  have k1 : mhp U1 = mhp T := by simp only [f1]; exact mTh_hp hU0
  rw [ec, w1, k1] at e2
  have h6 : mhp U2 = mhp T + mWe T i := (mEhp e2).2.2.2.2.2.2.2.2.2.2.2.2.2.2.2.2.2.2.1
  rw [h6]
  exact h3 i hi e q U0 U1 U2 hU0 e1 e2
theorem Rel_X9 {P : PD} {n : Nat} {df : Nat → Nat × Nat × Nat} {d hp : Nat} {S : XSt} {T : MSt} (h : Rel P n df d hp S T) : ∀ i, i < n → xSt S i = nI (P 9 i) ∧ P 9 i ≤ 3 := fun i hi => ⟨(h.2.2.2.2.2.2.2.2.2.1 i hi).1.2.2.2.2.2.2.2.2, (h.2.2.2.2.2.2.2.2.2.1 i hi).2.2.2⟩
theorem Rel_M9 {P : PD} {n : Nat} {df : Nat → Nat × Nat × Nat} {d hp : Nat} {S : XSt} {T : MSt} (h : Rel P n df d hp S T) : ∀ i, i < n → mSt T i = nI (if P 9 i = 3 then 0 else P 9 i) ∧ mHe T i = nI (if P 9 i = 3 then 1 else 0) ∧ P 9 i ≤ 3 := fun i hi => ⟨(h.2.2.2.2.2.2.2.2.2.1 i hi).2.1.2.2.2.2.2.2.2.2.1, (h.2.2.2.2.2.2.2.2.2.1 i hi).2.1.2.2.2.2.2.2.2.2.2, (h.2.2.2.2.2.2.2.2.2.1 i hi).2.2.2⟩
theorem nI_inj {n i j : Nat} {p : Int32} (hn : n ≤ 40) (hi : i < n) (hj : j < n) (e1 : p = nI i) (e2 : p = nI j) : i = j := (nI_eq (by omega) (by omega)).mp (e1.symm.trans e2)
theorem op_scrap {P : PD} {n : Nat} {df : Nat → Nat × Nat × Nat} {d hp : Nat} {S : XSt} {T : MSt} {p : Int32} {o : Nat → Int64} {F : Int32 → LSt → Prop} {FIN : Int32 → Int32 → LSt → MSt → Prop} (h : Rel P n df d hp S T) (hF : ∀ r O, wp_M_scrap (fun b U => FIN r b O U) p T → F r O) (hA : ∀ r b O U, Agree r b.toInt64 O U → FIN r b O U) : wp_L_scrap F p (o, S) := by
  have hn := h.1
  have c1 := h.2.2.1
  have c2 := h.2.2.2.1
  have c5 := h.2.2.2.2.2.2.1
  have c6 := h.2.2.2.2.2.2.2.1
  have hrow := h.2.2.2.2.2.2.2.2.2.1
  refine xo_scrap (P := P) hn c1 (Rel_X9 h) (fun q => hF _ _ (mo_scrap (P := P) hn c2 (Rel_M9 h) (fun _ U hU => hA _ _ _ _ (Agree_th h hU (by decide))) (fun i hi e _ => absurd (by rw [e]; exact qz_nI hn hi) q) (fun i hi e _ => absurd (by rw [e]; exact qz_nI hn hi) q)))
    (fun i hi ei q => hF _ _ (mo_scrap (P := P) hn c2 (Rel_M9 h) (fun z => absurd (by rw [ei]; exact qz_nI hn hi) z) (fun _ _ _ _ U hU => hA _ _ _ _ (Agree_th h hU (by decide))) (fun j hj ej z => ?_)))
    (fun i hi ei q S1 S2 O e1 e2 o1 o2 => hF _ _ (mo_scrap (P := P) hn c2 (Rel_M9 h) (fun z => absurd (by rw [ei]; exact qz_nI hn hi) z) (fun j hj ej z => ?_) (fun j hj ej z U0 U1 U2 hU0 e3 e4 => hA _ _ _ _ ?_)))
  · have e := nI_inj hn hi hj ei ej
    subst e
    exact absurd z q
  · have e := nI_inj hn hi hj ei ej
    subst e
    exact absurd q z
  · have e := nI_inj hn hi hj ei ej
    subst e
    have hR := Rel_th h hU0
    have f1 := xESt e1
    have f2 := xEhp e2
    have f3 := mESt e3
    have f4 := mEhp e4
    have ec : p.toNatClampNeg = i := by rw [ei]; exact nI_clamp (by omega)
    have wX : xWe S i = nI (P 8 i) := (hrow i hi).1.2.2.2.2.2.2.2.1
    have wM : mWe T i = nI (P 8 i) := (hrow i hi).2.1.2.2.2.2.2.2.2.1
    have hl := hR.2.2.2.2.2.2.2.2.2.2.1
    refine ⟨?_, fun _ => by rw [o1, c5, c6, wX, wM], ?_⟩
    · simp only [f4, f3]
      exact mTh_th hU0
    · rw [o2]
      refine ⟨_, _, _, _, _, Rel_set (k := i) (x := 2) (hp2 := hp + P 8 i) hR (by omega) ?_ ?_ ?_ ?_ ?_⟩
      · simp only [f2, f1, and_self, true_and, and_true]
        rw [ec, c5, wX, nI_add]
        exact ⟨rfl, rfl⟩
      · simp only [f4, f3, and_self, true_and]
        rw [c6, wM, nI_add]
      · intro k hk
        simp only [f4, f3, and_true]
        rw [ec]
        exact pk_un hk
      · have t1 := (hR.2.2.2.2.2.2.2.2.2.1 i hi).2.1.2.2.2.2.2.2.2.2.2
        simp only [f4, f3]
        rw [ec, pk_us, t1, q]
        exact ⟨rfl, rfl⟩
      · have := lsum_off (P := P) (Q := pSet P i 2) (k := i) (Or.inl q) (by rw [pSet_9]; omega) (fun j hj => ⟨pSet_f (by decide), pSet_j hj⟩) n hi
        omega
/-! at -/
theorem tableAt (x : Int32) : (x < 0 ∨ 6 < x) ∨ x = 0 ∨ x = 1 ∨ x = 2 ∨ x = 3 ∨ x = 4 ∨ x = 5 ∨ x = 6 := by
  by_cases h : x < 0 ∨ 6 < x
  · exact Or.inl h
  · right
    have h1 : ¬ x < 0 := fun q => h (Or.inl q)
    have h2 : ¬ 6 < x := fun q => h (Or.inr q)
    rw [Int32.lt_iff_toInt_lt] at h1 h2
    have e0 : (0 : Int32).toInt = 0 := by decide
    have e6 : (6 : Int32).toInt = 6 := by decide
    rw [e0] at h1
    rw [e6] at h2
    obtain ⟨j, hj, e⟩ := nI_of (x := x) (by rw [Int32.lt_iff_toInt_lt, Int32.toInt_zero]; omega)
    rw [e, nI_toInt hj] at h1 h2
    have h7 : j = 0 ∨ j = 1 ∨ j = 2 ∨ j = 3 ∨ j = 4 ∨ j = 5 ∨ j = 6 := by omega
    rcases h7 with rfl | rfl | rfl | rfl | rfl | rfl | rfl <;> subst e <;> simp [nI]
/-- what at answers -/
def atV (P : PD) (i : Nat) (x : Int32) : Int32 :=
  if x = 0 then nI (P 8 i) else if x = 1 then nI (P 1 i) else if x = 2 then nI (if P 9 i = 3 then 0 else P 9 i) else if x = 3 then nI (if P 9 i = 3 then 1 else 0) else if x = 4 then (if P 0 i = 0 then (-1) else nI (P 2 i)) else if x = 5 then (if P 0 i = 3 then nI (P 3 i) else (-1)) else nI (P 7 i)
theorem xo_at {K : Int32 → LSt → Prop} {p x : Int32} {o : Nat → Int64} {S : XSt} {n : Nat} {P : PD} (hn : n ≤ 40) (hc : xpc S = nI n) (hs : ∀ i, i < n → XR P i S ∧ P 9 i ≤ 3) (h1 : ¬ (qz n p ∧ ¬ (x < 0 ∨ 6 < x)) → K 1 (o, S))
    (h3 : ∀ i, i < n → p = nI i → ¬ (x < 0 ∨ 6 < x) → ∀ O, O.1 0 = (atV P i x).toInt64 → O.2 = S → K 0 O) : wp_L_at K p x (o, S) := by
  unfold wp_L_at wp_X_at
  refine r_needPiece (fun hz => ?_) (fun hz => ⟨rfl, h1 (fun q => hz ((pz_qz hc).mpr q.1))⟩)
  obtain ⟨i, hi, rfl⟩ := qz_of hn ((pz_qz hc).mp hz)
  have hp := qz_in hn hi
  have ec : (nI i).toNatClampNeg = i := nI_clamp (by omega)
  obtain ⟨⟨r1, r2, r3, r4, r5, r6, r7, r8, r9⟩, hle⟩ := hs i hi
  have fin : ∀ v : Int32, ¬ (x < 0 ∨ 6 < x) → v = atV P i x → (vp_in 0 1 ∧ ∀ S4 : LSt, S4 = luO (o, S) 0 v.toInt64 → K 0 S4) := fun v q e => ⟨in01, fun O eO => by
    have g := out_put eO
    exact h3 i hi rfl q O (by rw [g.1, e]) g.2⟩
  rw [ec]
  rcases tableAt x with q | rfl | rfl | rfl | rfl | rfl | rfl | rfl
  · have ne : ∀ j : Nat, j ≤ 6 → ¬ x = nI j := fun j hj e => by
      rw [e, Int32.lt_iff_toInt_lt, Int32.lt_iff_toInt_lt, nI_toInt (by omega)] at q
      have e0 : (0 : Int32).toInt = 0 := by decide
      have e6 : (6 : Int32).toInt = 6 := by decide
      rw [e0, e6] at q
      omega
    exact ⟨fun e => absurd e (ne 0 (by omega)), fun _ => ⟨fun e => absurd e (ne 1 (by omega)), fun _ => ⟨fun e => absurd e (ne 2 (by omega)), fun _ => ⟨fun e => absurd e (ne 3 (by omega)), fun _ => ⟨fun e => absurd e (ne 4 (by omega)), fun _ => ⟨fun e => absurd e (ne 5 (by omega)), fun _ => ⟨fun e => absurd e (ne 6 (by omega)), fun _ => ⟨rfl, h1 (fun z => z.2 q)⟩⟩⟩⟩⟩⟩⟩⟩
  · exact ⟨fun _ => ⟨hp, fin _ (by decide) (by rw [r8]; rfl)⟩, fun e => absurd rfl e⟩
  · exact ⟨fun e => absurd e (by decide), fun _ => ⟨fun _ => ⟨hp, fin _ (by decide) (by rw [r2]; rfl)⟩, fun e => absurd rfl e⟩⟩
  · refine ⟨fun e => absurd e (by decide), fun _ => ⟨fun e => absurd e (by decide), fun _ => ⟨fun _ => ?_, fun e => absurd rfl e⟩⟩⟩
    refine r_isLive hp (fun a => ⟨fun e => absurd e (by decide), fun _ => fin _ (by decide) ?_⟩) (fun a => ⟨fun _ => ⟨hp, ?_⟩, fun e => absurd rfl e⟩)
    · rw [ec, r9, i0 hle, i3 hle] at a
      rcases a with a | a <;> (show (0 : Int32) = nI (if P 9 i = 3 then 0 else P 9 i)) <;> rw [a] <;> rfl
    · rw [ec, r9, i0 hle, i3 hle] at a
      refine fin _ (by decide) ?_
      rw [r9]
      show _ = nI (if P 9 i = 3 then 0 else P 9 i)
      rw [if_neg (fun z => a (Or.inr z))]
  · refine ⟨fun e => absurd e (by decide), fun _ => ⟨fun e => absurd e (by decide), fun _ => ⟨fun e => absurd e (by decide), fun _ => ⟨fun _ => ⟨hp, fun a => fin _ (by decide) ?_, fun a => fin _ (by decide) ?_⟩, fun e => absurd rfl e⟩⟩⟩⟩
    · rw [r9, i3 hle] at a
      show (1 : Int32) = nI (if P 9 i = 3 then 1 else 0)
      rw [if_pos a]; rfl
    · rw [r9, i3 hle] at a
      show (0 : Int32) = nI (if P 9 i = 3 then 1 else 0)
      rw [if_neg a]; rfl
  · exact ⟨fun e => absurd e (by decide), fun _ => ⟨fun e => absurd e (by decide), fun _ => ⟨fun e => absurd e (by decide), fun _ => ⟨fun e => absurd e (by decide), fun _ => ⟨fun _ => ⟨hp, fin _ (by decide) (by rw [r3]; rfl)⟩, fun e => absurd rfl e⟩⟩⟩⟩⟩
  · exact ⟨fun e => absurd e (by decide), fun _ => ⟨fun e => absurd e (by decide), fun _ => ⟨fun e => absurd e (by decide), fun _ => ⟨fun e => absurd e (by decide), fun _ => ⟨fun e => absurd e (by decide), fun _ => ⟨fun _ => ⟨hp, fin _ (by decide) (by rw [r4]; rfl)⟩, fun e => absurd rfl e⟩⟩⟩⟩⟩⟩
  · exact ⟨fun e => absurd e (by decide), fun _ => ⟨fun e => absurd e (by decide), fun _ => ⟨fun e => absurd e (by decide), fun _ => ⟨fun e => absurd e (by decide), fun _ => ⟨fun e => absurd e (by decide), fun _ => ⟨fun e => absurd e (by decide), fun _ => ⟨fun _ => ⟨hp, fin _ (by decide) (by rw [r7]; rfl)⟩, fun e => absurd rfl e⟩⟩⟩⟩⟩⟩⟩

