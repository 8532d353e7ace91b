/-! hold, scrap, at -/
theorem Rel_set {P : PD} {n : Nat} {df : Nat → Nat × Nat × Nat} {d hp hp2 k x : Nat} {S U : XSt} {T V : MSt} (h : Rel P n df d hp S T) (hx : x ≤ 3)
    (hS : xKi U = xKi S ∧ xWe U = xWe S ∧ xLe U = xLe S ∧ xSt U = upd (xSt S) k (nI x) ∧ xSo U = xSo S ∧ xSe U = xSe S ∧ xRo U = xRo S ∧ xSm U = xSm S ∧ xRU U = xRU S ∧ xRL U = xRL S ∧ xDM U = xDM S ∧ xDU U = xDU S ∧ xDL U = xDL S ∧ xpc U = xpc S ∧ xdc U = xdc S ∧ xml U = xml S ∧ xhp U = nI hp2)
    (hT : mKi V = mKi T ∧ mWe V = mWe T ∧ mLe V = mLe T ∧ mOf V = mOf T ∧ mOt V = mOt T ∧ mCu V = mCu T ∧ mOv V = mOv T ∧ mUn V = mUn T ∧ mRo V = mRo T ∧ mDM V = mDM T ∧ mDU V = mDU T ∧ mDL V = mDL T ∧ mpc V = mpc T ∧ mdc V = mdc T ∧ mml V = mml T ∧ mhp V = nI hp2)
    (hm : ∀ j, j ≠ k → mSt V j = mSt T j ∧ mHe V j = mHe T j) (hk : mSt V k = nI (if x = 3 then 0 else x) ∧ mHe V k = nI (if x = 3 then 1 else 0)) (hls : lsum (pSet P k x) n + hp2 ≤ 1000000 * n) : Rel (pSet P k x) n df d hp2 U V := by
  obtain ⟨hn, hd, c1, c2, c3, c4, c5, c6, c7, hrow, -, hdf⟩ := h
  obtain ⟨x1, x2, x3, x4, x5, x6, x7, x8, x9, x10, x11, x12, x13, x14, x15, x16, x17⟩ := hS
  obtain ⟨y1, y2, y3, y4, y5, y6, y7, y8, y9, y10, y11, y12, y13, y14, y15, y16⟩ := hT
  refine ⟨hn, hd, by rw [x14, c1], by rw [y13, c2], by rw [x15, c3], by rw [y14, c4], x17, y16, by rw [x16, y15, c7], fun j hj => ?_, hls, fun j hj => ?_⟩
  · obtain ⟨r1, r2, r3, r4⟩ := hrow j hj
    have e : ∀ f, f ≠ 9 → pSet P k x f j = P f j := fun f hf => pSet_f hf
    have e0 := e 0 (by decide)
    have e1 := e 1 (by decide)
    have e2 := e 2 (by decide)
    have e3 := e 3 (by decide)
    have e4 := e 4 (by decide)
    have e5 := e 5 (by decide)
    have e6 := e 6 (by decide)
    have e7 := e 7 (by decide)
    have e8 := e 8 (by decide)
    refine ⟨?_, ?_, PI_set r3, ?_⟩
    · obtain ⟨q1, q2, q3, q4, q5, q6, q7, q8, q9⟩ := r1
      unfold XR
      rw [e0, e1, e2, e3, e4, e5, e6, e7, e8, x1, x2, x3, x5, x6, x7, x8, x9, x10, x4]
      refine ⟨q1, q2, q3, q4, q5, q6, q7, q8, ?_⟩
      by_cases hjk : j = k
      · subst hjk
        rw [pk_us, pSet_9]
      · rw [pk_un hjk, pSet_j hjk, q9]
    · obtain ⟨q1, q2, q3, q4, q5, q6, q7, q8, q9, q10⟩ := r2
      unfold MR
      rw [e0, e1, e2, e3, e4, e5, e6, e7, e8, y1, y2, y3, y4, y5, y6, y7, y8, y9]
      refine ⟨q1, q2, q3, q4, q5, q6, q7, q8, ?_, ?_⟩
      · by_cases hjk : j = k
        · subst hjk
          rw [pSet_9, hk.1]
        · rw [pSet_j hjk, (hm j hjk).1, q9]
      · by_cases hjk : j = k
        · subst hjk
          rw [pSet_9, hk.2]
        · rw [pSet_j hjk, (hm j hjk).2, q10]
    · by_cases hjk : j = k
      · subst hjk
        rw [pSet_9]; exact hx
      · rw [pSet_j hjk]; exact r4
  · obtain ⟨r1, r2, r3, r4, r5, r6, r7⟩ := hdf j hj
    exact ⟨by rw [x11, r1], by rw [y10, r2], by rw [x12, r3], by rw [y11, r4], by rw [x13, r5], by rw [y12, r6], DR_set r7⟩
theorem lsum_live {P Q : PD} : ∀ n : Nat, (∀ j, j < n → Q 8 j = P 8 j ∧ ((Q 9 j = 0 ∨ Q 9 j = 3) ↔ (P 9 j = 0 ∨ P 9 j = 3))) → lsum Q n = lsum P n
  | 0, _ => rfl
  | n + 1, h => by
    have h1 := h n (by omega)
    rw [lsum, lsum, lsum_live n (fun j hj => h j (by omega)), h1.1]
    by_cases q : P 9 n = 0 ∨ P 9 n = 3
    · rw [if_pos q, if_pos (h1.2.mpr q)]
    · rw [if_neg q, if_neg (fun z => q (h1.2.mp z))]
theorem pz_qz {S : XSt} {n : Nat} {p : Int32} (hc : xpc S = nI n) : pz S p ↔ qz n p := by
  show (¬ p < 0 ∧ ¬ xpc S ≤ p) ↔ _
  rw [hc]
theorem i0 {x : Nat} (h : x ≤ 3) : nI x = 0 ↔ x = 0 := nI_eq (a := x) (b := 0) (by omega) (by decide)
theorem i3 {x : Nat} (h : x ≤ 3) : nI x = 3 ↔ x = 3 := nI_eq (a := x) (b := 3) (by omega) (by decide)
/-- the reference sees a piece at hand just where its state is 0 -/
theorem atHand {s : Nat} (h : s ≤ 3) : (nI (if s = 3 then 0 else s) = 0 ∧ nI (if s = 3 then 1 else 0) = 0) ↔ s = 0 := by
  by_cases h3 : s = 3
  · subst h3
    decide
  · rw [if_neg h3, if_neg h3, i0 h]
    exact ⟨fun q => q.1, fun q => ⟨q, rfl⟩⟩
/-! hold -/
theorem xo_hold {K : Int32 → LSt → Prop} {p on : Int32} {o : Nat → Int64} {S : XSt} {n : Nat} {P : PD} (hn : n ≤ 40) (hc : xpc S = nI n) (hs : ∀ i, i < n → xSt S i = nI (P 9 i) ∧ P 9 i ≤ 3) (h1 : ¬ qz n p → K 1 (o, S)) (h2 : ∀ i, i < n → p = nI i → ¬ P 9 i = (if on = 0 then 3 else 0) → K 2 (o, S))
    (h3 : ∀ i, i < n → p = nI i → P 9 i = (if on = 0 then 3 else 0) → ∀ S1, S1 = xuSt S p (if on = 0 then 0 else 3) → K 0 (o, S1)) : wp_L_hold K p on (o, S) := by
  unfold wp_L_hold wp_X_hold
  refine r_needPiece (fun hz => ?_) (fun hz => Or.inl ⟨rfl, h1 (fun q => hz ((pz_qz hc).mpr q))⟩)
  obtain ⟨i, hi, rfl⟩ := qz_of hn ((pz_qz hc).mp hz)
  have hp := qz_in hn hi
  have ec : (nI i).toNatClampNeg = i := nI_clamp (by omega)
  obtain ⟨e, hle⟩ := hs i hi
  rw [ec, e]
  refine ⟨hp, fun q => ⟨fun z => ⟨hp, fun S6 e6 => ?_⟩, fun z => Or.inr ⟨rfl, h2 i hi rfl (fun y => z ?_)⟩⟩, fun q => ⟨fun z => ⟨hp, fun S6 e6 => ?_⟩, fun z => Or.inr ⟨rfl, h2 i hi rfl (fun y => z ?_)⟩⟩⟩
  · exact h3 i hi rfl (by rw [if_pos q]; exact (i3 hle).mp z) S6 (by rw [if_pos q]; exact e6)
  · rw [if_pos q] at y; exact (i3 hle).mpr y
  · exact h3 i hi rfl (by rw [if_neg q]; exact (i0 hle).mp z) S6 (by rw [if_neg q]; exact e6)
  · rw [if_neg q] at y; exact (i0 hle).mpr y
theorem mo_hold {K : MSt → Prop} {p on : Int32} {T : MSt} {n : Nat} {P : PD} (hn : n ≤ 40) (hc : mpc T = nI n) (hon : on = 0 ∨ on = 1) (hs : ∀ i, i < n → mSt T i = nI (if P 9 i = 3 then 0 else P 9 i) ∧ mHe T i = nI (if P 9 i = 3 then 1 else 0) ∧ P 9 i ≤ 3) (h1 : ¬ qz n p → ∀ U, mTh T U 1 → K U) (h2 : ∀ i, i < n → p = nI i → ¬ P 9 i = (if on = 0 then 3 else 0) → ∀ U, mTh T U 2 → K U)
    (h3 : ∀ i, i < n → p = nI i → P 9 i = (if on = 0 then 3 else 0) → ∀ U0 U1, mTh T U0 0 → U1 = muHe U0 p on → K U1) : wp_M_hold K p on T := by
  refine r_MisPiece hn hc (fun hz => ⟨fun e => absurd e (by decide), fun _ => ?_⟩) (fun hz => ⟨fun _ => ⟨fun e => absurd e (by decide), fun _ => r_thr (thc1 _ _ _) (by decide) (fun U hU => ⟨fun e => absurd e (by decide), fun _ => h1 hz U hU⟩)⟩, fun e => absurd rfl e⟩)
  obtain ⟨i, hi, rfl⟩ := qz_of hn hz
  have hp := qz_in hn hi
  have ec : (nI i).toNatClampNeg = i := nI_clamp (by omega)
  obtain ⟨e1, e2, hle⟩ := hs i hi
  have bad : ¬ P 9 i = (if on = 0 then 3 else 0) → wpJ_M_hold_55 K (nI i) on T 0 := fun q => r_thr (thc2 _ _) (by decide) (fun U hU => ⟨fun e => absurd e (by decide), fun _ => h2 i hi rfl q U hU⟩)
  have good : P 9 i = (if on = 0 then 3 else 0) → wpJ_M_hold_59 K (nI i) on T 0 := fun q => r_thr0 (fun U0 hU0 => ⟨fun _ => ⟨hp, fun U1 e5 => h3 i hi rfl q U0 U1 hU0 e5⟩, fun e => absurd rfl e⟩)
  refine ⟨fun _ => ⟨hp, ?_⟩, fun e => absurd rfl e⟩
  rw [ec, e1]
  refine ⟨fun q => ⟨fun _ => ⟨hp, ?_⟩, fun e => absurd rfl e⟩, fun q => bad (fun z => ?_)⟩
  · rw [ec, e2]
    have hs3 : P 9 i = 0 ∨ P 9 i = 3 := by
      by_cases h3 : P 9 i = 3
      · exact Or.inr h3
      · rw [if_neg h3] at q
        exact Or.inl ((i0 hle).mp q)
    rcases hs3 with s | s <;> rcases hon with rfl | rfl <;> rw [s] <;> refine ⟨fun z => ?_, fun z => ?_⟩
    · exact bad (by rw [s]; decide)
    · exact absurd (by decide) z
    · exact absurd z (by decide)
    · exact good (by rw [s]; decide)
    · exact absurd z (by decide)
    · exact good (by rw [s]; decide)
    · exact bad (by rw [s]; decide)
    · exact absurd (by decide) z
  · rw [z] at q
    rcases hon with rfl | rfl <;> exact q (by decide)
theorem op_hold {P : PD} {n : Nat} {df : Nat → Nat × Nat × Nat} {d hp : Nat} {S : XSt} {T : MSt} {p on : Int32} {o : Nat → Int64} {F : Int32 → LSt → Prop} {FIN : Int32 → LSt → MSt → Prop} (h : Rel P n df d hp S T) (hon : on = 0 ∨ on = 1) (hF : ∀ r O, wp_M_hold (fun U => FIN r O U) p on T → F r O) (hA : ∀ r O U, mth U = r → (∃ P n df d hp, Rel P n df d hp O.2 U) → FIN r O U) : wp_L_hold F p on (o, S) := by
  have hn := h.1
  have c1 := h.2.2.1
  have c2 := h.2.2.2.1
  have hrow := h.2.2.2.2.2.2.2.2.2.1
  have hsX : ∀ i, i < n → xSt S i = nI (P 9 i) ∧ P 9 i ≤ 3 := fun i hi => ⟨(hrow i hi).1.2.2.2.2.2.2.2.2, (hrow i hi).2.2.2⟩
  have hsM : ∀ i, i < n → mSt T i = nI (if P 9 i = 3 then 0 else P 9 i) ∧ mHe T i = nI (if P 9 i = 3 then 1 else 0) ∧ P 9 i ≤ 3 := fun i hi => ⟨(hrow i hi).2.1.2.2.2.2.2.2.2.2.1, (hrow i hi).2.1.2.2.2.2.2.2.2.2.2, (hrow i hi).2.2.2⟩
  have inj : ∀ {i j : Nat}, i < n → j < n → p = nI i → p = nI j → i = j := fun hi hj e1 e2 => (nI_eq (by omega) (by omega)).mp (e1.symm.trans e2)
  refine xo_hold (P := P) hn c1 hsX (fun q => hF _ _ (mo_hold (P := P) hn c2 hon hsM (fun _ U hU => hA _ _ _ (mTh_th hU) ⟨_, _, _, _, _, Rel_th h hU⟩) (fun i hi e _ => absurd (by rw [e]; exact qz_nI hn hi) q) (fun i hi e _ => absurd (by rw [e]; exact qz_nI hn hi) q)))
    (fun i hi ei q => hF _ _ (mo_hold (P := P) hn c2 hon hsM (fun z => absurd (by rw [ei]; exact qz_nI hn hi) z) (fun _ _ _ _ U hU => hA _ _ _ (mTh_th hU) ⟨_, _, _, _, _, Rel_th h hU⟩) (fun j hj ej z => ?_)))
    (fun i hi ei q S1 e1 => hF _ _ (mo_hold (P := P) hn c2 hon hsM (fun z => absurd (by rw [ei]; exact qz_nI hn hi) z) (fun j hj ej z => ?_) (fun j hj ej z U0 U1 hU0 e2 => hA _ _ _ ?_ ?_)))
  · have e := inj hi hj ei ej
    subst e
    exact absurd z q
  · have e := inj hi hj ei ej
    subst e
    exact absurd q z
  · have f2 := mEHe e2
    simp only [f2]
    exact mTh_th hU0
  · have e := inj hi hj ei ej
    subst e
    have hR := Rel_th h hU0
    have f1 := xESt e1
    have f2 := mEHe e2
    have ec : p.toNatClampNeg = i := by rw [ei]; exact nI_clamp (by omega)
    have hRrow := hR.2.2.2.2.2.2.2.2.2.1 i hi
    refine ⟨_, _, _, _, _, Rel_set (k := i) (x := if on = 0 then 0 else 3) (hp2 := hp) hR (by split <;> omega) ?_ ?_ ?_ ?_ ?_⟩
    · simp only [f1, and_self, true_and, and_true]
      rw [ec]
      refine ⟨?_, hR.2.2.2.2.2.2.1⟩
      rcases hon with rfl | rfl <;> rfl
    · simp only [f2, and_self, true_and]
      exact hR.2.2.2.2.2.2.2.1
    · intro k hk
      simp only [f2, true_and]
      rw [ec]
      exact pk_un hk
    · have t1 := hRrow.2.1.2.2.2.2.2.2.2.2.1
      simp only [f2]
      rw [ec, pk_us, t1, q]
      rcases hon with rfl | rfl <;> exact ⟨rfl, rfl⟩
    · have hl := hR.2.2.2.2.2.2.2.2.2.2.1
      rw [lsum_live (P := P) n (fun k hk => ⟨pSet_f (by decide), ?_⟩)]
      · exact hl
      · by_cases hki : k = i
        · subst hki
          rw [pSet_9, q]
          rcases hon with rfl | rfl <;> decide
        · rw [pSet_j hki]

