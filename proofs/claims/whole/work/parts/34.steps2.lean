/-! back, hold, scrap, at -/
theorem mTh_th {S T : MSt} {k : Int32} (h : mTh S T k) : mth T = k := h.2.2.2.2.2.2.2.2.2.2.2.2.2.2.2.2.1
theorem mTh_pc {S T : MSt} {k : Int32} (h : mTh S T k) : mpc T = mpc S := h.2.2.2.2.2.2.2.2.2.2.2.2.2.2.2.2.2.1
theorem mTh_hp {S T : MSt} {k : Int32} (h : mTh S T k) : mhp T = mhp S := h.2.2.2.2.2.2.2.2.2.2.2.2.2.2.2.2.2.2.1
theorem mAdd_th {S T : MSt} {k f w l : Int32} (h : mAdd S T k f w l) : mth T = mth S := h.2.2.2.2.2.2.2.2.2.2.2.2.2.2.2.2.1
theorem Rel_hp {P : PD} {n : Nat} {df : Nat → Nat × Nat × Nat} {d hp : Nat} {S : XSt} {T : MSt} (h : Rel P n df d hp S T) : hp ≤ 40000000 := by
  have h1 := h.1
  have h2 := h.2.2.2.2.2.2.2.2.2.2.1
  omega
def okPct (x : Int32) : Prop := ¬ x < 1 ∧ ¬ 100 < x
theorem okPct_nI {x : Int32} (h : okPct x) : ∃ j : Nat, 1 ≤ j ∧ j ≤ 100 ∧ x = nI j := by
  have h1 := h.1
  have h2 := h.2
  rw [Int32.lt_iff_toInt_lt] at h1 h2
  have e1 : (1 : Int32).toInt = 1 := by decide
  have e2 : (100 : Int32).toInt = 100 := by decide
  rw [e1] at h1
  rw [e2] at h2
  obtain ⟨j, hj, e⟩ := nI_of (x := x) (by rw [Int32.lt_iff_toInt_lt, Int32.toInt_zero]; omega)
  rw [e, nI_toInt hj] at h1 h2
  exact ⟨j, by omega, by omega, e⟩
theorem share_nI {hp p : Nat} (h1 : hp ≤ 40000000) (h2 : p ≤ 100) : (((nI hp).toInt64 * (nI p).toInt64) / 100).toInt32 = nI (hp * p / 100) := by
  rw [nI_l (by omega), nI_l (by omega), lN_mul]
  have hb : hp * p ≤ 40000000 * 100 := Nat.mul_le_mul h1 h2
  rw [show (100 : Int64) = lN 100 from rfl, pk_lDiv (by omega) (by decide) (by decide), lN_i]
theorem share_lt {s : Nat} (h : s ≤ 40000000) : nI s < 1 ↔ s = 0 := by
  rw [show (1 : Int32) = nI 1 from rfl, nI_ltI (by omega) (by decide)]
  omega
theorem share_le {hp p : Nat} (h1 : hp ≤ 40000000) (h2 : p ≤ 100) : hp * p / 100 ≤ hp := by
  have := Nat.mul_le_mul_left hp h2
  omega
theorem xo_back {K : Int32 → LSt → Prop} {p l : Int32} {o : Nat → Int64} {S : XSt} {n hp : Nat} (hn : n ≤ 40) (hc : xpc S = nI n) (hh : xhp S = nI hp) (hb : hp ≤ 40000000) (h1 : ¬ (okPct p ∧ okMil l) → K 1 (o, S)) (h2 : ∀ j, j ≤ 100 → okPct p → p = nI j → okMil l → (n = 40 ∨ hp * j / 100 = 0) → K 2 (o, S))
    (h3 : ∀ j, j ≤ 100 → okPct p → p = nI j → okMil l → n < 40 → ¬ hp * j / 100 = 0 → ∀ S1 S2 O, S1 = xshp S (xhp S - nI (hp * j / 100)) → xAdd S1 S2 0 (-1) (nI (hp * j / 100)) l → O.1 0 = (nI n).toInt64 → O.2 = S2 → K 0 O) : wp_L_back K p l (o, S) := by
  unfold wp_L_back wp_X_back
  refine r_needWithin (fun a b => r_needWithin (fun a2 b2 => ?_) (fun a2 => Or.inl ⟨rfl, h1 (fun q => ?_)⟩)) (fun a => Or.inl ⟨rfl, h1 (fun q => ?_)⟩)
  · have op : okPct p := ⟨a, (le_nlt _ _).mp b⟩
    have ol : okMil l := ⟨a2, (le_nlt _ _).mp b2⟩
    obtain ⟨j, hj1, hj2, ej⟩ := okPct_nI op
    have hs := share_le hb hj2
    refine r_needRoom (fun a3 v ev => ?_) (fun a3 => Or.inr ⟨rfl, h2 j hj2 op ej ol (Or.inl ?_)⟩)
    · have hn2 : n < 40 := by
        have h9 : nI n + nI 1 ≤ 40 := by rw [← hc]; exact a3
        have := (i40 hn 1 (by omega)).mp h9
        omega
      rw [hh, ej, share_nI hb hj2] at ev
      subst ev
      refine ⟨fun a4 S6 e6 => ?_, fun a4 => Or.inr ⟨rfl, h2 j hj2 op ej ol (Or.inr ?_)⟩⟩
      · have hz : ¬ hp * j / 100 = 0 := fun q => (le_nlt _ _).mp a4 ((share_lt (by omega)).mpr q)
        have f6 := xEhp e6
        have p6 : xpc S6 = nI n := by simp only [f6, hc]
        refine r_addPiece (by rw [p6]; exact M40 hn2) (fun q => absurd rfl q) (fun S7 h7 => ⟨in01, fun O e => ?_⟩)
        have g := out_put e
        exact h3 j hj2 op ej ol hn2 hz S6 S7 O e6 h7 (by rw [g.1, p6]) g.2
      · exact (share_lt (by omega)).mp (Classical.byContradiction fun q => a4 ((le_nlt _ _).mpr q))
    · have h9 : ¬ nI n + nI 1 ≤ 40 := by rw [← hc]; exact a3
      have h10 : ¬ n + 1 ≤ 40 := fun q => h9 ((i40 hn 1 (by omega)).mpr q)
      omega
  · exact a2.elim q.2.1 (fun z => z ((le_nlt _ _).mpr q.2.2))
  · exact a.elim q.1.1 (fun z => z ((le_nlt _ _).mpr q.1.2))
theorem mo_back {K : Int32 → MSt → Prop} {p l : Int32} {T : MSt} {n hp : Nat} (hn : n ≤ 40) (hc : mpc T = nI n) (hh : mhp T = nI hp) (hb : hp ≤ 40000000) (h1 : ¬ (okPct p ∧ okMil l) → ∀ U, mTh T U 1 → K 0 U) (h2 : ∀ j, j ≤ 100 → okPct p → p = nI j → okMil l → (n = 40 ∨ hp * j / 100 = 0) → ∀ U, mTh T U 2 → K 0 U)
    (h3 : ∀ j, j ≤ 100 → okPct p → p = nI j → okMil l → n < 40 → ¬ hp * j / 100 = 0 → ∀ U0 U1 U2, mTh T U0 0 → U1 = mshp U0 (mhp U0 - nI (hp * j / 100)) → mAdd U1 U2 0 (-1) (nI (hp * j / 100)) l → K (nI n) U2) : wp_M_back K p l T := by
  have thr1 : ¬ (okPct p ∧ okMil l) → ∀ (u t : Int32), wpJ_M_back_71 K p l T u t 1 := fun q u t => r_thr (thc1 _ _ _) (by decide) (fun U hU => ⟨fun e => absurd e (by decide), fun _ => h1 q U hU⟩)
  have bad : ¬ (okPct p ∧ okMil l) → wpJ_M_back_20 K p l T := fun q =>
    ⟨fun e => absurd e (by decide), fun _ => ⟨fun _ => thr1 q _ _, fun _ => ⟨fun _ => thr1 q _ _, fun _ => thr1 q _ _⟩⟩⟩
  refine r_in (fun a b => ⟨fun e => absurd e (by decide), fun _ => r_in (fun a2 b2 => ⟨fun e => absurd e (by decide), fun _ => ?_⟩) (fun a2 => ⟨fun _ => bad (fun q => a2.elim q.2.1 q.2.2), fun e => absurd rfl e⟩)⟩) (fun a => ⟨fun _ => bad (fun q => a.elim q.1.1 q.1.2), fun e => absurd rfl e⟩)
  have op : okPct p := ⟨a, b⟩
  have ol : okMil l := ⟨a2, b2⟩
  obtain ⟨j, hj1, hj2, ej⟩ := okPct_nI op
  have hs := share_le hb hj2
  refine ⟨fun _ => ?_, fun e => absurd rfl e⟩
  rw [hh]
  have es : (((nI hp).toInt64 * p.toInt64) / 100).toInt32 = nI (hp * j / 100) := by rw [ej]; exact share_nI hb hj2
  rw [es]
  have thr2 : (n = 40 ∨ hp * j / 100 = 0) → ∀ u : Int32, wpJ_M_back_71 K p l T u 1 0 := fun q u => r_thr (thc2 _ _) (by decide) (fun U hU => ⟨fun e => absurd e (by decide), fun _ => h2 j hj2 op ej ol q U hU⟩)
  refine ⟨fun q => thr2 (Or.inr ((share_lt (by omega)).mp q)) _, fun q => ⟨fun q2 => thr2 (Or.inl ((e40 hn).mp (by rw [← hc]; exact q2))) _, fun q2 => r_thr0 (fun U0 hU0 => ⟨fun _ U1 e1 => ?_, fun e => absurd rfl e⟩)⟩⟩
  have hn2 : n < 40 := by
    have h9 : ¬ n = 40 := fun z => q2 (by rw [hc]; exact (e40 hn).mpr z)
    omega
  have hz : ¬ hp * j / 100 = 0 := fun z => q ((share_lt (by omega)).mpr z)
  have f1 := mEhp e1
  have p1 : mpc U1 = nI n := by simp only [f1]; rw [mTh_pc hU0, hc]
  refine r_add (by rw [p1]; exact M40 hn2) (fun q => absurd (by decide) q) (fun U2 h5 => ?_)
  rw [p1]
  exact h3 j hj2 op ej ol hn2 hz U0 U1 U2 hU0 e1 h5
theorem op_back {P : PD} {n : Nat} {df : Nat → Nat × Nat × Nat} {d hp : Nat} {S : XSt} {T : MSt} {w l : Int32} {o : Nat → Int64} {F : Int32 → LSt → Prop} {FIN : Int32 → Int32 → LSt → MSt → Prop} (h : Rel P n df d hp S T) (hF : ∀ r O, wp_M_back (fun b U => FIN r b O U) w l T → F r O) (hA : ∀ r b O U, Agree r b.toInt64 O U → FIN r b O U) : wp_L_back F w l (o, S) := by
  have hn := h.1
  have c1 := h.2.2.1
  have c2 := h.2.2.2.1
  have c5 := h.2.2.2.2.2.2.1
  have c6 := h.2.2.2.2.2.2.2.1
  have hb := Rel_hp h
  have inj : ∀ {i j : Nat}, i ≤ 100 → j ≤ 100 → w = nI i → w = nI j → i = j := fun hi hj e1 e2 => (nI_eq (by omega) (by omega)).mp (e1.symm.trans e2)
  refine xo_back hn c1 c5 hb (fun q => hF _ _ (mo_back hn c2 c6 hb (fun _ U hU => hA _ _ _ _ (Agree_th h hU (by decide))) (fun _ _ z1 _ z2 => absurd ⟨z1, z2⟩ q) (fun _ _ z1 _ z2 => absurd ⟨z1, z2⟩ q)))
    (fun j hj q1 ej q2 q3 => hF _ _ (mo_back hn c2 c6 hb (fun z => absurd ⟨q1, q2⟩ z) (fun _ _ _ _ _ _ U hU => hA _ _ _ _ (Agree_th h hU (by decide))) (fun j2 hj2 _ ej2 _ z1 z2 => ?_)))
    (fun j hj q1 ej q2 q3 q4 S1 S2 O e1 hX o1 o2 => hF _ _ (mo_back hn c2 c6 hb (fun z => absurd ⟨q1, q2⟩ z) (fun j2 hj2 _ ej2 _ z => ?_) (fun j2 hj2 _ ej2 _ _ _ U0 U1 U2 hU0 e2 hM => hA _ _ _ _ ?_)))
  · have e := inj hj hj2 ej ej2
    subst e
    exact absurd q3 (by omega)
  · have e := inj hj hj2 ej ej2
    subst e
    exact absurd z (by omega)
  · have e := inj hj hj2 ej ej2
    subst e
    obtain ⟨l', hl1, hl2, rfl⟩ := okMil_nI q2
    have f1 := xEhp e1
    have f2 := mEhp e2
    have hs := share_le hb hj
    have hsub : nI hp - nI (hp * j / 100) = nI (hp - hp * j / 100) := pk_sub hs
    refine ⟨?_, fun _ => o1, ?_⟩
    · rw [mAdd_th hM]
      simp only [f2]
      exact mTh_th hU0
    · rw [o2]
      have hR := Rel_th h hU0
      refine Rel_melt (hp2 := hp - hp * j / 100) hR q3 (by omega) ⟨hl1, hl2⟩ ?_ ?_ ?_ hX hM
      · simp only [f1, and_self, true_and]
        rw [c5, hsub]
      · simp only [f2, and_self, true_and]
        rw [hR.2.2.2.2.2.2.2.1, hsub]
      · simp only [f1, f2]
        rw [hR.2.2.2.2.2.2.2.2.1]

