/-! STEPS: each call, both side by side -/
theorem thc1 (b c d : Int32) : thc 1 b c d = 1 := by rw [thc, if_neg (by decide)]
theorem thc2 (c d : Int32) : thc 0 1 c d = 2 := by rw [thc, if_pos rfl, if_neg (by decide)]
theorem thc3 (d : Int32) : thc 0 0 1 d = 3 := by rw [thc, if_pos rfl, if_pos rfl, if_neg (by decide)]
theorem thc4 : thc 0 0 0 1 = 4 := by rw [thc, if_pos rfl, if_pos rfl, if_pos rfl, if_neg (by decide)]
theorem thc0 : thc 0 0 0 0 = 0 := by rw [thc, if_pos rfl, if_pos rfl, if_pos rfl, if_pos rfl]
/-- throwing(..) with a known code that isn't 0 -/
theorem r_thr {post : Int32 → MSt → Prop} {p0 p1 p2 p3 k : Int32} {S : MSt} (e : thc p0 p1 p2 p3 = k) (hk : ¬ k = 0) (h : ∀ T, mTh S T k → post 1 T) : wp_M_throwing post p0 p1 p2 p3 S :=
  r_throwing (fun q => absurd (by rw [← e]; exact q) hk) (fun _ T hT => h T (by rw [e] at hT; exact hT))
theorem r_thr0 {post : Int32 → MSt → Prop} {S : MSt} (h : ∀ T, mTh S T 0 → post 0 T) : wp_M_throwing post 0 0 0 0 S :=
  r_throwing (fun _ T hT => h T hT) (fun q => absurd thc0 q)
/-- where nothing but the code has changed, the relation stands -/
theorem Rel_th {P : PD} {n : Nat} {df : Nat → Nat × Nat × Nat} {d hp : Nat} {S : XSt} {T U : MSt} {k : Int32} (h : Rel P n df d hp S T) (hT : mTh T U k) : Rel P n df d hp S U := by
  obtain ⟨b1, b2, b3, b4, b5, b6, b7, b8, b9, b10, b11, b12, b13, b14, b15, b16, b17, b18, b19, b20, b21, b22, b23, b24⟩ := hT
  unfold Rel MR at *
  rw [b1, b2, b3, b4, b5, b6, b7, b8, b9, b10, b11, b12, b13, b14, b18, b19, b20, b21]
  exact h
theorem Agree_th {P : PD} {n : Nat} {df : Nat → Nat × Nat × Nat} {d hp : Nat} {S : XSt} {T U : MSt} {k : Int32} {b : Int64} {o : Nat → Int64} (h : Rel P n df d hp S T) (hT : mTh T U k) (hk : ¬ k = 0) : Agree k b (o, S) U := by
  refine ⟨hT.2.2.2.2.2.2.2.2.2.2.2.2.2.2.2.2.1, fun q => absurd q hk, P, n, df, d, hp, Rel_th h hT⟩
theorem i40 {n : Nat} (hn : n ≤ 40) (k : Nat) (hk : k ≤ 4) : nI n + nI k ≤ 40 ↔ n + k ≤ 40 := by
  rw [nI_add]
  exact nI_leI (a := n + k) (b := 40) (by omega) (by decide)
theorem e40 {n : Nat} (hn : n ≤ 40) : nI n = 40 ↔ n = 40 := nI_eq (a := n) (b := 40) (by omega) (by decide)
theorem M40 {n : Nat} (hn : n < 40) : vp_in (nI n) 40 := vp_in_nI hn (by decide)
theorem in01 : vp_in 0 1 := fun h => absurd h (by decide)
/-- 1 .. 1000000 -/
def okMil (x : Int32) : Prop := ¬ x < 1 ∧ ¬ 1000000 < x
theorem okMil_nI {x : Int32} (h : okMil x) : ∃ j : Nat, 1 ≤ j ∧ j ≤ 1000000 ∧ x = nI j := by
  have h1 := h.1
  have h2 := h.2
  rw [Int32.lt_iff_toInt_lt] at h1 h2
  have e1 : (1 : Int32).toInt = 1 := by decide
  have e2 : (1000000 : Int32).toInt = 1000000 := by decide
  rw [e1] at h1
  rw [e2] at h2
  obtain ⟨j, hj, e⟩ := nI_of (x := x) (by rw [Int32.lt_iff_toInt_lt, Int32.toInt_zero]; omega)
  rw [e, nI_toInt hj] at h1 h2
  exact ⟨j, by omega, by omega, e⟩
theorem le_nlt (x y : Int32) : x ≤ y ↔ ¬ y < x := by rw [Int32.le_iff_toInt_le, Int32.lt_iff_toInt_lt]; omega
/-! melt -/
theorem xo_melt {K : Int32 → LSt → Prop} {w l : Int32} {o : Nat → Int64} {S : XSt} {n : Nat} (hn : n ≤ 40) (hc : xpc S = nI n) (h1 : ¬ (okMil w ∧ okMil l) → K 1 (o, S)) (h2 : okMil w → okMil l → n = 40 → K 2 (o, S))
    (h3 : okMil w → okMil l → n < 40 → ∀ S1 S2 O, S1 = xsml S (xml S + w.toInt64) → xAdd S1 S2 0 (-1) w l → O.1 0 = (nI n).toInt64 → O.2 = S2 → K 0 O) : wp_L_melt K w l (o, S) := by
  unfold wp_L_melt wp_X_melt
  refine r_needWithin (fun a b => r_needWithin (fun a2 b2 => r_needRoom (fun a3 S4 e4 => ?_) (fun a3 => Or.inr ⟨rfl, ?_⟩)) (fun a2 => Or.inl ⟨rfl, h1 (fun q => ?_)⟩)) (fun a => Or.inl ⟨rfl, h1 (fun q => ?_)⟩)
  · have ow : okMil w := ⟨a, (le_nlt _ _).mp b⟩
    have ol : okMil l := ⟨a2, (le_nlt _ _).mp b2⟩
    have hn2 : n < 40 := by
      have h9 : nI n + nI 1 ≤ 40 := by rw [← hc]; exact a3
      have := (i40 hn 1 (by omega)).mp h9
      omega
    have f4 := xEml e4
    have p4 : xpc S4 = nI n := by simp only [f4, hc]
    refine r_addPiece (by rw [p4]; exact M40 hn2) (fun q => absurd rfl q) (fun S5 h5 => ⟨in01, fun O e => ?_⟩)
    have g := out_put e
    exact h3 ow ol hn2 S4 S5 O e4 h5 (by rw [g.1, p4]) g.2
  · refine h2 ⟨a, (le_nlt _ _).mp b⟩ ⟨a2, (le_nlt _ _).mp b2⟩ ?_
    have h9 : ¬ nI n + nI 1 ≤ 40 := by rw [← hc]; exact a3
    have h10 : ¬ n + 1 ≤ 40 := fun q => h9 ((i40 hn 1 (by omega)).mpr q)
    omega
  · exact a2.elim q.2.1 (fun z => z ((le_nlt _ _).mpr q.2.2))
  · exact a.elim q.1.1 (fun z => z ((le_nlt _ _).mpr q.1.2))
theorem mo_melt {K : Int32 → MSt → Prop} {w l : Int32} {T : MSt} {n : Nat} (hn : n ≤ 40) (hc : mpc T = nI n) (h1 : ¬ (okMil w ∧ okMil l) → ∀ U, mTh T U 1 → K 0 U) (h2 : okMil w → okMil l → n = 40 → ∀ U, mTh T U 2 → K 0 U)
    (h3 : okMil w → okMil l → n < 40 → ∀ U0 U1 U2, mTh T U0 0 → U1 = msml U0 (mml U0 + w.toInt64) → mAdd U1 U2 0 (-1) w l → K (nI n) U2) : wp_M_melt K w l T := by
  have bad : ¬ (okMil w ∧ okMil l) → wpJ_M_melt_21 K w l T := fun q =>
    ⟨fun _ => r_thr (thc1 _ _ _) (by decide) (fun U hU => ⟨fun e => absurd e (by decide), fun _ => h1 q U hU⟩), fun _ => r_thr (thc1 _ _ _) (by decide) (fun U hU => ⟨fun e => absurd e (by decide), fun _ => h1 q U hU⟩)⟩
  refine r_in (fun a b => ⟨fun e => absurd e (by decide), fun _ => r_in (fun a2 b2 => ⟨fun e => absurd e (by decide), fun _ => ?_⟩) (fun a2 => ⟨fun _ => bad (fun q => a2.elim q.2.1 q.2.2), fun e => absurd rfl e⟩)⟩) (fun a => ⟨fun _ => bad (fun q => a.elim q.1.1 q.1.2), fun e => absurd rfl e⟩)
  refine ⟨fun a3 => r_thr (thc2 _ _) (by decide) (fun U hU => ⟨fun e => absurd e (by decide), fun _ => h2 ⟨a, b⟩ ⟨a2, b2⟩ ((e40 hn).mp (by rw [← hc]; exact a3)) U hU⟩), fun a3 => r_thr0 (fun U0 hU0 => ⟨fun _ U1 e1 => ?_, fun e => absurd rfl e⟩)⟩
  have hn2 : n < 40 := by
    have h9 : ¬ n = 40 := fun q => a3 (by rw [hc]; exact (e40 hn).mpr q)
    omega
  have f1 := mEml e1
  have p1 : mpc U1 = nI n := by simp only [f1]; rw [hU0.2.2.2.2.2.2.2.2.2.2.2.2.2.2.2.2.2.1, hc]
  refine r_add (by rw [p1]; exact M40 hn2) (fun q => absurd (by decide) q) (fun U2 h5 => ?_)
  rw [p1]
  exact h3 ⟨a, b⟩ ⟨a2, b2⟩ hn2 U0 U1 U2 hU0 e1 h5

/-- an added piece leaves the rows ahead of it -/
theorem XR_old {P : PD} {S T : XSt} {k so w le : Int32} {n i : Nat} (hA : xAdd S T k so w le) (hc : xpc S = nI n) (hn : n < 40) (hi : i < n) (h : XR P i S) : XR P i T := by
  obtain ⟨a1, a2, a3, a4, a5, a6, a7, a8, a9, a10, -⟩ := hA
  have ec : (xpc S).toNatClampNeg = n := by rw [hc]; exact nI_clamp (by omega)
  rw [ec] at a1 a2 a3 a4 a5 a6 a7
  have hne : i ≠ n := by omega
  refine XR_keep h ?_ ?_ ?_ ?_ ?_ ?_ ?_ ?_ ?_ ?_
  · rw [a1]; exact pk_un hne
  · rw [a3]; exact pk_un hne
  · rw [a5]; exact pk_un hne
  · rw [a6]; exact pk_un hne
  · rw [a8]
  · rw [a9]
  · rw [a10]
  · rw [a7]; exact pk_un hne
  · rw [a2]; exact pk_un hne
  · rw [a4]; exact pk_un hne
/-- .. and shows its own -/
theorem XR_new {P : PD} {S T : XSt} {k so w le : Int32} {n : Nat} {v : Nat → Nat} (hA : xAdd S T k so w le) (hc : xpc S = nI n) (hn : n < 40) (hk : k = nI (v 0)) (hle : le = nI (v 1)) (hso : so = (if v 0 = 0 then (-1) else nI (v 2))) (hro : (if so = (-1) then 0 else xRo S so.toNatClampNeg) = nI (v 7)) (hw : w = nI (v 8)) (h9 : v 9 = 0) (hv : v 0 = 0 ∨ v 0 = 5) : XR (pAdd P n v) n T := by
  obtain ⟨a1, a2, a3, a4, a5, a6, a7, a8, a9, a10, -⟩ := hA
  have ec : (xpc S).toNatClampNeg = n := by rw [hc]; exact nI_clamp (by omega)
  rw [ec] at a1 a2 a3 a4 a5 a6 a7
  unfold XR
  simp only [pAdd_eq]
  refine ⟨by rw [a1, pk_us, hk], by rw [a3, pk_us, hle], by rw [a5, pk_us, hso], ?_, fun q => ?_, fun q => ?_, by rw [a7, pk_us, hro], by rw [a2, pk_us, hw], by rw [a4, pk_us, h9]; rfl⟩
  · rw [a6, pk_us, if_neg (by omega)]
  · omega
  · omega
theorem MR_old {P : PD} {S T : MSt} {k f w le : Int32} {n i : Nat} (hA : mAdd S T k f w le) (hc : mpc S = nI n) (hn : n < 40) (hi : i < n) (hf : ¬ f < 0 → f.toNatClampNeg ≠ i) (h : MR P i S) : MR P i T := by
  obtain ⟨a1, a2, a3, a4, a5, a6, a7, a8, a9, a10, a11, -⟩ := hA
  have ec : (mpc S).toNatClampNeg = n := by rw [hc]; exact nI_clamp (by omega)
  rw [ec] at a1 a2 a3 a4 a5 a6 a7 a11
  have hne : i ≠ n := by omega
  refine MR_keep h ?_ ?_ ?_ ?_ ?_ ?_ ?_ ?_ ?_ ?_ ?_
  · rw [a1]; exact pk_un hne
  · rw [a3]; exact pk_un hne
  · rw [a6]; exact pk_un hne
  · rw [a7]; exact pk_un hne
  · rw [a8]
  · rw [a9]
  · rw [a10]
  · rw [a11]; exact pk_un hne
  · rw [a2]; exact pk_un hne
  · rw [a4]
    by_cases hf0 : f < 0
    · rw [if_pos hf0]; exact pk_un hne
    · rw [if_neg hf0, pk_un (Ne.symm (hf hf0))]; exact pk_un hne
  · rw [a5]; exact pk_un hne
theorem MR_new {P : PD} {S T : MSt} {k f w le : Int32} {n : Nat} {v : Nat → Nat} (hA : mAdd S T k f w le) (hc : mpc S = nI n) (hn : n < 40) (hk : k = nI (v 0)) (hle : le = nI (v 1)) (hf : ¬ f < 0 → f.toNatClampNeg ≠ n) (hso : f = (if v 0 = 0 then (-1) else nI (v 2))) (hro : (if f < 0 then 0 else mRo S f.toNatClampNeg) = nI (v 7)) (hw : w = nI (v 8)) (h9 : v 9 = 0) (hv : v 0 = 0 ∨ v 0 = 5) : MR (pAdd P n v) n T := by
  obtain ⟨a1, a2, a3, a4, a5, a6, a7, a8, a9, a10, a11, -⟩ := hA
  have ec : (mpc S).toNatClampNeg = n := by rw [hc]; exact nI_clamp (by omega)
  rw [ec] at a1 a2 a3 a4 a5 a6 a7 a11
  unfold MR
  simp only [pAdd_eq]
  refine ⟨by rw [a1, pk_us, hk], by rw [a3, pk_us, hle], by rw [a6, pk_us, hso], ?_, fun q => ?_, fun q => ?_, by rw [a11, pk_us, hro], by rw [a2, pk_us, hw], ?_, ?_⟩
  · rw [a7, pk_us, if_neg (by omega)]
  · omega
  · omega
  · rw [a4, h9]
    by_cases hf0 : f < 0
    · rw [if_pos hf0, pk_us]; rfl
    · rw [if_neg hf0, pk_un (Ne.symm (hf hf0)), pk_us]; rfl
  · rw [a5, pk_us, h9]; rfl
/-- the numbers of a new piece -/
def vv (k l so se sm a b r w : Nat) : Nat → Nat
  | 0 => k
  | 1 => l
  | 2 => so
  | 3 => se
  | 4 => sm
  | 5 => a
  | 6 => b
  | 7 => r
  | 8 => w
  | _ => 0
/-- a melt of its own, put behind all pieces -/
theorem Rel_melt {P : PD} {n : Nat} {df : Nat → Nat × Nat × Nat} {d hp hp2 w l : Nat} {S S1 S2 : XSt} {T U1 U2 : MSt} (h : Rel P n df d hp S T) (hn : n < 40) (hw : w + hp2 ≤ 1000000 + hp) (hl : 1 ≤ l ∧ l ≤ 1000000)
    (hS : xKi S1 = xKi S ∧ xWe S1 = xWe S ∧ xLe S1 = xLe S ∧ xSt S1 = xSt S ∧ xSo S1 = xSo S ∧ xSe S1 = xSe S ∧ xRo S1 = xRo S ∧ xSm S1 = xSm S ∧ xRU S1 = xRU S ∧ xRL S1 = xRL S ∧ xDM S1 = xDM S ∧ xDU S1 = xDU S ∧ xDL S1 = xDL S ∧ xpc S1 = xpc S ∧ xdc S1 = xdc S ∧ xhp S1 = nI hp2)
    (hT : mKi U1 = mKi T ∧ mWe U1 = mWe T ∧ mLe U1 = mLe T ∧ mSt U1 = mSt T ∧ mHe U1 = mHe T ∧ mOf U1 = mOf T ∧ mOt U1 = mOt T ∧ mCu U1 = mCu T ∧ mOv U1 = mOv T ∧ mUn U1 = mUn T ∧ mRo U1 = mRo T ∧ mDM U1 = mDM T ∧ mDU U1 = mDU T ∧ mDL U1 = mDL T ∧ mpc U1 = mpc T ∧ mdc U1 = mdc T ∧ mhp U1 = nI hp2) (hm : xml S1 = mml U1)
    (hA : xAdd S1 S2 0 (-1) (nI w) (nI l)) (hB : mAdd U1 U2 0 (-1) (nI w) (nI l)) : ∃ P n df d hp, Rel P n df d hp S2 U2 := by
  obtain ⟨-, hd, c1, c2, c3, c4, c5, c6, c7, hrow, hls, hdf⟩ := h
  obtain ⟨x1, x2, x3, x4, x5, x6, x7, x8, x9, x10, x11, x12, x13, x14, x15, x16⟩ := hS
  obtain ⟨y1, y2, y3, y4, y5, y6, y7, y8, y9, y10, y11, y12, y13, y14, y15, y16, y17⟩ := hT
  have p1 : xpc S1 = nI n := by rw [x14, c1]
  have p2 : mpc U1 = nI n := by rw [y15, c2]
  have hA' := hA
  have hB' := hB
  obtain ⟨-, -, -, -, -, -, -, -, -, -, a11, a12, a13, -, -, a16, a17, a18, a19, -, -⟩ := hA'
  obtain ⟨-, -, -, -, -, -, -, -, -, -, -, b12, b13, b14, -, -, -, b18, b19, b20, b21, -, -, -⟩ := hB'
  refine ⟨pAdd P n (vv 0 l 0 0 0 0 0 0 w), n + 1, df, d, hp2, by omega, hd, ?_, ?_, ?_, ?_, ?_, ?_, ?_, fun i hi => ?_, ?_, fun j hj => ?_⟩
  · rw [a16, p1, nI_1]
  · rw [b18, p2, nI_1]
  · rw [a17, x15, c3]
  · rw [b21, y16, c4]
  · rw [a18, x16]
  · rw [b19, y17]
  · rw [a19, b20, hm]
  · rcases Nat.lt_or_ge i n with q | q
    · obtain ⟨r1, r2, r3, r4⟩ := hrow i q
      have r1 : XR P i S1 := XR_keep r1 (by rw [x1]) (by rw [x3]) (by rw [x5]) (by rw [x6]) (by rw [x8]) (by rw [x9]) (by rw [x10]) (by rw [x7]) (by rw [x2]) (by rw [x4])
      have r2 : MR P i U1 := MR_keep r2 (by rw [y1]) (by rw [y3]) (by rw [y6]) (by rw [y7]) (by rw [y8]) (by rw [y9]) (by rw [y10]) (by rw [y11]) (by rw [y2]) (by rw [y4]) (by rw [y5])
      exact ⟨XR_addP q (XR_old hA p1 hn q r1), MR_addP q (MR_old hB p2 hn q (fun z => absurd (by decide) z) r2), PI_add q r3, by rw [pAdd_ne (by omega)]; exact r4⟩
    · have e : i = n := by omega
      subst e
      refine ⟨XR_new hA p1 hn rfl rfl rfl rfl rfl rfl (Or.inl rfl), MR_new hB p2 hn rfl rfl (fun z => absurd (by decide) z) rfl rfl rfl rfl (Or.inl rfl), ?_, by rw [pAdd_eq]; exact Nat.zero_le 3⟩
      unfold PI
      simp only [pAdd_eq, vv]
      refine ⟨by decide, hl.1, by omega, by decide, fun z => absurd rfl z, fun _ => trivial, fun z => absurd z (by decide), fun z => absurd z (by decide), fun z => absurd z (by decide), fun z => absurd z (by decide), fun z => absurd z (by decide)⟩
  · rw [lsum, lsum_congr n (P := P) (fun j hj => ⟨pAdd_ne (by omega), pAdd_ne (by omega)⟩), pAdd_eq, pAdd_eq]
    have e9 : vv 0 l 0 0 0 0 0 0 w 9 = 0 := rfl
    have e8 : vv 0 l 0 0 0 0 0 0 w 8 = w := rfl
    rw [e9, e8, if_pos (Or.inl rfl)]
    omega
  · obtain ⟨r1, r2, r3, r4, r5, r6, r7⟩ := hdf j hj
    refine ⟨by rw [a11, x11, r1], by rw [b12, y12, r2], by rw [a12, x12, r3], by rw [b13, y13, r4], by rw [a13, x13, r5], by rw [b14, y14, r6], DR_add (by omega) r7⟩
theorem op_melt {P : PD} {n : Nat} {df : Nat → Nat × Nat × Nat} {d hp : Nat} {S : XSt} {T : MSt} {w l : Int32} {o : Nat → Int64} {F : Int32 → LSt → Prop} {FIN : Int32 → Int32 → LSt → MSt → Prop} (h : Rel P n df d hp S T) (hF : ∀ r O, wp_M_melt (fun b U => FIN r b O U) w l T → F r O) (hA : ∀ r b O U, Agree r b.toInt64 O U → FIN r b O U) : wp_L_melt F w l (o, S) := by
  have hn := h.1
  have c1 := h.2.2.1
  have c2 := h.2.2.2.1
  refine xo_melt hn c1 (fun q => hF _ _ (mo_melt hn c2 (fun _ U hU => hA _ _ _ _ (Agree_th h hU (by decide))) (fun z1 z2 => absurd ⟨z1, z2⟩ q) (fun z1 z2 => absurd ⟨z1, z2⟩ q)))
    (fun q1 q2 q3 => hF _ _ (mo_melt hn c2 (fun z => absurd ⟨q1, q2⟩ z) (fun _ _ _ U hU => hA _ _ _ _ (Agree_th h hU (by decide))) (fun _ _ z => absurd q3 (by omega))))
    (fun q1 q2 q3 S1 S2 O e1 hX o1 o2 => hF _ _ (mo_melt hn c2 (fun z => absurd ⟨q1, q2⟩ z) (fun _ _ z => absurd q3 (by omega)) (fun _ _ _ U0 U1 U2 hU0 e2 hM => hA _ _ _ _ ?_)))
  obtain ⟨w', hw1, hw2, rfl⟩ := okMil_nI q1
  obtain ⟨l', hl1, hl2, rfl⟩ := okMil_nI q2
  have f1 := xEml e1
  have f2 := mEml e2
  refine ⟨?_, fun _ => o1, ?_⟩
  · have t1 : mth U2 = mth U1 := hM.2.2.2.2.2.2.2.2.2.2.2.2.2.2.2.2.1
    rw [t1]
    simp only [f2]
    exact hU0.2.2.2.2.2.2.2.2.2.2.2.2.2.2.2.2.1
  · rw [o2]
    have hR := Rel_th h hU0
    refine Rel_melt (hp2 := hp) hR q3 (by omega) ⟨hl1, hl2⟩ ?_ ?_ ?_ hX hM
    · simp only [f1, and_self, true_and]
      exact h.2.2.2.2.2.2.1
    · simp only [f2, and_self, true_and]
      exact hR.2.2.2.2.2.2.2.1
    · simp only [f1, f2]
      rw [hR.2.2.2.2.2.2.2.2.1]

