/-! cut -/
theorem thrA {P : PD} {n : Nat} {df : Nat → Nat × Nat × Nat} {d hp : Nat} {S : XSt} {T : MSt} {o : Nat → Int64} {FIN : Int32 → Int32 → LSt → MSt → Prop} {A : MSt → Prop} {a b c e k : Int32} (h : Rel P n df d hp S T) (hA : ∀ r b O U, Agree r b.toInt64 O U → FIN r b O U) (hk : thc a b c e = k) (hz : ¬ k = 0) : wp_M_throwing (fun r U => ((r = 0 → A U) ∧ (¬ r = 0 → FIN k 0 (o, S) U))) a b c e T :=
  r_thr hk hz (fun _ hU => ⟨fun z => absurd z (by decide), fun _ => hA _ _ _ _ (Agree_th h hU hz)⟩)
theorem hand1 {P : PD} {n : Nat} {df : Nat → Nat × Nat × Nat} {d hp : Nat} {S : XSt} {T : MSt} {p : Int32} (K : Int32 → Int32 → MSt → Prop) (h : Rel P n df d hp S T) (hq : ¬ qz n p) (hK : K 1 1 T) :
    wp_M_isPiece (fun r1 S1 => ((r1 = 0 → wp_M_isAtHand (fun r2 S2 => ((r2 = 0 → K 1 1 S2) ∧ (¬ r2 = 0 → K 1 0 S2))) p S1) ∧ (¬ r1 = 0 → wp_M_isAtHand (fun r2 S2 => ((r2 = 0 → K 0 1 S2) ∧ (¬ r2 = 0 → K 0 0 S2))) p S1))) p T :=
  mo_hand (K := K) (P := P) h.1 h.2.2.2.1 (Rel_M9 h) (fun _ => hK) (fun i hi e _ => absurd (by rw [e]; exact qz_nI h.1 hi) hq) (fun i hi e _ => absurd (by rw [e]; exact qz_nI h.1 hi) hq)
theorem hand2 {P : PD} {n : Nat} {df : Nat → Nat × Nat × Nat} {d hp : Nat} {S : XSt} {T : MSt} {i : Nat} (K : Int32 → Int32 → MSt → Prop) (h : Rel P n df d hp S T) (hi : i < n) (hq : ¬ P 9 i = 0) (hK : K 0 1 T) :
    wp_M_isPiece (fun r1 S1 => ((r1 = 0 → wp_M_isAtHand (fun r2 S2 => ((r2 = 0 → K 1 1 S2) ∧ (¬ r2 = 0 → K 1 0 S2))) (nI i) S1) ∧ (¬ r1 = 0 → wp_M_isAtHand (fun r2 S2 => ((r2 = 0 → K 0 1 S2) ∧ (¬ r2 = 0 → K 0 0 S2))) (nI i) S1))) (nI i) T :=
  mo_hand (K := K) (P := P) h.1 h.2.2.2.1 (Rel_M9 h) (fun z => absurd (qz_nI h.1 hi) z) (fun _ _ _ _ => hK) (fun j hj e z => by
    have e2 := nI_inj h.1 hi hj rfl e
    subst e2
    exact absurd z hq)
theorem hand3 {P : PD} {n : Nat} {df : Nat → Nat × Nat × Nat} {d hp : Nat} {S : XSt} {T : MSt} {i : Nat} (K : Int32 → Int32 → MSt → Prop) (h : Rel P n df d hp S T) (hi : i < n) (hq : P 9 i = 0) (hK : K 0 0 T) :
    wp_M_isPiece (fun r1 S1 => ((r1 = 0 → wp_M_isAtHand (fun r2 S2 => ((r2 = 0 → K 1 1 S2) ∧ (¬ r2 = 0 → K 1 0 S2))) (nI i) S1) ∧ (¬ r1 = 0 → wp_M_isAtHand (fun r2 S2 => ((r2 = 0 → K 0 1 S2) ∧ (¬ r2 = 0 → K 0 0 S2))) (nI i) S1))) (nI i) T :=
  mo_hand (K := K) (P := P) h.1 h.2.2.2.1 (Rel_M9 h) (fun z => absurd (qz_nI h.1 hi) z) (fun j hj e z => by
    have e2 := nI_inj h.1 hi hj rfl e
    subst e2
    exact absurd hq z) (fun _ _ _ _ => hK)
theorem XR_mk {Q : PD} {i : Nat} {T : XSt} {v : Nat → Nat} {k le so se ro w : Int32} (r : xRow T i k le so se ro w) (hQ : ∀ f, Q f i = v f) (hk : k = nI (v 0)) (hle : le = nI (v 1)) (hso : so = if v 0 = 0 then (-1) else nI (v 2)) (hse : se = if v 0 = 3 then nI (v 3) else (-1)) (hsm : v 0 = 1 ∨ v 0 = 2 ∨ v 0 = 3 → xSm T i = nI (v 4)) (hru : v 0 = 4 → xRU T i = nI (v 5) ∧ xRL T i = nI (v 6)) (hro : ro = nI (v 7)) (hw : w = nI (v 8)) (h9 : v 9 = 0) : XR Q i T := by
  obtain ⟨r1, r2, r3, r4, r5, r6, r7⟩ := r
  unfold XR
  rw [hQ, hQ, hQ, hQ, hQ, hQ, hQ, hQ, hQ, hQ, r1, r2, r3, r4, r5, r6, r7, h9]
  exact ⟨hk, hle, hso, hse, hsm, hru, hro, hw, rfl⟩
theorem MR_mk {Q : PD} {i : Nat} {T : MSt} {v : Nat → Nat} {k le so se ro w : Int32} (r : mRow T i k le so se ro w) (hQ : ∀ f, Q f i = v f) (hk : k = nI (v 0)) (hle : le = nI (v 1)) (hso : so = if v 0 = 0 then (-1) else nI (v 2)) (hse : se = if v 0 = 3 then nI (v 3) else (-1)) (hsm : v 0 = 1 ∨ v 0 = 2 → mCu T i = nI (v 4)) (hru : v 0 = 4 → mOv T i = nI (v 5) ∧ mUn T i = nI (v 6)) (hro : ro = nI (v 7)) (hw : w = nI (v 8)) (h9 : v 9 = 0) : MR Q i T := by
  obtain ⟨r1, r2, r3, r4, r5, r6, r7, r8⟩ := r
  unfold MR
  rw [hQ, hQ, hQ, hQ, hQ, hQ, hQ, hQ, hQ, hQ, r1, r2, r3, r4, r5, r6, r7, r8, h9]
  exact ⟨hk, hle, hso, hse, hsm, hru, hro, hw, rfl, rfl⟩
theorem PI_vv {Q : PD} {i k l so se sm a b r w : Nat} (hQ : ∀ f, Q f i = vv k l so se sm a b r w f) (h : k ≤ 5 ∧ 1 ≤ l ∧ l ≤ 1000000000 ∧ r ≤ 3 ∧ (k ≠ 0 → so < i) ∧ (k = 0 → r = 0) ∧ (k = 1 → l = sm ∧ sm < Q 1 so ∧ r = Q 7 so) ∧ (k = 2 → 1 ≤ sm ∧ sm + l = Q 1 so ∧ r = Q 7 so) ∧ (k = 3 → se < i ∧ sm = Q 1 so ∧ l = Q 1 so + Q 1 se ∧ Q 7 so ≤ r ∧ Q 7 se ≤ r) ∧ (k = 4 → 1 ≤ a ∧ a ≤ 20 ∧ 1 ≤ b ∧ b ≤ 20 ∧ l = Q 1 so * a / b ∧ r = Q 7 so + 1) ∧ (k = 5 → l = Q 1 so ∧ r = Q 7 so)) : PI Q i := by
  unfold PI
  rw [hQ, hQ, hQ, hQ, hQ, hQ, hQ, hQ]
  exact h
theorem nI_m1 {i : Nat} (h : i < 40) : ¬ nI i = -1 := fun e => by
  have h1 := nI_pos (n := i) (by omega)
  rw [e] at h1
  exact h1 (by decide)
theorem xRow_sm {S T : XSt} {j x : Int32} {i : Nat} {k le so se ro w : Int32} (e : T = xuSm S j x) (r : xRow S i k le so se ro w) : xRow T i k le so se ro w := by
  have f := xESm e
  unfold xRow
  simp only [f]
  exact r
theorem mRow_cu {S T : MSt} {j x : Int32} {i : Nat} {k le so se ro w : Int32} (e : T = muCu S j x) (r : mRow S i k le so se ro w) : mRow T i k le so se ro w := by
  have f := mECu e
  unfold mRow
  simp only [f]
  exact r
theorem cut_w {W q L : Nat} (hW : W ≤ 40000000) (hq : q ≤ 1000000000) (hL0 : 0 < L) (hL : L ≤ 1000000000) : (((nI W).toInt64 * (nI q).toInt64) / (nI L).toInt64).toInt32 = nI (W * q / L) := by
  rw [nI_l (by omega), nI_l (by omega), nI_l (by omega), lN_mul]
  have hb : W * q ≤ 40000000 * 1000000000 := Nat.mul_le_mul hW hq
  rw [pk_lDiv (by omega) hL0 (by omega), lN_i]
theorem cut_le {W q L : Nat} (hq : q ≤ L) (hL0 : 0 < L) : W * q / L ≤ W := by
  have h1 : W * q ≤ W * L := Nat.mul_le_mul_left W hq
  have h2 := Nat.div_le_div_right (c := L) h1
  rw [Nat.mul_div_cancel _ hL0] at h2
  exact h2
theorem i40k {n : Nat} (hn : n ≤ 40) (k : Nat) (hk : k ≤ 4) (x : Int32) (hx : x = nI k) : nI n + x ≤ 40 ↔ n + k ≤ 40 := by
  rw [hx]; exact i40 hn k hk
theorem op_cut {P : PD} {n : Nat} {df : Nat → Nat × Nat × Nat} {d hp : Nat} {S : XSt} {T : MSt} {p x : Int32} {o : Nat → Int64} {F : Int32 → LSt → Prop} {FIN : Int32 → Int32 → LSt → MSt → Prop} (h : Rel P n df d hp S T) (hF : ∀ r O, wp_M_cut (fun b U => FIN r b O U) p x T → F r O) (hA : ∀ r b O U, Agree r b.toInt64 O U → FIN r b O U) : wp_L_cut F p x (o, S) := by
  have hn := h.1
  have c1 := h.2.2.1
  have c2 := h.2.2.2.1
  have hrow := h.2.2.2.2.2.2.2.2.2.1
  unfold wp_L_cut wp_X_cut
  refine r_needPiece (fun hz => ?_) (fun hz => Or.inl ⟨rfl, hF _ _ (hand1 (fun a b S => wpJ_M_cut_29 _ p x S a b a) h (fun q => hz ((pz_qz c1).mpr q)) ?_)⟩)
  rotate_left
  · exact ⟨fun e => absurd e (by decide), fun _ => ⟨fun _ => thrA h hA (thc1 _ _ _) (by decide), fun _ => thrA h hA (thc1 _ _ _) (by decide)⟩⟩
  obtain ⟨i, hi, rfl⟩ := qz_of hn ((pz_qz c1).mp hz)
  have hp1 := qz_in hn hi
  have ec : (nI i).toNatClampNeg = i := nI_clamp (by omega)
  obtain ⟨rX, rM, rP, r9⟩ := hrow i hi
  obtain ⟨x1, x2, x3, x4, x5, x6, x7, x8, x9⟩ := rX
  obtain ⟨m1, m2, m3, m4, m5, m6, m7, m8, m9, m10⟩ := rM
  have pl0 : 1 ≤ P 1 i := rP.2.1
  have pl1 : P 1 i ≤ 1000000000 := rP.2.2.1
  have pr : P 7 i ≤ 3 := rP.2.2.2.1
  have hL : nI (P 1 i) - 1 = nI (P 1 i - 1) := pk_sub (a := P 1 i) (b := 1) pl0
  refine r_needFree hp1 (fun a => ?_) (fun a => Or.inr (Or.inl ⟨rfl, hF _ _ (hand2 (fun a b S => wpJ_M_cut_29 _ (nI i) x S a b a) h hi (fun q => a ?_) ?_)⟩))
  rotate_left
  · rw [ec, x9, q]; rfl
  · exact ⟨fun _ => ⟨hp1, r_in (fun _ _ => ⟨fun e => absurd e (by decide), fun _ => ⟨fun _ => thrA h hA (thc2 _ _) (by decide), fun _ => thrA h hA (thc2 _ _) (by decide)⟩⟩) (fun _ => ⟨fun _ => ⟨fun _ => thrA h hA (thc2 _ _) (by decide), fun _ => thrA h hA (thc2 _ _) (by decide)⟩, fun e => absurd rfl e⟩)⟩, fun e => absurd rfl e⟩
  rw [ec, x9, i0 r9] at a
  have pw := Rel_w h hi a
  refine ⟨hp1, fun v3 e3 => ?_⟩
  rw [ec, x2] at e3
  subst e3
  rw [hL]
  refine r_needWithin (fun b1 b2 => ?_) (fun b => Or.inr (Or.inr (Or.inl ⟨rfl, hF _ _ (hand3 (fun a b S => wpJ_M_cut_29 _ (nI i) x S a b a) h hi a ?_)⟩)))
  rotate_left
  · refine ⟨fun _ => ⟨hp1, ?_⟩, fun e => absurd rfl e⟩
    rw [ec, m2, hL]
    refine r_in (fun z1 z2 => absurd b (fun z => z.elim z1 (fun y => y ((le_nlt _ _).mpr z2)))) (fun _ => ⟨fun _ => ⟨fun _ => thrA h hA (thc3 _) (by decide), fun _ => thrA h hA (thc3 _) (by decide)⟩, fun e => absurd rfl e⟩)
  obtain ⟨q, hq1, hq2, rfl⟩ := within_nI (a := 1) (b := P 1 i - 1) (by omega) (by decide) b1 b2
  refine r_needRoom (fun a3 => ?_) (fun a3 => Or.inr (Or.inr (Or.inr ⟨rfl, hF _ _ (hand3 (fun a b S => wpJ_M_cut_29 _ (nI i) (nI q) S a b a) h hi a ?_)⟩)))
  rotate_left
  · refine ⟨fun _ => ⟨hp1, ?_⟩, fun e => absurd rfl e⟩
    rw [ec, m2, hL]
    rw [c1] at a3
    refine r_in (fun z1 z2 => ⟨fun e => absurd e (by decide), fun _ => ⟨fun z => absurd (by rw [c2] at z; exact z) a3, fun _ => thrA h hA thc4 (by decide)⟩⟩) (fun z => absurd z (fun z => z.elim b1 (fun y => (le_nlt _ _).mp b2 y)))
  rw [c1] at a3
  have hn2 : n + 2 ≤ 40 := (i40 hn 2 (by omega)).mp a3
  have ew : (((nI (P 8 i)).toInt64 * (nI q).toInt64) / (nI (P 1 i)).toInt64).toInt32 = nI (P 8 i * q / P 1 i) := cut_w pw (by omega) (by omega) pl1
  have hwl : P 8 i * q / P 1 i ≤ P 8 i := cut_le (by omega) (by omega)
  have hl0 : ¬ (nI (P 1 i)).toInt64 = 0 := by rw [nI_l (by omega)]; exact lNz (by omega) (by omega)
  have esw : nI (P 8 i) - nI (P 8 i * q / P 1 i) = nI (P 8 i - P 8 i * q / P 1 i) := pk_sub hwl
  have esl : nI (P 1 i) - nI q = nI (P 1 i - q) := pk_sub (by omega)
  refine ⟨hp1, fun v4 e4 => ⟨hl0, fun v5 e5 => ⟨hp1, fun S12 e12 => ?_⟩⟩⟩
  rw [ec, x8] at e4
  subst e4
  rw [ew] at e5
  subst e5
  rw [esw, esl]
  have p12 : xpc S12 = nI n := by have f := xESt e12; simp only [f, c1]
  have fr12 : xFr S S12 n (fun j => j = i) := xSt_fr e12 (by omega)
  refine r_addPiece (by rw [p12]; exact M40 (by omega)) (fun _ => hp1) (fun S13 h13 => ?_)
  obtain ⟨fr13, p13, row13⟩ := xAdd_fr h13 p12 (by omega)
  refine r_addPiece (by rw [p13]; exact M40 (by omega)) (fun _ => hp1) (fun S15 h15 => ?_)
  obtain ⟨fr15, p15, row15⟩ := xAdd_fr h15 p13 (by omega)
  rw [p12, p13]
  refine ⟨M40 (by omega), fun S18 e18 => ⟨M40 (by omega), fun S20 e20 => ⟨in01, fun O eO => hF _ _ (hand3 (fun a b S => wpJ_M_cut_29 _ (nI i) (nI q) S a b a) h hi a ?_)⟩⟩⟩
  have fr18 : xFr S15 S18 n noU := xSm_fr e18 (by omega) (by omega)
  have fr20 : xFr S18 S20 (n + 1) noU := xSm_fr e20 (by omega) (by omega)
  have frX : xFr S S20 n (fun j => j = i) := xFr_no (xFr_no (xFr_no (xFr_no fr12 fr13) (xFr_le fr15 (by omega))) fr18) (xFr_le fr20 (by omega))
  have pX : xpc S20 = nI (n + 2) := by
    have f1 := xESm e18
    have f2 := xESm e20
    simp only [f2, f1, p15]
  have ro12 : xRo S12 i = nI (P 7 i) := by rw [(fr12.1 i hi).2.2.2.2.2.2.2.1, x7]
  have ro13 : xRo S13 i = nI (P 7 i) := by rw [(fr13.1 i hi).2.2.2.2.2.2.2.1, ro12]
  rw [if_neg (nI_m1 (by omega)), ec, ro12] at row13
  rw [if_neg (nI_m1 (by omega)), ec, ro13] at row15
  have rowA := xRow_sm e20 (xRow_sm e18 (xRow_fr fr15 (by omega) id row13))
  have rowB := xRow_sm e20 (xRow_sm e18 row15)
  have en : (nI n).toNatClampNeg = n := nI_clamp (by omega)
  have en1 : (nI (n + 1)).toNatClampNeg = n + 1 := nI_clamp (by omega)
  have smA : xSm S20 n = nI q := by
    have f1 := xESm e18
    have f2 := xESm e20
    simp only [f2, f1]
    rw [en, en1, pk_un (by omega), pk_us]
  have smB : xSm S20 (n + 1) = nI q := by
    have f2 := xESm e20
    simp only [f2]
    rw [en1, pk_us]
  have g := out_put eO
  refine ⟨fun _ => ⟨hp1, ?_⟩, fun e => absurd rfl e⟩
  rw [ec, m2, hL]
  refine r_in (fun z1 z2 => ⟨fun e => absurd e (by decide), fun _ => ⟨fun _ => r_thr0 (fun U0 hU0 => ⟨fun _ => ?_, fun e => absurd rfl e⟩), fun z => absurd (by rw [c2]; exact a3) z⟩⟩) (fun z => absurd z (fun z => z.elim b1 (fun y => (le_nlt _ _).mp b2 y)))
  have hR := Rel_th h hU0
  have d2 := hR.2.2.2.1
  obtain ⟨t1, t2, t3, t4, t5, t6, t7, t8, t9, t10⟩ := (hR.2.2.2.2.2.2.2.2.2.1 i hi).2.1
  rw [ec, t2, t8]
  refine ⟨hp1, hp1, hl0, fun v4 e4 => ?_⟩
  rw [ew] at e4
  subst e4
  refine r_add (by rw [d2]; exact M40 (by omega)) (fun _ => hp1) (fun U1 k1 => ?_)
  obtain ⟨gr1, d1, mr1⟩ := mAdd_fr k1 d2 (by omega) hi
  have w1 : mWe U1 i = nI (P 8 i) := by rw [(gr1.1 i hi).2.2.2.2.2.2.2.2.1, t8]
  have l1 : mLe U1 i = nI (P 1 i) := by rw [(gr1.1 i hi).2.1, t2]
  have o1 : mRo U1 i = nI (P 7 i) := by rw [(gr1.1 i hi).2.2.2.2.2.2.2.1, t7]
  rw [w1, l1, esw, esl]
  refine ⟨hp1, hp1, r_add (by rw [d1]; exact M40 (by omega)) (fun _ => hp1) (fun U2 k2 => ?_)⟩
  obtain ⟨gr2, d3, mr2⟩ := mAdd_fr k2 d1 (by omega) (by omega)
  rw [d2, d1]
  refine ⟨M40 (by omega), fun U3 k3 => ⟨M40 (by omega), fun U4 k4 => hA _ _ _ _ ?_⟩⟩
  have gr3 : mFr U2 U3 n noU := mCu_fr k3 (by omega) (by omega)
  have gr4 : mFr U3 U4 (n + 1) noU := mCu_fr k4 (by omega) (by omega)
  have frM : mFr U0 U4 n (fun j => j = i) := mFr_no (mFr_no (mFr_sm gr1 (mFr_le gr2 (by omega))) gr3) (mFr_le gr4 (by omega))
  have pM : mpc U4 = nI (n + 2) := by
    have f1 := mECu k3
    have f2 := mECu k4
    simp only [f2, f1, d3]
  rw [t7] at mr1
  rw [o1] at mr2
  have rowC := mRow_cu k4 (mRow_cu k3 (mRow_fr gr2 (by omega) (show ¬ n = i by omega) mr1))
  have rowD := mRow_cu k4 (mRow_cu k3 mr2)
  have cuC : mCu U4 n = nI q := by
    have f1 := mECu k3
    have f2 := mECu k4
    simp only [f2, f1]
    rw [en, en1, pk_un (by omega), pk_us]
  have cuD : mCu U4 (n + 1) = nI q := by
    have f2 := mECu k4
    simp only [f2]
    rw [en1, pk_us]
  refine ⟨?_, fun _ => g.1, ?_⟩
  · rw [frM.2.2.2.2.2.2.2.2]
    exact mTh_th hU0
  rw [g.2]
  obtain ⟨Q, g1, g2, g3, g4⟩ := grow_ex P n (fun j => j = i) (fun j => if j = n then vv 1 q i 0 q 0 0 (P 7 i) (P 8 i * q / P 1 i) else vv 2 (P 1 i - q) i 0 q 0 0 (P 7 i) (P 8 i - P 8 i * q / P 1 i))
  have gA : ∀ f, Q f n = vv 1 q i 0 q 0 0 (P 7 i) (P 8 i * q / P 1 i) f := fun f => by rw [g4 f n (Nat.le_refl _), if_pos rfl]
  have gB : ∀ f, Q f (n + 1) = vv 2 (P 1 i - q) i 0 q 0 0 (P 7 i) (P 8 i - P 8 i * q / P 1 i) f := fun f => by rw [g4 f (n + 1) (by omega), if_neg (by omega)]
  have Qi1 : Q 1 i = P 1 i := g1 1 i (by decide) hi
  have Qi7 : Q 7 i = P 7 i := g1 7 i (by decide) hi
  refine ⟨Q, n + 2, df, d, hp, Rel_make (us := fun j => j = i) hR (by omega) hn2 g1 (fun j _ e => by rw [e]; exact a) g2 g3 frX frM pX pM (fun j hj1 hj2 => ?_) ?_⟩
  · have hj : j = n ∨ j = n + 1 := by omega
    rcases hj with rfl | rfl
    · refine ⟨XR_mk rowA gA rfl rfl rfl rfl (fun _ => smA) (fun e => absurd (show (1 : Nat) = 4 from e) (by decide)) rfl rfl rfl, MR_mk rowC gA rfl rfl rfl rfl (fun _ => cuC) (fun e => absurd (show (1 : Nat) = 4 from e) (by decide)) rfl rfl rfl, ?_, by rw [gA]; exact Nat.zero_le 3⟩
      refine PI_vv gA ?_
      rw [Qi1, Qi7]
      exact ⟨by omega, by omega, by omega, pr, fun _ => hi, fun z => absurd z (by decide), fun _ => ⟨rfl, by omega, rfl⟩, fun z => absurd z (by decide), fun z => absurd z (by decide), fun z => absurd z (by decide), fun z => absurd z (by decide)⟩
    · refine ⟨XR_mk rowB gB rfl rfl rfl rfl (fun _ => smB) (fun e => absurd (show (2 : Nat) = 4 from e) (by decide)) rfl rfl rfl, MR_mk rowD gB rfl rfl rfl rfl (fun _ => cuD) (fun e => absurd (show (2 : Nat) = 4 from e) (by decide)) rfl rfl rfl, ?_, by rw [gB]; exact Nat.zero_le 3⟩
      refine PI_vv gB ?_
      rw [Qi1, Qi7]
      exact ⟨by omega, by omega, by omega, pr, fun _ => by omega, fun z => absurd z (by decide), fun z => absurd z (by decide), fun _ => ⟨by omega, by omega, rfl⟩, fun z => absurd z (by decide), fun z => absurd z (by decide), fun z => absurd z (by decide)⟩
  · have hu := lsum_used (P := P) (Q := Q) n hi (Or.inl a) (by rw [g2 i hi rfl]; omega) (fun j hj hne => ⟨g1 8 j (by decide) hj, g3 j hj hne⟩)
    have l1 : lsum Q (n + 1) = lsum Q n + P 8 i * q / P 1 i := by
      rw [lsum, gA, gA]; rfl
    have l2 : lsum Q (n + 2) = lsum Q (n + 1) + (P 8 i - P 8 i * q / P 1 i) := by
      rw [lsum, gB, gB]; rfl
    omega

