/-! weld -/
theorem ahE {P : PD} {n : Nat} {df : Nat → Nat × Nat × Nat} {d hp : Nat} {S : XSt} {T : MSt} {p : Int32} {post : Int32 → MSt → Prop} (h : Rel P n df d hp S T) (h0 : post 0 T) (h1 : post 1 T) : wp_M_isAtHand post p T :=
  r_isAtHand h.1 h.2.2.2.1 (fun _ _ _ _ _ => h1) (fun _ => h0) (fun _ _ _ _ => h0)
theorem weld_go {K : Int32 → MSt → Prop} {a b : Int32} {T : MSt} (ha : vp_in a 40) (hb : vp_in b 40) (hall : ∀ t0, wpJ_M_weld_104 K a b T 0 t0) : wpJ_M_weld_26 K a b T 0 :=
  ⟨fun _ => ⟨ha, fun _ => ⟨hb, fun _ => hall _, fun _ => ⟨fun _ => ⟨ha, fun _ => ⟨hb, fun _ => hall _, fun _ => hall _⟩, fun e => absurd rfl e⟩, fun e => absurd rfl e⟩⟩, fun e => absurd rfl e⟩, fun e => absurd rfl e⟩
theorem weld_len {K : Int32 → MSt → Prop} {i k wa wb la lb : Nat} {T : MSt} (hi : i < 40) (hk : k < 40) (h1 : mWe T i = nI wa) (h2 : mWe T k = nI wb) (h3 : mLe T i = nI la) (h4 : mLe T k = nI lb) (hwa : wa ≤ 40000000) (hwb : wb ≤ 40000000) (hla : la ≤ 1000000000) (hlb : lb ≤ 1000000000) (y : la + lb ≤ 1000000000 → wpJ_M_weld_104 K (nI i) (nI k) T 0 0) (z : ¬ la + lb ≤ 1000000000 → wpJ_M_weld_104 K (nI i) (nI k) T 0 1) : wpJ_M_weld_26 K (nI i) (nI k) T 0 := by
  have ha : vp_in (nI i) 40 := M40 hi
  have hb : vp_in (nI k) 40 := M40 hk
  have ei : (nI i).toNatClampNeg = i := nI_clamp (by omega)
  have ek : (nI k).toNatClampNeg = k := nI_clamp (by omega)
  have e1 : (1000000000 : Int32) - nI wb = nI (1000000000 - wb) := pk_sub (a := 1000000000) (by omega)
  have e2 : (1000000000 : Int32) - nI lb = nI (1000000000 - lb) := pk_sub (a := 1000000000) (by omega)
  refine ⟨fun _ => ⟨ha, fun _ => ⟨hb, ?_⟩, fun e => absurd rfl e⟩, fun e => absurd rfl e⟩
  rw [ei, ek, h1, h2, e1]
  refine ⟨fun q => absurd q (nI_nlt (by omega) (by omega)), fun _ => ⟨fun _ => ⟨ha, fun _ => ⟨hb, ?_⟩, fun e => absurd rfl e⟩, fun e => absurd rfl e⟩⟩
  rw [ei, ek, h3, h4, e2, nI_leI (by omega) (by omega)]
  exact ⟨fun q => y (by omega), fun q => z (by omega)⟩
theorem xRow_se {S T : XSt} {y : Int32} {i : Nat} {k le so se ro w : Int32} (hi : i < 40) (e : T = xuSe S (nI i) y) (r : xRow S i k le so se ro w) : xRow T i k le so y ro w := by
  have f := xESe e
  have ei : (nI i).toNatClampNeg = i := nI_clamp (by omega)
  rw [ei] at f
  unfold xRow at *
  simp only [f, pk_us, true_and]
  obtain ⟨r1, r2, r3, r4, r5, r6, r7⟩ := r
  exact ⟨r1, r2, r3, r5, r6, r7⟩
theorem mRow_ot {S T : MSt} {y : Int32} {i : Nat} {k le so se ro w : Int32} (hi : i < 40) (e : T = muOt S (nI i) y) (r : mRow S i k le so se ro w) : mRow T i k le so y ro w := by
  have f := mEOt e
  have ei : (nI i).toNatClampNeg = i := nI_clamp (by omega)
  rw [ei] at f
  unfold mRow at *
  simp only [f, pk_us, true_and]
  obtain ⟨r1, r2, r3, r4, r5, r6, r7, r8⟩ := r
  exact ⟨r1, r2, r3, r5, r6, r7, r8⟩
def mx (a b : Nat) : Nat := if a < b then b else a
theorem mx_X {a b : Nat} (ha : a ≤ 3) (hb : b ≤ 3) : (if nI a < nI b then nI b else nI a) = nI (mx a b) := by
  unfold mx
  by_cases q : a < b
  · rw [if_pos q, if_pos ((nI_ltI (by omega) (by omega)).mpr q)]
  · rw [if_neg q, if_neg (fun z => q ((nI_ltI (by omega) (by omega)).mp z))]
theorem mx_1 {a b : Nat} (h : a ≤ b) : mx a b = b := by
  unfold mx
  by_cases q : a < b
  · rw [if_pos q]
  · rw [if_neg q]; omega
theorem mx_2 {a b : Nat} (h : ¬ a ≤ b) : mx a b = a := if_neg (by omega)
theorem mx_le (a b : Nat) : a ≤ mx a b ∧ b ≤ mx a b := by
  unfold mx
  by_cases q : a < b
  · rw [if_pos q]; omega
  · rw [if_neg q]; omega
theorem mx_3 {a b : Nat} (ha : a ≤ 3) (hb : b ≤ 3) : mx a b ≤ 3 := by
  unfold mx
  by_cases q : a < b
  · rw [if_pos q]; omega
  · rw [if_neg q]; omega
theorem op_weld {P : PD} {n : Nat} {df : Nat → Nat × Nat × Nat} {d hp : Nat} {S : XSt} {T : MSt} {p x : Int32} {o : Nat → Int64} {F : Int32 → LSt → Prop} {FIN : Int32 → Int32 → LSt → MSt → Prop} (h : Rel P n df d hp S T) (hF : ∀ r O, wp_M_weld (fun b U => FIN r b O U) p x T → F r O) (hA : ∀ r b O U, Agree r b.toInt64 O U → FIN r b O U) : wp_L_weld F p x (o, S) := by
  have hn := h.1
  have c1 := h.2.2.1
  have c2 := h.2.2.2.1
  have hrow := h.2.2.2.2.2.2.2.2.2.1
  have bad1 : ¬ (qz n p ∧ qz n x ∧ ¬ p = x) → wp_M_weld (fun b U => FIN 1 b (o, S) U) p x T := by
    intro q
    have a129 : ∀ u4 t0, wpJ_M_weld_129 (fun b U => FIN 1 b (o, S) U) p x T u4 t0 1 := fun u4 t0 => ⟨fun _ => thrA h hA (thc1 _ _ _) (by decide), fun _ => ⟨fun _ => thrA h hA (thc1 _ _ _) (by decide), fun _ => thrA h hA (thc1 _ _ _) (by decide)⟩⟩
    have bad : wpJ_M_weld_21 (fun b U => FIN 1 b (o, S) U) p x T := ⟨fun e => absurd e (by decide), fun _ => ahE h ⟨fun _ => a129 _ _, fun e => absurd rfl e⟩ ⟨fun e => absurd e (by decide), fun _ => ahE h ⟨fun _ => a129 _ _, fun e => absurd rfl e⟩ ⟨fun e => absurd e (by decide), fun _ => a129 _ _⟩⟩⟩
    exact r_MisPiece hn c2 (fun q1 => ⟨fun e => absurd e (by decide), fun _ => r_MisPiece hn c2 (fun q2 => ⟨fun e => absurd e (by decide), fun _ => ⟨fun _ => bad, fun q3 => absurd ⟨q1, q2, q3⟩ q⟩⟩) (fun _ => ⟨fun _ => bad, fun e => absurd rfl e⟩)⟩) (fun _ => ⟨fun _ => bad, fun e => absurd rfl e⟩)
  unfold wp_L_weld wp_X_weld
  refine r_needPiece (fun hz1 => ?_) (fun hz => Or.inl ⟨rfl, hF _ _ (bad1 (fun q => hz ((pz_qz c1).mpr q.1)))⟩)
  refine r_needPiece (fun hz2 => ⟨fun e => Or.inl ⟨rfl, hF _ _ (bad1 (fun q => q.2.2 e))⟩, fun hne => ?_⟩) (fun hz => Or.inl ⟨rfl, hF _ _ (bad1 (fun q => hz ((pz_qz c1).mpr q.2.1)))⟩)
  clear bad1
  obtain ⟨i, hi, rfl⟩ := qz_of hn ((pz_qz c1).mp hz1)
  obtain ⟨k, hk, rfl⟩ := qz_of hn ((pz_qz c1).mp hz2)
  have hik : ¬ i = k := fun e => hne (by rw [e])
  have hp1 := qz_in hn hi
  have hp2 := qz_in hn hk
  have ei : (nI i).toNatClampNeg = i := nI_clamp (by omega)
  have ek : (nI k).toNatClampNeg = k := nI_clamp (by omega)
  obtain ⟨rX, rM, rP, r9⟩ := hrow i hi
  obtain ⟨x1, x2, x3, x4, x5, x6, x7, x8, x9⟩ := rX
  obtain ⟨m1, m2, m3, m4, m5, m6, m7, m8, m9, m10⟩ := rM
  obtain ⟨rX', rM', rP', r9'⟩ := hrow k hk
  obtain ⟨y1, y2, y3, y4, y5, y6, y7, y8, y9⟩ := rX'
  obtain ⟨l1, l2, l3, l4, l5, l6, l7, l8, l9, l10⟩ := rM'
  have pl0 : 1 ≤ P 1 i := rP.2.1
  have pl1 : P 1 i ≤ 1000000000 := rP.2.2.1
  have pr : P 7 i ≤ 3 := rP.2.2.2.1
  have ql0 : 1 ≤ P 1 k := rP'.2.1
  have ql1 : P 1 k ≤ 1000000000 := rP'.2.2.1
  have qr : P 7 k ≤ 3 := rP'.2.2.2.1
  have enter : ∀ {K : Int32 → MSt → Prop}, wpJ_M_weld_26 K (nI i) (nI k) T 0 → wp_M_weld K (nI i) (nI k) T := fun q => mp1 h hi ⟨fun e => absurd e (by decide), fun _ => mp1 h hk ⟨fun e => absurd e (by decide), fun _ => ⟨fun e => absurd e hne, fun _ => q⟩⟩⟩
  have bad2 : ¬ (P 9 i = 0 ∧ P 9 k = 0) → wp_M_weld (fun b U => FIN 2 b (o, S) U) (nI i) (nI k) T := by
    intro q
    have a129 : ∀ u4, wpJ_M_weld_129 (fun b U => FIN 2 b (o, S) U) (nI i) (nI k) T u4 1 0 := fun u4 => ⟨fun _ => thrA h hA (thc2 _ _) (by decide), fun _ => ⟨fun _ => thrA h hA (thc2 _ _) (by decide), fun _ => thrA h hA (thc2 _ _) (by decide)⟩⟩
    refine enter (weld_go hp1 hp2 (fun t0 => ?_))
    by_cases q1 : P 9 i = 0
    · exact ah2 h hi q1 ⟨fun e => absurd e (by decide), fun _ => ah1 h hk (fun q2 => q ⟨q1, q2⟩) ⟨fun _ => a129 _, fun e => absurd rfl e⟩⟩
    · exact ah1 h hi q1 ⟨fun _ => a129 _, fun e => absurd rfl e⟩
  refine r_needFree hp1 (fun a => ?_) (fun a => Or.inr (Or.inl ⟨rfl, hF _ _ (bad2 (fun q => a (by rw [ei, x9, q.1]; rfl)))⟩))
  refine r_needFree hp2 (fun a' => ?_) (fun a' => Or.inr (Or.inl ⟨rfl, hF _ _ (bad2 (fun q => a' (by rw [ek, y9, q.2]; rfl)))⟩))
  clear bad2
  rw [ei, x9, i0 r9] at a
  rw [ek, y9, i0 r9'] at a'
  have pw := Rel_w h hi a
  have qw := Rel_w h hk a'
  have go104 : ∀ {K : Int32 → MSt → Prop} {t0 : Int32}, wpJ_M_weld_129 K (nI i) (nI k) T t0 0 0 → wpJ_M_weld_104 K (nI i) (nI k) T 0 t0 := fun q => ah2 h hi a ⟨fun e => absurd e (by decide), fun _ => ah2 h hk a' ⟨fun e => absurd e (by decide), fun _ => q⟩⟩
  have bad3 : (n = 40 ∨ ¬ P 1 i + P 1 k ≤ 1000000000) → wp_M_weld (fun b U => FIN 3 b (o, S) U) (nI i) (nI k) T := by
    intro q
    refine enter (weld_len (by omega) (by omega) m8 l8 m2 l2 pw qw pl1 ql1 (fun z => go104 ?_) (fun z => go104 ?_))
    · exact ⟨fun _ => thrA h hA (thc3 _) (by decide), fun e => absurd (by rw [c2]; exact (e40 hn).mpr (by omega)) e⟩
    · exact ⟨fun _ => thrA h hA (thc3 _) (by decide), fun _ => ⟨fun e => absurd e (by decide), fun _ => thrA h hA (thc3 _) (by decide)⟩⟩
  refine r_needRoom (fun a3 => ?_) (fun a3 => Or.inr (Or.inr ⟨rfl, hF _ _ (bad3 (Or.inl ?_))⟩))
  rotate_left
  · rw [c1] at a3
    have h10 : ¬ n + 1 ≤ 40 := fun q => a3 ((i40 hn 1 (by omega)).mpr q)
    omega
  rw [c1] at a3
  have hn1 : n + 1 ≤ 40 := (i40 hn 1 (by omega)).mp a3
  refine ⟨hp1, hp2, fun v3 e3 => ⟨hp1, hp2, fun v5 e5 => ?_⟩⟩
  rw [ei, ek, x8, y8, nI_l (by omega), nI_l (by omega), lN_add] at e3
  rw [ei, ek, x2, y2, nI_l (by omega), nI_l (by omega), lN_add] at e5
  subst e3
  subst e5
  have hw9 : (1000000000 : Int64) < lN (P 8 i + P 8 k) ↔ 1000000000 < P 8 i + P 8 k := pk_lLT (a := 1000000000) (by decide) (by omega)
  have hl9 : lN (P 1 i + P 1 k) ≤ (1000000000 : Int64) ↔ P 1 i + P 1 k ≤ 1000000000 := pk_lLE (b := 1000000000) (by omega) (by decide)
  rw [hw9, hl9, lN_i, lN_i]
  refine ⟨fun z => absurd z (by omega), fun _ => ⟨fun z2 => ⟨hp1, fun S16 e16 => ⟨hp2, fun S18 e18 => ?_⟩⟩, fun z => Or.inr (Or.inr ⟨rfl, hF _ _ (bad3 (Or.inr z))⟩)⟩⟩
  clear bad3
  have p18 : xpc S18 = nI n := by
    have f := xESt e16
    have f2 := xESt e18
    simp only [f2, f, c1]
  have fr16 : xFr S S16 n (fun j => j = i) := xSt_fr e16 (by omega)
  have fr18' : xFr S16 S18 n (fun j => j = k) := xSt_fr e18 (by omega)
  have fr18 : xFr S S18 n (fun j => j = i ∨ j = k) := xFr_tr fr16 fr18'
  refine r_addPiece (by rw [p18]; exact M40 (by omega)) (fun _ => hp1) (fun S19 h19 => ?_)
  obtain ⟨fr19, p19, row19⟩ := xAdd_fr h19 p18 (by omega)
  have ro18 : xRo S18 i = nI (P 7 i) := by rw [(fr18.1 i hi).2.2.2.2.2.2.2.1, x7]
  rw [if_neg (nI_m1 (by omega)), ei, ro18] at row19
  rw [p18]
  refine ⟨M40 (by omega), fun S22 e22 => ⟨hp1, M40 (by omega), fun S25 e25 => ⟨hp1, hp2, M40 (by omega), fun S29 e29 => ⟨in01, fun O eO => hF _ _ (enter (weld_len (by omega) (by omega) m8 l8 m2 l2 pw qw pl1 ql1 (fun _ => go104 ⟨fun e => absurd ((e40 hn).mp (by rw [← c2]; exact e)) (by omega), fun _ => ⟨fun _ => r_thr0 (fun U0 hU0 => ⟨fun _ => ⟨hp1, hp2, hp1, hp2, ?_⟩, fun e => absurd rfl e⟩), fun e => absurd rfl e⟩⟩) (fun z => absurd z2 z)))⟩⟩⟩⟩
  have fr22 : xFr S19 S22 n noU := xSe_fr e22 (by omega) (by omega)
  have fr25 : xFr S22 S25 n noU := xSm_fr e25 (by omega) (by omega)
  have fr29 : xFr S25 S29 n noU := xRo_fr e29 (by omega) (by omega)
  have fr22' : xFr S S22 n (fun j => j = i ∨ j = k) := xFr_no (xFr_no fr18 fr19) fr22
  have fr25' : xFr S S25 n (fun j => j = i ∨ j = k) := xFr_no fr22' fr25
  have frX : xFr S S29 n (fun j => j = i ∨ j = k) := xFr_no fr25' fr29
  rw [ei, (fr22'.1 i hi).2.1, x2] at e25
  rw [ei, ek, (fr25'.1 i hi).2.2.2.2.2.2.2.1, (fr25'.1 k hk).2.2.2.2.2.2.2.1, x7, y7, mx_X pr qr] at e29
  have pX : xpc S29 = nI (n + 1) := by
    have f1 := xESe e22
    have f2 := xESm e25
    have f3 := xERo e29
    simp only [f3, f2, f1, p19]
  have en : (nI n).toNatClampNeg = n := nI_clamp (by omega)
  have rowA := xRow_ro (by omega) e29 (xRow_sm e25 (xRow_se (by omega) e22 row19))
  have smA : xSm S29 n = nI (P 1 i) := by
    have f2 := xESm e25
    have f3 := xERo e29
    simp only [f3, f2]
    rw [en, pk_us]
  have g := out_put eO
  have hR := Rel_th h hU0
  have d2 := hR.2.2.2.1
  obtain ⟨t1, t2, t3, t4, t5, t6, t7, t8, t9, t10⟩ := (hR.2.2.2.2.2.2.2.2.2.1 i hi).2.1
  obtain ⟨s1, s2, s3, s4, s5, s6, s7, s8, s9, s10⟩ := (hR.2.2.2.2.2.2.2.2.2.1 k hk).2.1
  rw [ei, ek, t8, s8, t2, s2, nI_add, nI_add]
  refine r_add (by rw [d2]; exact M40 (by omega)) (fun _ => hp1) (fun U1 k1 => ?_)
  obtain ⟨gr1, d1, mr1⟩ := mAdd_fr k1 d2 (by omega) hi
  rw [t7] at mr1
  rw [d2]
  refine ⟨M40 (by omega), fun U2 k2 => ⟨hp2, fun U3 k3 => ⟨hp1, hp2, ?_⟩⟩⟩
  have gr2 : mFr U1 U2 n noU := mOt_fr k2 (by omega) (by omega)
  have gr3 : mFr U2 U3 (n + 1) (fun j => j = k) := mSt_fr k3 (by omega)
  have gr3' : mFr U0 U3 n (fun j => j = i ∨ j = k) := mFr_tr (mFr_no gr1 gr2) (mFr_le gr3 (by omega))
  have mr3 := mRow_fr gr3 (by omega) (show ¬ n = k by omega) (mRow_ot (by omega) k2 mr1)
  have pM3 : mpc U3 = nI (n + 1) := by
    have f1 := mEOt k2
    have f2 := mESt k3
    simp only [f2, f1, d1]
  have fin : ∀ U4, U4 = muRo U3 (nI n) (nI (mx (P 7 i) (P 7 k))) → FIN 0 (nI n) O U4 := by
    intro U4 k4
    refine hA _ _ _ _ ?_
    have gr4 : mFr U3 U4 n noU := mRo_fr k4 (by omega) (by omega)
    have frM : mFr U0 U4 n (fun j => j = i ∨ j = k) := mFr_no gr3' gr4
    have pM : mpc U4 = nI (n + 1) := by
      have f3 := mERo k4
      simp only [f3, pM3]
    have rowC := mRow_ro (by omega) k4 mr3
    refine ⟨?_, fun _ => g.1, ?_⟩
    · rw [frM.2.2.2.2.2.2.2.2]
      exact mTh_th hU0
    rw [g.2]
    obtain ⟨Q, g1, g2, g3, g4⟩ := grow_ex P n (fun j => j = i ∨ j = k) (fun _ => vv 3 (P 1 i + P 1 k) i k (P 1 i) 0 0 (mx (P 7 i) (P 7 k)) (P 8 i + P 8 k))
    have gA : ∀ f, Q f n = vv 3 (P 1 i + P 1 k) i k (P 1 i) 0 0 (mx (P 7 i) (P 7 k)) (P 8 i + P 8 k) f := fun f => g4 f n (Nat.le_refl _)
    have Qi1 : Q 1 i = P 1 i := g1 1 i (by decide) hi
    have Qi7 : Q 7 i = P 7 i := g1 7 i (by decide) hi
    have Qk1 : Q 1 k = P 1 k := g1 1 k (by decide) hk
    have Qk7 : Q 7 k = P 7 k := g1 7 k (by decide) hk
    refine ⟨Q, n + 1, df, d, hp, Rel_make (us := fun j => j = i ∨ j = k) hR (by omega) hn1 g1 (fun j _ e => by rcases e with e | e <;> rw [e] <;> assumption) g2 g3 frX frM pX pM (fun j hj1 hj2 => ?_) ?_⟩
    · have hj : j = n := by omega
      subst hj
      refine ⟨XR_mk rowA gA rfl rfl rfl rfl (fun _ => smA) (fun e => absurd (show (3 : Nat) = 4 from e) (by decide)) rfl rfl rfl, MR_mk rowC gA rfl rfl rfl rfl (fun e => absurd (show (3 : Nat) = 1 ∨ (3 : Nat) = 2 from e) (by decide)) (fun e => absurd (show (3 : Nat) = 4 from e) (by decide)) rfl rfl rfl, ?_, by rw [gA]; exact Nat.zero_le 3⟩
      refine PI_vv gA ?_
      rw [Qi1, Qi7, Qk1, Qk7]
      exact ⟨by omega, by omega, by omega, mx_3 pr qr, fun _ => hi, fun z => absurd z (by decide), fun z => absurd z (by decide), fun z => absurd z (by decide), fun _ => ⟨hk, rfl, rfl, (mx_le _ _).1, (mx_le _ _).2⟩, fun z => absurd z (by decide), fun z => absurd z (by decide)⟩
    · have hu1 := lsum_used (P := P) (Q := pSet P i 1) n hi (Or.inl a) (by rw [pSet_9]; omega) (fun j hj hne => ⟨pSet_f (by decide), pSet_j hne⟩)
      have hu2 := lsum_used (P := pSet P i 1) (Q := Q) n hk (Or.inl (by rw [pSet_j (fun e => hik e.symm)]; exact a')) (by rw [g2 k hk (Or.inr rfl)]; omega) (fun j hj hne => ⟨by rw [pSet_f (by decide)]; exact g1 8 j (by decide) hj, by
        by_cases q : j = i
        · rw [q, pSet_9]; exact g2 i hi (Or.inl rfl)
        · rw [pSet_j q]; exact g3 j hj (fun z => z.elim q hne)⟩)
      rw [pSet_f (by decide)] at hu2
      have l1 : lsum Q (n + 1) = lsum Q n + (P 8 i + P 8 k) := by
        rw [lsum, gA, gA]; rfl
      omega
  rw [(gr3'.1 i hi).2.2.2.2.2.2.2.1, (gr3'.1 k hk).2.2.2.2.2.2.2.1, t7, s7, nI_leI (by omega) (by omega)]
  refine ⟨fun z => ⟨hp2, M40 (by omega), fun U4 k4 => fin U4 (by rw [mx_1 z]; exact k4)⟩, fun z => ⟨hp1, M40 (by omega), fun U4 k4 => fin U4 (by rw [mx_2 z]; exact k4)⟩⟩

