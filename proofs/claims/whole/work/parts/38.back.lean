/-! THE WALK BACK: origin, defect -/
theorem xSp_refl {S : XSt} {x y : Int64} (h1 : xup S = x) (h2 : xlo S = y) : xSp S S x y := ⟨rfl, rfl, rfl, rfl, rfl, rfl, rfl, rfl, rfl, rfl, rfl, rfl, rfl, rfl, rfl, rfl, rfl, rfl, rfl, h1, h2⟩
theorem xSp_tr {S T U : XSt} {a b x y : Int64} (h : xSp S T a b) (g : xSp T U x y) : xSp S U x y := by
  unfold xSp at *
  obtain ⟨h1, h2, h3, h4, h5, h6, h7, h8, h9, h10, h11, h12, h13, h14, h15, h16, h17, h18, h19, -, -⟩ := h
  rw [h1, h2, h3, h4, h5, h6, h7, h8, h9, h10, h11, h12, h13, h14, h15, h16, h17, h18, h19] at g
  exact g
theorem XR_xsp {P : PD} {i : Nat} {S T : XSt} {x y : Int64} (h : xSp S T x y) (r : XR P i S) : XR P i T := by
  obtain ⟨h1, h2, h3, h4, h5, h6, h7, h8, h9, h10, -⟩ := h
  unfold XR
  rw [h1, h2, h3, h4, h5, h6, h7, h8, h9, h10]
  exact r
/-- the reference: the same but for up, low, melt -/
def mSp (S T : MSt) (x y : Int64) : Prop := mKi T = mKi S ∧ mWe T = mWe S ∧ mLe T = mLe S ∧ mSt T = mSt S ∧ mHe T = mHe S ∧ mOf T = mOf S ∧ mOt T = mOt S ∧ mCu T = mCu S ∧ mOv T = mOv S ∧ mUn T = mUn S ∧ mRo T = mRo S ∧ mDM T = mDM S ∧ mDU T = mDU S ∧ mDL T = mDL S ∧ mFU T = mFU S ∧ mFL T = mFL S ∧ mth T = mth S ∧ mpc T = mpc S ∧ mhp T = mhp S ∧ mml T = mml S ∧ mdc T = mdc S ∧ mup T = x ∧ mlo T = y
theorem mSp_refl {S : MSt} {x y : Int64} (h1 : mup S = x) (h2 : mlo S = y) : mSp S S x y := ⟨rfl, rfl, rfl, rfl, rfl, rfl, rfl, rfl, rfl, rfl, rfl, rfl, rfl, rfl, rfl, rfl, rfl, rfl, rfl, rfl, rfl, h1, h2⟩
theorem mSp_tr {S T U : MSt} {a b x y : Int64} (h : mSp S T a b) (g : mSp T U x y) : mSp S U x y := by
  unfold mSp at *
  obtain ⟨h1, h2, h3, h4, h5, h6, h7, h8, h9, h10, h11, h12, h13, h14, h15, h16, h17, h18, h19, h20, h21, -, -⟩ := h
  rw [h1, h2, h3, h4, h5, h6, h7, h8, h9, h10, h11, h12, h13, h14, h15, h16, h17, h18, h19, h20, h21] at g
  exact g
theorem MR_msp {P : PD} {i : Nat} {S T : MSt} {x y : Int64} (h : mSp S T x y) (r : MR P i S) : MR P i T := by
  obtain ⟨h1, h2, h3, h4, h5, h6, h7, h8, h9, h10, h11, -⟩ := h
  unfold MR
  rw [h1, h2, h3, h4, h5, h6, h7, h8, h9, h10, h11]
  exact r
theorem mSp_up {S T : MSt} {x : Int64} (e : T = msup S x) : mSp S T x (mlo S) := by
  have f := mEup e
  simp only [mSp, f, and_self]
theorem mSp_lo {S T : MSt} {x : Int64} (e : T = mslo S x) : mSp S T (mup S) x := by
  have f := mElo e
  simp only [mSp, f, and_self]
theorem mSp_me {S T : MSt} {x : Int32} (e : T = msme S x) : mSp S T (mup S) (mlo S) ∧ mme T = x := by
  have f := mEme e
  simp only [mSp, f, and_self]
theorem mSp_upq {S T : MSt} {x y : Int64} (h : mSp S T x y) : mup T = x ∧ mlo T = y := ⟨h.2.2.2.2.2.2.2.2.2.2.2.2.2.2.2.2.2.2.2.2.2.1, h.2.2.2.2.2.2.2.2.2.2.2.2.2.2.2.2.2.2.2.2.2.2⟩
theorem xSp_upq {S T : XSt} {x y : Int64} (h : xSp S T x y) : xup T = x ∧ xlo T = y := ⟨h.2.2.2.2.2.2.2.2.2.2.2.2.2.2.2.2.2.2.2.1, h.2.2.2.2.2.2.2.2.2.2.2.2.2.2.2.2.2.2.2.2⟩
theorem xSp_pc {S T : XSt} {x y : Int64} (h : xSp S T x y) : xpc T = xpc S := h.2.2.2.2.2.2.2.2.2.2.2.2.2.2.2.1
/-- lowest(): the fraction in lowest terms -/
theorem lowL {post : MSt → Prop} {S : MSt} {u w g : Nat} (hup : mup S = lN u) (hlo : mlo S = lN w) (hu : u < 2 ^ 63) (hw : w < 2 ^ 63) (hg : 0 < g) (hg2 : g < 2 ^ 63) (h : ∀ T, mSp S T (lN (u / g)) (lN (w / g)) → post T) : ∀ f x y : Nat, y < f → x < 2 ^ 63 → y < 2 ^ 63 → Nat.gcd x y = g → wpL_M_lowest_10 post f S (lN x) (lN y)
  | 0, _, _, hy, _, _, _ => absurd hy (by omega)
  | f + 1, x, y, hf, hx, hy, e => by
    have ez : lN y ≤ 0 ↔ y ≤ 0 := pk_lLE (b := 0) hy (by decide)
    refine ⟨fun z => ?_, fun z => ?_⟩
    · have y0 : y = 0 := by
        have := ez.mp z
        omega
      subst y0
      rw [Nat.gcd_zero_right] at e
      subst e
      refine ⟨lNz hg hx, fun S3 e3 => ⟨lNz hg hx, fun S5 e5 => h S5 ?_⟩⟩
      have q3 := mSp_up e3
      have q5 := mSp_tr q3 (mSp_lo e5)
      rw [(mSp_upq q3).1, (mSp_upq q3).2, hup, hlo, pk_lDiv hu hg hx, pk_lDiv hw hg hx] at q5
      exact q5
    · have y0 : 0 < y := by
        have h1 : ¬ y ≤ 0 := fun q => z (ez.mpr q)
        omega
      refine ⟨lNz y0 hy, fun v ev => ?_⟩
      rw [ev, pk_lRem hx y0 hy]
      have hr := Nat.mod_lt x y0
      refine lowL hup hlo hu hw hg hg2 h f y (x % y) (by omega) hy (by omega) ?_
      rw [← e, Nat.gcd_comm y (x % y), ← Nat.gcd_rec, Nat.gcd_comm]
theorem r_lowest {post : MSt → Prop} {S : MSt} {u w : Nat} (hup : mup S = lN u) (hlo : mlo S = lN w) (hu : u < 2 ^ 63) (hw : w < 2 ^ 63) (hw0 : 0 < w) (h : ∀ T, mSp S T (lN (red u w).1) (lN (red u w).2) → post T) : wp_M_lowest post S := by
  intro v1 e1 v3 e3
  rw [e1, e3, hup, hlo]
  have g0 : 0 < Nat.gcd u w := Nat.gcd_pos_of_pos_right _ hw0
  have g1 : Nat.gcd u w ≤ w := Nat.gcd_le_right _ hw0
  exact ⟨w + 1, lowL hup hlo hu hw g0 (by omega) h (w + 1) u w (by omega) hu hw rfl⟩
theorem red_1 {u w : Nat} (h : Nat.gcd u w = 1) : (red u w).1 = u ∧ (red u w).2 = w := by
  unfold red
  rw [h, Nat.div_one, Nat.div_one]
  exact ⟨rfl, rfl⟩
theorem low1 {post : MSt → Prop} {S T : MSt} {u w : Nat} (hg : Nat.gcd u w = 1) (hT : mSp S T (lN u) (lN w)) (hu : u < 2 ^ 63) (hw : w < 2 ^ 63) (hw0 : 0 < w) (h : ∀ V, mSp S V (lN u) (lN w) → post V) : wp_M_lowest post T := by
  refine r_lowest (mSp_upq hT).1 (mSp_upq hT).2 hu hw hw0 (fun V hV => ?_)
  rw [(red_1 hg).1, (red_1 hg).2] at hV
  exact h V (mSp_tr hT hV)
/-- what holds of a place on the way back -/
def BI (P : PD) (i u w : Nat) : Prop := Nat.gcd u w = 1 ∧ 0 < w ∧ w * 20 ^ P 7 i ≤ 8000 ∧ u < P 1 i * w
theorem pow20 {a b : Nat} (h : a ≤ b) : 20 ^ a ≤ 20 ^ b := Nat.pow_le_pow_right (by decide) h
theorem BI_bd {P : PD} {i u w : Nat} (h : BI P i u w) (hl : P 1 i ≤ 1000000000) : w ≤ 8000 ∧ u < 8000000000000 := by
  obtain ⟨h1, h2, h3, h4⟩ := h
  have h5 : 1 ≤ 20 ^ P 7 i := Nat.one_le_pow _ _ (by decide)
  have h6 : w * 1 ≤ w * 20 ^ P 7 i := Nat.mul_le_mul_left w h5
  have h7 : w ≤ 8000 := by omega
  have h8 : P 1 i * w ≤ 1000000000 * 8000 := Nat.mul_le_mul hl h7
  omega
theorem neg_mv {u a w : Nat} (ha : a ≤ 1000000000) (h : a * w ≤ u) : lN u + (-(nI a)).toInt64 * lN w = lN (u - a * w) := by
  have h1 : nI a ≠ -2147483648 := fun e => by
    have h2 := nI_pos (n := a) (by omega)
    rw [e] at h2
    exact h2 (by decide)
  rw [Int32.toInt64_neg_of_ne h1, nI_l (by omega), Int64.neg_mul, lN_mul, ← Int64.sub_eq_add_neg, lN_sub h]
/-- the place in a source of a rolled piece -/
theorem red_BI {P : PD} {i s u w : Nat} {a b : Nat} (hB : BI P i u w) (ha1 : 1 ≤ a) (ha2 : a ≤ 20) (hb1 : 1 ≤ b) (hl : P 1 i = P 1 s * a / b) (hr : P 7 i = P 7 s + 1) : BI P s (red (u * b) (w * a)).1 (red (u * b) (w * a)).2 := by
  obtain ⟨h1, h2, h3, h4⟩ := hB
  have hwa : 0 < w * a := Nat.mul_pos h2 ha1
  have g0 : 0 < Nat.gcd (u * b) (w * a) := Nat.gcd_pos_of_pos_right _ hwa
  have d1 : Nat.gcd (u * b) (w * a) ∣ u * b := Nat.gcd_dvd_left _ _
  have d2 : Nat.gcd (u * b) (w * a) ∣ w * a := Nat.gcd_dvd_right _ _
  unfold red
  have co := Nat.coprime_div_gcd_div_gcd g0
  generalize Nat.gcd (u * b) (w * a) = g at *
  obtain ⟨p, hp⟩ := d1
  obtain ⟨q, hq⟩ := d2
  rw [hp, hq, Nat.mul_div_cancel_left _ g0, Nat.mul_div_cancel_left _ g0] at co ⊢
  have q0 : 0 < q := by
    rcases Nat.eq_zero_or_pos q with z | z
    · rw [z, Nat.mul_zero] at hq
      omega
    · exact z
  refine ⟨co, q0, ?_, ?_⟩
  · have e1 : q ≤ w * a := by
      rw [hq]
      exact Nat.le_mul_of_pos_left q g0
    have e2 : q * 20 ^ P 7 s ≤ w * a * 20 ^ P 7 s := Nat.mul_le_mul_right _ e1
    have e3 : w * a * 20 ^ P 7 s ≤ w * 20 * 20 ^ P 7 s := Nat.mul_le_mul_right _ (Nat.mul_le_mul_left w ha2)
    rw [hr, Nat.pow_succ] at h3
    have e4 : w * 20 * 20 ^ P 7 s = w * (20 ^ P 7 s * 20) := by
      rw [Nat.mul_assoc, Nat.mul_comm 20]
    show q * 20 ^ P 7 s ≤ 8000
    omega
  · have e1 : P 1 i * b ≤ P 1 s * a := by
      rw [hl]
      exact Nat.div_mul_le_self _ _
    have e2 : u * b < P 1 i * w * b := Nat.mul_lt_mul_of_pos_right h4 hb1
    have e3 : P 1 i * b * w ≤ P 1 s * a * w := Nat.mul_le_mul_right w e1
    have e4 : P 1 i * w * b = P 1 i * b * w := Nat.mul_right_comm _ _ _
    have e5 : P 1 s * a * w = g * (P 1 s * q) := by
      rw [Nat.mul_assoc, Nat.mul_comm a w, hq, Nat.mul_left_comm]
    rw [hp] at e2
    have e6 : g * p < g * (P 1 s * q) := by omega
    exact Nat.lt_of_mul_lt_mul_left e6
def CX (P : PD) (n : Nat) (S : XSt) (u w : Nat) : Prop := (∀ j, j < n → XR P j S) ∧ xpc S = nI n ∧ xup S = lN u ∧ xlo S = lN w
def CM (P : PD) (n : Nat) (T : MSt) (u w : Nat) : Prop := (∀ j, j < n → MR P j T) ∧ mup T = lN u ∧ mlo T = lN w
/-- one step back, on both sides -/
theorem bstep {P : PD} {n i u w : Nat} (hn : n ≤ 40) (hi : i < n) (hPI : ∀ j, j < n → PI P j) (hB : BI P i u w) (hk : P 0 i ≠ 0) : ∃ s u1 w1, s < i ∧ BI P s u1 w1 ∧ (∀ (S : XSt) (post : Int32 → XSt → Prop), CX P n S u w → (∀ T, xSp S T (lN u1) (lN w1) → post (nI s) T) → wp_X_stepBack post (nI i) S) ∧ (∀ (T : MSt) (post : MSt → Prop) (p0 p1 : Int32) (K : MSt → Int32 → Prop), CM P n T u w → (∀ T', mSp T T' (lN u1) (lN w1) → K T' (nI s)) → wpB_M_goBack_13 post p0 p1 K T (nI i)) := by
  have hp := qz_in hn hi
  have ec : (nI i).toNatClampNeg = i := nI_clamp (by omega)
  have hPi := hPI i hi
  obtain ⟨a0, a1, a2, a3, a4, a5, a6, a7, a8, a9, a10⟩ := hPi
  have hs := a4 hk
  obtain ⟨bw, bu⟩ := BI_bd hB a2
  obtain ⟨h1, h2, h3, h4⟩ := hB
  have es : (nI (P 2 i)).toNatClampNeg = P 2 i := nI_clamp (by omega)
  have hps : vp_in (nI (P 2 i)) 40 := M40 (by omega)
  have hk6 : P 0 i = 1 ∨ P 0 i = 5 ∨ P 0 i = 2 ∨ P 0 i = 4 ∨ P 0 i = 3 := by omega
  have ls : P 1 (P 2 i) ≤ 1000000000 := (hPI (P 2 i) (by omega)).2.2.1
  rcases hk6 with hc | hc | hc | hc | hc
  · obtain ⟨b1, b2, b3⟩ := a6 hc
    refine ⟨P 2 i, u, w, hs, ⟨h1, h2, by rw [← b3]; exact h3, Nat.lt_of_lt_of_le h4 (Nat.mul_le_mul_right w (by omega))⟩, fun S post hX hK => ?_, fun T post p0 p1 K hM hK => ?_⟩
    · obtain ⟨x1, x2, x3, x4, x5, x6, x7, x8, x9⟩ := hX.1 i hi
      refine ⟨hp, fun k2 e2 => ?_⟩
      rw [ec, x1, hc] at e2
      subst e2
      refine ⟨fun e => absurd e (by decide), fun _ => ⟨fun e => absurd e (by decide), fun _ => ⟨fun e => absurd e (by decide), fun _ => ⟨hp, ?_⟩⟩⟩⟩
      rw [ec, x3, hc, if_neg (by decide)]
      exact hK S (xSp_refl hX.2.2.1 hX.2.2.2)
    · obtain ⟨m1, m2, m3, m4, m5, m6, m7, m8, m9, m10⟩ := hM.1 i hi
      refine ⟨hp, ?_⟩
      rw [ec, m1, m3, hc, if_neg (by decide)]
      refine ⟨fun e => absurd e (by decide), fun _ => ⟨hp, fun v ev => ⟨hp, fun e => absurd e (by decide), fun _ => ⟨hp, ?_⟩⟩⟩⟩
      subst ev
      rw [ec, m1, hc]
      refine ⟨fun e => absurd e (by decide), fun _ => ⟨hp, ?_⟩⟩
      rw [ec, m1, hc]
      refine ⟨fun e => absurd e (by decide), fun _ => low1 h1 (mSp_refl hM.2.1 hM.2.2) (by omega) (by omega) h2 hK⟩
  · obtain ⟨b1, b3⟩ := a10 hc
    refine ⟨P 2 i, u, w, hs, ⟨h1, h2, by rw [← b3]; exact h3, by rw [← b1]; exact h4⟩, fun S post hX hK => ?_, fun T post p0 p1 K hM hK => ?_⟩
    · obtain ⟨x1, x2, x3, x4, x5, x6, x7, x8, x9⟩ := hX.1 i hi
      refine ⟨hp, fun k2 e2 => ?_⟩
      rw [ec, x1, hc] at e2
      subst e2
      refine ⟨fun e => absurd e (by decide), fun _ => ⟨fun e => absurd e (by decide), fun _ => ⟨fun e => absurd e (by decide), fun _ => ⟨hp, ?_⟩⟩⟩⟩
      rw [ec, x3, hc, if_neg (by decide)]
      exact hK S (xSp_refl hX.2.2.1 hX.2.2.2)
    · obtain ⟨m1, m2, m3, m4, m5, m6, m7, m8, m9, m10⟩ := hM.1 i hi
      refine ⟨hp, ?_⟩
      rw [ec, m1, m3, hc, if_neg (by decide)]
      refine ⟨fun e => absurd e (by decide), fun _ => ⟨hp, fun v ev => ⟨hp, fun e => absurd e (by decide), fun _ => ⟨hp, ?_⟩⟩⟩⟩
      subst ev
      rw [ec, m1, hc]
      refine ⟨fun e => absurd e (by decide), fun _ => ⟨hp, ?_⟩⟩
      rw [ec, m1, hc]
      refine ⟨fun e => absurd e (by decide), fun _ => low1 h1 (mSp_refl hM.2.1 hM.2.2) (by omega) (by omega) h2 hK⟩
  · obtain ⟨b1, b2, b3⟩ := a7 hc
    have ub : P 4 i * w ≤ 1000000000 * 8000 := Nat.mul_le_mul (by omega) bw
    have hg : Nat.gcd (u + P 4 i * w) w = 1 := by rw [Nat.gcd_add_mul_right_left]; exact h1
    refine ⟨P 2 i, u + P 4 i * w, w, hs, ⟨hg, h2, by rw [← b3]; exact h3, by rw [← b2, Nat.add_mul]; omega⟩, fun S post hX hK => ?_, fun T post p0 p1 K hM hK => ?_⟩
    · obtain ⟨x1, x2, x3, x4, x5, x6, x7, x8, x9⟩ := hX.1 i hi
      have sm : xSm S i = nI (P 4 i) := x5 (Or.inr (Or.inl hc))
      refine ⟨hp, fun k2 e2 => ?_⟩
      rw [ec, x1, hc] at e2
      subst e2
      refine ⟨fun _ => ⟨hp, r_move (fun V hV => ⟨hp, ?_⟩)⟩, fun e => absurd rfl e⟩
      rw [ec, sm, hX.2.2.1, hX.2.2.2, nI_l (by omega), lN_mul, lN_add] at hV
      rw [ec, (XR_xsp hV (hX.1 i hi)).2.2.1, hc, if_neg (by decide)]
      exact hK V hV
    · obtain ⟨m1, m2, m3, m4, m5, m6, m7, m8, m9, m10⟩ := hM.1 i hi
      have cu : mCu T i = nI (P 4 i) := m5 (Or.inr hc)
      refine ⟨hp, ?_⟩
      rw [ec, m1, m3, hc, if_neg (by decide)]
      refine ⟨fun e => absurd e (by decide), fun _ => ⟨hp, fun v ev => ⟨hp, fun _ => ⟨hp, fun V eV => ⟨hp, ?_⟩⟩, fun e => absurd rfl e⟩⟩⟩
      subst ev
      have sV := mSp_up eV
      rw [cu, hM.2.1, hM.2.2, nI_l (by omega), lN_mul, lN_add] at sV
      have k1 : mKi V i = nI 2 := by rw [(MR_msp sV (hM.1 i hi)).1, hc]
      rw [ec, k1]
      refine ⟨fun e => absurd e (by decide), fun _ => ⟨hp, ?_⟩⟩
      rw [ec, k1]
      exact ⟨fun e => absurd e (by decide), fun _ => low1 hg sV (by omega) (by omega) h2 hK⟩
  · obtain ⟨b1, b2, b3, b4, b5, b6⟩ := a9 hc
    have hwo : 0 < w * P 5 i := Nat.mul_pos h2 b1
    have ub : u * P 6 i ≤ 8000000000000 * 20 := Nat.mul_le_mul (by omega) b4
    have wb : w * P 5 i ≤ 8000 * 20 := Nat.mul_le_mul bw b2
    refine ⟨P 2 i, (red (u * P 6 i) (w * P 5 i)).1, (red (u * P 6 i) (w * P 5 i)).2, hs, red_BI (i := i) ⟨h1, h2, h3, h4⟩ b1 b2 b3 b5 b6, fun S post hX hK => ?_, fun T post p0 p1 K hM hK => ?_⟩
    · obtain ⟨x1, x2, x3, x4, x5, x6, x7, x8, x9⟩ := hX.1 i hi
      obtain ⟨ru, rl⟩ := x6 hc
      refine ⟨hp, fun k2 e2 => ?_⟩
      rw [ec, x1, hc] at e2
      subst e2
      refine ⟨fun e => absurd e (by decide), fun _ => ⟨fun e => absurd e (by decide), fun _ => ⟨fun _ => ⟨hp, hp, ?_⟩, fun e => absurd rfl e⟩⟩⟩
      rw [ec, ru, rl]
      refine r_stretchN hX.2.2.1 hX.2.2.2 (nI_l (by omega)) (nI_l (by omega)) (by omega) (by omega) hwo (fun V hV => ⟨hp, ?_⟩)
      rw [(XR_xsp hV (hX.1 i hi)).2.2.1, hc, if_neg (by decide)]
      exact hK V hV
    · obtain ⟨m1, m2, m3, m4, m5, m6, m7, m8, m9, m10⟩ := hM.1 i hi
      obtain ⟨ov, un⟩ := m6 hc
      refine ⟨hp, ?_⟩
      rw [ec, m1, m3, hc, if_neg (by decide)]
      refine ⟨fun e => absurd e (by decide), fun _ => ⟨hp, fun v ev => ⟨hp, fun e => absurd e (by decide), fun _ => ⟨hp, ?_⟩⟩⟩⟩
      subst ev
      rw [ec, m1, hc]
      refine ⟨fun _ => ⟨hp, fun V eV => ⟨hp, fun W eW => ⟨hp, ?_⟩⟩⟩, fun e => absurd rfl e⟩
      have sV := mSp_up eV
      rw [un, hM.2.1, hM.2.2, nI_l (by omega), lN_mul] at sV
      have ovV : mOv V i = nI (P 5 i) := ((MR_msp sV (hM.1 i hi)).2.2.2.2.2.1 hc).1
      have sW := mSp_lo eW
      rw [ovV, (mSp_upq sV).1, (mSp_upq sV).2, nI_l (by omega), lN_mul] at sW
      have sT := mSp_tr sV sW
      have k1 : mKi W i = nI 4 := by rw [(MR_msp sT (hM.1 i hi)).1, hc]
      rw [ec, k1]
      exact ⟨fun e => absurd e (by decide), fun _ => r_lowest (mSp_upq sT).1 (mSp_upq sT).2 (by omega) (by omega) hwo (fun Y hY => hK Y (mSp_tr sT hY))⟩
  · obtain ⟨b1, b2, b3, b4, b5⟩ := a8 hc
    have lse : P 1 (P 3 i) ≤ 1000000000 := (hPI (P 3 i) (by omega)).2.2.1
    have ub : P 4 i * w ≤ 1000000000 * 8000 := Nat.mul_le_mul (by omega) bw
    by_cases hlt : u < P 4 i * w
    · refine ⟨P 2 i, u, w, hs, ⟨h1, h2, Nat.le_trans (Nat.mul_le_mul_left w (pow20 b4)) h3, by rw [← b2]; exact hlt⟩, fun S post hX hK => ?_, fun T post p0 p1 K hM hK => ?_⟩
      · obtain ⟨x1, x2, x3, x4, x5, x6, x7, x8, x9⟩ := hX.1 i hi
        have sm : xSm S i = nI (P 4 i) := x5 (Or.inr (Or.inr hc))
        refine ⟨hp, fun k2 e2 => ?_⟩
        rw [ec, x1, hc] at e2
        subst e2
        refine ⟨fun e => absurd e (by decide), fun _ => ⟨fun _ => ⟨hp, r_isBelow (fun z => ?_) (fun z => ⟨fun e => absurd e (by decide), fun _ => ⟨hp, ?_⟩⟩)⟩, fun e => absurd rfl e⟩⟩
        · rw [ec, sm, hX.2.2.1, hX.2.2.2, nI_l (by omega), lN_mul, pk_lLE (by omega) (by omega)] at z
          exact absurd z (by omega)
        · rw [ec, x3, hc, if_neg (by decide)]
          exact hK S (xSp_refl hX.2.2.1 hX.2.2.2)
      · obtain ⟨m1, m2, m3, m4, m5, m6, m7, m8, m9, m10⟩ := hM.1 i hi
        have ml : mLe T (P 2 i) = nI (P 1 (P 2 i)) := (hM.1 (P 2 i) (by omega)).2.1
        refine ⟨hp, ?_⟩
        rw [ec, m1, m3, hc, if_neg (by decide)]
        refine ⟨fun e => absurd e (by decide), fun _ => ⟨hp, fun v ev => ⟨hp, fun e => absurd e (by decide), fun _ => ⟨hp, ?_⟩⟩⟩⟩
        subst ev
        rw [ec, m1, hc]
        refine ⟨fun e => absurd e (by decide), fun _ => ⟨hp, ?_⟩⟩
        rw [ec, m1, hc]
        refine ⟨fun _ => ⟨hps, ?_⟩, fun e => absurd rfl e⟩
        rw [es, ml, ← b2, hM.2.1, hM.2.2, nI_l (by omega), lN_mul, pk_lLT (by omega) (by omega)]
        exact ⟨fun _ => low1 h1 (mSp_refl hM.2.1 hM.2.2) (by omega) (by omega) h2 hK, fun z => absurd hlt z⟩
    · have hge : P 4 i * w ≤ u := by omega
      have hg : Nat.gcd (u - P 4 i * w) w = 1 := by rw [Nat.gcd_sub_mul_right_left hge]; exact h1
      refine ⟨P 3 i, u - P 4 i * w, w, b1, ⟨hg, h2, Nat.le_trans (Nat.mul_le_mul_left w (pow20 b5)) h3, ?_⟩, fun S post hX hK => ?_, fun T post p0 p1 K hM hK => ?_⟩
      · rw [b3, ← b2, Nat.add_mul] at h4
        omega
      · obtain ⟨x1, x2, x3, x4, x5, x6, x7, x8, x9⟩ := hX.1 i hi
        have sm : xSm S i = nI (P 4 i) := x5 (Or.inr (Or.inr hc))
        refine ⟨hp, fun k2 e2 => ?_⟩
        rw [ec, x1, hc] at e2
        subst e2
        refine ⟨fun e => absurd e (by decide), fun _ => ⟨fun _ => ⟨hp, r_isBelow (fun z => ⟨fun _ => ⟨hp, r_move (fun V hV => ⟨hp, ?_⟩)⟩, fun e => absurd rfl e⟩) (fun z => absurd ?_ z)⟩, fun e => absurd rfl e⟩⟩
        · rw [ec, sm, hX.2.2.1, hX.2.2.2, neg_mv (by omega) hge] at hV
          rw [ec, (XR_xsp hV (hX.1 i hi)).2.2.2.1, hc, if_pos rfl]
          exact hK V hV
        · rw [ec, sm, hX.2.2.1, hX.2.2.2, nI_l (by omega), lN_mul, pk_lLE (by omega) (by omega)]
          exact hge
      · obtain ⟨m1, m2, m3, m4, m5, m6, m7, m8, m9, m10⟩ := hM.1 i hi
        have ml : mLe T (P 2 i) = nI (P 1 (P 2 i)) := (hM.1 (P 2 i) (by omega)).2.1
        refine ⟨hp, ?_⟩
        rw [ec, m1, m3, hc, if_neg (by decide)]
        refine ⟨fun e => absurd e (by decide), fun _ => ⟨hp, fun v ev => ⟨hp, fun e => absurd e (by decide), fun _ => ⟨hp, ?_⟩⟩⟩⟩
        subst ev
        rw [ec, m1, hc]
        refine ⟨fun e => absurd e (by decide), fun _ => ⟨hp, ?_⟩⟩
        rw [ec, m1, hc]
        refine ⟨fun _ => ⟨hps, ?_⟩, fun e => absurd rfl e⟩
        rw [es, ml, ← b2, hM.2.1, hM.2.2, nI_l (by omega), lN_mul, pk_lLT (by omega) (by omega), lN_sub hge]
        refine ⟨fun z => absurd z hlt, fun _ => ⟨hps, fun V eV => ⟨hp, fun v2 ev2 => ?_⟩⟩⟩
        have sV := mSp_up eV
        rw [hM.2.2] at sV
        rw [(MR_msp sV (hM.1 i hi)).2.2.2.1, hc, if_pos rfl] at ev2
        subst ev2
        exact low1 hg sV (by omega) (by omega) h2 hK

