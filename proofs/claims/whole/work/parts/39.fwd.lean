/-! THE WALK FORWARD: has, recall -/
def FI (P : PD) (i : Nat) (v : Nat × Nat) : Prop := v = (0, 0) ∨ (Nat.gcd v.1 v.2 = 1 ∧ 0 < v.2 ∧ v.2 ≤ 8000 * 20 ^ P 7 i ∧ v.1 < P 1 i * v.2)
theorem FI_bd {P : PD} {i : Nat} {v : Nat × Nat} (h : FI P i v) (hl : P 1 i ≤ 1000000000) (hr : P 7 i ≤ 3) : v.1 < 64000000000000001 ∧ v.2 ≤ 64000000 := by
  rcases h with e | ⟨h1, h2, h3, h4⟩
  · subst e
    exact ⟨by decide, by decide⟩
  · have e3 : 20 ^ P 7 i ≤ 20 ^ 3 := pow20 hr
    have e4 : (20 : Nat) ^ 3 = 8000 := by decide
    have h5 : v.2 ≤ 64000000 := by omega
    have h6 : P 1 i * v.2 ≤ 1000000000 * 64000000 := Nat.mul_le_mul hl h5
    omega
def CXF (P : PD) (n : Nat) (q : Nat × Nat × Nat) (dd : Nat) (S : XSt) (H : Nat → Nat × Nat) (j : Nat) : Prop := (∀ k, k < n → XR P k S) ∧ xpc S = nI n ∧ xDM S dd = nI q.1 ∧ xDU S dd = lN q.2.1 ∧ xDL S dd = lN q.2.2 ∧ ∀ k, k < j → xFU S k = lN (H k).1 ∧ xFL S k = lN (H k).2
def CMF (P : PD) (n : Nat) (q : Nat × Nat × Nat) (dd : Nat) (T : MSt) (H : Nat → Nat × Nat) (j : Nat) : Prop := (∀ k, k < n → MR P k T) ∧ mpc T = nI n ∧ mDM T dd = nI q.1 ∧ mDU T dd = lN q.2.1 ∧ mDL T dd = lN q.2.2 ∧ ∀ k, k < j → mFU T k = (if (H k).2 = 0 then (-1) else lN (H k).1) ∧ mFL T k = (if (H k).2 = 0 then 1 else lN (H k).2)
theorem r_tf {post : Int32 → XSt → Prop} {S : XSt} {s n a b : Nat} (hn : n ≤ 40) (hs : s < n) (hc : xpc S = nI n) (hU : xFU S s = lN a) (hL : xFL S s = lN b) (hb : b < 2 ^ 63) (h1 : 0 < b → ∀ T, xSp S T (lN a) (lN b) → post 1 T) (h0 : b = 0 → ∀ T, xSp S T (lN a) (lN b) → post 0 T) : wp_X_takeFound post (nI s) S := by
  have hp := qz_in hn hs
  have ec : (nI s).toNatClampNeg = s := nI_clamp (by omega)
  refine r_isPiece (fun _ => ⟨fun e => absurd e (by decide), fun _ => ⟨hp, hp, r_set (fun V hV => ⟨hp, ?_⟩)⟩⟩) (fun z => absurd ((pz_qz hc).mpr (qz_nI hn hs)) z)
  rw [ec, hU, hL] at hV
  have e1 : xFL V = xFL S := hV.2.2.2.2.2.2.2.2.2.2.2.2.2.2.1
  rw [ec, e1, hL]
  refine ⟨fun z => h0 ?_ V hV, fun z => h1 ?_ V hV⟩
  · exact (pk_lEQ (b := 0) hb (by decide)).mp z
  · rcases Nat.eq_zero_or_pos b with y | y
    · subst y
      exact absurd rfl z
    · exact y
theorem r_tf0 {post : Int32 → XSt → Prop} {S : XSt} (h : post 0 S) : wp_X_takeFound post (-1) S :=
  r_isPiece (fun z => absurd (by decide) z.1) (fun _ => ⟨fun _ => h, fun e => absurd rfl e⟩)
theorem l63 {a : Nat} (h : a < 2 ^ 63) : ¬ lN a < 0 := fun z => by
  have := (pk_lLT (b := 0) h (by decide)).mp z
  omega
theorem r_tk {post : Int32 → MSt → Prop} {T : MSt} {s a b : Nat} (hs : s < 40) (hU : mFU T s = (if b = 0 then (-1) else lN a)) (hL : mFL T s = (if b = 0 then 1 else lN b)) (ha : a < 2 ^ 63) (h1 : 0 < b → ∀ V, mSp T V (lN a) (lN b) → post 1 V) (h0 : b = 0 → ∀ V, mSp T V (-1) 1 → post 0 V) : wp_M_takes post (nI s) T := by
  have hp : vp_in (nI s) 40 := M40 hs
  have ec : (nI s).toNatClampNeg = s := nI_clamp (by omega)
  refine ⟨hp, fun S2 e2 => ⟨hp, fun S4 e4 => ?_⟩⟩
  have q2 := mSp_up e2
  have q4 := mSp_tr q2 (mSp_lo e4)
  have e5 : mFL S2 = mFL T := q2.2.2.2.2.2.2.2.2.2.2.2.2.2.2.2.1
  rw [(mSp_upq q2).1, ec, e5, hU, hL] at q4
  rw [(mSp_upq q4).1]
  rcases Nat.eq_zero_or_pos b with y | y
  · subst y
    rw [if_pos rfl, if_pos rfl] at q4
    rw [if_pos rfl]
    exact ⟨fun _ => h0 rfl S4 q4, fun z => absurd (by decide) z⟩
  · rw [if_neg (by omega), if_neg (by omega)] at q4
    rw [if_neg (by omega)]
    exact ⟨fun z => absurd z (l63 ha), fun _ => h1 y S4 q4⟩
/-- the same but for what was found, up, low, melt -/
def mEq (S T : MSt) : Prop := mKi T = mKi S ∧ mWe T = mWe S ∧ mLe T = mLe S ∧ mSt T = mSt S ∧ mHe T = mHe S ∧ mOf T = mOf S ∧ mOt T = mOt S ∧ mCu T = mCu S ∧ mOv T = mOv S ∧ mUn T = mUn S ∧ mRo T = mRo S ∧ mDM T = mDM S ∧ mDU T = mDU S ∧ mDL T = mDL S ∧ mth T = mth S ∧ mpc T = mpc S ∧ mhp T = mhp S ∧ mml T = mml S ∧ mdc T = mdc S
def mFw (T W : MSt) (i : Nat) (x y : Int64) : Prop := mEq T W ∧ mFU W = vp_updL (mFU T) i x ∧ mFL W = vp_updL (mFL T) i y
def xEq (S T : XSt) : Prop := xKi T = xKi S ∧ xWe T = xWe S ∧ xLe T = xLe S ∧ xSt T = xSt S ∧ xSo T = xSo S ∧ xSe T = xSe S ∧ xRo T = xRo S ∧ xSm T = xSm S ∧ xRU T = xRU S ∧ xRL T = xRL S ∧ xDM T = xDM S ∧ xDU T = xDU S ∧ xDL T = xDL S ∧ xpc T = xpc S ∧ xdc T = xdc S ∧ xhp T = xhp S ∧ xml T = xml S
theorem mFw_mk {T V U W : MSt} {i : Nat} {x y a b : Int64} (hi : i < 40) (hV : mSp T V a b) (e1 : U = muFU V (nI i) x) (e2 : W = muFL U (nI i) y) : mFw T W i x y := by
  have ec : (nI i).toNatClampNeg = i := nI_clamp (by omega)
  have f1 := mEFU e1
  have f2 := mEFL e2
  rw [ec] at f1 f2
  obtain ⟨h1, h2, h3, h4, h5, h6, h7, h8, h9, h10, h11, h12, h13, h14, h15, h16, h17, h18, h19, h20, h21, -, -⟩ := hV
  simp only [mFw, mEq, f2, f1, h1, h2, h3, h4, h5, h6, h7, h8, h9, h10, h11, h12, h13, h14, h15, h16, h17, h18, h19, h20, h21, and_self]
theorem gf1 {post : MSt → Prop} {p0 : Int32} {K : MSt → Int32 → Prop} {T V : MSt} {i a b : Nat} (hi : i < 40) (hV : mSp T V (lN a) (lN b)) (ha : a < 2 ^ 63) (hb : b < 2 ^ 63) (hb0 : 0 < b) (hK : ∀ W, mFw T W i (lN (red a b).1) (lN (red a b).2) → K W (nI (i + 1))) : wpJ_M_goForward_76 post p0 K V (nI i) 1 := by
  have hp : vp_in (nI i) 40 := M40 hi
  refine ⟨fun e => absurd e (by decide), fun _ => r_lowest (mSp_upq hV).1 (mSp_upq hV).2 ha hb hb0 (fun S9 h9 => ⟨fun e => absurd e (by decide), fun _ => ⟨hp, fun S5 e5 => ⟨fun e => absurd e (by decide), fun _ => ⟨hp, fun S2 e2 v ev => ?_⟩⟩⟩⟩)⟩
  rw [ev, nI_1]
  have q9 := mSp_tr hV h9
  have l5 : mlo S5 = mlo S9 := (mEFU e5).2.2.2.2.2.2.2.2.2.2.2.2.2.2.2.2.2.2.2.2.2.2.2
  rw [(mSp_upq q9).1] at e5
  rw [l5, (mSp_upq q9).2] at e2
  exact hK S2 (mFw_mk hi q9 e5 e2)
theorem gf2 {post : MSt → Prop} {p0 : Int32} {K : MSt → Int32 → Prop} {T V : MSt} {i a b c : Nat} (hi : i < 40) (hc : ¬ nI c = 0) (hk : mKi V i = nI c) (hV : mSp T V (lN a) (lN b)) (ha : a < 2 ^ 63) (hb : b < 2 ^ 63) (hb0 : 0 < b) (hK : ∀ W, mFw T W i (lN (red a b).1) (lN (red a b).2) → K W (nI (i + 1))) : wpJ_M_goForward_42 post p0 K V (nI i) 1 := by
  have hp : vp_in (nI i) 40 := M40 hi
  have ec : (nI i).toNatClampNeg = i := nI_clamp (by omega)
  refine ⟨fun e => absurd e (by decide), fun _ => ⟨hp, ?_⟩⟩
  rw [ec, hk]
  exact ⟨fun e => absurd e hc, fun _ => gf1 hi hV ha hb hb0 hK⟩
theorem gf0 {post : MSt → Prop} {p0 : Int32} {K : MSt → Int32 → Prop} {T V : MSt} {i : Nat} {x y : Int64} (hi : i < 40) (hV : mSp T V x y) (hK : ∀ W, mFw T W i (-1) 1 → K W (nI (i + 1))) : wpJ_M_goForward_42 post p0 K V (nI i) 0 := by
  have hp : vp_in (nI i) 40 := M40 hi
  refine ⟨fun _ => ⟨fun _ => ⟨fun _ => ⟨hp, fun S5 e5 => ⟨fun _ => ⟨hp, fun S2 e2 v ev => ?_⟩, fun e => absurd rfl e⟩⟩, fun e => absurd rfl e⟩, fun e => absurd rfl e⟩, fun e => absurd rfl e⟩
  rw [ev, nI_1]
  exact hK S2 (mFw_mk hi hV e5 e2)
/-- facts of a fraction in lowest terms -/
theorem red_f {A B : Nat} (hB : 0 < B) : Nat.gcd (red A B).1 (red A B).2 = 1 ∧ 0 < (red A B).2 ∧ (red A B).1 ≤ A ∧ (red A B).2 ≤ B ∧ ∀ L, (L * B ≤ A ↔ L * (red A B).2 ≤ (red A B).1) := by
  have g0 : 0 < Nat.gcd A B := Nat.gcd_pos_of_pos_right _ hB
  have d1 : Nat.gcd A B ∣ A := Nat.gcd_dvd_left _ _
  have d2 : Nat.gcd A B ∣ B := Nat.gcd_dvd_right _ _
  unfold red
  have co := Nat.coprime_div_gcd_div_gcd g0
  generalize Nat.gcd A B = g at *
  obtain ⟨p, hp⟩ := d1
  obtain ⟨q, hq⟩ := d2
  subst hp
  subst hq
  rw [Nat.mul_div_cancel_left _ g0, Nat.mul_div_cancel_left _ g0] at co ⊢
  have q0 : 0 < q := by
    rcases Nat.eq_zero_or_pos q with z | z
    · subst z
      omega
    · exact z
  refine ⟨co, q0, Nat.le_mul_of_pos_left p g0, Nat.le_mul_of_pos_left q g0, fun L => ?_⟩
  rw [Nat.mul_left_comm]
  exact ⟨fun z => Nat.le_of_mul_le_mul_left z g0, fun z => Nat.mul_le_mul_left g z⟩
theorem lN_neg {a c : Nat} (h : a < c) (hc : c < 2 ^ 62) : lN a - lN c < 0 := by
  rw [Int64.lt_iff_toInt_lt, Int64.toInt_sub, pk_lT (by omega), pk_lT (by omega), Int64.toInt_zero, Int.bmod_eq_of_le (by omega) (by omega)]
  omega
def FX (P : PD) (n : Nat) (q : Nat × Nat × Nat) (dd : Nat) (H : Nat → Nat × Nat) (i : Nat) (v : Nat × Nat) : Prop := ∀ (S : XSt) (post : Int32 → XSt → Prop), CXF P n q dd S H i → (0 < v.2 → ∀ T, xSp S T (lN v.1) (lN v.2) → post 1 T) → (v.2 = 0 → ∀ T x y, xSp S T x y → post 0 T) → wp_X_stepForward post (nI dd) (nI i) S
def FM (P : PD) (n : Nat) (q : Nat × Nat × Nat) (dd : Nat) (H : Nat → Nat × Nat) (i : Nat) (v : Nat × Nat) : Prop := ∀ (T : MSt) (post : MSt → Prop) (K : MSt → Int32 → Prop), CMF P n q dd T H i → (∀ W, mFw T W i (if v.2 = 0 then (-1) else lN v.1) (if v.2 = 0 then 1 else lN v.2) → K W (nI (i + 1))) → wpB_M_goForward_2 post (nI dd) K T (nI i)
/-- a melt -/
theorem f_melt {P : PD} {n i dd : Nat} {q : Nat × Nat × Nat} {H : Nat → Nat × Nat} (hn : n ≤ 40) (hi : i < n) (hd : dd < 10) (hq : DR P n q) (hlm : P 1 q.1 ≤ 1000000000) (hk : P 0 i = 0) : ∃ v, FI P i v ∧ FX P n q dd H i v ∧ FM P n q dd H i v := by
  have hp := qz_in hn hi
  have ec : (nI i).toNatClampNeg = i := nI_clamp (by omega)
  have hdd : vp_in (nI dd) 10 := vp_in_nI hd (by decide)
  have ed : (nI dd).toNatClampNeg = dd := nI_clamp (by omega)
  obtain ⟨q1, q2, q3, q4, q5, q6⟩ := hq
  have bu : P 1 q.1 * q.2.2 ≤ 1000000000 * 8000 := Nat.mul_le_mul hlm q5
  have enI : nI q.1 = nI i ↔ q.1 = i := nI_eq (by omega) (by omega)
  have X : ∀ (S : XSt) (post : Int32 → XSt → Prop), CXF P n q dd S H i → (∀ V, xSp S V (lN q.2.1) (lN q.2.2) → ((q.1 = i → post 1 V) ∧ (¬ q.1 = i → post 0 V))) → wp_X_stepForward post (nI dd) (nI i) S := by
    intro S post hX hK
    obtain ⟨x1, x2, x3, x4, x5, x6, x7, x8, x9⟩ := hX.1 i hi
    refine ⟨hp, ?_⟩
    rw [ec, x3, hk, if_pos rfl]
    refine r_tf0 ⟨hp, fun k5 e5 => ?_⟩
    rw [x1, hk] at e5
    subst e5
    refine ⟨fun _ => ⟨hdd, hdd, r_set (fun V hV => ⟨hdd, ?_⟩)⟩, fun e => absurd rfl e⟩
    rw [ed, hX.2.2.2.1, hX.2.2.2.2.1] at hV
    have e1 : xDM V = xDM S := hV.2.2.2.2.2.2.2.2.2.2.1
    rw [ed, e1, hX.2.2.1, enI]
    exact hK V hV
  by_cases h : q.1 = i
  · refine ⟨q.2, Or.inr ⟨q3, q4, ?_, by rw [← h]; exact q6⟩, fun S post hX h1 h0 => X S post hX (fun V hV => ⟨fun _ => h1 q4 V hV, fun z => absurd h z⟩), fun T post K hM hK => ?_⟩
    · have e1 : 1 ≤ 20 ^ P 7 i := Nat.one_le_pow _ _ (by decide)
      have e2 : 8000 * 1 ≤ 8000 * 20 ^ P 7 i := Nat.mul_le_mul_left 8000 e1
      omega
    · obtain ⟨m1, m2, m3, m4, m5, m6, m7, m8, m9, m10⟩ := hM.1 i hi
      refine ⟨fun z => absurd z (by rw [hM.2.1]; exact nI_ge hi (by omega)), fun _ => ⟨hp, ?_⟩⟩
      rw [ec, ed, m1, hk, hM.2.2.1, enI]
      refine ⟨fun _ => ⟨hdd, fun _ => ⟨fun e => absurd e (by decide), fun _ => ⟨hp, ?_⟩⟩, fun z => absurd h z⟩, fun e => absurd rfl e⟩
      rw [ec, ed, m1, hk]
      refine ⟨fun _ => ⟨hdd, fun U eU => ⟨hdd, fun V eV => ?_⟩⟩, fun e => absurd rfl e⟩
      have s1 := mSp_up eU
      have e1 : mDL U = mDL T := s1.2.2.2.2.2.2.2.2.2.2.2.2.2.1
      have s2 := mSp_tr s1 (mSp_lo eV)
      rw [(mSp_upq s1).1, e1, hM.2.2.2.1, hM.2.2.2.2.1] at s2
      refine gf1 (by omega) s2 (by omega) (by omega) q4 (fun W hW => hK W ?_)
      rw [(red_1 q3).1, (red_1 q3).2] at hW
      rw [if_neg (by omega), if_neg (by omega)]
      exact hW
  · refine ⟨(0, 0), Or.inl rfl, fun S post hX h1 h0 => X S post hX (fun V hV => ⟨fun z => absurd z h, fun _ => h0 rfl V _ _ hV⟩), fun T post K hM hK => ?_⟩
    obtain ⟨m1, m2, m3, m4, m5, m6, m7, m8, m9, m10⟩ := hM.1 i hi
    refine ⟨fun z => absurd z (by rw [hM.2.1]; exact nI_ge hi (by omega)), fun _ => ⟨hp, ?_⟩⟩
    rw [ec, ed, m1, hk, hM.2.2.1, enI]
    refine ⟨fun _ => ⟨hdd, fun z => absurd z h, fun _ => gf0 (by omega) (mSp_refl rfl rfl) (fun W hW => hK W ?_)⟩, fun e => absurd rfl e⟩
    exact hW

