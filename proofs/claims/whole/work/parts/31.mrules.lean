/-! PURE ROWS OF THE REFERENCE: what its inner methods' wp come to -/
theorem nI_sub1 {n : Nat} (hn : n ≤ 40) (p : Int32) : nI n - 1 < p ↔ nI n ≤ p := by
  rw [Int32.lt_iff_toInt_lt, Int32.le_iff_toInt_le, nI_toInt (by omega)]
  have e : (nI n - 1).toInt = (n : Int) - 1 := by
    rcases n with _ | n
    · decide
    · rw [nI_pred, nI_toInt (by omega)]; omega
  rw [e]; omega
theorem r_in {post : Int32 → MSt → Prop} {v a b : Int32} {T : MSt} (h1 : ¬ v < a → ¬ b < v → post 1 T) (h0 : (v < a ∨ b < v) → post 0 T) : wp_M_in post v a b T :=
  ⟨fun h => h0 (Or.inl h), fun h => ⟨fun h2 => h0 (Or.inr h2), fun h2 => h1 h h2⟩⟩
abbrev qz (n : Nat) (p : Int32) : Prop := ¬ p < 0 ∧ ¬ nI n ≤ p
theorem r_MisPiece {post : Int32 → MSt → Prop} {p : Int32} {n : Nat} {T : MSt} (hn : n ≤ 40) (hc : mpc T = nI n) (h1 : qz n p → post 1 T) (h0 : ¬ qz n p → post 0 T) : wp_M_isPiece post p T := by
  refine r_in (fun a b => h1 ⟨a, fun c => b ?_⟩) (fun a => h0 (fun c => a.elim c.1 (fun d => c.2 ?_)))
  · rw [hc]; exact (nI_sub1 hn p).mpr c
  · rw [hc] at d; exact (nI_sub1 hn p).mp d
theorem qz_of {n : Nat} {p : Int32} (hn : n ≤ 40) (h : qz n p) : ∃ i : Nat, i < n ∧ p = nI i := by
  obtain ⟨j, hj, e⟩ := nI_of h.1
  refine ⟨j, ?_, e⟩
  rcases Nat.lt_or_ge j n with q | q
  · exact q
  · exact absurd (by rw [e]; exact nI_le q hj) h.2
theorem qz_in {n i : Nat} (hn : n ≤ 40) (hi : i < n) : vp_in (nI i) 40 := vp_in_nI (by omega) (by decide)
theorem qz_nI {n i : Nat} (hn : n ≤ 40) (hi : i < n) : qz n (nI i) := ⟨nI_pos (by omega), nI_ge hi (by omega)⟩
theorem r_isAtHand {post : Int32 → MSt → Prop} {p : Int32} {n : Nat} {T : MSt} (hn : n ≤ 40) (hc : mpc T = nI n) (h1 : ∀ i, i < n → p = nI i → mSt T i = 0 → mHe T i = 0 → post 1 T) (h0 : ¬ qz n p → post 0 T) (h2 : ∀ i, i < n → p = nI i → ¬ (mSt T i = 0 ∧ mHe T i = 0) → post 0 T) : wp_M_isAtHand post p T := by
  refine r_MisPiece hn hc (fun hz => ⟨fun e => absurd e (by decide), fun _ => ?_⟩) (fun hz => ⟨fun _ => h0 hz, fun e => absurd rfl e⟩)
  obtain ⟨i, hi, rfl⟩ := qz_of hn hz
  have hp := qz_in hn hi
  have ec : (nI i).toNatClampNeg = i := nI_clamp (by omega)
  rw [ec]
  exact ⟨hp, fun a => ⟨hp, fun b => h1 i hi rfl a b, fun b => h2 i hi rfl (fun c => b c.2)⟩, fun a => h2 i hi rfl (fun c => a c.1)⟩
/-- the same but for the code of what was thrown -/
def mTh (S T : MSt) (k : Int32) : Prop := mKi T = mKi S ∧ mWe T = mWe S ∧ mLe T = mLe S ∧ mSt T = mSt S ∧ mHe T = mHe S ∧ mOf T = mOf S ∧ mOt T = mOt S ∧ mCu T = mCu S ∧ mOv T = mOv S ∧ mUn T = mUn S ∧ mRo T = mRo S ∧ mDM T = mDM S ∧ mDU T = mDU S ∧ mDL T = mDL S ∧ mFU T = mFU S ∧ mFL T = mFL S ∧ mth T = k ∧ mpc T = mpc S ∧ mhp T = mhp S ∧ mml T = mml S ∧ mdc T = mdc S ∧ mme T = mme S ∧ mup T = mup S ∧ mlo T = mlo S
def thc (p0 p1 p2 p3 : Int32) : Int32 := if p0 = 0 then (if p1 = 0 then (if p2 = 0 then (if p3 = 0 then 0 else 4) else 3) else 2) else 1
theorem thc_cases (p0 p1 p2 p3 : Int32) : thc p0 p1 p2 p3 = 0 ∨ thc p0 p1 p2 p3 = 1 ∨ thc p0 p1 p2 p3 = 2 ∨ thc p0 p1 p2 p3 = 3 ∨ thc p0 p1 p2 p3 = 4 := by
  unfold thc
  by_cases a : p0 = 0 <;> by_cases b : p1 = 0 <;> by_cases c : p2 = 0 <;> by_cases d : p3 = 0 <;> simp [a, b, c, d]
/-- throwing(..): goes on where the code is 0, else it answers 1 -/
theorem r_throwing {post : Int32 → MSt → Prop} {p0 p1 p2 p3 : Int32} {S : MSt} (h0 : thc p0 p1 p2 p3 = 0 → ∀ T, mTh S T 0 → post 0 T) (h1 : ¬ thc p0 p1 p2 p3 = 0 → ∀ T, mTh S T (thc p0 p1 p2 p3) → post 1 T) : wp_M_throwing post p0 p1 p2 p3 S := by
  have key : ∀ k : Int32, k = thc p0 p1 p2 p3 → wpJ_M_throwing_35 post p0 p1 p2 p3 S k := by
    intro k hk S1 e1
    have f1 := mEth e1
    have hT : mTh S S1 k := by simp only [mTh, f1, and_self]
    have ek : mth S1 = k := by simp only [f1]
    rw [ek]
    refine ⟨fun hle => ?_, fun hle => ?_⟩
    · have hk0 : k = 0 := by
        rcases thc_cases p0 p1 p2 p3 with q | q | q | q | q <;> rw [q] at hk
        · exact hk
        all_goals (rw [hk] at hle; exact absurd hle (by decide))
      rw [hk0] at hk hT
      exact h0 hk.symm S1 hT
    · have hk0 : ¬ k = 0 := fun e => hle (by rw [e]; decide)
      rw [hk] at hk0 hT
      exact h1 hk0 S1 hT
  refine ⟨fun a => ⟨fun b => ⟨fun c => ⟨fun d => key 0 ?_, fun d => key 4 ?_⟩, fun c => key 3 ?_⟩, fun b => key 2 ?_⟩, fun a => key 1 ?_⟩
  · rw [thc, if_pos a, if_pos b, if_pos c, if_pos d]
  · rw [thc, if_pos a, if_pos b, if_pos c, if_neg d]
  · rw [thc, if_pos a, if_pos b, if_neg c]
  · rw [thc, if_pos a, if_neg b]
  · rw [thc, if_neg a]
/-- a new piece in the reference -/
def mAdd (S T : MSt) (k f w le : Int32) : Prop := mKi T = upd (mKi S) (mpc S).toNatClampNeg k ∧ mWe T = upd (mWe S) (mpc S).toNatClampNeg w ∧ mLe T = upd (mLe S) (mpc S).toNatClampNeg le ∧ mSt T = (if f < 0 then upd (mSt S) (mpc S).toNatClampNeg 0 else upd (upd (mSt S) (mpc S).toNatClampNeg 0) f.toNatClampNeg 1) ∧ mHe T = upd (mHe S) (mpc S).toNatClampNeg 0 ∧ mOf T = upd (mOf S) (mpc S).toNatClampNeg f ∧ mOt T = upd (mOt S) (mpc S).toNatClampNeg (-1) ∧ mCu T = mCu S ∧ mOv T = mOv S ∧ mUn T = mUn S ∧ mRo T = upd (mRo S) (mpc S).toNatClampNeg (if f < 0 then 0 else mRo S f.toNatClampNeg) ∧ mDM T = mDM S ∧ mDU T = mDU S ∧ mDL T = mDL S ∧ mFU T = mFU S ∧ mFL T = mFL S ∧ mth T = mth S ∧ mpc T = mpc S + 1 ∧ mhp T = mhp S ∧ mml T = mml S ∧ mdc T = mdc S ∧ mme T = mme S ∧ mup T = mup S ∧ mlo T = mlo S
theorem nar0 : vp_nar .boolean 0 = 0 := rfl
theorem nar1 : vp_nar .boolean 1 = 1 := rfl
theorem r_add {post : Int32 → MSt → Prop} {k f w le : Int32} {S : MSt} (hpc : vp_in (mpc S) 40) (hf : ¬ f < 0 → vp_in f 40) (h : ∀ T, mAdd S T k f w le → post (mpc S) T) : wp_M_add post k f w le S := by
  have hpp : ∀ x : Int32, x + 1 - 1 = x := fun x => by
    apply Int32.toBitVec_inj.mp
    simp
  refine ⟨hpc, fun S8 e8 => ?_⟩
  have f8 := mEKi e8
  have p8 : mpc S8 = mpc S := by simp only [f8]
  rw [p8]
  refine ⟨hpc, fun S10 e10 => ?_⟩
  have f10 := mEWe e10
  have p10 : mpc S10 = mpc S := by simp only [f10, p8]
  rw [p10]
  refine ⟨hpc, fun S12 e12 => ?_⟩
  have f12 := mELe e12
  have p12 : mpc S12 = mpc S := by simp only [f12, p10]
  rw [p12]
  refine ⟨hpc, fun S14 e14 => ?_⟩
  have f14 := mESt e14
  have p14 : mpc S14 = mpc S := by simp only [f14, p12]
  rw [p14]
  refine ⟨hpc, fun S16 e16 => ?_⟩
  have f16 := mEHe e16
  have p16 : mpc S16 = mpc S := by simp only [f16, p14]
  rw [p16]
  refine ⟨hpc, fun S18 e18 => ?_⟩
  have f18 := mEOf e18
  have p18 : mpc S18 = mpc S := by simp only [f18, p16]
  rw [p18]
  refine ⟨hpc, fun S20 e20 => ?_⟩
  have f20 := mEOt e20
  have p20 : mpc S20 = mpc S := by simp only [f20, p18]
  rw [p20]
  have key : ∀ t0 : Int32, t0 = (if f < 0 then 0 else mRo S f.toNatClampNeg) → wpJ_M_add_93 post k f w le S20 t0 (mpc S) := by
    intro t0 ht0
    refine ⟨hpc, fun S3 e3 => ?_⟩
    have f3 := mERo e3
    refine ⟨fun hn => ?_, fun hn => ⟨hf hn, fun S6 e6 => ?_⟩⟩
    · intro S1 e1
      have f1 := mEpc e1
      have ep : mpc S1 = mpc S + 1 := by simp only [f1, f3, p20]
      rw [ep, hpp]
      refine h S1 ?_
      unfold mAdd
      rw [if_pos hn, ← ht0]
      simp only [f1, f3, f20, f18, f16, f14, f12, f10, f8, nar0, and_self]
    · intro S1 e1
      have f6 := mESt e6
      have f1 := mEpc e1
      have ep : mpc S1 = mpc S + 1 := by simp only [f1, f6, f3, p20]
      rw [ep, hpp]
      refine h S1 ?_
      unfold mAdd
      rw [if_neg hn, ← ht0]
      simp only [f1, f6, f3, f20, f18, f16, f14, f12, f10, f8, nar0, and_self]
  refine ⟨fun hn => ?_, fun hn => ?_⟩
  · have hn2 : ¬ f < 0 := by
      rw [Int32.lt_iff_toInt_lt]; rw [Int32.le_iff_toInt_le] at hn; omega
    refine ⟨hf hn2, key _ ?_⟩
    rw [if_neg hn2]
    simp only [f20, f18, f16, f14, f12, f10, f8]
  · have hn2 : f < 0 := by
      rw [Int32.lt_iff_toInt_lt]; rw [Int32.le_iff_toInt_le] at hn; omega
    refine key _ ?_
    rw [if_pos hn2]
/-- a new piece on its side -/
def xAdd (S T : XSt) (k so w le : Int32) : Prop := xKi T = upd (xKi S) (xpc S).toNatClampNeg k ∧ xWe T = upd (xWe S) (xpc S).toNatClampNeg w ∧ xLe T = upd (xLe S) (xpc S).toNatClampNeg le ∧ xSt T = upd (xSt S) (xpc S).toNatClampNeg 0 ∧ xSo T = upd (xSo S) (xpc S).toNatClampNeg so ∧ xSe T = upd (xSe S) (xpc S).toNatClampNeg (-1) ∧ xRo T = upd (xRo S) (xpc S).toNatClampNeg (if so = (-1) then 0 else xRo S so.toNatClampNeg) ∧ xSm T = xSm S ∧ xRU T = xRU S ∧ xRL T = xRL S ∧ xDM T = xDM S ∧ xDU T = xDU S ∧ xDL T = xDL S ∧ xFU T = xFU S ∧ xFL T = xFL S ∧ xpc T = xpc S + 1 ∧ xdc T = xdc S ∧ xhp T = xhp S ∧ xml T = xml S ∧ xup T = xup S ∧ xlo T = xlo S
theorem r_addPiece {post : Int32 → XSt → Prop} {k so w le : Int32} {S : XSt} (hpc : vp_in (xpc S) 40) (hso : ¬ so = (-1) → vp_in so 40) (h : ∀ T, xAdd S T k so w le → post (xpc S) T) : wp_X_addPiece post k so w le S := by
  intro v e
  subst e
  refine ⟨hpc, fun S3 e3 => ⟨hpc, fun S5 e5 => ⟨hpc, fun S7 e7 => ⟨hpc, fun S9 e9 => ⟨hpc, fun S11 e11 => ⟨hpc, fun S13 e13 => ?_⟩⟩⟩⟩⟩⟩
  have f3 := xEKi e3
  have f5 := xEWe e5
  have f7 := xELe e7
  have f9 := xESt e9
  have f11 := xESo e11
  have f13 := xESe e13
  refine ⟨fun h1 => ⟨hpc, fun S20 e20 S21 e21 => ?_⟩, fun h1 => ⟨hso h1, hpc, fun S17 e17 S18 e18 => ?_⟩⟩
  · have f20 := xERo e20
    have f21 := xEpc e21
    refine h S21 ?_
    unfold xAdd
    rw [if_pos h1]
    simp only [f21, f20, f13, f11, f9, f7, f5, f3, and_self]
  · have f17 := xERo e17
    have f18 := xEpc e18
    refine h S18 ?_
    unfold xAdd
    rw [if_neg h1]
    simp only [f18, f17, f13, f11, f9, f7, f5, f3, and_self]

