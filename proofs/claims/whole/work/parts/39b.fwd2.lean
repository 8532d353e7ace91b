theorem FI_good {P : PD} {i : Nat} {v : Nat × Nat} (h : FI P i v) (hb : 0 < v.2) : Nat.gcd v.1 v.2 = 1 ∧ 0 < v.2 ∧ v.2 ≤ 8000 * 20 ^ P 7 i ∧ v.1 < P 1 i * v.2 := by
  rcases h with e | h
  · rw [e] at hb
    exact absurd hb (by decide)
  · exact h
theorem xSp_fu {S T : XSt} {x y : Int64} (h : xSp S T x y) : xFU T = xFU S ∧ xFL T = xFL S := ⟨h.2.2.2.2.2.2.2.2.2.2.2.2.2.1, h.2.2.2.2.2.2.2.2.2.2.2.2.2.2.1⟩
theorem mSp_fu {S T : MSt} {x y : Int64} (h : mSp S T x y) : mFU T = mFU S ∧ mFL T = mFL S := ⟨h.2.2.2.2.2.2.2.2.2.2.2.2.2.2.1, h.2.2.2.2.2.2.2.2.2.2.2.2.2.2.2.1⟩
/-- first part, second part, rolled, slit: what is found in the source -/
theorem f_one {P : PD} {n i dd : Nat} {q : Nat × Nat × Nat} {H : Nat → Nat × Nat} (hn : n ≤ 40) (hi : i < n) (hPI : ∀ j, j < n → PI P j) (hH : ∀ k, k < i → FI P k (H k)) (hk : P 0 i ≠ 0) (hk3 : P 0 i ≠ 3) : ∃ v, FI P i v ∧ FX P n q dd H i v ∧ FM P n q dd H i v := by
  have hp := qz_in hn hi
  have ec : (nI i).toNatClampNeg = i := nI_clamp (by omega)
  obtain ⟨a0, a1, a2, a3, a4, a5, a6, a7, a8, a9, a10⟩ := hPI i hi
  have hs := a4 hk
  have ls : P 1 (P 2 i) ≤ 1000000000 := (hPI (P 2 i) (by omega)).2.2.1
  have rs : P 7 (P 2 i) ≤ 3 := (hPI (P 2 i) (by omega)).2.2.2.1
  have hFI := hH (P 2 i) hs
  obtain ⟨bu, bw⟩ := FI_bd hFI ls rs
  obtain ⟨a, b, hab⟩ : ∃ a b, H (P 2 i) = (a, b) := ⟨_, _, rfl⟩
  rw [hab] at bu bw hFI
  have bu : a < 64000000000000001 := bu
  have bw : b ≤ 64000000 := bw
  have hgood : 0 < b → Nat.gcd a b = 1 ∧ 0 < b ∧ b ≤ 8000 * 20 ^ P 7 (P 2 i) ∧ a < P 1 (P 2 i) * b := fun z => FI_good hFI z
  have tX : ∀ S : XSt, CXF P n q dd S H i → xFU S (P 2 i) = lN a ∧ xFL S (P 2 i) = lN b := fun S hX => by
    have := hX.2.2.2.2.2 (P 2 i) hs
    rw [hab] at this
    exact this
  have tM : ∀ T : MSt, CMF P n q dd T H i → mFU T (P 2 i) = (if b = 0 then (-1) else lN a) ∧ mFL T (P 2 i) = (if b = 0 then 1 else lN b) := fun T hM => by
    have := hM.2.2.2.2.2 (P 2 i) hs
    rw [hab] at this
    exact this
  have hk6 : P 0 i = 1 ∨ P 0 i = 2 ∨ P 0 i = 4 ∨ P 0 i = 5 := by omega
  rcases hk6 with hc | hc | hc | hc
  · obtain ⟨b1, b2, b3⟩ := a6 hc
    have sb : P 4 i * b ≤ 1000000000 * 64000000 := Nat.mul_le_mul (by omega) bw
    have X : ∀ (S : XSt) (post : Int32 → XSt → Prop), CXF P n q dd S H i → (0 < b → ¬ P 4 i * b ≤ a → ∀ V, xSp S V (lN a) (lN b) → post 1 V) → ((b = 0 ∨ P 4 i * b ≤ a) → ∀ V, xSp S V (lN a) (lN b) → post 0 V) → wp_X_stepForward post (nI dd) (nI i) S := by
      intro S post hX k1 k0
      obtain ⟨x1, x2, x3, x4, x5, x6, x7, x8, x9⟩ := hX.1 i hi
      refine ⟨hp, ?_⟩
      rw [ec, x3, hc, if_neg (by decide)]
      refine r_tf hn (by omega) hX.2.1 (tX S hX).1 (tX S hX).2 (by omega) (fun b0 V hV => ⟨hp, fun k5 e5 => ?_⟩) (fun b0 V hV => ⟨hp, fun k5 e5 => ?_⟩)
      · have rV := XR_xsp hV (hX.1 i hi)
        rw [rV.1, hc] at e5
        subst e5
        refine ⟨fun e => absurd e (by decide), fun _ => ⟨fun _ => ⟨fun e => absurd e (by decide), fun _ => ⟨hp, ?_⟩⟩, fun e => absurd rfl e⟩⟩
        rw [rV.2.2.2.2.1 (Or.inl hc)]
        have ee : (nI (P 4 i)).toInt64 * xlo V ≤ xup V ↔ P 4 i * b ≤ a := by
          rw [(xSp_upq hV).1, (xSp_upq hV).2, nI_l (by omega), lN_mul, pk_lLE (by omega) (by omega)]
        exact r_isBelow (fun z => ⟨fun _ => k0 (Or.inr (ee.mp z)) V hV, fun e => absurd rfl e⟩) (fun z => ⟨fun e => absurd e (by decide), fun _ => k1 b0 (fun y => z (ee.mpr y)) V hV⟩)
      · have rV := XR_xsp hV (hX.1 i hi)
        rw [rV.1, hc] at e5
        subst e5
        exact ⟨fun e => absurd e (by decide), fun _ => ⟨fun _ => ⟨fun _ => k0 (Or.inl b0) V hV, fun e => absurd rfl e⟩, fun e => absurd rfl e⟩⟩
    have M : ∀ (T : MSt) (post : MSt → Prop) (K : MSt → Int32 → Prop), CMF P n q dd T H i → (0 < b → ¬ P 4 i * b ≤ a → ∀ W, mFw T W i (lN a) (lN b) → K W (nI (i + 1))) → ((b = 0 ∨ P 4 i * b ≤ a) → ∀ W, mFw T W i (-1) 1 → K W (nI (i + 1))) → wpB_M_goForward_2 post (nI dd) K T (nI i) := by
      intro T post K hM k1 k0
      obtain ⟨m1, m2, m3, m4, m5, m6, m7, m8, m9, m10⟩ := hM.1 i hi
      refine ⟨fun z => absurd z (by rw [hM.2.1]; exact nI_ge hi (by omega)), fun _ => ⟨hp, ?_⟩⟩
      rw [ec, m1, hc]
      refine ⟨fun e => absurd e (by decide), fun _ => ⟨hp, ?_⟩⟩
      rw [ec, m1, m3, hc, if_neg (by decide)]
      refine ⟨fun e => absurd e (by decide), fun _ => ⟨hp, r_tk (by omega) (tM T hM).1 (tM T hM).2 (by omega) (fun b0 V hV => ⟨fun e => absurd e (by decide), fun _ => ⟨hp, ?_⟩⟩) (fun b0 V hV => ⟨fun _ => gf0 (by omega) hV (k0 (Or.inl b0)), fun e => absurd rfl e⟩)⟩⟩
      have rV := MR_msp hV (hM.1 i hi)
      have kV : mKi V i = nI 1 := by rw [rV.1, hc]
      rw [kV, rV.2.2.2.2.1 (Or.inl hc)]
      have ee : (nI (P 4 i)).toInt64 * mlo V ≤ mup V ↔ P 4 i * b ≤ a := by
        rw [(mSp_upq hV).1, (mSp_upq hV).2, nI_l (by omega), lN_mul, pk_lLE (by omega) (by omega)]
      refine ⟨fun _ => ⟨hp, fun z => gf0 (by omega) hV (k0 (Or.inr (ee.mp z))), fun z => gf2 (by omega) (by decide) kV hV (by omega) (by omega) b0 (fun W hW => ?_)⟩, fun e => absurd rfl e⟩
      rw [(red_1 (hgood b0).1).1, (red_1 (hgood b0).1).2] at hW
      exact k1 b0 (fun y => z (ee.mpr y)) W hW
    by_cases hf : 0 < b ∧ ¬ P 4 i * b ≤ a
    · obtain ⟨g1, g2, g3, g4⟩ := hgood hf.1
      refine ⟨(a, b), Or.inr ⟨g1, g2, by rw [b3]; exact g3, show a < P 1 i * b by rw [b1]; omega⟩, fun S post hX h1 h0 => X S post hX (fun _ _ V hV => h1 g2 V hV) (fun z => absurd z (by omega)), fun T post K hM hK => M T post K hM (fun _ _ W hW => hK W ?_) (fun z => absurd z (by omega))⟩
      rw [if_neg (show ¬ b = 0 by omega), if_neg (show ¬ b = 0 by omega)]
      exact hW
    · refine ⟨(0, 0), Or.inl rfl, fun S post hX h1 h0 => X S post hX (fun z1 z2 => absurd ⟨z1, z2⟩ hf) (fun _ V hV => h0 rfl V _ _ hV), fun T post K hM hK => M T post K hM (fun z1 z2 => absurd ⟨z1, z2⟩ hf) (fun _ W hW => hK W hW)⟩
  · obtain ⟨b1, b2, b3⟩ := a7 hc
    have sb : P 4 i * b ≤ 1000000000 * 64000000 := Nat.mul_le_mul (by omega) bw
    have X : ∀ (S : XSt) (post : Int32 → XSt → Prop), CXF P n q dd S H i → (0 < b → P 4 i * b ≤ a → ∀ V, xSp S V (lN (a - P 4 i * b)) (lN b) → post 1 V) → ((b = 0 ∨ ¬ P 4 i * b ≤ a) → ∀ V, xSp S V (lN a) (lN b) → post 0 V) → wp_X_stepForward post (nI dd) (nI i) S := by
      intro S post hX k1 k0
      obtain ⟨x1, x2, x3, x4, x5, x6, x7, x8, x9⟩ := hX.1 i hi
      refine ⟨hp, ?_⟩
      rw [ec, x3, hc, if_neg (by decide)]
      refine r_tf hn (by omega) hX.2.1 (tX S hX).1 (tX S hX).2 (by omega) (fun b0 V hV => ⟨hp, fun k5 e5 => ?_⟩) (fun b0 V hV => ⟨hp, fun k5 e5 => ?_⟩)
      · have rV := XR_xsp hV (hX.1 i hi)
        rw [rV.1, hc] at e5
        subst e5
        refine ⟨fun e => absurd e (by decide), fun _ => ⟨fun e => absurd e (by decide), fun _ => ⟨fun _ => ⟨fun e => absurd e (by decide), fun _ => ⟨hp, ?_⟩⟩, fun e => absurd rfl e⟩⟩⟩
        have sV : xSm V i = nI (P 4 i) := rV.2.2.2.2.1 (Or.inr (Or.inl hc))
        rw [sV]
        have ee : (nI (P 4 i)).toInt64 * xlo V ≤ xup V ↔ P 4 i * b ≤ a := by
          rw [(xSp_upq hV).1, (xSp_upq hV).2, nI_l (by omega), lN_mul, pk_lLE (by omega) (by omega)]
        refine r_isBelow (fun z => ⟨fun _ => ⟨hp, r_move (fun W hW => ?_)⟩, fun e => absurd rfl e⟩) (fun z => ⟨fun e => absurd e (by decide), fun _ => k0 (Or.inr (fun y => z (ee.mpr y))) V hV⟩)
        rw [sV, (xSp_upq hV).1, (xSp_upq hV).2, neg_mv (by omega) (ee.mp z)] at hW
        exact k1 b0 (ee.mp z) W (xSp_tr hV hW)
      · have rV := XR_xsp hV (hX.1 i hi)
        rw [rV.1, hc] at e5
        subst e5
        exact ⟨fun e => absurd e (by decide), fun _ => ⟨fun e => absurd e (by decide), fun _ => ⟨fun _ => ⟨fun _ => k0 (Or.inl b0) V hV, fun e => absurd rfl e⟩, fun e => absurd rfl e⟩⟩⟩
    have M : ∀ (T : MSt) (post : MSt → Prop) (K : MSt → Int32 → Prop), CMF P n q dd T H i → (0 < b → P 4 i * b ≤ a → ∀ W, mFw T W i (lN (a - P 4 i * b)) (lN b) → K W (nI (i + 1))) → ((b = 0 ∨ ¬ P 4 i * b ≤ a) → ∀ W, mFw T W i (-1) 1 → K W (nI (i + 1))) → wpB_M_goForward_2 post (nI dd) K T (nI i) := by
      intro T post K hM k1 k0
      obtain ⟨m1, m2, m3, m4, m5, m6, m7, m8, m9, m10⟩ := hM.1 i hi
      refine ⟨fun z => absurd z (by rw [hM.2.1]; exact nI_ge hi (by omega)), fun _ => ⟨hp, ?_⟩⟩
      rw [ec, m1, hc]
      refine ⟨fun e => absurd e (by decide), fun _ => ⟨hp, ?_⟩⟩
      rw [ec, m1, m3, hc, if_neg (by decide)]
      refine ⟨fun e => absurd e (by decide), fun _ => ⟨hp, r_tk (by omega) (tM T hM).1 (tM T hM).2 (by omega) (fun b0 V hV => ⟨fun e => absurd e (by decide), fun _ => ⟨hp, ?_⟩⟩) (fun b0 V hV => ⟨fun _ => gf0 (by omega) hV (k0 (Or.inl b0)), fun e => absurd rfl e⟩)⟩⟩
      have rV := MR_msp hV (hM.1 i hi)
      have kV : mKi V i = nI 2 := by rw [rV.1, hc]
      rw [kV, rV.2.2.2.2.1 (Or.inr hc), (mSp_upq hV).1, (mSp_upq hV).2, nI_l (by omega), lN_mul]
      refine ⟨fun e => absurd e (by decide), fun _ => ⟨hp, fun _ => ⟨hp, fun U eU => ?_⟩, fun e => absurd rfl e⟩⟩
      have sU := mSp_up eU
      have kU : mKi U i = nI 2 := by rw [(MR_msp sU rV).1, hc]
      rw [(mSp_upq sU).1]
      rw [(mSp_upq hV).2] at sU
      by_cases hle : P 4 i * b ≤ a
      · rw [lN_sub hle] at sU ⊢
        refine ⟨fun z => absurd z (l63 (by omega)), fun _ => gf2 (by omega) (by decide) kU (mSp_tr hV sU) (by omega) (by omega) b0 (fun W hW => k1 b0 hle W ?_)⟩
        have hg : Nat.gcd (a - P 4 i * b) b = 1 := by rw [Nat.gcd_sub_mul_right_left hle]; exact (hgood b0).1
        rw [(red_1 hg).1, (red_1 hg).2] at hW
        exact hW
      · exact ⟨fun _ => gf0 (by omega) (mSp_tr hV sU) (k0 (Or.inr hle)), fun z => absurd (lN_neg (by omega) (by omega)) z⟩
    by_cases hf : 0 < b ∧ P 4 i * b ≤ a
    · obtain ⟨g1, g2, g3, g4⟩ := hgood hf.1
      have hg : Nat.gcd (a - P 4 i * b) b = 1 := by rw [Nat.gcd_sub_mul_right_left hf.2]; exact g1
      refine ⟨(a - P 4 i * b, b), Or.inr ⟨hg, g2, by rw [b3]; exact g3, ?_⟩, fun S post hX h1 h0 => X S post hX (fun _ _ V hV => h1 g2 V hV) (fun z => absurd z (by omega)), fun T post K hM hK => M T post K hM (fun _ _ W hW => hK W ?_) (fun z => absurd z (by omega))⟩
      · show a - P 4 i * b < P 1 i * b
        rw [← b2, Nat.add_mul] at g4
        omega
      · rw [if_neg (show ¬ b = 0 by omega), if_neg (show ¬ b = 0 by omega)]
        exact hW
    · refine ⟨(0, 0), Or.inl rfl, fun S post hX h1 h0 => X S post hX (fun z1 z2 => absurd ⟨z1, z2⟩ hf) (fun _ V hV => h0 rfl V _ _ hV), fun T post K hM hK => M T post K hM (fun z1 z2 => absurd ⟨z1, z2⟩ hf) (fun _ W hW => hK W hW)⟩
  · obtain ⟨b1, b2, b3, b4, b5, b6⟩ := a9 hc
    have hb400 : 0 < b → b ≤ 3200000 ∧ a < 3200000000000000 := fun z => by
      obtain ⟨g1, g2, g3, g4⟩ := hgood z
      have e3 : 20 ^ P 7 (P 2 i) ≤ 20 ^ 2 := pow20 (by omega)
      have e4 : (20 : Nat) ^ 2 = 400 := by decide
      have h5 : b ≤ 3200000 := by omega
      have h6 : P 1 (P 2 i) * b ≤ 1000000000 * 3200000 := Nat.mul_le_mul ls h5
      omega
    have bds : 0 < b → a * P 5 i ≤ 64000000000000000 ∧ b * P 6 i ≤ 64000000 ∧ 0 < b * P 6 i := fun z => by
      obtain ⟨z1, z2⟩ := hb400 z
      have h1 : a * P 5 i ≤ 3200000000000000 * 20 := Nat.mul_le_mul (by omega) b2
      have h2 : b * P 6 i ≤ 3200000 * 20 := Nat.mul_le_mul z1 b4
      have h3 : 0 < b * P 6 i := Nat.mul_pos z b3
      omega
    obtain ⟨r1, r2, hr⟩ : ∃ r1 r2, red (a * P 5 i) (b * P 6 i) = (r1, r2) := ⟨_, _, rfl⟩
    have rf : 0 < b → Nat.gcd r1 r2 = 1 ∧ 0 < r2 ∧ r1 ≤ a * P 5 i ∧ r2 ≤ b * P 6 i ∧ ∀ L, (L * (b * P 6 i) ≤ a * P 5 i ↔ L * r2 ≤ r1) := fun z => by
      have := red_f (A := a * P 5 i) (B := b * P 6 i) (bds z).2.2
      rw [hr] at this
      exact this
    have X : ∀ (S : XSt) (post : Int32 → XSt → Prop), CXF P n q dd S H i → (0 < b → ¬ P 1 i * r2 ≤ r1 → ∀ V, xSp S V (lN r1) (lN r2) → post 1 V) → ((b = 0 ∨ P 1 i * r2 ≤ r1) → ∀ V x y, xSp S V x y → post 0 V) → wp_X_stepForward post (nI dd) (nI i) S := by
      intro S post hX k1 k0
      obtain ⟨x1, x2, x3, x4, x5, x6, x7, x8, x9⟩ := hX.1 i hi
      refine ⟨hp, ?_⟩
      rw [ec, x3, hc, if_neg (by decide)]
      refine r_tf hn (by omega) hX.2.1 (tX S hX).1 (tX S hX).2 (by omega) (fun b0 V hV => ⟨hp, fun k5 e5 => ?_⟩) (fun b0 V hV => ⟨hp, fun k5 e5 => ?_⟩)
      · have rV := XR_xsp hV (hX.1 i hi)
        obtain ⟨ru, rl⟩ := rV.2.2.2.2.2.1 hc
        obtain ⟨d1, d2, d3⟩ := bds b0
        obtain ⟨f1, f2, f3, f4, f5⟩ := rf b0
        have lb : P 1 i * r2 ≤ 1000000000 * 64000000 := Nat.mul_le_mul a2 (by omega)
        rw [rV.1, hc] at e5
        subst e5
        refine ⟨fun e => absurd e (by decide), fun _ => ⟨fun e => absurd e (by decide), fun _ => ⟨fun e => absurd e (by decide), fun _ => ⟨fun e => absurd e (by decide), fun _ => ⟨fun _ => ⟨fun e => absurd e (by decide), fun _ => ⟨hp, hp, ?_⟩⟩, fun e => absurd rfl e⟩⟩⟩⟩⟩
        rw [ru, rl]
        refine r_stretchN (xSp_upq hV).1 (xSp_upq hV).2 (nI_l (by omega)) (nI_l (by omega)) (by omega) (by omega) d3 (fun W hW => ⟨hp, ?_⟩)
        rw [hr] at hW
        have hW : xSp V W (lN r1) (lN r2) := hW
        have hSW := xSp_tr hV hW
        rw [(XR_xsp hW rV).2.1]
        have ee : (nI (P 1 i)).toInt64 * xlo W ≤ xup W ↔ P 1 i * r2 ≤ r1 := by
          rw [(xSp_upq hW).1, (xSp_upq hW).2, nI_l (by omega), lN_mul, pk_lLE (by omega) (by omega)]
        exact r_isBelow (fun z => k0 (Or.inr (ee.mp z)) W _ _ hSW) (fun z => k1 b0 (fun y => z (ee.mpr y)) W hSW)
      · have rV := XR_xsp hV (hX.1 i hi)
        rw [rV.1, hc] at e5
        subst e5
        exact ⟨fun e => absurd e (by decide), fun _ => ⟨fun e => absurd e (by decide), fun _ => ⟨fun e => absurd e (by decide), fun _ => ⟨fun e => absurd e (by decide), fun _ => ⟨fun _ => ⟨fun _ => k0 (Or.inl b0) V _ _ hV, fun e => absurd rfl e⟩, fun e => absurd rfl e⟩⟩⟩⟩⟩
    have M : ∀ (T : MSt) (post : MSt → Prop) (K : MSt → Int32 → Prop), CMF P n q dd T H i → (0 < b → ¬ P 1 i * r2 ≤ r1 → ∀ W, mFw T W i (lN r1) (lN r2) → K W (nI (i + 1))) → ((b = 0 ∨ P 1 i * r2 ≤ r1) → ∀ W, mFw T W i (-1) 1 → K W (nI (i + 1))) → wpB_M_goForward_2 post (nI dd) K T (nI i) := by
      intro T post K hM k1 k0
      obtain ⟨m1, m2, m3, m4, m5, m6, m7, m8, m9, m10⟩ := hM.1 i hi
      refine ⟨fun z => absurd z (by rw [hM.2.1]; exact nI_ge hi (by omega)), fun _ => ⟨hp, ?_⟩⟩
      rw [ec, m1, hc]
      refine ⟨fun e => absurd e (by decide), fun _ => ⟨hp, ?_⟩⟩
      rw [ec, m1, m3, hc, if_neg (by decide)]
      refine ⟨fun e => absurd e (by decide), fun _ => ⟨hp, r_tk (by omega) (tM T hM).1 (tM T hM).2 (by omega) (fun b0 V hV => ⟨fun e => absurd e (by decide), fun _ => ⟨hp, ?_⟩⟩) (fun b0 V hV => ⟨fun _ => gf0 (by omega) hV (k0 (Or.inl b0)), fun e => absurd rfl e⟩)⟩⟩
      have rV := MR_msp hV (hM.1 i hi)
      obtain ⟨d1, d2, d3⟩ := bds b0
      obtain ⟨f1, f2, f3, f4, f5⟩ := rf b0
      have lb : P 1 i * (b * P 6 i) ≤ 1000000000 * 64000000 := Nat.mul_le_mul a2 (by omega)
      obtain ⟨ov, un⟩ := rV.2.2.2.2.2.1 hc
      have kV : mKi V i = nI 4 := by rw [rV.1, hc]
      rw [kV, ov, (mSp_upq hV).1, nI_l (by omega), lN_mul]
      refine ⟨fun e => absurd e (by decide), fun _ => ⟨hp, fun e => absurd e (by decide), fun _ => ⟨hp, fun _ => ⟨hp, fun U eU => ⟨hp, fun Y eY => ⟨hp, ?_⟩⟩⟩, fun e => absurd rfl e⟩⟩⟩
      have sU := mSp_up eU
      rw [(mSp_upq hV).2] at sU
      have rU := MR_msp sU rV
      have sY := mSp_lo eY
      rw [(rU.2.2.2.2.2.1 hc).2, (mSp_upq sU).1, (mSp_upq sU).2, nI_l (by omega), lN_mul] at sY
      have rY := MR_msp sY rU
      have hTY := mSp_tr hV (mSp_tr sU sY)
      have kY : mKi Y i = nI 4 := by rw [rY.1, hc]
      rw [rY.2.1]
      have ee : (nI (P 1 i)).toInt64 * mlo Y ≤ mup Y ↔ P 1 i * r2 ≤ r1 := by
        rw [(mSp_upq sY).1, (mSp_upq sY).2, nI_l (by omega), lN_mul, pk_lLE (by omega) (by omega), f5]
      refine ⟨fun z => gf0 (by omega) hTY (k0 (Or.inr (ee.mp z))), fun z => gf2 (by omega) (by decide) kY hTY (by omega) (by omega) d3 (fun W hW => ?_)⟩
      rw [hr] at hW
      exact k1 b0 (fun y => z (ee.mpr y)) W hW
    by_cases hf : 0 < b ∧ ¬ P 1 i * r2 ≤ r1
    · obtain ⟨g1, g2, g3, g4⟩ := hgood hf.1
      obtain ⟨f1, f2, f3, f4, f5⟩ := rf hf.1
      refine ⟨(r1, r2), Or.inr ⟨f1, f2, ?_, show r1 < P 1 i * r2 by omega⟩, fun S post hX h1 h0 => X S post hX (fun _ _ V hV => h1 f2 V hV) (fun z => absurd z (by omega)), fun T post K hM hK => M T post K hM (fun _ _ W hW => hK W ?_) (fun z => absurd z (by omega))⟩
      · show r2 ≤ 8000 * 20 ^ P 7 i
        rw [b6, Nat.pow_succ]
        have h1 : b * P 6 i ≤ 8000 * 20 ^ P 7 (P 2 i) * 20 := Nat.mul_le_mul g3 b4
        rw [Nat.mul_assoc] at h1
        omega
      · rw [if_neg (show ¬ r2 = 0 by omega), if_neg (show ¬ r2 = 0 by omega)]
        exact hW
    · refine ⟨(0, 0), Or.inl rfl, fun S post hX h1 h0 => X S post hX (fun z1 z2 => absurd ⟨z1, z2⟩ hf) (fun _ V x y hV => h0 rfl V x y hV), fun T post K hM hK => M T post K hM (fun z1 z2 => absurd ⟨z1, z2⟩ hf) (fun _ W hW => hK W hW)⟩
  · obtain ⟨b1, b3⟩ := a10 hc
    refine ⟨(a, b), ?_, fun S post hX h1 h0 => ?_, fun T post K hM hK => ?_⟩
    · rcases hFI with e | ⟨g1, g2, g3, g4⟩
      · exact Or.inl e
      · exact Or.inr ⟨g1, g2, by rw [b3]; exact g3, by rw [b1]; exact g4⟩
    · obtain ⟨x1, x2, x3, x4, x5, x6, x7, x8, x9⟩ := hX.1 i hi
      refine ⟨hp, ?_⟩
      rw [ec, x3, hc, if_neg (by decide)]
      refine r_tf hn (by omega) hX.2.1 (tX S hX).1 (tX S hX).2 (by omega) (fun b0 V hV => ⟨hp, fun k5 e5 => ?_⟩) (fun b0 V hV => ⟨hp, fun k5 e5 => ?_⟩)
      · rw [(XR_xsp hV (hX.1 i hi)).1, hc] at e5
        subst e5
        exact ⟨fun e => absurd e (by decide), fun _ => ⟨fun e => absurd e (by decide), fun _ => ⟨fun e => absurd e (by decide), fun _ => ⟨fun e => absurd e (by decide), fun _ => ⟨fun e => absurd e (by decide), fun _ => h1 b0 V hV⟩⟩⟩⟩⟩
      · rw [(XR_xsp hV (hX.1 i hi)).1, hc] at e5
        subst e5
        exact ⟨fun e => absurd e (by decide), fun _ => ⟨fun e => absurd e (by decide), fun _ => ⟨fun e => absurd e (by decide), fun _ => ⟨fun e => absurd e (by decide), fun _ => ⟨fun e => absurd e (by decide), fun _ => h0 b0 V _ _ hV⟩⟩⟩⟩⟩
    · obtain ⟨m1, m2, m3, m4, m5, m6, m7, m8, m9, m10⟩ := hM.1 i hi
      refine ⟨fun z => absurd z (by rw [hM.2.1]; exact nI_ge hi (by omega)), fun _ => ⟨hp, ?_⟩⟩
      rw [ec, m1, hc]
      refine ⟨fun e => absurd e (by decide), fun _ => ⟨hp, ?_⟩⟩
      rw [ec, m1, m3, hc, if_neg (by decide)]
      refine ⟨fun e => absurd e (by decide), fun _ => ⟨hp, r_tk (by omega) (tM T hM).1 (tM T hM).2 (by omega) (fun b0 V hV => ⟨fun e => absurd e (by decide), fun _ => ⟨hp, ?_⟩⟩) (fun b0 V hV => ⟨fun _ => gf0 (by omega) hV (fun W hW => hK W ?_), fun e => absurd rfl e⟩)⟩⟩
      · have kV : mKi V i = nI 5 := by rw [(MR_msp hV (hM.1 i hi)).1, hc]
        rw [kV]
        refine ⟨fun e => absurd e (by decide), fun _ => ⟨hp, fun e => absurd e (by decide), fun _ => ⟨hp, fun e => absurd e (by decide), fun _ => gf2 (by omega) (by decide) kV hV (by omega) (by omega) b0 (fun W hW => hK W ?_)⟩⟩⟩
        rw [(red_1 (hgood b0).1).1, (red_1 (hgood b0).1).2] at hW
        rw [if_neg (show ¬ b = 0 by omega), if_neg (show ¬ b = 0 by omega)]
        exact hW
      · rw [if_pos (show b = 0 from b0), if_pos (show b = 0 from b0)]
        exact hW

