theorem f_weld {P : PD} {n i dd : Nat} {q : Nat × Nat × Nat} {H : Nat → Nat × Nat} (hn : n ≤ 40) (hi : i < n) (hPI : ∀ j, j < n → PI P j) (hH : ∀ k, k < i → FI P k (H k)) (hc : P 0 i = 3) : ∃ v, FI P i v ∧ FX P n q dd H i v ∧ FM P n q dd H i v := by
  have hp := qz_in hn hi
  have ec : (nI i).toNatClampNeg = i := nI_clamp (by omega)
  obtain ⟨a0, a1, a2, a3, a4, a5, a6, a7, a8, a9, a10⟩ := hPI i hi
  have hs := a4 (by omega)
  obtain ⟨b1, b2, b3, b4, b5⟩ := a8 hc
  have es : (nI (P 2 i)).toNatClampNeg = P 2 i := nI_clamp (by omega)
  have hps : vp_in (nI (P 2 i)) 40 := M40 (by omega)
  have ls : P 1 (P 2 i) ≤ 1000000000 := (hPI (P 2 i) (by omega)).2.2.1
  have rs : P 7 (P 2 i) ≤ 3 := (hPI (P 2 i) (by omega)).2.2.2.1
  have lt : P 1 (P 3 i) ≤ 1000000000 := (hPI (P 3 i) (by omega)).2.2.1
  have rt : P 7 (P 3 i) ≤ 3 := (hPI (P 3 i) (by omega)).2.2.2.1
  have hFI := hH (P 2 i) hs
  have hFJ := hH (P 3 i) b1
  obtain ⟨bu, bw⟩ := FI_bd hFI ls rs
  obtain ⟨cu, cw⟩ := FI_bd hFJ lt rt
  obtain ⟨a, b, hab⟩ : ∃ a b, H (P 2 i) = (a, b) := ⟨_, _, rfl⟩
  obtain ⟨c, e, hce⟩ : ∃ a b, H (P 3 i) = (a, b) := ⟨_, _, rfl⟩
  rw [hab] at bu bw hFI
  rw [hce] at cu cw hFJ
  have bu : a < 64000000000000001 := bu
  have bw : b ≤ 64000000 := bw
  have cu : c < 64000000000000001 := cu
  have cw : e ≤ 64000000 := cw
  have hgood : 0 < b → Nat.gcd a b = 1 ∧ 0 < b ∧ b ≤ 8000 * 20 ^ P 7 (P 2 i) ∧ a < P 1 (P 2 i) * b := fun z => FI_good hFI z
  have hgoodt : 0 < e → Nat.gcd c e = 1 ∧ 0 < e ∧ e ≤ 8000 * 20 ^ P 7 (P 3 i) ∧ c < P 1 (P 3 i) * e := fun z => FI_good hFJ z
  have se : P 4 i * e ≤ 1000000000 * 64000000 := Nat.mul_le_mul (by omega) cw
  have hg : 0 < e → Nat.gcd (c + P 4 i * e) e = 1 := fun z => by rw [Nat.gcd_add_mul_right_left]; exact (hgoodt z).1
  have X : ∀ (S : XSt) (post : Int32 → XSt → Prop), CXF P n q dd S H i → (0 < b → ∀ V, xSp S V (lN a) (lN b) → post 1 V) → (b = 0 → 0 < e → ∀ V, xSp S V (lN (c + P 4 i * e)) (lN e) → post 1 V) → (b = 0 → e = 0 → ∀ V x y, xSp S V x y → post 0 V) → wp_X_stepForward post (nI dd) (nI i) S := by
    intro S post hX k1 k2 k0
    obtain ⟨x1, x2, x3, x4, x5, x6, x7, x8, x9⟩ := hX.1 i hi
    have t1 := hX.2.2.2.2.2 (P 2 i) hs
    have t2 := hX.2.2.2.2.2 (P 3 i) b1
    rw [hab] at t1
    rw [hce] at t2
    refine ⟨hp, ?_⟩
    rw [ec, x3, hc, if_neg (by decide)]
    refine r_tf hn (by omega) hX.2.1 t1.1 t1.2 (by omega) (fun b0 V hV => ⟨hp, fun k5 e5 => ?_⟩) (fun b0 V hV => ⟨hp, fun k5 e5 => ?_⟩)
    · rw [(XR_xsp hV (hX.1 i hi)).1, hc] at e5
      subst e5
      exact ⟨fun z => absurd z (by decide), fun _ => ⟨fun z => absurd z (by decide), fun _ => ⟨fun z => absurd z (by decide), fun _ => ⟨fun _ => ⟨fun z => absurd z (by decide), fun _ => k1 b0 V hV⟩, fun z => absurd rfl z⟩⟩⟩⟩
    · have rV := XR_xsp hV (hX.1 i hi)
      rw [rV.1, hc] at e5
      subst e5
      refine ⟨fun z => absurd z (by decide), fun _ => ⟨fun z => absurd z (by decide), fun _ => ⟨fun z => absurd z (by decide), fun _ => ⟨fun _ => ⟨fun _ => ⟨hp, ?_⟩, fun z => absurd rfl z⟩, fun z => absurd rfl z⟩⟩⟩⟩
      rw [rV.2.2.2.1, hc, if_pos rfl]
      have u1 : xFU V (P 3 i) = lN c := by rw [(xSp_fu hV).1]; exact t2.1
      have u2 : xFL V (P 3 i) = lN e := by rw [(xSp_fu hV).2]; exact t2.2
      refine r_tf hn (by omega) (by rw [xSp_pc hV]; exact hX.2.1) u1 u2 (by omega) (fun e0 W hW => ⟨fun z => absurd z (by decide), fun _ => ⟨hp, r_move (fun Y hY => ?_)⟩⟩) (fun e0 W hW => ⟨fun _ => k0 b0 e0 W _ _ (xSp_tr hV hW), fun z => absurd rfl z⟩)
      rw [(XR_xsp hW rV).2.2.2.2.1 (Or.inr (Or.inr hc)), (xSp_upq hW).1, (xSp_upq hW).2, nI_l (by omega), lN_mul, lN_add] at hY
      exact k2 b0 e0 Y (xSp_tr hV (xSp_tr hW hY))
  have M : ∀ (T : MSt) (post : MSt → Prop) (K : MSt → Int32 → Prop), CMF P n q dd T H i → (0 < b → ∀ W, mFw T W i (lN a) (lN b) → K W (nI (i + 1))) → (b = 0 → 0 < e → ∀ W, mFw T W i (lN (c + P 4 i * e)) (lN e) → K W (nI (i + 1))) → (b = 0 → e = 0 → ∀ W, mFw T W i (-1) 1 → K W (nI (i + 1))) → wpB_M_goForward_2 post (nI dd) K T (nI i) := by
    intro T post K hM k1 k2 k0
    obtain ⟨m1, m2, m3, m4, m5, m6, m7, m8, m9, m10⟩ := hM.1 i hi
    have t1 := hM.2.2.2.2.2 (P 2 i) hs
    have t2 := hM.2.2.2.2.2 (P 3 i) b1
    rw [hab] at t1
    rw [hce] at t2
    refine ⟨fun z => absurd z (by rw [hM.2.1]; exact nI_ge hi (by omega)), fun _ => ⟨hp, ?_⟩⟩
    rw [ec, m1, hc]
    refine ⟨fun z => absurd z (by decide), fun _ => ⟨hp, ?_⟩⟩
    rw [ec, m1, m3, hc, if_neg (by decide)]
    refine ⟨fun _ => ⟨hp, r_tk (by omega) t1.1 t1.2 (by omega) (fun b0 V hV => ⟨fun z => absurd z (by decide), fun _ => ?_⟩) (fun b0 V hV => ⟨fun _ => ⟨hp, ?_⟩, fun z => absurd rfl z⟩)⟩, fun z => absurd rfl z⟩
    · have kV : mKi V i = nI 3 := by rw [(MR_msp hV (hM.1 i hi)).1, hc]
      refine gf2 (by omega) (by decide) kV hV (by omega) (by omega) b0 (fun W hW => k1 b0 W ?_)
      rw [(red_1 (hgood b0).1).1, (red_1 (hgood b0).1).2] at hW
      exact hW
    · have rV := MR_msp hV (hM.1 i hi)
      rw [rV.2.2.2.1, hc, if_pos rfl]
      have u1 : mFU V (P 3 i) = (if e = 0 then (-1) else lN c) := by rw [(mSp_fu hV).1]; exact t2.1
      have u2 : mFL V (P 3 i) = (if e = 0 then 1 else lN e) := by rw [(mSp_fu hV).2]; exact t2.2
      refine r_tk (by omega) u1 u2 (by omega) (fun e0 Y hY => ⟨fun z => absurd z (by decide), fun _ => ⟨hp, ?_⟩⟩) (fun e0 Y hY => ⟨fun _ => gf0 (by omega) (mSp_tr hV hY) (k0 b0 e0), fun z => absurd rfl z⟩)
      have rY := MR_msp hY rV
      have hTY := mSp_tr hV hY
      have ml : mLe Y (P 2 i) = nI (P 1 (P 2 i)) := (MR_msp hTY (hM.1 (P 2 i) (by omega))).2.1
      rw [rY.2.2.1, hc, if_neg (by decide), es, ml, (mSp_upq hY).1, (mSp_upq hY).2, ← b2, nI_l (by omega), lN_mul, lN_add]
      refine ⟨hps, fun U eU => ?_⟩
      have sU := mSp_up eU
      rw [(mSp_upq hY).2] at sU
      have hTU := mSp_tr hTY sU
      have kU : mKi U i = nI 3 := by rw [(MR_msp sU rY).1, hc]
      refine gf2 (by omega) (by decide) kU hTU (by omega) (by omega) e0 (fun W hW => k2 b0 e0 W ?_)
      rw [(red_1 (hg e0)).1, (red_1 (hg e0)).2] at hW
      exact hW
  by_cases hb : 0 < b
  · obtain ⟨g1, g2, g3, g4⟩ := hgood hb
    refine ⟨(a, b), Or.inr ⟨g1, g2, ?_, ?_⟩, fun S post hX h1 h0 => X S post hX (fun _ V hV => h1 g2 V hV) (fun z => absurd z (by omega)) (fun z => absurd z (by omega)), fun T post K hM hK => M T post K hM (fun _ W hW => hK W ?_) (fun z => absurd z (by omega)) (fun z => absurd z (by omega))⟩
    · exact Nat.le_trans g3 (Nat.mul_le_mul_left 8000 (pow20 b4))
    · exact Nat.lt_of_lt_of_le g4 (Nat.mul_le_mul_right b (by omega))
    · rw [if_neg (show ¬ b = 0 by omega), if_neg (show ¬ b = 0 by omega)]
      exact hW
  · by_cases he : 0 < e
    · obtain ⟨g1, g2, g3, g4⟩ := hgoodt he
      refine ⟨(c + P 4 i * e, e), Or.inr ⟨hg he, g2, ?_, ?_⟩, fun S post hX h1 h0 => X S post hX (fun z => absurd z hb) (fun _ _ V hV => h1 g2 V hV) (fun _ z => absurd z (by omega)), fun T post K hM hK => M T post K hM (fun z => absurd z hb) (fun _ _ W hW => hK W ?_) (fun _ z => absurd z (by omega))⟩
      · exact Nat.le_trans g3 (Nat.mul_le_mul_left 8000 (pow20 b5))
      · show c + P 4 i * e < P 1 i * e
        rw [b3, ← b2, Nat.add_mul]
        omega
      · rw [if_neg (show ¬ e = 0 by omega), if_neg (show ¬ e = 0 by omega)]
        exact hW
    · refine ⟨(0, 0), Or.inl rfl, fun S post hX h1 h0 => X S post hX (fun z => absurd z hb) (fun _ z => absurd z he) (fun _ _ V x y hV => h0 rfl V x y hV), fun T post K hM hK => M T post K hM (fun z => absurd z hb) (fun _ z => absurd z he) (fun _ _ W hW => hK W hW)⟩
theorem f_step {P : PD} {n i dd : Nat} {q : Nat × Nat × Nat} {H : Nat → Nat × Nat} (hn : n ≤ 40) (hi : i < n) (hd : dd < 10) (hq : DR P n q) (hPI : ∀ j, j < n → PI P j) (hH : ∀ k, k < i → FI P k (H k)) : ∃ v, FI P i v ∧ FX P n q dd H i v ∧ FM P n q dd H i v := by
  by_cases h0 : P 0 i = 0
  · exact f_melt hn hi hd hq (hPI q.1 hq.1).2.2.1 h0
  · by_cases h3 : P 0 i = 3
    · exact f_weld hn hi hPI hH h3
    · exact f_one hn hi hPI hH h0 h3
theorem XR_eq {P : PD} {i : Nat} {S T : XSt} (h : xEq S T) (r : XR P i S) : XR P i T := by
  obtain ⟨h1, h2, h3, h4, h5, h6, h7, h8, h9, h10, -⟩ := h
  unfold XR
  rw [h1, h2, h3, h4, h5, h6, h7, h8, h9, h10]
  exact r
theorem MR_eq {P : PD} {i : Nat} {S T : MSt} (h : mEq S T) (r : MR P i S) : MR P i T := by
  obtain ⟨h1, h2, h3, h4, h5, h6, h7, h8, h9, h10, h11, -⟩ := h
  unfold MR
  rw [h1, h2, h3, h4, h5, h6, h7, h8, h9, h10, h11]
  exact r
theorem xEq_refl {S : XSt} : xEq S S := ⟨rfl, rfl, rfl, rfl, rfl, rfl, rfl, rfl, rfl, rfl, rfl, rfl, rfl, rfl, rfl, rfl, rfl⟩
theorem mEq_refl {S : MSt} : mEq S S := ⟨rfl, rfl, rfl, rfl, rfl, rfl, rfl, rfl, rfl, rfl, rfl, rfl, rfl, rfl, rfl, rfl, rfl, rfl, rfl⟩
theorem xEq_tr {S T U : XSt} (h : xEq S T) (g : xEq T U) : xEq S U := by
  unfold xEq at *
  obtain ⟨h1, h2, h3, h4, h5, h6, h7, h8, h9, h10, h11, h12, h13, h14, h15, h16, h17⟩ := h
  rw [h1, h2, h3, h4, h5, h6, h7, h8, h9, h10, h11, h12, h13, h14, h15, h16, h17] at g
  exact g
theorem mEq_tr {S T U : MSt} (h : mEq S T) (g : mEq T U) : mEq S U := by
  unfold mEq at *
  obtain ⟨h1, h2, h3, h4, h5, h6, h7, h8, h9, h10, h11, h12, h13, h14, h15, h16, h17, h18, h19⟩ := h
  rw [h1, h2, h3, h4, h5, h6, h7, h8, h9, h10, h11, h12, h13, h14, h15, h16, h17, h18, h19] at g
  exact g
def xFw (T W : XSt) (i : Nat) (x y : Int64) : Prop := xEq T W ∧ xFU W = vp_updL (xFU T) i x ∧ xFL W = vp_updL (xFL T) i y
theorem xFw_mk {T V U W : XSt} {i : Nat} {x y a b : Int64} (hi : i < 40) (hV : xSp T V a b) (e1 : U = xuFU V (nI i) x) (e2 : W = xuFL U (nI i) y) : xFw T W i x y := by
  have ec : (nI i).toNatClampNeg = i := nI_clamp (by omega)
  have f1 := xEFU e1
  have f2 := xEFL e2
  rw [ec] at f1 f2
  obtain ⟨h1, h2, h3, h4, h5, h6, h7, h8, h9, h10, h11, h12, h13, h14, h15, h16, h17, h18, h19, -, -⟩ := hV
  simp only [xFw, xEq, f2, f1, h1, h2, h3, h4, h5, h6, h7, h8, h9, h10, h11, h12, h13, h14, h15, h16, h17, h18, h19, and_self]
theorem CXF_fw {P : PD} {n j dd : Nat} {q : Nat × Nat × Nat} {H H' : Nat → Nat × Nat} {S W : XSt} {v : Nat × Nat} (h : CXF P n q dd S H j) (hW : xFw S W j (lN v.1) (lN v.2)) (hv : H' j = v) (ho : ∀ k, k < j → H' k = H k) : CXF P n q dd W H' (j + 1) := by
  obtain ⟨h1, h2, h3, h4, h5, h6⟩ := h
  obtain ⟨hE, w1, w2⟩ := hW
  have hE' := hE
  obtain ⟨-, -, -, -, -, -, -, -, -, -, e11, e12, e13, e14, -⟩ := hE'
  refine ⟨fun k hk => XR_eq hE (h1 k hk), by rw [e14]; exact h2, by rw [e11]; exact h3, by rw [e12]; exact h4, by rw [e13]; exact h5, fun k hk => ?_⟩
  rw [w1, w2]
  by_cases hkj : k = j
  · rw [hkj, pk_uLs, pk_uLs, hv]
    exact ⟨rfl, rfl⟩
  · rw [pk_uLn hkj, pk_uLn hkj, ho k (by omega)]
    exact h6 k (by omega)
theorem CMF_fw {P : PD} {n j dd : Nat} {q : Nat × Nat × Nat} {H H' : Nat → Nat × Nat} {S W : MSt} {v : Nat × Nat} (h : CMF P n q dd S H j) (hW : mFw S W j (if v.2 = 0 then (-1) else lN v.1) (if v.2 = 0 then 1 else lN v.2)) (hv : H' j = v) (ho : ∀ k, k < j → H' k = H k) : CMF P n q dd W H' (j + 1) := by
  obtain ⟨h1, h2, h3, h4, h5, h6⟩ := h
  obtain ⟨hE, w1, w2⟩ := hW
  have hE' := hE
  obtain ⟨-, -, -, -, -, -, -, -, -, -, -, e12, e13, e14, -, e16, -⟩ := hE'
  refine ⟨fun k hk => MR_eq hE (h1 k hk), by rw [e16]; exact h2, by rw [e12]; exact h3, by rw [e13]; exact h4, by rw [e14]; exact h5, fun k hk => ?_⟩
  rw [w1, w2]
  by_cases hkj : k = j
  · rw [hkj, pk_uLs, pk_uLs, hv]
    exact ⟨rfl, rfl⟩
  · rw [pk_uLn hkj, pk_uLn hkj, ho k (by omega)]
    exact h6 k (by omega)
theorem fwd {P : PD} {n dd : Nat} {q : Nat × Nat × Nat} (hn : n ≤ 40) (hd : dd < 10) (hq : DR P n q) (hPI : ∀ j, j < n → PI P j) : ∀ (k j : Nat) (H : Nat → Nat × Nat), j + k = n → (∀ i, i < j → FI P i (H i)) → ∃ G : Nat → Nat × Nat, (∀ i, i < n → FI P i (G i)) ∧
    (∀ (S : XSt) (post : XSt → Prop) (f : Nat), CXF P n q dd S H j → k < f → (∀ S', xEq S S' → CXF P n q dd S' G n → post S') → wpL_X_follow_2 post (nI dd) f S (nI j)) ∧
    (∀ (T : MSt) (post : MSt → Prop) (f : Nat), CMF P n q dd T H j → k < f → (∀ T', mEq T T' → CMF P n q dd T' G n → post T') → wpL_M_goForward_2 post (nI dd) f T (nI j))
  | 0, j, H, hj, hH => by
    have e : j = n := by omega
    subst e
    refine ⟨H, hH, fun S post f hX hf hK => ?_, fun T post f hM hf hK => ?_⟩
    · obtain ⟨f, rfl⟩ : ∃ g, f = g + 1 := ⟨f - 1, by omega⟩
      exact ⟨fun _ => hK S xEq_refl hX, fun z => absurd (by rw [hX.2.1]; exact nI_le (Nat.le_refl _) (by omega)) z⟩
    · obtain ⟨f, rfl⟩ : ∃ g, f = g + 1 := ⟨f - 1, by omega⟩
      exact ⟨fun _ => hK T mEq_refl hM, fun z => absurd (by rw [hM.2.1]; exact nI_le (Nat.le_refl _) (by omega)) z⟩
  | k + 1, j, H, hj, hH => by
    have hjn : j < n := by omega
    have hp := qz_in hn hjn
    obtain ⟨v, v1, v2, v3⟩ := f_step (dd := dd) hn hjn hd hq hPI hH
    obtain ⟨G, g1, g2, g3⟩ := fwd hn hd hq hPI k (j + 1) (fun k => if k = j then v else H k) (by omega) (fun i hi => by
      show FI P i (if i = j then v else H i)
      by_cases h : i = j
      · rw [if_pos h, h]; exact v1
      · rw [if_neg h]; exact hH i (by omega))
    refine ⟨G, g1, fun S post f hX hf hK => ?_, fun T post f hM hf hK => ?_⟩
    · obtain ⟨f, rfl⟩ : ∃ g, f = g + 1 := ⟨f - 1, by omega⟩
      refine ⟨fun z => absurd z (by rw [hX.2.1]; exact nI_ge hjn (by omega)), fun _ => v2 S _ hX (fun v0 V hV => ⟨fun z => absurd z (by decide), fun _ => ⟨hp, fun U eU => ⟨hp, fun W eW w ew => ?_⟩⟩⟩) (fun v0 V x y hV => ⟨fun _ => ⟨hp, fun U eU => ⟨hp, fun W eW w ew => ?_⟩⟩, fun z => absurd rfl z⟩)⟩
      · have l5 : xlo U = xlo V := (xEFU eU).2.2.2.2.2.2.2.2.2.2.2.2.2.2.2.2.2.2.2.2
        rw [(xSp_upq hV).1] at eU
        rw [l5, (xSp_upq hV).2] at eW
        have hW := xFw_mk (by omega) hV eU eW
        rw [ew, nI_1]
        exact g2 W post f (CXF_fw hX hW (if_pos rfl) (fun k hk => if_neg (by omega))) (by omega) (fun Y hY => hK Y (xEq_tr hW.1 hY))
      · have hW := xFw_mk (by omega) hV eU eW
        have e0 : v = (0, 0) := by
          rcases v1 with e | e
          · exact e
          · exact absurd v0 (by omega)
        have hW' : xFw S W j (lN v.1) (lN v.2) := by
          rw [e0]
          exact hW
        rw [ew, nI_1]
        exact g2 W post f (CXF_fw hX hW' (if_pos rfl) (fun k hk => if_neg (by omega))) (by omega) (fun Y hY => hK Y (xEq_tr hW.1 hY))
    · obtain ⟨f, rfl⟩ : ∃ g, f = g + 1 := ⟨f - 1, by omega⟩
      exact v3 T post _ hM (fun W hW => g3 W post f (CMF_fw hM hW (if_pos rfl) (fun k hk => if_neg (by omega))) (by omega) (fun Y hY => hK Y (mEq_tr hW.1 hY)))
theorem Rel_eq {P : PD} {n : Nat} {df : Nat → Nat × Nat × Nat} {d hp : Nat} {S S' : XSt} {T T' : MSt} (h : Rel P n df d hp S T) (hX : xEq S S') (hM : mEq T T') : Rel P n df d hp S' T' := by
  obtain ⟨x1, x2, x3, x4, x5, x6, x7, x8, x9, x10, x11, x12, x13, x14, x15, x16, x17⟩ := hX
  obtain ⟨y1, y2, y3, y4, y5, y6, y7, y8, y9, y10, y11, y12, y13, y14, y15, y16, y17, y18, y19⟩ := hM
  unfold Rel XR MR at *
  rw [x1, x2, x3, x4, x5, x6, x7, x8, x9, x10, x11, x12, x13, x14, x15, x16, x17, y1, y2, y3, y4, y5, y6, y7, y8, y9, y10, y11, y12, y13, y14, y16, y17, y18, y19]
  exact h
/-- a walk forward from a defect, on both sides -/
theorem fwdBoth {P : PD} {n : Nat} {df : Nat → Nat × Nat × Nat} {d hp : Nat} {S : XSt} {T : MSt} (h : Rel P n df d hp S T) {dd : Nat} (hdd : dd < d) : ∃ G : Nat → Nat × Nat, (∀ i, i < n → FI P i (G i)) ∧ (∀ (post : XSt → Prop), (∀ S', xEq S S' → CXF P n (df dd) dd S' G n → post S') → wp_X_follow post (nI dd) S) ∧ (∀ (T0 : MSt) (post : MSt → Prop), mTh T T0 0 → (∀ T', mEq T0 T' → CMF P n (df dd) dd T' G n → post T') → wp_M_goForward post (nI dd) T0) := by
  have hrow := h.2.2.2.2.2.2.2.2.2.1
  have hd := h.2.1
  have hdf := h.2.2.2.2.2.2.2.2.2.2.2 dd hdd
  obtain ⟨G, g1, g2, g3⟩ := fwd (P := P) (q := df dd) (dd := dd) h.1 (by omega) hdf.2.2.2.2.2.2 (fun j hj => (hrow j hj).2.2.1) n 0 (fun _ => (0, 0)) (by omega) (fun i hi => absurd hi (by omega))
  refine ⟨G, g1, fun post hK => ⟨n + 1, g2 S post (n + 1) ⟨fun k hk => (hrow k hk).1, h.2.2.1, hdf.1, hdf.2.2.1, hdf.2.2.2.2.1, fun k hk => absurd hk (by omega)⟩ (by omega) hK⟩, fun T0 post hT0 hK => ⟨n + 1, g3 T0 post (n + 1) ?_ (by omega) hK⟩⟩
  have hR := Rel_th h hT0
  have hdR := hR.2.2.2.2.2.2.2.2.2.2.2 dd hdd
  exact ⟨fun k hk => (hR.2.2.2.2.2.2.2.2.2.1 k hk).2.1, hR.2.2.2.1, hdR.2.1, hdR.2.2.2.1, hdR.2.2.2.2.2.1, fun k hk => absurd hk (by omega)⟩

