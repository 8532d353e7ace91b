/-! THE LAW'S LOOP: both sides answer alike for every script -/
theorem law_lim {L j : Nat} (hL : L ≤ 2048) (hj : 4 * j ≤ 2048) : ((Int32.ofNat L) - 4 < nI (4 * j)) ↔ L < 4 * j + 4 := by
  have e : ((Int32.ofNat L) - 4).toInt = (L : Int) - 4 := by
    rcases L with _ | _ | _ | _ | L
    · decide
    · decide
    · decide
    · decide
    · show (nI (L + 4) - nI 4).toInt = _
      rw [← nI_add, Int32.add_sub_cancel, nI_toInt (by omega)]
      omega
  rw [Int32.lt_iff_toInt_lt, e, nI_toInt (by omega)]
  omega
def LF (K : GSt → Int32 → Prop) (u4 r : Int32) (b : Int64) (O : LSt) (U : MSt) : Prop :=
  wp_M_thrown (fun t S13 => ((t = r → ((r = 0 → (vp_in 0 1 ∧ (((gO (S13, O) (0 : Int32).toNatClampNeg) = b → (∀ v : Int32, v = u4 + 4 → K (S13, O) v)) ∧ (¬ (gO (S13, O) (0 : Int32).toNatClampNeg) = b → False)))) ∧ (¬ r = 0 → (∀ v : Int32, v = u4 + 4 → K (S13, O) v)))) ∧ (¬ t = r → False))) U
def LH (K : GSt → Int32 → Prop) (u4 r : Int32) (O : LSt) (U : MSt) : Prop :=
  wp_M_thrown (fun t S13 => ((t = r → (∀ v : Int32, v = u4 + 4 → K (S13, O) v)) ∧ (¬ t = r → False))) U
theorem LF_of {K : GSt → Int32 → Prop} {u4 r : Int32} {b : Int64} {O : LSt} {U : MSt} (hA : Agree r b O U) (hK : (∃ P n df d hp, Rel P n df d hp O.2 U) → ∀ v : Int32, v = u4 + 4 → K (U, O) v) : LF K u4 r b O U := by
  obtain ⟨h1, h2, h3⟩ := hA
  refine ⟨fun _ => ⟨fun e => ⟨vp_in_nI (n := 0) (by decide) (by decide), fun _ => hK h3, fun z => z (h2 e)⟩, fun _ => hK h3⟩, fun z => z h1⟩
theorem LH_of {K : GSt → Int32 → Prop} {u4 r : Int32} {O : LSt} {U : MSt} (h1 : mth U = r) (h3 : ∃ P n df d hp, Rel P n df d hp O.2 U) (hK : (∃ P n df d hp, Rel P n df d hp O.2 U) → ∀ v : Int32, v = u4 + 4 → K (U, O) v) : LH K u4 r O U :=
  ⟨fun _ => hK h3, fun z => z h1⟩
theorem law_all {xs : Nat → Int32} {L : Nat} (hL : L ≤ 2048) : ∀ (n j : Nat) (S : GSt), 4 * j ≤ 2048 → L < 4 * (j + n) + 4 → (∃ P n df d hp, Rel P n df d hp S.2.2 S.1) → wpL_L_law xs L (n + 1) S (nI (4 * j)) := by
  intro n
  induction n with
  | zero =>
    intro j S hj hn hR
    exact ⟨fun _ => trivial, fun z => absurd ((law_lim hL hj).mpr (by omega)) z⟩
  | succ n ih =>
    intro j S hj hn hR
    obtain ⟨T, o, X⟩ := S
    generalize eK : wpL_L_law xs L (n + 1) = K at ih
    generalize eu : nI (4 * j) = u4
    have hlim := law_lim hL hj
    rw [eu] at hlim
    have hk : L < 4 * j + 4 ∨ (4 * j + 4 ≤ L) := by omega
    rcases hk with hk | hk
    · exact ⟨fun _ => trivial, fun z => absurd (hlim.mpr hk) z⟩
    have v0 : vp_in u4 L := by rw [← eu]; exact vp_in_nI (by omega) (by omega)
    have v1 : vp_in (u4 + 1) L := by rw [← eu]; show vp_in (nI (4 * j) + nI 1) L; rw [nI_add]; exact vp_in_nI (by omega) (by omega)
    have v2 : vp_in (u4 + 2) L := by rw [← eu]; show vp_in (nI (4 * j) + nI 2) L; rw [nI_add]; exact vp_in_nI (by omega) (by omega)
    have v3 : vp_in (u4 + 3) L := by rw [← eu]; show vp_in (nI (4 * j) + nI 3) L; rw [nI_add]; exact vp_in_nI (by omega) (by omega)
    have hK : ∀ (U : MSt) (O : LSt), (∃ P n df d hp, Rel P n df d hp O.2 U) → ∀ v : Int32, v = u4 + 4 → K (U, O) v := by
      intro U O h v ev
      have e4 : v = nI (4 * (j + 1)) := by
        rw [ev, ← eu]
        exact nI_add (4 * j) 4
      rw [e4]
      exact ih (j + 1) (U, O) (by omega) (by omega) h
    have hR0 := hR
    obtain ⟨P, n9, df, d, hp, hR⟩ := hR
    have hR : Rel P n9 df d hp X T := hR
    rw [wpL_L_law, eK]
    clear eK ih
    refine ⟨fun _ => trivial, fun _ => ⟨v0, fun k3 _ => ?_⟩⟩
    refine ⟨fun _ => ⟨v1, v2, op_melt (FIN := fun r b O U => LF K u4 r b.toInt64 O U) hR (fun r O hw => ⟨v1, v2, hw⟩) (fun r b O U hA => LF_of hA (hK U O))⟩, fun _ => ?_⟩
    refine ⟨fun _ => ⟨v1, v2, op_cut (FIN := fun r b O U => LF K u4 r b.toInt64 O U) hR (fun r O hw => ⟨v1, v2, hw⟩) (fun r b O U hA => LF_of hA (hK U O))⟩, fun _ => ?_⟩
    refine ⟨fun _ => ⟨v1, v2, op_weld (FIN := fun r b O U => LF K u4 r b.toInt64 O U) hR (fun r O hw => ⟨v1, v2, hw⟩) (fun r b O U hA => LF_of hA (hK U O))⟩, fun _ => ?_⟩
    refine ⟨fun _ => ⟨v1, v2, v3, op_roll (FIN := fun r b O U => LF K u4 r b.toInt64 O U) hR (fun r O hw => ⟨v1, v2, v3, hw⟩) (fun r b O U hA => LF_of hA (hK U O))⟩, fun _ => ?_⟩
    refine ⟨fun _ => ⟨v1, v2, op_slit (FIN := fun r b O U => LF K u4 r b.toInt64 O U) hR (fun r O hw => ⟨v1, v2, hw⟩) (fun r b O U hA => LF_of hA (hK U O))⟩, fun _ => ?_⟩
    refine ⟨fun _ => ⟨v1, v2, fun _ => op_hold (FIN := fun r O U => LH K u4 r O U) hR (Or.inl rfl) (fun r O hw => ⟨v1, v2, hw⟩) (fun r O U h1 h3 => LH_of h1 h3 (hK U O)), fun _ => op_hold (FIN := fun r O U => LH K u4 r O U) hR (Or.inr rfl) (fun r O hw => ⟨v1, v2, hw⟩) (fun r O U h1 h3 => LH_of h1 h3 (hK U O))⟩, fun _ => ?_⟩
    refine ⟨fun _ => ⟨v1, op_scrap (FIN := fun r b O U => LF K u4 r b.toInt64 O U) hR (fun r O hw => ⟨v1, hw⟩) (fun r b O U hA => LF_of hA (hK U O))⟩, fun _ => ?_⟩
    refine ⟨fun _ => ⟨v1, v2, op_back (FIN := fun r b O U => LF K u4 r b.toInt64 O U) hR (fun r O hw => ⟨v1, v2, hw⟩) (fun r b O U hA => LF_of hA (hK U O))⟩, fun _ => ?_⟩
    refine ⟨fun _ => ⟨v1, v2, op_at (FIN := fun r b O U => LF K u4 r b.toInt64 O U) hR (fun r O hw => ⟨v1, v2, hw⟩) (fun r b O U hA => LF_of hA (hK U O))⟩, fun _ => ?_⟩
    refine ⟨fun _ => ⟨v1, v2, v3, op_origin (FIN := fun r b O U => LF K u4 r b O U) hR (fun r O hw => ⟨v1, v2, v3, hw⟩) (fun r b O U hA => LF_of hA (hK U O))⟩, fun _ => ?_⟩
    refine ⟨fun _ => ⟨v1, v2, op_defect (FIN := fun r b O U => LF K u4 r b.toInt64 O U) hR (fun r O hw => ⟨v1, v2, hw⟩) (fun r b O U hA => LF_of hA (hK U O))⟩, fun _ => ?_⟩
    refine ⟨fun _ => ⟨v1, v2, v3, op_has (FIN := fun r b O U => LF K u4 r b O U) hR (fun r O hw => ⟨v1, v2, v3, hw⟩) (fun r b O U hA => LF_of hA (hK U O))⟩, fun _ => ?_⟩
    refine ⟨fun _ => ⟨v1, v2, op_recall (FIN := fun r b O U => LF K u4 r b.toInt64 O U) hR (fun r O hw => ⟨v1, v2, hw⟩) (fun r b O U hA => LF_of hA (hK U O))⟩, fun _ => ?_⟩
    refine ⟨fun _ => ⟨v1, op_told (FIN := fun r b O U => LF K u4 r b O U) hR (fun r O hw => ⟨v1, hw⟩) (fun r b O U hA => LF_of hA (hK U O))⟩, fun _ => ?_⟩
    exact hK T (o, X) hR0
theorem Rel_0 : Rel (fun _ _ => 0) 0 (fun _ => (0, 0, 0)) 0 0 xS0 mS0 :=
  ⟨by decide, by decide, rfl, rfl, rfl, rfl, rfl, rfl, rfl, fun i hi => absurd hi (Nat.not_lt_zero i), by decide, fun j hj => absurd hj (Nat.not_lt_zero j)⟩
theorem pure_law (xs : Nat → Int32) (L : Nat) (hL : L ≤ 2048) : ∃ n : Nat, n ≤ 600 ∧ wpL_L_law xs L n (mS0, ((fun _ => 0), xS0)) 0 :=
  ⟨L / 4 + 1, by omega, law_all hL (L / 4) 0 (mS0, ((fun _ => 0), xS0)) (by decide) (by omega) ⟨_, _, _, _, _, Rel_0⟩⟩

