/-! the whole walk back; origin, defect -/
theorem CX_sp {P : PD} {n : Nat} {S T : XSt} {u w u1 w1 : Nat} (h : CX P n S u w) (hT : xSp S T (lN u1) (lN w1)) : CX P n T u1 w1 :=
  ⟨fun j hj => XR_xsp hT (h.1 j hj), by rw [xSp_pc hT]; exact h.2.1, (xSp_upq hT).1, (xSp_upq hT).2⟩
theorem CM_sp {P : PD} {n : Nat} {S T : MSt} {u w u1 w1 : Nat} (h : CM P n S u w) (hT : mSp S T (lN u1) (lN w1)) : CM P n T u1 w1 :=
  ⟨fun j hj => MR_msp hT (h.1 j hj), (mSp_upq hT).1, (mSp_upq hT).2⟩
theorem walk {P : PD} {n : Nat} (hn : n ≤ 40) (hPI : ∀ j, j < n → PI P j) : ∀ b i u w : Nat, i < b → i < n → BI P i u w → ∃ m u' w', m < n ∧ P 0 m = 0 ∧ BI P m u' w' ∧ (∀ (S : XSt) (post : Int32 → XSt → Prop) (p0 p1 : Int32) (c f : Nat), CX P n S u w → c + i < 40 → i < f → (∀ T, xSp S T (lN u') (lN w') → post (nI m) T) → wpL_X_walkBack_15 post p0 p1 f S (nI i) (nI c)) ∧ (∀ (T : MSt) (post : MSt → Prop) (p0 p1 : Int32) (f : Nat), CM P n T u w → i < f → (∀ T', mSp T T' (lN u') (lN w') → mme T' = nI m → post T') → wpL_M_goBack_13 post p0 p1 f T (nI i))
  | 0, _, _, _, h, _, _ => absurd h (by omega)
  | b + 1, i, u, w, hb, hi, hB => by
    have hp := qz_in hn hi
    have ec : (nI i).toNatClampNeg = i := nI_clamp (by omega)
    have e40' : ∀ c : Nat, c < 40 → ¬ (40 : Int32) ≤ nI c := fun c hc => nI_ge (b := 40) hc (by decide)
    by_cases hk : P 0 i = 0
    · refine ⟨i, u, w, hi, hk, hB, fun S post p0 p1 c f hX hc hf hK => ?_, fun T post p0 p1 f hM hf hK => ?_⟩
      · obtain ⟨f, rfl⟩ : ∃ g, f = g + 1 := ⟨f - 1, by omega⟩
        obtain ⟨x1, x2, x3, x4, x5, x6, x7, x8, x9⟩ := hX.1 i hi
        refine ⟨fun z => absurd z (e40' c (by omega)), fun _ => ⟨hp, fun k2 e2 => ?_⟩⟩
        rw [ec, x1, hk] at e2
        subst e2
        refine ⟨fun e => absurd e (by decide), fun _ => ⟨fun e => absurd e (by decide), fun _ => ⟨fun e => absurd e (by decide), fun _ => ⟨hp, ?_⟩⟩⟩⟩
        rw [ec, x3, hk, if_pos rfl]
        exact r_isPiece (fun z => absurd (by decide) z.1) (fun _ => ⟨fun _ => hK S (xSp_refl hX.2.2.1 hX.2.2.2), fun e => absurd rfl e⟩)
      · obtain ⟨f, rfl⟩ : ∃ g, f = g + 1 := ⟨f - 1, by omega⟩
        obtain ⟨m1, m2, m3, m4, m5, m6, m7, m8, m9, m10⟩ := hM.1 i hi
        obtain ⟨bw, bu⟩ := BI_bd hB (hPI i hi).2.2.1
        refine ⟨hp, ?_⟩
        rw [ec, m1, hk]
        refine ⟨fun _ => low1 hB.1 (mSp_refl hM.2.1 hM.2.2) (by omega) (by omega) hB.2.1 (fun V hV W eW => ?_), fun e => absurd rfl e⟩
        have q := mSp_me eW
        rw [(mSp_upq hV).1, (mSp_upq hV).2] at q
        exact hK W (mSp_tr hV q.1) q.2
    · obtain ⟨s, u1, w1, hs, hB1, sX, sM⟩ := bstep hn hi hPI hB hk
      obtain ⟨m, u', w', hm, hm0, hB2, iX, iM⟩ := walk hn hPI b s u1 w1 (by omega) (by omega) hB1
      refine ⟨m, u', w', hm, hm0, hB2, fun S post p0 p1 c f hX hc hf hK => ?_, fun T post p0 p1 f hM hf hK => ?_⟩
      · obtain ⟨f, rfl⟩ : ∃ g, f = g + 1 := ⟨f - 1, by omega⟩
        refine ⟨fun z => absurd z (e40' c (by omega)), fun _ => sX S _ hX (fun V hV => ?_)⟩
        have hXV := CX_sp hX hV
        refine r_isPiece (fun _ => ⟨fun e => absurd e (by decide), fun _ v ev => ?_⟩) (fun z => absurd ((pz_qz hXV.2.1).mpr (qz_nI hn (by omega))) z)
        rw [ev, nI_1]
        exact iX V post p0 p1 (c + 1) f hXV (by omega) (by omega) (fun W hW => hK W (xSp_tr hV hW))
      · obtain ⟨f, rfl⟩ : ∃ g, f = g + 1 := ⟨f - 1, by omega⟩
        exact sM T post p0 p1 _ hM (fun V hV => iM V post p0 p1 f (CM_sp hM hV) (by omega) (fun W hW => hK W (mSp_tr hV hW)))
theorem Rel_sp {P : PD} {n : Nat} {df : Nat → Nat × Nat × Nat} {d hp : Nat} {S S' : XSt} {T T' : MSt} {x y a b : Int64} (h : Rel P n df d hp S T) (hX : xSp S S' x y) (hM : mSp T T' a b) : Rel P n df d hp S' T' := by
  obtain ⟨x1, x2, x3, x4, x5, x6, x7, x8, x9, x10, x11, x12, x13, x14, x15, x16, x17, x18, x19, -, -⟩ := hX
  obtain ⟨y1, y2, y3, y4, y5, y6, y7, y8, y9, y10, y11, y12, y13, y14, y15, y16, y17, y18, y19, y20, y21, -, -⟩ := hM
  unfold Rel XR MR at *
  rw [x1, x2, x3, x4, x5, x6, x7, x8, x9, x10, x11, x12, x13, x16, x17, x18, x19, y1, y2, y3, y4, y5, y6, y7, y8, y9, y10, y11, y12, y13, y14, y18, y19, y20, y21]
  exact h
theorem BI_0 {P : PD} {i q : Nat} (h7 : P 7 i ≤ 3) (hq : q < P 1 i) : BI P i q 1 := by
  refine ⟨Nat.gcd_one_right q, by decide, ?_, by omega⟩
  have h1 := pow20 h7
  have h2 : 20 ^ 3 = 8000 := by decide
  omega
/-- a walk back from a place, on both sides -/
theorem walkBoth {P : PD} {n : Nat} {df : Nat → Nat × Nat × Nat} {d hp : Nat} {S : XSt} {T : MSt} (h : Rel P n df d hp S T) {i q : Nat} (hi : i < n) (hq : q < P 1 i) : ∃ m u w, m < n ∧ P 0 m = 0 ∧ BI P m u w ∧ (∀ (post : Int32 → XSt → Prop), (∀ S', xSp S S' (lN u) (lN w) → post (nI m) S') → wp_X_walkBack post (nI i) (nI q) S) ∧ (∀ (T0 : MSt) (post : MSt → Prop), mTh T T0 0 → (∀ T', mSp T0 T' (lN u) (lN w) → mme T' = nI m → post T') → wp_M_goBack post (nI i) (nI q) T0) := by
  have hrow := h.2.2.2.2.2.2.2.2.2.1
  have hn := h.1
  have pl : P 1 i ≤ 1000000000 := (hrow i hi).2.2.1.2.2.1
  obtain ⟨m, u, w, hm, hm0, hB, wX, wM⟩ := walk hn (fun j hj => (hrow j hj).2.2.1) (i + 1) i q 1 (by omega) hi (BI_0 (hrow i hi).2.2.1.2.2.2.1 hq)
  refine ⟨m, u, w, hm, hm0, hB, fun post hK => r_set (fun V hV => ⟨i + 1, ?_⟩), fun T0 post hT0 hK U e1 V e2 => ⟨i + 1, ?_⟩⟩
  · rw [nI_l (by omega)] at hV
    exact wX V post _ _ 0 (i + 1) ⟨fun j hj => XR_xsp hV (hrow j hj).1, by rw [xSp_pc hV]; exact h.2.2.1, (xSp_upq hV).1, (xSp_upq hV).2⟩ (by omega) (by omega) (fun W hW => hK W (xSp_tr hV hW))
  · have hR := Rel_th h hT0
    have q1 := mSp_up e1
    have q2 := mSp_tr q1 (mSp_lo e2)
    rw [(mSp_upq q1).1, nI_l (by omega)] at q2
    exact wM V post _ _ (i + 1) ⟨fun j hj => MR_msp q2 (hR.2.2.2.2.2.2.2.2.2.1 j hj).2.1, (mSp_upq q2).1, (mSp_upq q2).2⟩ (by omega) (fun W hW => hK W (mSp_tr q2 hW))
theorem thrL {P : PD} {n : Nat} {df : Nat → Nat × Nat × Nat} {d hp : Nat} {S : XSt} {T : MSt} {o : Nat → Int64} {FIN : Int32 → Int64 → LSt → MSt → Prop} {A : MSt → Prop} {a b c e k : Int32} (h : Rel P n df d hp S T) (hA : ∀ r b O U, Agree r b O U → FIN r b O U) (hk : thc a b c e = k) (hz : ¬ k = 0) : wp_M_throwing (fun r U => ((r = 0 → A U) ∧ (¬ r = 0 → FIN k 0 (o, S) U))) a b c e T :=
  r_thr hk hz (fun _ hU => ⟨fun z => absurd z (by decide), fun _ => hA _ _ _ _ (Agree_th h hU hz)⟩)
theorem mSp_th {S T : MSt} {x y : Int64} (h : mSp S T x y) : mth T = mth S := h.2.2.2.2.2.2.2.2.2.2.2.2.2.2.2.2.1
theorem op_origin {P : PD} {n : Nat} {df : Nat → Nat × Nat × Nat} {d hp : Nat} {S : XSt} {T : MSt} {p x y : Int32} {o : Nat → Int64} {F : Int32 → LSt → Prop} {FIN : Int32 → Int64 → LSt → MSt → Prop} (h : Rel P n df d hp S T) (hF : ∀ r O, wp_M_origin (fun b U => FIN r b O U) p x y T → F r O) (hA : ∀ r b O U, Agree r b O U → FIN r b O U) : wp_L_origin F p x y (o, S) := by
  have hn := h.1
  have c1 := h.2.2.1
  have c2 := h.2.2.2.1
  have hrow := h.2.2.2.2.2.2.2.2.2.1
  have bad1 : ¬ (qz n p ∧ ¬ y < 0 ∧ ¬ 2 < y) → wp_M_origin (fun b U => FIN 1 b (o, S) U) p x y T := by
    intro q
    have bad : wpJ_M_origin_17 (fun b U => FIN 1 b (o, S) U) p x y T := ⟨fun e => absurd e (by decide), fun _ => thrL h hA (thc1 _ _ _) (by decide)⟩
    exact r_MisPiece hn c2 (fun q1 => ⟨fun e => absurd e (by decide), fun _ => r_in (fun z1 z2 => absurd ⟨q1, z1, z2⟩ q) (fun _ => ⟨fun _ => bad, fun e => absurd rfl e⟩)⟩) (fun _ => ⟨fun _ => bad, fun e => absurd rfl e⟩)
  unfold wp_L_origin wp_X_origin
  refine r_needPiece (fun hz => ?_) (fun hz => Or.inl ⟨rfl, hF _ _ (bad1 (fun q => hz ((pz_qz c1).mpr q.1)))⟩)
  refine r_needPart (fun y1 y2 => ?_) (fun z => Or.inl ⟨rfl, hF _ _ (bad1 (fun q => z.elim q.2.1 (fun w => w ((le_nlt _ _).mpr q.2.2))))⟩)
  clear bad1
  obtain ⟨i, hi, rfl⟩ := qz_of hn ((pz_qz c1).mp hz)
  have hp1 := qz_in hn hi
  have ec : (nI i).toNatClampNeg = i := nI_clamp (by omega)
  obtain ⟨rX, rM, rP, r9⟩ := hrow i hi
  obtain ⟨x1, x2, x3, x4, x5, x6, x7, x8, x9⟩ := rX
  obtain ⟨m1, m2, m3, m4, m5, m6, m7, m8, m9, m10⟩ := rM
  have pl0 : 1 ≤ P 1 i := rP.2.1
  have pl1 : P 1 i ≤ 1000000000 := rP.2.2.1
  have hL : nI (P 1 i) - 1 = nI (P 1 i - 1) := pk_sub (a := P 1 i) (b := 1) pl0
  have enter : ∀ {K : Int64 → MSt → Prop}, wpJ_M_origin_22 K (nI i) x y T 0 → wp_M_origin K (nI i) x y T := fun q => mp1 h hi ⟨fun e => absurd e (by decide), fun _ => r_in (fun _ _ => ⟨fun e => absurd e (by decide), fun _ => q⟩) (fun z => absurd z (fun z => z.elim y1 (fun w => (le_nlt _ _).mp y2 w)))⟩
  refine ⟨hp1, ?_⟩
  rw [ec, x2, hL]
  refine r_needWithin (fun b1 b2 => ?_) (fun b => Or.inr ⟨rfl, hF _ _ (enter ⟨fun _ => ⟨hp1, ?_⟩, fun e => absurd rfl e⟩)⟩)
  rotate_left
  · rw [ec, m2, hL]
    exact r_in (fun z1 z2 => absurd b (fun z => z.elim z1 (fun w => w ((le_nlt _ _).mpr z2)))) (fun _ => ⟨fun _ => thrL h hA (thc2 _ _) (by decide), fun e => absurd rfl e⟩)
  obtain ⟨q, hq1, hq2, rfl⟩ := within_nI (a := 0) (b := P 1 i - 1) (by omega) (by decide) b1 b2
  obtain ⟨m, u, w, hm, hm0, hB, wX, wM⟩ := walkBoth h hi (q := q) (by omega)
  refine wX _ (fun S' hS' => ?_)
  have key : ∀ (r : Int64), (∀ T', mSp T T' (lN u) (lN w) → True) → (r = (if y = 0 then (nI m).toInt64 else if y = 1 then lN u else lN w)) → (vp_in 0 1 ∧ ∀ S4 : LSt, S4 = luO (o, S') 0 r → F 0 S4) := by
    intro r _ er
    refine ⟨in01, fun O eO => hF _ _ (enter ⟨fun _ => ⟨hp1, ?_⟩, fun e => absurd rfl e⟩)⟩
    have g := out_put eO
    rw [ec, m2, hL]
    refine r_in (fun _ _ => ⟨fun e => absurd e (by decide), fun _ => r_thr0 (fun U0 hU0 => ⟨fun _ => wM U0 _ hU0 (fun T' hT' em => ?_), fun e => absurd rfl e⟩)⟩) (fun z => absurd z (fun z => z.elim b1 (fun w => (le_nlt _ _).mp b2 w)))
    have fin : ∀ b : Int64, b = r → FIN 0 b O T' := fun b eb => hA _ _ _ _ ⟨by rw [mSp_th hT']; exact mTh_th hU0, fun _ => by rw [g.1, eb], P, n, df, d, hp, by rw [g.2]; exact Rel_sp (Rel_th h hU0) hS' hT'⟩
    rw [em, (mSp_upq hT').1, (mSp_upq hT').2]
    refine ⟨fun z => fin _ (by rw [er, if_pos z]), fun z => ⟨fun z1 => fin _ (by rw [er, if_neg z, if_pos z1]), fun z1 => fin _ (by rw [er, if_neg z, if_neg z1])⟩⟩
  rw [(xSp_upq hS').1, (xSp_upq hS').2]
  exact ⟨fun z => key _ (fun _ _ => trivial) (by rw [if_pos z]), fun z => ⟨fun z1 => key _ (fun _ _ => trivial) (by rw [if_neg z, if_pos z1]), fun z1 => key _ (fun _ _ => trivial) (by rw [if_neg z, if_neg z1])⟩⟩
theorem e10 {d : Nat} (hd : d ≤ 10) : nI d = 10 ↔ d = 10 := nI_eq (a := d) (b := 10) (by omega) (by decide)
theorem l10 {d : Nat} (hd : d ≤ 10) : nI d < 10 ↔ d < 10 := nI_ltI (a := d) (b := 10) (by omega) (by decide)
theorem op_defect {P : PD} {n : Nat} {df : Nat → Nat × Nat × Nat} {d hp : Nat} {S : XSt} {T : MSt} {p x : Int32} {o : Nat → Int64} {F : Int32 → LSt → Prop} {FIN : Int32 → Int32 → LSt → MSt → Prop} (h : Rel P n df d hp S T) (hF : ∀ r O, wp_M_defect (fun b U => FIN r b O U) p x T → F r O) (hA : ∀ r b O U, Agree r b.toInt64 O U → FIN r b O U) : wp_L_defect F p x (o, S) := by
  have hn := h.1
  have hd := h.2.1
  have c1 := h.2.2.1
  have c2 := h.2.2.2.1
  have c3 := h.2.2.2.2.1
  have c4 := h.2.2.2.2.2.1
  have hrow := h.2.2.2.2.2.2.2.2.2.1
  unfold wp_L_defect wp_X_defect
  refine r_needPiece (fun hz => ?_) (fun hz => Or.inl ⟨rfl, hF _ _ (mp0 h (fun q => hz ((pz_qz c1).mpr q)) ⟨fun _ => ⟨fun e => absurd e (by decide), fun _ => ⟨fun _ => thrA h hA (thc1 _ _ _) (by decide), fun _ => thrA h hA (thc1 _ _ _) (by decide)⟩⟩, fun e => absurd rfl e⟩)⟩)
  obtain ⟨i, hi, rfl⟩ := qz_of hn ((pz_qz c1).mp hz)
  have hp1 := qz_in hn hi
  have ec : (nI i).toNatClampNeg = i := nI_clamp (by omega)
  obtain ⟨rX, rM, rP, r9⟩ := hrow i hi
  obtain ⟨x1, x2, x3, x4, x5, x6, x7, x8, x9⟩ := rX
  obtain ⟨m1, m2, m3, m4, m5, m6, m7, m8, m9, m10⟩ := rM
  have pl0 : 1 ≤ P 1 i := rP.2.1
  have pl1 : P 1 i ≤ 1000000000 := rP.2.2.1
  have hL : nI (P 1 i) - 1 = nI (P 1 i - 1) := pk_sub (a := P 1 i) (b := 1) pl0
  have enter : ∀ {K : Int32 → MSt → Prop}, wpJ_M_defect_35 K (nI i) x T (nI i) 0 x 0 → wp_M_defect K (nI i) x T := fun q => mp1 h hi ⟨fun e => absurd e (by decide), fun _ => ⟨fun _ => q, fun e => absurd rfl e⟩⟩
  refine ⟨hp1, ?_⟩
  rw [ec, x2, hL]
  refine r_needWithin (fun b1 b2 => ?_) (fun b => Or.inr (Or.inl ⟨rfl, hF _ _ (enter ⟨hp1, ?_⟩)⟩))
  rotate_left
  · rw [ec, m2, hL]
    exact r_in (fun z1 z2 => absurd b (fun z => z.elim z1 (fun w => w ((le_nlt _ _).mpr z2)))) (fun _ => ⟨fun _ => ⟨fun _ => thrA h hA (thc2 _ _) (by decide), fun _ => thrA h hA (thc2 _ _) (by decide)⟩, fun e => absurd rfl e⟩)
  obtain ⟨q, hq1, hq2, rfl⟩ := within_nI (a := 0) (b := P 1 i - 1) (by omega) (by decide) b1 b2
  rw [c3, l10 hd]
  refine ⟨fun hd2 v3 e3 => ?_, fun hd2 => Or.inr (Or.inr ⟨rfl, hF _ _ (enter ⟨hp1, ?_⟩)⟩)⟩
  rotate_left
  · rw [ec, m2, hL]
    exact r_in (fun _ _ => ⟨fun e => absurd e (by decide), fun _ => ⟨fun _ => thrA h hA (thc3 _) (by decide), fun z => absurd (by rw [c4]; exact (e10 hd).mpr (by omega)) z⟩⟩) (fun z => absurd z (fun z => z.elim b1 (fun w => (le_nlt _ _).mp b2 w)))
  subst e3
  obtain ⟨m, u, w, hm, hm0, hB, wX, wM⟩ := walkBoth h hi (q := q) (by omega)
  have hin : vp_in (nI d) 10 := vp_in_nI hd2 (by decide)
  refine wX _ (fun S6 hS6 => ⟨hin, fun S9 e9 => ⟨hin, fun S11 e11 => ⟨hin, fun S13 e13 S14 e14 => ⟨in01, fun O eO => hF _ _ (enter ⟨hp1, ?_⟩)⟩⟩⟩⟩)
  have g := out_put eO
  rw [ec, m2, hL]
  refine r_in (fun _ _ => ⟨fun e => absurd e (by decide), fun _ => ⟨fun z => absurd ((e10 hd).mp (by rw [← c4]; exact z)) (by omega), fun _ => r_thr0 (fun U0 hU0 => ⟨fun _ => wM U0 _ hU0 (fun U4 hU4 em => ?_), fun e => absurd rfl e⟩)⟩⟩) (fun z => absurd z (fun z => z.elim b1 (fun w => (le_nlt _ _).mp b2 w)))
  have hR := Rel_sp (Rel_th h hU0) hS6 hU4
  have th4 : mth U4 = 0 := by rw [mSp_th hU4]; exact mTh_th hU0
  obtain ⟨-, -, d1, d2, d3, d4, d5, d6, d7, drow, dls, ddf⟩ := hR
  have ed : (nI d).toNatClampNeg = d := nI_clamp (by omega)
  rw [d4]
  refine ⟨hin, fun V6 k6 => ?_⟩
  have g6 := mEDM k6
  have dc6 : mdc V6 = nI d := by simp only [g6, d4]
  rw [dc6]
  refine ⟨hin, fun V8 k8 => ?_⟩
  have g8 := mEDU k8
  have dc8 : mdc V8 = nI d := by simp only [g8, dc6]
  rw [dc8]
  refine ⟨hin, fun V10 k10 V11 k11 => ?_⟩
  have g10 := mEDL k10
  have g11 := mEdc k11
  have dc11 : mdc V11 = nI (d + 1) := by simp only [g11, g10, dc8]; rw [nI_1]
  rw [dc11, nI_pred]
  have f9 := xEDM e9
  have f11 := xEDU e11
  have f13 := xEDL e13
  have f14 := xEdc e14
  have up6 := (xSp_upq hS6).1
  have lo6 := (xSp_upq hS6).2
  have up4 := (mSp_upq hU4).1
  have lo4 := (mSp_upq hU4).2
  refine hA _ _ _ _ ⟨by simp only [g11, g10, g8, g6, th4], fun _ => g.1, P, n, (fun j => if j = d then (m, u, w) else df j), d + 1, hp, ?_⟩
  rw [g.2]
  refine ⟨hn, by omega, by simp only [f14, f13, f11, f9, d1], by simp only [g11, g10, g8, g6, d2], ?_, dc11, by simp only [f14, f13, f11, f9, d5], by simp only [g11, g10, g8, g6, d6], by simp only [f14, f13, f11, f9, g11, g10, g8, g6, d7], fun j hj => ?_, dls, fun j hj => ?_⟩
  · simp only [f14, f13, f11, f9, d3]
    rw [nI_1]
  · obtain ⟨r1, r2, r3, r4⟩ := drow j hj
    refine ⟨?_, ?_, r3, r4⟩
    · unfold XR
      simp only [f14, f13, f11, f9]
      exact r1
    · unfold MR
      simp only [g11, g10, g8, g6]
      exact r2
  · simp only [f14, f13, f11, f9, g11, g10, g8, g6, up6, lo6, up4, lo4, em, ed]
    by_cases hjd : j = d
    · subst hjd
      rw [if_pos rfl, pk_us, pk_us, pk_uLs, pk_uLs, pk_uLs, pk_uLs]
      exact ⟨rfl, rfl, rfl, rfl, rfl, rfl, hm, hm0, hB.1, hB.2.1, (BI_bd hB (hrow m hm).2.2.1.2.2.1).1, hB.2.2.2⟩
    · rw [if_neg hjd, pk_un hjd, pk_un hjd, pk_uLn hjd, pk_uLn hjd, pk_uLn hjd, pk_uLn hjd]
      exact ddf j (by omega)

