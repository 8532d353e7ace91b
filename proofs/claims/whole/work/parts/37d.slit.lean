/-! slit -/
def xSl (S V : XSt) (n i c L r w0 w1 : Nat) : Prop := xFr S V n (fun j => j = i) ∧ xpc V = nI (n + c) ∧ ∀ j, j < c → xRow V (n + j) 5 (nI L) (nI i) (-1) (nI r) (nI (if j = 0 then w0 else w1))
def mSl (S V : MSt) (n i c L r w0 w1 : Nat) : Prop := mFr S V n (fun j => j = i) ∧ mpc V = nI (n + c) ∧ ∀ j, j < c → mRow V (n + j) 5 (nI L) (nI i) (-1) (nI r) (nI (if j = 0 then w0 else w1))
theorem xSl_step {S V W : XSt} {n i c L r w0 w1 : Nat} (h : xSl S V n i c L r w0 w1) (hA : xAdd V W 5 (nI i) (nI w1) (nI L)) (hc : 1 ≤ c) (hn : n + c < 40) (hi : i < n) (hr : xRo S i = nI r) : xSl S W n i (c + 1) L r w0 w1 := by
  obtain ⟨h1, h2, h3⟩ := h
  obtain ⟨f1, f2, f3⟩ := xAdd_fr hA h2 hn
  have ec : (nI i).toNatClampNeg = i := nI_clamp (by omega)
  have ro : xRo V i = nI r := by rw [(h1.1 i hi).2.2.2.2.2.2.2.1, hr]
  rw [if_neg (nI_m1 (by omega)), ec, ro] at f3
  refine ⟨xFr_no h1 (xFr_le f1 (by omega)), f2, fun j hj => ?_⟩
  rcases Nat.lt_or_ge j c with q | q
  · exact xRow_fr f1 (by omega) id (h3 j q)
  · have e : j = c := by omega
    subst e
    rw [if_neg (by omega)]
    exact f3
theorem mSl_step {S V W : MSt} {n i c L r w0 w1 : Nat} (h : mSl S V n i c L r w0 w1) (hA : mAdd V W 5 (nI i) (nI w1) (nI L)) (hc : 1 ≤ c) (hn : n + c < 40) (hi : i < n) (hr : mRo S i = nI r) : mSl S W n i (c + 1) L r w0 w1 := by
  obtain ⟨h1, h2, h3⟩ := h
  obtain ⟨f1, f2, f3⟩ := mAdd_fr hA h2 hn (by omega)
  have ro : mRo V i = nI r := by rw [(h1.1 i hi).2.2.2.2.2.2.2.1, hr]
  rw [ro] at f3
  refine ⟨mFr_sm h1 (mFr_le f1 (by omega)), f2, fun j hj => ?_⟩
  rcases Nat.lt_or_ge j c with q | q
  · exact mRow_fr f1 (by omega) (show ¬ n + j = i by omega) (h3 j q)
  · have e : j = c := by omega
    subst e
    rw [if_neg (by omega)]
    exact f3
theorem slX {post : Int32 → XSt → Prop} {xp : String → XSt → Prop} {S : XSt} {n i N L r w0 w1 : Nat} (hi : i < n) (hN : n + N ≤ 40) (hL : xLe S i = nI L) (hr : xRo S i = nI r) (hpost : ∀ V, xSl S V n i N L r w0 w1 → post (nI n) V) : ∀ (k c : Nat) (V : XSt), c + k = N → 1 ≤ c → xSl S V n i c L r w0 w1 → wpL_X_slit_70 post xp (nI i) (nI N) (k + 1) V (nI w1) (nI n) (nI c)
  | 0, c, V, hk, hc, h => by
    have e : c = N := by omega
    subst e
    exact ⟨fun _ => hpost V h, fun z => absurd (nI_le (Nat.le_refl _) (by omega)) z⟩
  | k + 1, c, V, hk, hc, h => by
    have ec : (nI i).toNatClampNeg = i := nI_clamp (by omega)
    refine ⟨fun z => absurd z (nI_ge (by omega) (by omega)), fun _ => ⟨qz_in (n := n) (by omega) hi, ?_⟩⟩
    have l1 : xLe V i = nI L := by rw [(h.1.1 i hi).2.1, hL]
    rw [ec, l1]
    refine r_addPiece (by rw [h.2.1]; exact M40 (by omega)) (fun _ => qz_in (n := n) (by omega) hi) (fun W hW v e => ?_)
    rw [e, nI_1]
    exact slX hi hN hL hr hpost k (c + 1) W (by omega) (by omega) (xSl_step h hW hc (by omega) hi hr)
theorem slM {post : Int32 → MSt → Prop} {S : MSt} {n i N L r w0 w1 W9 : Nat} (hi : i < n) (hN : n + N ≤ 40) (hN0 : 0 < N) (hL : mLe S i = nI L) (hr : mRo S i = nI r) (hW9 : mWe S i = nI W9) (hW2 : W9 < 2 ^ 31) (hw1 : w1 = W9 / N) (hpost : ∀ V, mSl S V n i N L r w0 w1 → post (nI n) V) : ∀ (k c : Nat) (V : MSt), c + k = N → 1 ≤ c → mSl S V n i c L r w0 w1 → wpL_M_slit_67 post (nI i) (nI N) (k + 1) V (nI c)
  | 0, c, V, hk, hc, h => by
    have e : c = N := by omega
    subst e
    refine ⟨fun _ => ?_, fun z => absurd (nI_le (Nat.le_refl _) (by omega)) z⟩
    have e2 : mpc V - nI c = nI n := by rw [h.2.1, pk_sub (by omega), Nat.add_sub_cancel]
    rw [e2]
    exact hpost V h
  | k + 1, c, V, hk, hc, h => by
    have ec : (nI i).toNatClampNeg = i := nI_clamp (by omega)
    have hp := qz_in (n := n) (by omega) hi
    have hz : ¬ nI N = 0 := nI_ne0 hN0 (by omega)
    have l1 : mLe V i = nI L := by rw [(h.1.1 i hi).2.1, hL]
    have w9 : mWe V i = nI W9 := by rw [(h.1.1 i hi).2.2.2.2.2.2.2.2.1, hW9]
    refine ⟨fun z => absurd z (nI_ge (by omega) (by omega)), fun _ => ⟨hp, hz, fun z => absurd z (nI_ne0 hc (by omega)), fun _ => ⟨hp, ?_⟩⟩⟩
    rw [ec, l1, w9, pk_div hW2 hN0 (by omega), ← hw1]
    have e0 : nI w1 + 0 = nI w1 := nI_add w1 0
    rw [e0]
    refine r_add (by rw [h.2.1]; exact M40 (by omega)) (fun _ => hp) (fun W hW v e => ?_)
    rw [e, nI_1]
    exact slM hi hN hN0 hL hr hW9 hW2 hw1 hpost k (c + 1) W (by omega) (by omega) (mSl_step h hW hc (by omega) hi hr)
theorem sl_sum {Q : PD} {n i L r w0 w1 : Nat} (hQ : ∀ f j, n ≤ j → Q f j = vv 5 L i 0 0 0 0 r (if j = n then w0 else w1) f) : ∀ c : Nat, lsum Q (n + (c + 1)) = lsum Q n + w0 + c * w1
  | 0 => by
    have e8 : Q 8 n = w0 := by
      rw [hQ 8 n (Nat.le_refl _), if_pos rfl]; rfl
    have e9 : Q 9 n = 0 := by rw [hQ 9 n (Nat.le_refl _)]; rfl
    show lsum Q (n + 1) = _
    rw [lsum, e9, e8, if_pos (Or.inl rfl)]
    omega
  | c + 1 => by
    have e8 : Q 8 (n + (c + 1)) = w1 := by
      rw [hQ 8 _ (by omega), if_neg (by omega)]; rfl
    have e9 : Q 9 (n + (c + 1)) = 0 := by rw [hQ 9 _ (by omega)]; rfl
    show lsum Q (n + (c + 1) + 1) = _
    rw [lsum, e9, e8, if_pos (Or.inl rfl), sl_sum hQ c, Nat.succ_mul]
    omega
theorem sl_arith {W N : Nat} (hN : 1 ≤ N) : W / N * (N - 1) ≤ W ∧ W / N + W % N = W - W / N * (N - 1) := by
  have h1 := Nat.div_add_mod W N
  have h2 : N * (W / N) = W / N * (N - 1) + W / N := by
    rw [Nat.mul_comm N (W / N)]
    obtain ⟨m, rfl⟩ : ∃ m, N = m + 1 := ⟨N - 1, by omega⟩
    rw [Nat.add_sub_cancel, Nat.mul_succ]
  generalize W / N * (N - 1) = t at *
  generalize N * (W / N) = u at *
  generalize W / N = s at *
  generalize W % N = r at *
  omega
theorem op_slit {P : PD} {n : Nat} {df : Nat → Nat × Nat × Nat} {d hp : Nat} {S : XSt} {T : MSt} {p x : Int32} {o : Nat → Int64} {F : Int32 → LSt → Prop} {FIN : Int32 → Int32 → LSt → MSt → Prop} (h : Rel P n df d hp S T) (hF : ∀ r O, wp_M_slit (fun b U => FIN r b O U) p x T → F r O) (hA : ∀ r b O U, Agree r b.toInt64 O U → FIN r b O U) : wp_L_slit F p x (o, S) := by
  have hn := h.1
  have c1 := h.2.2.1
  have c2 := h.2.2.2.1
  have hrow := h.2.2.2.2.2.2.2.2.2.1
  unfold wp_L_slit wp_X_slit
  refine r_needPiece (fun hz => ?_) (fun hz => Or.inl ⟨rfl, hF _ _ (hand1 (fun a b S => wpJ_M_slit_27 _ p x S b a) h (fun q => hz ((pz_qz c1).mpr q)) ?_)⟩)
  rotate_left
  · exact r_in (fun _ _ => ⟨fun e => absurd e (by decide), fun _ => ⟨fun _ => thrA h hA (thc1 _ _ _) (by decide), fun _ => thrA h hA (thc1 _ _ _) (by decide)⟩⟩) (fun _ => ⟨fun _ => ⟨fun _ => thrA h hA (thc1 _ _ _) (by decide), fun _ => thrA h hA (thc1 _ _ _) (by decide)⟩, fun e => absurd rfl e⟩)
  obtain ⟨i, hi, rfl⟩ := qz_of hn ((pz_qz c1).mp hz)
  have hp1 := qz_in hn hi
  have ec : (nI i).toNatClampNeg = i := nI_clamp (by omega)
  obtain ⟨rX, rM, rP, r9⟩ := hrow i hi
  obtain ⟨x1, x2, x3, x4, x5, x6, x7, x8, x9⟩ := rX
  have pl0 : 1 ≤ P 1 i := rP.2.1
  have pl1 : P 1 i ≤ 1000000000 := rP.2.2.1
  have pr : P 7 i ≤ 3 := rP.2.2.2.1
  refine r_needFree hp1 (fun a => ?_) (fun a => Or.inr (Or.inl ⟨rfl, hF _ _ (hand2 (fun a b S => wpJ_M_slit_27 _ (nI i) x S b a) h hi (fun q => a ?_) ?_)⟩))
  rotate_left
  · rw [ec, x9, q]; rfl
  · exact r_in (fun _ _ => ⟨fun e => absurd e (by decide), fun _ => ⟨fun _ => thrA h hA (thc2 _ _) (by decide), fun _ => thrA h hA (thc2 _ _) (by decide)⟩⟩) (fun _ => ⟨fun _ => ⟨fun _ => thrA h hA (thc2 _ _) (by decide), fun _ => thrA h hA (thc2 _ _) (by decide)⟩, fun e => absurd rfl e⟩)
  rw [ec, x9, i0 r9] at a
  have pw := Rel_w h hi a
  refine r_needWithin (fun b1 b2 => ?_) (fun b => Or.inr (Or.inr (Or.inl ⟨rfl, hF _ _ (hand3 (fun a b S => wpJ_M_slit_27 _ (nI i) x S b a) h hi a ?_)⟩)))
  rotate_left
  · exact r_in (fun z1 z2 => absurd b (fun z => z.elim z1 (fun y => y ((le_nlt _ _).mpr z2)))) (fun _ => ⟨fun _ => ⟨fun _ => thrA h hA (thc3 _) (by decide), fun _ => thrA h hA (thc3 _) (by decide)⟩, fun e => absurd rfl e⟩)
  obtain ⟨N, hN1, hN2, rfl⟩ := within_nI (a := 2) (b := 4) (by omega) (by decide) b1 b2
  refine r_needRoom (fun a3 => ?_) (fun a3 => Or.inr (Or.inr (Or.inr ⟨rfl, hF _ _ (hand3 (fun a b S => wpJ_M_slit_27 _ (nI i) (nI N) S b a) h hi a ?_)⟩)))
  rotate_left
  · rw [c1] at a3
    exact r_in (fun z1 z2 => ⟨fun e => absurd e (by decide), fun _ => ⟨fun z => absurd (by rw [c2] at z; exact z) a3, fun _ => thrA h hA thc4 (by decide)⟩⟩) (fun z => absurd z (fun z => z.elim b1 (fun y => (le_nlt _ _).mp b2 y)))
  rw [c1] at a3
  have hn2 : n + N ≤ 40 := (i40 hn N (by omega)).mp a3
  have hz9 : ¬ nI N = 0 := nI_ne0 (by omega) (by omega)
  obtain ⟨ar1, ar2⟩ := sl_arith (W := P 8 i) (N := N) (by omega)
  refine ⟨hp1, hz9, fun v3 e3 => ⟨hp1, fun v4 e4 => ⟨hp1, fun S11 e11 => ⟨hp1, ?_⟩⟩⟩⟩
  rw [ec, x8, pk_div (by omega) (by omega) (by omega)] at e3
  subst e3
  rw [ec, x8, show (1 : Int32) = nI 1 from rfl, pk_sub (show 1 ≤ N by omega), pk_mul, pk_sub ar1] at e4
  subst e4
  have p11 : xpc S11 = nI n := by have f := xESt e11; simp only [f, c1]
  have fr11 : xFr S S11 n (fun j => j = i) := xSt_fr e11 (by omega)
  rw [ec, (fr11.1 i hi).2.1, x2]
  refine r_addPiece (by rw [p11]; exact M40 (by omega)) (fun _ => hp1) (fun S13 h13 => ?_)
  obtain ⟨fr13, p13, row13⟩ := xAdd_fr h13 p11 (by omega)
  have ro11 : xRo S11 i = nI (P 7 i) := by rw [(fr11.1 i hi).2.2.2.2.2.2.2.1, x7]
  rw [if_neg (nI_m1 (by omega)), ec, ro11] at row13
  rw [p11]
  have st1 : xSl S S13 n i 1 (P 1 i) (P 7 i) (P 8 i - P 8 i / N * (N - 1)) (P 8 i / N) := ⟨xFr_no fr11 fr13, p13, fun j hj => by
    have e : j = 0 := by omega
    subst e
    exact row13⟩
  refine ⟨N - 1 + 1, slX hi hn2 x2 x7 (fun V hV => ⟨in01, fun O eO => hF _ _ (hand3 (fun a b S => wpJ_M_slit_27 _ (nI i) (nI N) S b a) h hi a ?_)⟩) (N - 1) 1 S13 (by omega) (by omega) st1⟩
  have g := out_put eO
  refine r_in (fun z1 z2 => ⟨fun e => absurd e (by decide), fun _ => ⟨fun _ => r_thr0 (fun U0 hU0 => ⟨fun _ => ?_, fun e => absurd rfl e⟩), fun z => absurd (by rw [c2]; exact a3) z⟩⟩) (fun z => absurd z (fun z => z.elim b1 (fun y => (le_nlt _ _).mp b2 y)))
  have hR := Rel_th h hU0
  have d2 := hR.2.2.2.1
  obtain ⟨t1, t2, t3, t4, t5, t6, t7, t8, t9, t10⟩ := (hR.2.2.2.2.2.2.2.2.2.1 i hi).2.1
  refine ⟨N - 1 + 1 + 1, fun z => absurd z (nI_ge (a := 0) (by omega) (by omega)), fun _ => ⟨hp1, hz9, fun _ => ⟨hp1, hz9, hp1, ?_⟩, fun e => absurd rfl e⟩⟩
  rw [ec, t8, pk_rem (by omega) (by omega) (by omega), pk_div (by omega) (by omega) (by omega), nI_add, t2, ar2]
  refine r_add (by rw [d2]; exact M40 (by omega)) (fun _ => hp1) (fun U1 k1 v e => ?_)
  obtain ⟨gr1, d1, mr1⟩ := mAdd_fr k1 d2 (by omega) hi
  rw [t7] at mr1
  have ms1 : mSl U0 U1 n i 1 (P 1 i) (P 7 i) (P 8 i - P 8 i / N * (N - 1)) (P 8 i / N) := ⟨gr1, d1, fun j hj => by
    have e : j = 0 := by omega
    subst e
    exact mr1⟩
  rw [e, show (0 : Int32) + 1 = nI 1 from rfl]
  refine slM hi hn2 (by omega) t2 t7 t8 (by omega) rfl (fun W hW => hA _ _ _ _ ?_) (N - 1) 1 U1 (by omega) (by omega) ms1
  obtain ⟨frX, pX, rowX⟩ := hV
  obtain ⟨frM, pM, rowM⟩ := hW
  refine ⟨?_, fun _ => g.1, ?_⟩
  · rw [frM.2.2.2.2.2.2.2.2]
    exact mTh_th hU0
  rw [g.2]
  obtain ⟨Q, g1, g2, g3, g4⟩ := grow_ex P n (fun j => j = i) (fun j => vv 5 (P 1 i) i 0 0 0 0 (P 7 i) (if j = n then P 8 i - P 8 i / N * (N - 1) else P 8 i / N))
  have Qi1 : Q 1 i = P 1 i := g1 1 i (by decide) hi
  have Qi7 : Q 7 i = P 7 i := g1 7 i (by decide) hi
  refine ⟨Q, n + N, df, d, hp, Rel_make (us := fun j => j = i) hR (by omega) hn2 g1 (fun j _ e => by rw [e]; exact a) g2 g3 frX frM pX pM (fun j hj1 hj2 => ?_) ?_⟩
  · obtain ⟨c, rfl⟩ : ∃ c, j = n + c := ⟨j - n, by omega⟩
    have gA : ∀ f, Q f (n + c) = vv 5 (P 1 i) i 0 0 0 0 (P 7 i) (if c = 0 then P 8 i - P 8 i / N * (N - 1) else P 8 i / N) f := fun f => by
      rw [g4 f (n + c) (by omega)]
      by_cases hc : c = 0
      · rw [if_pos (by omega), if_pos hc]
      · rw [if_neg (by omega), if_neg hc]
    refine ⟨XR_mk (rowX c (by omega)) gA rfl rfl rfl rfl (fun e => absurd (show (5 : Nat) = 1 ∨ (5 : Nat) = 2 ∨ (5 : Nat) = 3 from e) (by decide)) (fun e => absurd (show (5 : Nat) = 4 from e) (by decide)) rfl rfl rfl, MR_mk (rowM c (by omega)) gA rfl rfl rfl rfl (fun e => absurd (show (5 : Nat) = 1 ∨ (5 : Nat) = 2 from e) (by decide)) (fun e => absurd (show (5 : Nat) = 4 from e) (by decide)) rfl rfl rfl, ?_, by rw [gA]; exact Nat.zero_le 3⟩
    refine PI_vv gA ?_
    rw [Qi1, Qi7]
    exact ⟨by omega, by omega, by omega, by omega, fun _ => by omega, fun z => absurd z (by decide), fun z => absurd z (by decide), fun z => absurd z (by decide), fun z => absurd z (by decide), fun z => absurd z (by decide), fun _ => ⟨rfl, rfl⟩⟩
  · have hu := lsum_used (P := P) (Q := Q) n hi (Or.inl a) (by rw [g2 i hi rfl]; omega) (fun j hj hne => ⟨g1 8 j (by decide) hj, g3 j hj hne⟩)
    have l1 := sl_sum (Q := Q) (n := n) (i := i) (L := P 1 i) (r := P 7 i) g4 (N - 1)
    have e1 : N - 1 + 1 = N := by omega
    rw [e1, Nat.mul_comm (N - 1) (P 8 i / N)] at l1
    generalize P 8 i / N * (N - 1) = t at *
    omega

