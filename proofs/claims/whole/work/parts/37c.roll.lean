/-! roll -/
theorem ah0 {P : PD} {n : Nat} {df : Nat → Nat × Nat × Nat} {d hp : Nat} {S : XSt} {T : MSt} {p : Int32} {post : Int32 → MSt → Prop} (h : Rel P n df d hp S T) (hq : ¬ qz n p) (hK : post 0 T) : wp_M_isAtHand post p T :=
  r_isAtHand h.1 h.2.2.2.1 (fun i hi e _ _ => absurd (by rw [e]; exact qz_nI h.1 hi) hq) (fun _ => hK) (fun i hi e _ => absurd (by rw [e]; exact qz_nI h.1 hi) hq)
theorem ah1 {P : PD} {n : Nat} {df : Nat → Nat × Nat × Nat} {d hp : Nat} {S : XSt} {T : MSt} {i : Nat} {post : Int32 → MSt → Prop} (h : Rel P n df d hp S T) (hi : i < n) (hq : ¬ P 9 i = 0) (hK : post 0 T) : wp_M_isAtHand post (nI i) T :=
  r_isAtHand h.1 h.2.2.2.1 (fun j hj e a b => by
    have e2 := nI_inj h.1 hi hj rfl e
    subst e2
    rw [(Rel_M9 h i hi).1] at a
    rw [(Rel_M9 h i hi).2.1] at b
    exact absurd ((atHand (Rel_M9 h i hi).2.2).mp ⟨a, b⟩) hq) (fun z => absurd (qz_nI h.1 hi) z) (fun _ _ _ _ => hK)
theorem ah2 {P : PD} {n : Nat} {df : Nat → Nat × Nat × Nat} {d hp : Nat} {S : XSt} {T : MSt} {i : Nat} {post : Int32 → MSt → Prop} (h : Rel P n df d hp S T) (hi : i < n) (hq : P 9 i = 0) (hK : post 1 T) : wp_M_isAtHand post (nI i) T :=
  r_isAtHand h.1 h.2.2.2.1 (fun _ _ _ _ _ => hK) (fun z => absurd (qz_nI h.1 hi) z) (fun j hj e a => by
    have e2 := nI_inj h.1 hi hj rfl e
    subst e2
    rw [(Rel_M9 h i hi).1, (Rel_M9 h i hi).2.1] at a
    exact absurd ((atHand (Rel_M9 h i hi).2.2).mpr hq) a)
theorem mp1 {P : PD} {n : Nat} {df : Nat → Nat × Nat × Nat} {d hp : Nat} {S : XSt} {T : MSt} {i : Nat} {post : Int32 → MSt → Prop} (h : Rel P n df d hp S T) (hi : i < n) (hK : post 1 T) : wp_M_isPiece post (nI i) T :=
  r_MisPiece h.1 h.2.2.2.1 (fun _ => hK) (fun z => absurd (qz_nI h.1 hi) z)
theorem mp0 {P : PD} {n : Nat} {df : Nat → Nat × Nat × Nat} {d hp : Nat} {S : XSt} {T : MSt} {p : Int32} {post : Int32 → MSt → Prop} (h : Rel P n df d hp S T) (hq : ¬ qz n p) (hK : post 0 T) : wp_M_isPiece post p T :=
  r_MisPiece h.1 h.2.2.2.1 (fun z => absurd z hq) (fun _ => hK)
def ok20 (x : Int32) : Prop := ¬ x < 1 ∧ ¬ 20 < x
theorem ok20_nI {x : Int32} (h : ok20 x) : ∃ j : Nat, 1 ≤ j ∧ j ≤ 20 ∧ x = nI j := within_nI (a := 1) (b := 20) (by decide) (by decide) h.1 ((le_nlt _ _).mpr h.2)
theorem ok20_z {x : Int32} (h : ok20 x) : ¬ x.toInt64 = 0 := by
  obtain ⟨j, h1, h2, rfl⟩ := ok20_nI h
  rw [nI_l (by omega)]; exact lNz (by omega) (by omega)
theorem roll_any {K : Int32 → MSt → Prop} {p a b bad : Int32} {T : MSt} (hp : bad = 0 → vp_in p 40) (hall : ∀ u5 u6 t0, wpJ_M_roll_125 K p a b T bad u5 u6 t0) : wpJ_M_roll_13 K p a b T bad := by
  have all104 : ∀ u5 u6, wpJ_M_roll_104 K p a b T bad u5 u6 := fun u5 u6 => ⟨fun _ => hall _ _ _, fun _ => ⟨fun _ => hall _ _ _, fun _ => hall _ _ _⟩⟩
  have all69 : ∀ u5 l, wpJ_M_roll_69 K p a b T bad u5 l := fun u5 l => ⟨fun _ => hall _ _ _, fun _ => ⟨fun z => ⟨hp z, fun _ => hall _ _ _, fun _ => all104 _ _⟩, fun _ => all104 _ _⟩⟩
  have all40 : ∀ t0 : Int32, (t0 = 0 → ¬ b.toInt64 = 0) → wpJ_M_roll_40 K p a b T bad t0 := fun t0 h => ⟨fun z => ⟨fun y => ⟨hp z, h y, all69 _ _⟩, fun _ => all69 _ _⟩, fun _ => all69 _ _⟩
  exact r_in (fun _ _ => ⟨fun e => absurd e (by decide), fun _ => r_in (fun b1 b2 => ⟨fun e => absurd e (by decide), fun _ => all40 0 (fun _ => ok20_z ⟨b1, b2⟩)⟩) (fun _ => ⟨fun _ => all40 1 (fun e => absurd e (by decide)), fun e => absurd rfl e⟩)⟩) (fun _ => ⟨fun _ => all40 1 (fun e => absurd e (by decide)), fun e => absurd rfl e⟩)
theorem roll_rng {K : Int32 → MSt → Prop} {p a b : Int32} {T : MSt} (hp : vp_in p 40) (hr : ¬ (ok20 a ∧ ok20 b)) (hall : ∀ u6 t0, wpJ_M_roll_125 K p a b T 0 1 u6 t0) : wpJ_M_roll_13 K p a b T 0 := by
  have all104 : ∀ u6, wpJ_M_roll_104 K p a b T 0 1 u6 := fun u6 => ⟨fun _ => hall _ _, fun _ => ⟨fun _ => hall _ _, fun _ => hall _ _⟩⟩
  have all69 : ∀ l, wpJ_M_roll_69 K p a b T 0 1 l := fun l => ⟨fun _ => hall _ _, fun _ => ⟨fun z => ⟨hp, fun _ => hall _ _, fun _ => all104 _⟩, fun _ => all104 _⟩⟩
  have all40 : wpJ_M_roll_40 K p a b T 0 1 := ⟨fun z => ⟨fun y => absurd y (by decide), fun _ => all69 _⟩, fun _ => all69 _⟩
  exact r_in (fun a1 a2 => ⟨fun e => absurd e (by decide), fun _ => r_in (fun b1 b2 => absurd ⟨⟨a1, a2⟩, ⟨b1, b2⟩⟩ hr) (fun _ => ⟨fun _ => all40, fun e => absurd rfl e⟩)⟩) (fun _ => ⟨fun _ => all40, fun e => absurd rfl e⟩)
theorem roll_in {K : Int32 → MSt → Prop} {p a b l : Int32} {T : MSt} (hp : vp_in p 40) (ha : ok20 a) (hb : ok20 b) (hl : mLe T p.toNatClampNeg = l) (hk : wpJ_M_roll_69 K p a b T 0 0 ((l.toInt64 * a.toInt64) / b.toInt64)) : wpJ_M_roll_13 K p a b T 0 := by
  rw [← hl] at hk
  exact r_in (fun a1 a2 => ⟨fun e => absurd e (by decide), fun _ => r_in (fun b1 b2 => ⟨fun e => absurd e (by decide), fun _ => ⟨fun _ => ⟨fun _ => ⟨hp, ok20_z hb, hk⟩, fun e => absurd rfl e⟩, fun e => absurd rfl e⟩⟩) (fun z => absurd z (fun z => z.elim hb.1 hb.2))⟩) (fun z => absurd z (fun z => z.elim ha.1 ha.2))
theorem roll_l {L a b : Nat} (hL : L ≤ 1000000000) (ha : a ≤ 20) (hb : 1 ≤ b) (hb2 : b ≤ 20) : ((nI L).toInt64 * (nI a).toInt64) / (nI b).toInt64 = lN (L * a / b) ∧ L * a / b ≤ 20000000000 := by
  rw [nI_l (by omega), nI_l (by omega), nI_l (by omega), lN_mul]
  have h1 : L * a ≤ 1000000000 * 20 := Nat.mul_le_mul hL ha
  refine ⟨pk_lDiv (by omega) (by omega) (by omega), ?_⟩
  have h2 := Nat.div_le_self (L * a) b
  omega
theorem roll_1 {l : Nat} (h : l ≤ 20000000000) : lN l < 1 ↔ l < 1 := pk_lLT (a := l) (b := 1) (by omega) (by decide)
theorem roll_2 {l : Nat} (h : l ≤ 20000000000) : lN l ≤ 1000000000 ↔ l ≤ 1000000000 := pk_lLE (a := l) (b := 1000000000) (by omega) (by decide)
theorem i3lt {x : Nat} (h : x ≤ 3) : nI x < 3 ↔ x < 3 := nI_ltI (a := x) (b := 3) (by omega) (by decide)
theorem xRow_ru {S T : XSt} {j x : Int32} {i : Nat} {k le so se ro w : Int32} (e : T = xuRU S j x) (r : xRow S i k le so se ro w) : xRow T i k le so se ro w := by
  have f := xERU e
  unfold xRow
  simp only [f]
  exact r
theorem xRow_rl {S T : XSt} {j x : Int32} {i : Nat} {k le so se ro w : Int32} (e : T = xuRL S j x) (r : xRow S i k le so se ro w) : xRow T i k le so se ro w := by
  have f := xERL e
  unfold xRow
  simp only [f]
  exact r
theorem xRow_ro {S T : XSt} {y : Int32} {i : Nat} {k le so se ro w : Int32} (hi : i < 40) (e : T = xuRo S (nI i) y) (r : xRow S i k le so se ro w) : xRow T i k le so se y w := by
  have f := xERo e
  have ei : (nI i).toNatClampNeg = i := nI_clamp (by omega)
  rw [ei] at f
  unfold xRow at *
  simp only [f, pk_us, true_and]
  obtain ⟨r1, r2, r3, r4, r5, r6, r7⟩ := r
  exact ⟨r1, r2, r3, r4, r6, r7⟩
theorem mRow_ov {S T : MSt} {j x : Int32} {i : Nat} {k le so se ro w : Int32} (e : T = muOv S j x) (r : mRow S i k le so se ro w) : mRow T i k le so se ro w := by
  have f := mEOv e
  unfold mRow
  simp only [f]
  exact r
theorem mRow_un {S T : MSt} {j x : Int32} {i : Nat} {k le so se ro w : Int32} (e : T = muUn S j x) (r : mRow S i k le so se ro w) : mRow T i k le so se ro w := by
  have f := mEUn e
  unfold mRow
  simp only [f]
  exact r
theorem mRow_ro {S T : MSt} {y : Int32} {i : Nat} {k le so se ro w : Int32} (hi : i < 40) (e : T = muRo S (nI i) y) (r : mRow S i k le so se ro w) : mRow T i k le so se y w := by
  have f := mERo e
  have ei : (nI i).toNatClampNeg = i := nI_clamp (by omega)
  rw [ei] at f
  unfold mRow at *
  simp only [f, pk_us, true_and]
  obtain ⟨r1, r2, r3, r4, r5, r6, r7, r8⟩ := r
  exact ⟨r1, r2, r3, r4, r6, r7, r8⟩
theorem roll_nev {K : Int32 → MSt → Prop} {a b : Int32} {T : MSt} {i n l r : Nat} (hn : n ≤ 40) (hp : vp_in (nI i) 40) (ec : (nI i).toNatClampNeg = i) (hc : mpc T = nI n) (hr : mRo T i = nI r) (hr3 : r ≤ 3) (hl : l ≤ 20000000000) (hv : n = 40 ∨ ¬ r < 3 ∨ l < 1 ∨ ¬ l ≤ 1000000000) (h120 : wpJ_M_roll_120 K (nI i) a b T 0 0 (lN l)) : wpJ_M_roll_69 K (nI i) a b T 0 0 (lN l) := by
  refine ⟨fun _ => h120, fun z => ⟨fun _ => ⟨hp, ?_⟩, fun e => absurd rfl e⟩⟩
  rw [hc, e40 hn] at z
  rw [ec, hr, i3 hr3]
  refine ⟨fun _ => h120, fun z3 => ⟨fun _ => h120, fun z1 => ⟨fun z2 => ?_, fun _ => h120⟩⟩⟩
  rw [roll_1 hl] at z1
  rw [roll_2 hl] at z2
  exact absurd hv (by omega)
theorem roll_yes {K : Int32 → MSt → Prop} {a b : Int32} {T : MSt} {i n l r : Nat} (hn : n ≤ 40) (hp : vp_in (nI i) 40) (ec : (nI i).toNatClampNeg = i) (hc : mpc T = nI n) (hr : mRo T i = nI r) (hr3 : r ≤ 3) (hl : l ≤ 20000000000) (hv : ¬ (n = 40 ∨ ¬ r < 3 ∨ l < 1 ∨ ¬ l ≤ 1000000000)) (h125 : wpJ_M_roll_125 K (nI i) a b T 0 0 (lN l) 0) : wpJ_M_roll_69 K (nI i) a b T 0 0 (lN l) := by
  refine ⟨fun z => absurd ((e40 hn).mp (by rw [← hc]; exact z)) (by omega), fun z => ⟨fun _ => ⟨hp, ?_⟩, fun e => absurd rfl e⟩⟩
  rw [ec, hr, i3 hr3]
  refine ⟨fun z => absurd z (by omega), fun z3 => ⟨fun z1 => absurd ((roll_1 hl).mp z1) (by omega), fun z1 => ⟨fun z2 => h125, fun z2 => absurd ((roll_2 hl).mpr (by omega)) z2⟩⟩⟩
theorem op_roll {P : PD} {n : Nat} {df : Nat → Nat × Nat × Nat} {d hp : Nat} {S : XSt} {T : MSt} {p a b : Int32} {o : Nat → Int64} {F : Int32 → LSt → Prop} {FIN : Int32 → Int32 → LSt → MSt → Prop} (h : Rel P n df d hp S T) (hF : ∀ r O, wp_M_roll (fun b U => FIN r b O U) p a b T → F r O) (hA : ∀ r b O U, Agree r b.toInt64 O U → FIN r b O U) : wp_L_roll F p a b (o, S) := by
  have hn := h.1
  have c1 := h.2.2.1
  have c2 := h.2.2.2.1
  have hrow := h.2.2.2.2.2.2.2.2.2.1
  unfold wp_L_roll wp_X_roll
  refine r_needPiece (fun hz => ?_) (fun hz => Or.inl ⟨rfl, hF _ _ (mp0 h (fun q => hz ((pz_qz c1).mpr q)) ⟨fun _ => roll_any (fun e => absurd e (by decide)) (fun _ _ _ => ah0 h (fun q => hz ((pz_qz c1).mpr q)) ⟨fun _ => thrA h hA (thc1 _ _ _) (by decide), fun e => absurd rfl e⟩), fun e => absurd rfl e⟩)⟩)
  obtain ⟨i, hi, rfl⟩ := qz_of hn ((pz_qz c1).mp hz)
  have hp1 := qz_in hn hi
  have ec : (nI i).toNatClampNeg = i := nI_clamp (by omega)
  obtain ⟨rX, rM, rP, r9⟩ := hrow i hi
  obtain ⟨x1, x2, x3, x4, x5, x6, x7, x8, x9⟩ := rX
  obtain ⟨m1, m2, m3, m4, m5, m6, m7, m8, m9, m10⟩ := rM
  have pl0 : 1 ≤ P 1 i := rP.2.1
  have pl1 : P 1 i ≤ 1000000000 := rP.2.2.1
  have pr : P 7 i ≤ 3 := rP.2.2.2.1
  refine r_needFree hp1 (fun a => ?_) (fun a => Or.inr (Or.inl ⟨rfl, hF _ _ (mp1 h hi ⟨fun e => absurd e (by decide), fun _ => roll_any (fun _ => hp1) (fun _ _ _ => ah1 h hi (fun q => a ?_) ⟨fun _ => thrA h hA (thc2 _ _) (by decide), fun e => absurd rfl e⟩)⟩)⟩))
  rotate_left
  · rw [ec, x9, q]; rfl
  rw [ec, x9, i0 r9] at a
  have pw := Rel_w h hi a
  have bad3 : ∀ {x y : Int32}, ¬ (ok20 x ∧ ok20 y) → wp_M_roll (fun b U => FIN 3 b (o, S) U) (nI i) x y T := fun q => mp1 h hi ⟨fun e => absurd e (by decide), fun _ => roll_rng hp1 q (fun _ _ => ah2 h hi a ⟨fun e => absurd e (by decide), fun _ => thrA h hA (thc3 _) (by decide)⟩)⟩
  refine r_needWithin (fun b1 b2 => ?_) (fun b => Or.inr (Or.inr (Or.inl ⟨rfl, hF _ _ (bad3 (fun q => b.elim q.1.1 (fun z => z ((le_nlt _ _).mpr q.1.2))))⟩)))
  refine r_needWithin (fun b3 b4 => ?_) (fun b => Or.inr (Or.inr (Or.inl ⟨rfl, hF _ _ (bad3 (fun q => b.elim q.2.1 (fun z => z ((le_nlt _ _).mpr q.2.2))))⟩)))
  have oka : ok20 _ := ⟨b1, (le_nlt _ _).mp b2⟩
  have okb : ok20 _ := ⟨b3, (le_nlt _ _).mp b4⟩
  have zb := ok20_z okb
  obtain ⟨ja, ha1, ha2, rfl⟩ := ok20_nI oka
  obtain ⟨jb, hb1, hb2, rfl⟩ := ok20_nI okb
  obtain ⟨el, hl⟩ := roll_l (b := jb) pl1 ha2 hb1 hb2
  obtain ⟨l, hle⟩ : ∃ l, l = P 1 i * ja / jb := ⟨_, rfl⟩
  rw [← hle] at el hl
  have bad4 : (n = 40 ∨ ¬ P 7 i < 3 ∨ l < 1 ∨ ¬ l ≤ 1000000000) → wp_M_roll (fun b U => FIN 4 b (o, S) U) (nI i) (nI ja) (nI jb) T := fun q => mp1 h hi ⟨fun e => absurd e (by decide), fun _ => roll_in (l := nI (P 1 i)) hp1 oka okb (by rw [ec]; exact m2) (by
    rw [el]
    exact roll_nev hn hp1 ec c2 m7 pr hl q (ah2 h hi a ⟨fun e => absurd e (by decide), fun _ => thrA h hA thc4 (by decide)⟩))⟩
  refine r_needRoom (fun a3 => ?_) (fun a3 => Or.inr (Or.inr (Or.inr ⟨rfl, hF _ _ (bad4 (Or.inl ?_))⟩)))
  rotate_left
  · rw [c1] at a3
    have h10 : ¬ n + 1 ≤ 40 := fun q => a3 ((i40 hn 1 (by omega)).mpr q)
    omega
  rw [c1] at a3
  have hn1 : n + 1 ≤ 40 := (i40 hn 1 (by omega)).mp a3
  refine ⟨hp1, ?_⟩
  rw [ec, x7, i3lt pr, x2, el]
  refine ⟨fun hr => ⟨hp1, zb, fun v4 e4 => ?_⟩, fun hr => Or.inr (Or.inr (Or.inr ⟨rfl, hF _ _ (bad4 (Or.inr (Or.inl hr)))⟩))⟩
  subst e4
  rw [roll_1 hl, roll_2 hl]
  refine ⟨fun z => Or.inr (Or.inr (Or.inr ⟨rfl, hF _ _ (bad4 (Or.inr (Or.inr (Or.inl z))))⟩)), fun z1 => ⟨fun z2 => ⟨hp1, fun S14 e14 => ⟨hp1, ?_⟩⟩, fun z => Or.inr (Or.inr (Or.inr ⟨rfl, hF _ _ (bad4 (Or.inr (Or.inr (Or.inr z))))⟩))⟩⟩
  have p14 : xpc S14 = nI n := by have f := xESt e14; simp only [f, c1]
  have fr14 : xFr S S14 n (fun j => j = i) := xSt_fr e14 (by omega)
  rw [(fr14.1 i hi).2.2.2.2.2.2.2.2, x8, lN_i]
  refine r_addPiece (by rw [p14]; exact M40 (by omega)) (fun _ => hp1) (fun S16 h16 => ?_)
  obtain ⟨fr16, p16, row16⟩ := xAdd_fr h16 p14 (by omega)
  have ro14 : xRo S14 i = nI (P 7 i) := by rw [(fr14.1 i hi).2.2.2.2.2.2.2.1, x7]
  rw [if_neg (nI_m1 (by omega)), ec, ro14] at row16
  rw [p14]
  refine ⟨M40 (by omega), fun S19 e19 => ⟨M40 (by omega), fun S21 e21 => ⟨hp1, M40 (by omega), fun S24 e24 => ⟨in01, fun O eO => hF _ _ (mp1 h hi ⟨fun e => absurd e (by decide), fun _ => roll_in (l := nI (P 1 i)) hp1 oka okb (by rw [ec]; exact m2) ?_⟩)⟩⟩⟩⟩
  have fr19 : xFr S16 S19 n noU := xRU_fr e19 (by omega) (by omega)
  have fr21 : xFr S19 S21 n noU := xRL_fr e21 (by omega) (by omega)
  have fr24 : xFr S21 S24 n noU := xRo_fr e24 (by omega) (by omega)
  have fr21' : xFr S S21 n (fun j => j = i) := xFr_no (xFr_no (xFr_no fr14 fr16) fr19) fr21
  have frX : xFr S S24 n (fun j => j = i) := xFr_no fr21' fr24
  have ro21 : xRo S21 i = nI (P 7 i) := by rw [(fr21'.1 i hi).2.2.2.2.2.2.2.1, x7]
  rw [ro21, nI_1] at e24
  have pX : xpc S24 = nI (n + 1) := by
    have f1 := xERU e19
    have f2 := xERL e21
    have f3 := xERo e24
    simp only [f3, f2, f1, p16]
  have en : (nI n).toNatClampNeg = n := nI_clamp (by omega)
  have rowA := xRow_ro (by omega) e24 (xRow_rl e21 (xRow_ru e19 row16))
  have ruA : xRU S24 n = nI ja := by
    have f1 := xERU e19
    have f2 := xERL e21
    have f3 := xERo e24
    simp only [f3, f2, f1]
    rw [en, pk_us]
  have rlA : xRL S24 n = nI jb := by
    have f2 := xERL e21
    have f3 := xERo e24
    simp only [f3, f2]
    rw [en, pk_us]
  have g := out_put eO
  rw [el]
  refine roll_yes hn hp1 ec c2 m7 pr hl (by omega) (ah2 h hi a ⟨fun e => absurd e (by decide), fun _ => r_thr0 (fun U0 hU0 => ⟨fun _ => ⟨hp1, ?_⟩, fun e => absurd rfl e⟩)⟩)
  have hR := Rel_th h hU0
  have d2 := hR.2.2.2.1
  obtain ⟨t1, t2, t3, t4, t5, t6, t7, t8, t9, t10⟩ := (hR.2.2.2.2.2.2.2.2.2.1 i hi).2.1
  rw [ec, t8, lN_i]
  refine r_add (by rw [d2]; exact M40 (by omega)) (fun _ => hp1) (fun U1 k1 => ?_)
  obtain ⟨gr1, d1, mr1⟩ := mAdd_fr k1 d2 (by omega) hi
  rw [t7] at mr1
  rw [d2]
  refine ⟨M40 (by omega), fun U2 k2 => ⟨M40 (by omega), fun U3 k3 => ⟨M40 (by omega), M40 (by omega), fun U4 k4 => hA _ _ _ _ ?_⟩⟩⟩
  have gr2 : mFr U1 U2 n noU := mOv_fr k2 (by omega) (by omega)
  have gr3 : mFr U2 U3 n noU := mUn_fr k3 (by omega) (by omega)
  have gr4 : mFr U3 U4 n noU := mRo_fr k4 (by omega) (by omega)
  have frM : mFr U0 U4 n (fun j => j = i) := mFr_no (mFr_no (mFr_no gr1 gr2) gr3) gr4
  have mr3 := mRow_un k3 (mRow_ov k2 mr1)
  rw [en, mr3.2.2.2.2.1, nI_1] at k4
  have pM : mpc U4 = nI (n + 1) := by
    have f1 := mEOv k2
    have f2 := mEUn k3
    have f3 := mERo k4
    simp only [f3, f2, f1, d1]
  have rowC := mRow_ro (by omega) k4 mr3
  have ovC : mOv U4 n = nI ja := by
    have f1 := mEOv k2
    have f2 := mEUn k3
    have f3 := mERo k4
    simp only [f3, f2, f1]
    rw [en, pk_us]
  have unC : mUn U4 n = nI jb := by
    have f2 := mEUn k3
    have f3 := mERo k4
    simp only [f3, f2]
    rw [en, pk_us]
  refine ⟨?_, fun _ => g.1, ?_⟩
  · rw [frM.2.2.2.2.2.2.2.2]
    exact mTh_th hU0
  rw [g.2]
  obtain ⟨Q, g1, g2, g3, g4⟩ := grow_ex P n (fun j => j = i) (fun _ => vv 4 l i 0 0 ja jb (P 7 i + 1) (P 8 i))
  have gA : ∀ f, Q f n = vv 4 l i 0 0 ja jb (P 7 i + 1) (P 8 i) f := fun f => g4 f n (Nat.le_refl _)
  have Qi1 : Q 1 i = P 1 i := g1 1 i (by decide) hi
  have Qi7 : Q 7 i = P 7 i := g1 7 i (by decide) hi
  refine ⟨Q, n + 1, df, d, hp, Rel_make (us := fun j => j = i) hR (by omega) hn1 g1 (fun j _ e => by rw [e]; exact a) g2 g3 frX frM pX pM (fun j hj1 hj2 => ?_) ?_⟩
  · have hj : j = n := by omega
    subst hj
    refine ⟨XR_mk rowA gA rfl rfl rfl rfl (fun e => absurd (show (4 : Nat) = 1 ∨ (4 : Nat) = 2 ∨ (4 : Nat) = 3 from e) (by decide)) (fun _ => ⟨ruA, rlA⟩) rfl rfl rfl, MR_mk rowC gA rfl rfl rfl rfl (fun e => absurd (show (4 : Nat) = 1 ∨ (4 : Nat) = 2 from e) (by decide)) (fun _ => ⟨ovC, unC⟩) rfl rfl rfl, ?_, by rw [gA]; exact Nat.zero_le 3⟩
    refine PI_vv gA ?_
    rw [Qi1, Qi7]
    exact ⟨by omega, by omega, by omega, by omega, fun _ => hi, fun z => absurd z (by decide), fun z => absurd z (by decide), fun z => absurd z (by decide), fun z => absurd z (by decide), fun _ => ⟨ha1, ha2, hb1, hb2, hle, rfl⟩, fun z => absurd z (by decide)⟩
  · have hu := lsum_used (P := P) (Q := Q) n hi (Or.inl a) (by rw [g2 i hi rfl]; omega) (fun j hj hne => ⟨g1 8 j (by decide) hj, g3 j hj hne⟩)
    have l1 : lsum Q (n + 1) = lsum Q n + P 8 i := by
      rw [lsum, gA, gA]; rfl
    omega

