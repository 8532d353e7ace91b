/-! FRAMES: rows below n stay, but that the pieces of us are used up -/
def xFr (S T : XSt) (n : Nat) (us : Nat → Prop) : Prop := (∀ i, i < n → xKi T i = xKi S i ∧ xLe T i = xLe S i ∧ xSo T i = xSo S i ∧ xSe T i = xSe S i ∧ xSm T i = xSm S i ∧ xRU T i = xRU S i ∧ xRL T i = xRL S i ∧ xRo T i = xRo S i ∧ xWe T i = xWe S i) ∧ (∀ i, i < n → (us i → xSt T i = 1) ∧ (¬ us i → xSt T i = xSt S i)) ∧ xDM T = xDM S ∧ xDU T = xDU S ∧ xDL T = xDL S ∧ xdc T = xdc S ∧ xhp T = xhp S ∧ xml T = xml S
def mFr (S T : MSt) (n : Nat) (us : Nat → Prop) : Prop := (∀ i, i < n → mKi T i = mKi S i ∧ mLe T i = mLe S i ∧ mOf T i = mOf S i ∧ mOt T i = mOt S i ∧ mCu T i = mCu S i ∧ mOv T i = mOv S i ∧ mUn T i = mUn S i ∧ mRo T i = mRo S i ∧ mWe T i = mWe S i ∧ mHe T i = mHe S i) ∧ (∀ i, i < n → (us i → mSt T i = 1) ∧ (¬ us i → mSt T i = mSt S i)) ∧ mDM T = mDM S ∧ mDU T = mDU S ∧ mDL T = mDL S ∧ mdc T = mdc S ∧ mhp T = mhp S ∧ mml T = mml S ∧ mth T = mth S
def noU : Nat → Prop := fun _ => False
theorem xFr_le {S T : XSt} {n m : Nat} {us : Nat → Prop} (h : xFr S T n us) (hm : m ≤ n) : xFr S T m us := by
  obtain ⟨h1, h2, h3⟩ := h
  exact ⟨fun i hi => h1 i (by omega), fun i hi => h2 i (by omega), h3⟩
theorem mFr_le {S T : MSt} {n m : Nat} {us : Nat → Prop} (h : mFr S T n us) (hm : m ≤ n) : mFr S T m us := by
  obtain ⟨h1, h2, h3⟩ := h
  exact ⟨fun i hi => h1 i (by omega), fun i hi => h2 i (by omega), h3⟩
theorem xFr_tr {S T U : XSt} {n : Nat} {a b : Nat → Prop} (h : xFr S T n a) (g : xFr T U n b) : xFr S U n (fun i => a i ∨ b i) := by
  obtain ⟨h1, h2, h3, h4, h5, h6, h7, h8⟩ := h
  obtain ⟨g1, g2, g3, g4, g5, g6, g7, g8⟩ := g
  refine ⟨fun i hi => ?_, fun i hi => ⟨fun q => ?_, fun q => ?_⟩, by rw [g3, h3], by rw [g4, h4], by rw [g5, h5], by rw [g6, h6], by rw [g7, h7], by rw [g8, h8]⟩
  · have a := h1 i hi
    have b := g1 i hi
    simp only [a, b, and_self]
  · by_cases z : b i
    · exact (g2 i hi).1 z
    · rw [(g2 i hi).2 z]
      exact (h2 i hi).1 (q.elim id (fun y => absurd y z))
  · rw [(g2 i hi).2 (fun z => q (Or.inr z)), (h2 i hi).2 (fun z => q (Or.inl z))]
theorem mFr_tr {S T U : MSt} {n : Nat} {a b : Nat → Prop} (h : mFr S T n a) (g : mFr T U n b) : mFr S U n (fun i => a i ∨ b i) := by
  obtain ⟨h1, h2, h3, h4, h5, h6, h7, h8, h9⟩ := h
  obtain ⟨g1, g2, g3, g4, g5, g6, g7, g8, g9⟩ := g
  refine ⟨fun i hi => ?_, fun i hi => ⟨fun q => ?_, fun q => ?_⟩, by rw [g3, h3], by rw [g4, h4], by rw [g5, h5], by rw [g6, h6], by rw [g7, h7], by rw [g8, h8], by rw [g9, h9]⟩
  · have a := h1 i hi
    have b := g1 i hi
    simp only [a, b, and_self]
  · by_cases z : b i
    · exact (g2 i hi).1 z
    · rw [(g2 i hi).2 z]
      exact (h2 i hi).1 (q.elim id (fun y => absurd y z))
  · rw [(g2 i hi).2 (fun z => q (Or.inr z)), (h2 i hi).2 (fun z => q (Or.inl z))]
theorem xFr_us {S T : XSt} {n : Nat} {a b : Nat → Prop} (h : xFr S T n a) (e : ∀ i, b i ↔ a i) : xFr S T n b := by
  obtain ⟨h1, h2, h3⟩ := h
  exact ⟨h1, fun i hi => ⟨fun q => (h2 i hi).1 ((e i).mp q), fun q => (h2 i hi).2 (fun z => q ((e i).mpr z))⟩, h3⟩
theorem mFr_us {S T : MSt} {n : Nat} {a b : Nat → Prop} (h : mFr S T n a) (e : ∀ i, b i ↔ a i) : mFr S T n b := by
  obtain ⟨h1, h2, h3⟩ := h
  exact ⟨h1, fun i hi => ⟨fun q => (h2 i hi).1 ((e i).mp q), fun q => (h2 i hi).2 (fun z => q ((e i).mpr z))⟩, h3⟩
theorem xFr_no {S T U : XSt} {n : Nat} {a : Nat → Prop} (h : xFr S T n a) (g : xFr T U n noU) : xFr S U n a := xFr_us (xFr_tr h g) (fun i => ⟨Or.inl, fun q => q.elim id (fun z => z.elim)⟩)
theorem mFr_no {S T U : MSt} {n : Nat} {a : Nat → Prop} (h : mFr S T n a) (g : mFr T U n noU) : mFr S U n a := mFr_us (mFr_tr h g) (fun i => ⟨Or.inl, fun q => q.elim id (fun z => z.elim)⟩)
theorem mFr_sm {S T U : MSt} {n : Nat} {a : Nat → Prop} (h : mFr S T n a) (g : mFr T U n a) : mFr S U n a := mFr_us (mFr_tr h g) (fun i => ⟨Or.inl, fun q => q.elim id id⟩)
theorem xFr_refl {S : XSt} {n : Nat} : xFr S S n noU := ⟨fun _ _ => ⟨rfl, rfl, rfl, rfl, rfl, rfl, rfl, rfl, rfl⟩, fun _ _ => ⟨fun q => q.elim, fun _ => rfl⟩, rfl, rfl, rfl, rfl, rfl, rfl⟩
theorem mFr_refl {S : MSt} {n : Nat} : mFr S S n noU := ⟨fun _ _ => ⟨rfl, rfl, rfl, rfl, rfl, rfl, rfl, rfl, rfl, rfl⟩, fun _ _ => ⟨fun q => q.elim, fun _ => rfl⟩, rfl, rfl, rfl, rfl, rfl, rfl, rfl⟩
/-- the values of a row -/
def xRow (T : XSt) (i : Nat) (k le so se ro w : Int32) : Prop := xKi T i = k ∧ xLe T i = le ∧ xSo T i = so ∧ xSe T i = se ∧ xRo T i = ro ∧ xWe T i = w ∧ xSt T i = 0
def mRow (T : MSt) (i : Nat) (k le so se ro w : Int32) : Prop := mKi T i = k ∧ mLe T i = le ∧ mOf T i = so ∧ mOt T i = se ∧ mRo T i = ro ∧ mWe T i = w ∧ mSt T i = 0 ∧ mHe T i = 0
theorem xRow_fr {S T : XSt} {n i : Nat} {us : Nat → Prop} {k le so se ro w : Int32} (h : xFr S T n us) (hi : i < n) (hu : ¬ us i) (r : xRow S i k le so se ro w) : xRow T i k le so se ro w := by
  obtain ⟨a1, a2, a3, a4, a5, a6, a7, a8, a9⟩ := h.1 i hi
  have a10 := (h.2.1 i hi).2 hu
  unfold xRow
  rw [a1, a2, a3, a4, a8, a9, a10]
  exact r
theorem mRow_fr {S T : MSt} {n i : Nat} {us : Nat → Prop} {k le so se ro w : Int32} (h : mFr S T n us) (hi : i < n) (hu : ¬ us i) (r : mRow S i k le so se ro w) : mRow T i k le so se ro w := by
  obtain ⟨a1, a2, a3, a4, a5, a6, a7, a8, a9, a11⟩ := h.1 i hi
  have a10 := (h.2.1 i hi).2 hu
  unfold mRow
  rw [a1, a2, a3, a4, a8, a9, a10, a11]
  exact r
theorem xAdd_fr {S T : XSt} {k so w le : Int32} {n : Nat} (hA : xAdd S T k so w le) (hc : xpc S = nI n) (hn : n < 40) : xFr S T n noU ∧ xpc T = nI (n + 1) ∧ xRow T n k le so (-1) (if so = (-1) then 0 else xRo S so.toNatClampNeg) w := by
  obtain ⟨a1, a2, a3, a4, a5, a6, a7, a8, a9, a10, a11, a12, a13, a14, a15, a16, a17, a18, a19, -⟩ := hA
  have ec : (xpc S).toNatClampNeg = n := by rw [hc]; exact nI_clamp (by omega)
  rw [ec] at a1 a2 a3 a4 a5 a6 a7
  refine ⟨⟨fun i hi => ?_, fun i hi => ⟨fun q => q.elim, fun _ => ?_⟩, a11, a12, a13, a17, a18, a19⟩, by rw [a16, hc, nI_1], ?_⟩
  · have hne : i ≠ n := by omega
    rw [a1, a3, a5, a6, a8, a9, a10, a7, a2, pk_un hne, pk_un hne, pk_un hne, pk_un hne, pk_un hne, pk_un hne]
    exact ⟨rfl, rfl, rfl, rfl, rfl, rfl, rfl, rfl, rfl⟩
  · rw [a4]; exact pk_un (by omega)
  · unfold xRow
    rw [a1, a3, a5, a6, a7, a2, a4, pk_us, pk_us, pk_us, pk_us, pk_us, pk_us, pk_us]
    exact ⟨rfl, rfl, rfl, rfl, rfl, rfl, rfl⟩
theorem mAdd_fr {S T : MSt} {k w le : Int32} {n j : Nat} (hA : mAdd S T k (nI j) w le) (hc : mpc S = nI n) (hn : n < 40) (hj : j < n) : mFr S T n (fun i => i = j) ∧ mpc T = nI (n + 1) ∧ mRow T n k le (nI j) (-1) (mRo S j) w := by
  obtain ⟨a1, a2, a3, a4, a5, a6, a7, a8, a9, a10, a11, a12, a13, a14, a15, a16, a17, a18, a19, a20, a21, -⟩ := hA
  have ec : (mpc S).toNatClampNeg = n := by rw [hc]; exact nI_clamp (by omega)
  have ej : (nI j).toNatClampNeg = j := nI_clamp (by omega)
  have hj0 : ¬ nI j < 0 := nI_pos (by omega)
  rw [ec] at a1 a2 a3 a4 a5 a6 a7 a11
  rw [if_neg hj0, ej] at a4 a11
  refine ⟨⟨fun i hi => ?_, fun i hi => ⟨fun q => ?_, fun q => ?_⟩, a12, a13, a14, a21, a19, a20, a17⟩, by rw [a18, hc, nI_1], ?_⟩
  · have hne : i ≠ n := by omega
    rw [a1, a3, a6, a7, a8, a9, a10, a11, a2, a5, pk_un hne, pk_un hne, pk_un hne, pk_un hne, pk_un hne, pk_un hne, pk_un hne]
    exact ⟨rfl, rfl, rfl, rfl, rfl, rfl, rfl, rfl, rfl, rfl⟩
  · rw [a4, q]; exact pk_us
  · rw [a4, pk_un q]; exact pk_un (by omega)
  · unfold mRow
    rw [a1, a3, a6, a7, a11, a2, a4, a5, pk_un (show n ≠ j by omega), pk_us, pk_us, pk_us, pk_us, pk_us, pk_us, pk_us, pk_us]
    exact ⟨rfl, rfl, rfl, rfl, rfl, rfl, rfl, rfl⟩
theorem xSt_fr {S T : XSt} {n k : Nat} (e : T = xuSt S (nI k) 1) (hk : k < 40) : xFr S T n (fun i => i = k) := by
  have f := xESt e
  have ek : (nI k).toNatClampNeg = k := nI_clamp (by omega)
  rw [ek] at f
  obtain ⟨a1, a2, a3, a4, a5, a6, a7, a8, a9, a10, a11, a12, a13, a14, a15, a16, a17, a18, a19, -⟩ := f
  refine ⟨fun i hi => ?_, fun i hi => ⟨fun q => ?_, fun q => ?_⟩, a11, a12, a13, a17, a18, a19⟩
  · rw [a1, a2, a3, a5, a6, a7, a8, a9, a10]
    exact ⟨rfl, rfl, rfl, rfl, rfl, rfl, rfl, rfl, rfl⟩
  · rw [a4, q]; exact pk_us
  · rw [a4]; exact pk_un q
theorem mSt_fr {S T : MSt} {n k : Nat} (e : T = muSt S (nI k) 1) (hk : k < 40) : mFr S T n (fun i => i = k) := by
  have f := mESt e
  have ek : (nI k).toNatClampNeg = k := nI_clamp (by omega)
  rw [ek] at f
  obtain ⟨a1, a2, a3, a4, a5, a6, a7, a8, a9, a10, a11, a12, a13, a14, a15, a16, a17, a18, a19, a20, a21, -⟩ := f
  refine ⟨fun i hi => ?_, fun i hi => ⟨fun q => ?_, fun q => ?_⟩, a12, a13, a14, a21, a19, a20, a17⟩
  · rw [a1, a2, a3, a5, a6, a7, a8, a9, a10, a11]
    exact ⟨rfl, rfl, rfl, rfl, rfl, rfl, rfl, rfl, rfl, rfl⟩
  · rw [a4, q]; exact pk_us
  · rw [a4]; exact pk_un q
theorem xSm_fr {S T : XSt} {n k : Nat} {x : Int32} (e : T = xuSm S (nI k) x) (hk : k < 40) (hn : n ≤ k) : xFr S T n noU := by
  have f := xESm e
  have ek : (nI k).toNatClampNeg = k := nI_clamp (by omega)
  rw [ek] at f
  obtain ⟨a1, a2, a3, a4, a5, a6, a7, a8, a9, a10, a11, a12, a13, a14, a15, a16, a17, a18, a19, -⟩ := f
  refine ⟨fun i hi => ?_, fun i hi => ⟨fun q => q.elim, fun q => by rw [a4]⟩, a11, a12, a13, a17, a18, a19⟩
  rw [a1, a2, a3, a5, a6, a7, a8, a9, a10, pk_un (show i ≠ k by omega)]
  exact ⟨rfl, rfl, rfl, rfl, rfl, rfl, rfl, rfl, rfl⟩
theorem mCu_fr {S T : MSt} {n k : Nat} {x : Int32} (e : T = muCu S (nI k) x) (hk : k < 40) (hn : n ≤ k) : mFr S T n noU := by
  have f := mECu e
  have ek : (nI k).toNatClampNeg = k := nI_clamp (by omega)
  rw [ek] at f
  obtain ⟨a1, a2, a3, a4, a5, a6, a7, a8, a9, a10, a11, a12, a13, a14, a15, a16, a17, a18, a19, a20, a21, -⟩ := f
  refine ⟨fun i hi => ?_, fun i hi => ⟨fun q => q.elim, fun q => by rw [a4]⟩, a12, a13, a14, a21, a19, a20, a17⟩
  rw [a1, a2, a3, a5, a6, a7, a8, a9, a10, a11, pk_un (show i ≠ k by omega)]
  exact ⟨rfl, rfl, rfl, rfl, rfl, rfl, rfl, rfl, rfl, rfl⟩
theorem xSe_fr {S T : XSt} {n k : Nat} {x : Int32} (e : T = xuSe S (nI k) x) (hk : k < 40) (hn : n ≤ k) : xFr S T n noU := by
  have f := xESe e
  have ek : (nI k).toNatClampNeg = k := nI_clamp (by omega)
  rw [ek] at f
  obtain ⟨a1, a2, a3, a4, a5, a6, a7, a8, a9, a10, a11, a12, a13, a14, a15, a16, a17, a18, a19, -⟩ := f
  refine ⟨fun i hi => ?_, fun i hi => ⟨fun q => q.elim, fun q => by rw [a4]⟩, a11, a12, a13, a17, a18, a19⟩
  rw [a1, a2, a3, a5, a6, a7, a8, a9, a10, pk_un (show i ≠ k by omega)]
  exact ⟨rfl, rfl, rfl, rfl, rfl, rfl, rfl, rfl, rfl⟩
theorem xRo_fr {S T : XSt} {n k : Nat} {x : Int32} (e : T = xuRo S (nI k) x) (hk : k < 40) (hn : n ≤ k) : xFr S T n noU := by
  have f := xERo e
  have ek : (nI k).toNatClampNeg = k := nI_clamp (by omega)
  rw [ek] at f
  obtain ⟨a1, a2, a3, a4, a5, a6, a7, a8, a9, a10, a11, a12, a13, a14, a15, a16, a17, a18, a19, -⟩ := f
  refine ⟨fun i hi => ?_, fun i hi => ⟨fun q => q.elim, fun q => by rw [a4]⟩, a11, a12, a13, a17, a18, a19⟩
  rw [a1, a2, a3, a5, a6, a7, a8, a9, a10, pk_un (show i ≠ k by omega)]
  exact ⟨rfl, rfl, rfl, rfl, rfl, rfl, rfl, rfl, rfl⟩
theorem xRU_fr {S T : XSt} {n k : Nat} {x : Int32} (e : T = xuRU S (nI k) x) (hk : k < 40) (hn : n ≤ k) : xFr S T n noU := by
  have f := xERU e
  have ek : (nI k).toNatClampNeg = k := nI_clamp (by omega)
  rw [ek] at f
  obtain ⟨a1, a2, a3, a4, a5, a6, a7, a8, a9, a10, a11, a12, a13, a14, a15, a16, a17, a18, a19, -⟩ := f
  refine ⟨fun i hi => ?_, fun i hi => ⟨fun q => q.elim, fun q => by rw [a4]⟩, a11, a12, a13, a17, a18, a19⟩
  rw [a1, a2, a3, a5, a6, a7, a8, a9, a10, pk_un (show i ≠ k by omega)]
  exact ⟨rfl, rfl, rfl, rfl, rfl, rfl, rfl, rfl, rfl⟩
theorem xRL_fr {S T : XSt} {n k : Nat} {x : Int32} (e : T = xuRL S (nI k) x) (hk : k < 40) (hn : n ≤ k) : xFr S T n noU := by
  have f := xERL e
  have ek : (nI k).toNatClampNeg = k := nI_clamp (by omega)
  rw [ek] at f
  obtain ⟨a1, a2, a3, a4, a5, a6, a7, a8, a9, a10, a11, a12, a13, a14, a15, a16, a17, a18, a19, -⟩ := f
  refine ⟨fun i hi => ?_, fun i hi => ⟨fun q => q.elim, fun q => by rw [a4]⟩, a11, a12, a13, a17, a18, a19⟩
  rw [a1, a2, a3, a5, a6, a7, a8, a9, a10, pk_un (show i ≠ k by omega)]
  exact ⟨rfl, rfl, rfl, rfl, rfl, rfl, rfl, rfl, rfl⟩
theorem mOt_fr {S T : MSt} {n k : Nat} {x : Int32} (e : T = muOt S (nI k) x) (hk : k < 40) (hn : n ≤ k) : mFr S T n noU := by
  have f := mEOt e
  have ek : (nI k).toNatClampNeg = k := nI_clamp (by omega)
  rw [ek] at f
  obtain ⟨a1, a2, a3, a4, a5, a6, a7, a8, a9, a10, a11, a12, a13, a14, a15, a16, a17, a18, a19, a20, a21, -⟩ := f
  refine ⟨fun i hi => ?_, fun i hi => ⟨fun q => q.elim, fun q => by rw [a4]⟩, a12, a13, a14, a21, a19, a20, a17⟩
  rw [a1, a2, a3, a5, a6, a7, a8, a9, a10, a11, pk_un (show i ≠ k by omega)]
  exact ⟨rfl, rfl, rfl, rfl, rfl, rfl, rfl, rfl, rfl, rfl⟩
theorem mOv_fr {S T : MSt} {n k : Nat} {x : Int32} (e : T = muOv S (nI k) x) (hk : k < 40) (hn : n ≤ k) : mFr S T n noU := by
  have f := mEOv e
  have ek : (nI k).toNatClampNeg = k := nI_clamp (by omega)
  rw [ek] at f
  obtain ⟨a1, a2, a3, a4, a5, a6, a7, a8, a9, a10, a11, a12, a13, a14, a15, a16, a17, a18, a19, a20, a21, -⟩ := f
  refine ⟨fun i hi => ?_, fun i hi => ⟨fun q => q.elim, fun q => by rw [a4]⟩, a12, a13, a14, a21, a19, a20, a17⟩
  rw [a1, a2, a3, a5, a6, a7, a8, a9, a10, a11, pk_un (show i ≠ k by omega)]
  exact ⟨rfl, rfl, rfl, rfl, rfl, rfl, rfl, rfl, rfl, rfl⟩
theorem mUn_fr {S T : MSt} {n k : Nat} {x : Int32} (e : T = muUn S (nI k) x) (hk : k < 40) (hn : n ≤ k) : mFr S T n noU := by
  have f := mEUn e
  have ek : (nI k).toNatClampNeg = k := nI_clamp (by omega)
  rw [ek] at f
  obtain ⟨a1, a2, a3, a4, a5, a6, a7, a8, a9, a10, a11, a12, a13, a14, a15, a16, a17, a18, a19, a20, a21, -⟩ := f
  refine ⟨fun i hi => ?_, fun i hi => ⟨fun q => q.elim, fun q => by rw [a4]⟩, a12, a13, a14, a21, a19, a20, a17⟩
  rw [a1, a2, a3, a5, a6, a7, a8, a9, a10, a11, pk_un (show i ≠ k by omega)]
  exact ⟨rfl, rfl, rfl, rfl, rfl, rfl, rfl, rfl, rfl, rfl⟩
theorem mRo_fr {S T : MSt} {n k : Nat} {x : Int32} (e : T = muRo S (nI k) x) (hk : k < 40) (hn : n ≤ k) : mFr S T n noU := by
  have f := mERo e
  have ek : (nI k).toNatClampNeg = k := nI_clamp (by omega)
  rw [ek] at f
  obtain ⟨a1, a2, a3, a4, a5, a6, a7, a8, a9, a10, a11, a12, a13, a14, a15, a16, a17, a18, a19, a20, a21, -⟩ := f
  refine ⟨fun i hi => ?_, fun i hi => ⟨fun q => q.elim, fun q => by rw [a4]⟩, a12, a13, a14, a21, a19, a20, a17⟩
  rw [a1, a2, a3, a5, a6, a7, a8, a9, a10, a11, pk_un (show i ≠ k by omega)]
  exact ⟨rfl, rfl, rfl, rfl, rfl, rfl, rfl, rfl, rfl, rfl⟩
/-- a table that grows -/
theorem grow_ex (P : PD) (n : Nat) (us : Nat → Prop) (v : Nat → Nat → Nat) : ∃ Q : PD, (∀ f i, f ≠ 9 → i < n → Q f i = P f i) ∧ (∀ i, i < n → us i → Q 9 i = 1) ∧ (∀ i, i < n → ¬ us i → Q 9 i = P 9 i) ∧ (∀ f i, n ≤ i → Q f i = v i f) := by
  classical
  refine ⟨fun f i => if n ≤ i then v i f else if f = 9 ∧ us i then 1 else P f i, fun f i hf hi => ?_, fun i hi hu => ?_, fun i hi hu => ?_, fun f i hi => ?_⟩
  · show (if n ≤ i then v i f else if f = 9 ∧ us i then 1 else P f i) = _
    rw [if_neg (by omega), if_neg (fun q => hf q.1)]
  · show (if n ≤ i then v i 9 else if 9 = 9 ∧ us i then 1 else P 9 i) = _
    rw [if_neg (by omega), if_pos ⟨rfl, hu⟩]
  · show (if n ≤ i then v i 9 else if 9 = 9 ∧ us i then 1 else P 9 i) = _
    rw [if_neg (by omega), if_neg (fun q => hu q.2)]
  · show (if n ≤ i then v i f else if f = 9 ∧ us i then 1 else P f i) = _
    rw [if_pos hi]
theorem Rel_make {P Q : PD} {n m : Nat} {df : Nat → Nat × Nat × Nat} {d hp : Nat} {S V : XSt} {T W : MSt} {us : Nat → Prop} (h : Rel P n df d hp S T) (hm : n ≤ m) (hm40 : m ≤ 40)
    (hQ : ∀ f i, f ≠ 9 → i < n → Q f i = P f i) (hu : ∀ i, i < n → us i → P 9 i = 0) (hu1 : ∀ i, i < n → us i → Q 9 i = 1) (hu0 : ∀ i, i < n → ¬ us i → Q 9 i = P 9 i)
    (hX : xFr S V n us) (hM : mFr T W n us) (hpx : xpc V = nI m) (hpm : mpc W = nI m) (hnew : ∀ i, n ≤ i → i < m → XR Q i V ∧ MR Q i W ∧ PI Q i ∧ Q 9 i ≤ 3) (hls : lsum Q m ≤ lsum P n) : Rel Q m df d hp V W := by
  obtain ⟨hn, hd, c1, c2, c3, c4, c5, c6, c7, hrow, hls0, hdf⟩ := h
  obtain ⟨x1, x2, x3, x4, x5, x6, x7, x8⟩ := hX
  obtain ⟨y1, y2, y3, y4, y5, y6, y7, y8, y9⟩ := hM
  refine ⟨hm40, hd, hpx, hpm, by rw [x6, c3], by rw [y6, c4], by rw [x7, c5], by rw [y7, c6], by rw [x8, y8, c7], fun i hi => ?_, by omega, fun j hj => ?_⟩
  · rcases Nat.lt_or_ge i n with q | q
    · obtain ⟨r1, r2, r3, r4⟩ := hrow i q
      have e : ∀ f, f ≠ 9 → Q f i = P f i := fun f hf => hQ f i hf q
      have e0 := e 0 (by decide)
      have e1 := e 1 (by decide)
      have e2 := e 2 (by decide)
      have e3 := e 3 (by decide)
      have e4 := e 4 (by decide)
      have e5 := e 5 (by decide)
      have e6 := e 6 (by decide)
      have e7 := e 7 (by decide)
      have e8 := e 8 (by decide)
      obtain ⟨z1, z2, z3, z4, z5, z6, z7, z8, z9⟩ := x1 i q
      obtain ⟨w1, w2, w3, w4, w5, w6, w7, w8, w9, w10⟩ := y1 i q
      refine ⟨?_, ?_, PI_congr (fun f j hf hj => hQ f j (by omega) (by omega)) r3, ?_⟩
      · obtain ⟨q1, q2, q3, q4, q5, q6, q7, q8, q9⟩ := r1
        unfold XR
        rw [e0, e1, e2, e3, e4, e5, e6, e7, e8, z1, z2, z3, z4, z5, z6, z7, z8, z9]
        refine ⟨q1, q2, q3, q4, q5, q6, q7, q8, ?_⟩
        by_cases u : us i
        · rw [(x2 i q).1 u, hu1 i q u]; rfl
        · rw [(x2 i q).2 u, hu0 i q u, q9]
      · obtain ⟨q1, q2, q3, q4, q5, q6, q7, q8, q9, q10⟩ := r2
        unfold MR
        rw [e0, e1, e2, e3, e4, e5, e6, e7, e8, w1, w2, w3, w4, w5, w6, w7, w8, w9, w10]
        refine ⟨q1, q2, q3, q4, q5, q6, q7, q8, ?_, ?_⟩
        · by_cases u : us i
          · rw [(y2 i q).1 u, hu1 i q u]; rfl
          · rw [(y2 i q).2 u, hu0 i q u, q9]
        · by_cases u : us i
          · rw [hu1 i q u, q10, hu i q u]; rfl
          · rw [hu0 i q u, q10]
      · by_cases u : us i
        · rw [hu1 i q u]; omega
        · rw [hu0 i q u]; exact r4
    · exact hnew i q hi
  · obtain ⟨r1, r2, r3, r4, r5, r6, r7⟩ := hdf j hj
    refine ⟨by rw [x3, r1], by rw [y3, r2], by rw [x4, r3], by rw [y4, r4], by rw [x5, r5], by rw [y5, r6], ?_⟩
    obtain ⟨s1, s2, s3, s4, s5, s6⟩ := r7
    exact ⟨by omega, by rw [hQ 0 _ (by decide) s1]; exact s2, s3, s4, s5, by rw [hQ 1 _ (by decide) s1]; exact s6⟩
/-- a live piece is no more: its weight goes (rows below n alone) -/
theorem lsum_used {P Q : PD} {k : Nat} : ∀ n : Nat, k < n → (P 9 k = 0 ∨ P 9 k = 3) → ¬ (Q 9 k = 0 ∨ Q 9 k = 3) → (∀ j, j < n → j ≠ k → Q 8 j = P 8 j ∧ Q 9 j = P 9 j) → lsum Q n + P 8 k = lsum P n
  | 0, hn, _, _, _ => absurd hn (by omega)
  | n + 1, hn, hk, hq, h => by
    rcases Nat.lt_or_ge k n with q | q
    · have h1 := h n (by omega) (by omega)
      have h2 := lsum_used n q hk hq (fun j hj => h j (by omega))
      rw [lsum, lsum, h1.1, h1.2]; omega
    · have e : k = n := by omega
      subst e
      rw [lsum, lsum, if_pos hk, if_neg hq, lsum_congr k (fun j hj => h j (by omega) (by omega))]; omega
/-- a number within bounds -/
theorem within_nI {x : Int32} {a b : Nat} (hb : b < 2 ^ 31) (ha : a < 2 ^ 31) (h1 : ¬ x < nI a) (h2 : x ≤ nI b) : ∃ q : Nat, a ≤ q ∧ q ≤ b ∧ x = nI q := by
  rw [Int32.lt_iff_toInt_lt, nI_toInt ha] at h1
  rw [Int32.le_iff_toInt_le, nI_toInt hb] at h2
  obtain ⟨j, hj, e⟩ := nI_of (x := x) (by rw [Int32.lt_iff_toInt_lt, Int32.toInt_zero]; omega)
  rw [e, nI_toInt hj] at h1 h2
  exact ⟨j, by omega, by omega, e⟩
theorem nlt_le (x y : Int32) : ¬ x < y ↔ y ≤ x := (le_nlt y x).symm
theorem Rel_w {P : PD} {n : Nat} {df : Nat → Nat × Nat × Nat} {d hp : Nat} {S : XSt} {T : MSt} (h : Rel P n df d hp S T) {i : Nat} (hi : i < n) (h9 : P 9 i = 0) : P 8 i ≤ 40000000 := by
  have h1 := h.1
  have h2 := h.2.2.2.2.2.2.2.2.2.2.1
  have h3 := lsum_le hi (Or.inl h9)
  omega

