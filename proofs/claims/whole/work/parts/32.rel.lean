/-! THE RELATION: one table of numbers P (field, piece) that both states show.
fields: 0 kind, 1 length, 2 source, 3 second one, 4 seam, 5 over, 6 under, 7 rolls, 8 weight, 9 state (0 live, 1 used, 2 scrap, 3 held) -/
abbrev PD : Type := Nat → Nat → Nat
def XR (P : PD) (i : Nat) (S : XSt) : Prop := xKi S i = nI (P 0 i) ∧ xLe S i = nI (P 1 i) ∧ xSo S i = (if P 0 i = 0 then (-1) else nI (P 2 i)) ∧ xSe S i = (if P 0 i = 3 then nI (P 3 i) else (-1)) ∧ (P 0 i = 1 ∨ P 0 i = 2 ∨ P 0 i = 3 → xSm S i = nI (P 4 i)) ∧ (P 0 i = 4 → xRU S i = nI (P 5 i) ∧ xRL S i = nI (P 6 i)) ∧ xRo S i = nI (P 7 i) ∧ xWe S i = nI (P 8 i) ∧ xSt S i = nI (P 9 i)
def MR (P : PD) (i : Nat) (T : MSt) : Prop := mKi T i = nI (P 0 i) ∧ mLe T i = nI (P 1 i) ∧ mOf T i = (if P 0 i = 0 then (-1) else nI (P 2 i)) ∧ mOt T i = (if P 0 i = 3 then nI (P 3 i) else (-1)) ∧ (P 0 i = 1 ∨ P 0 i = 2 → mCu T i = nI (P 4 i)) ∧ (P 0 i = 4 → mOv T i = nI (P 5 i) ∧ mUn T i = nI (P 6 i)) ∧ mRo T i = nI (P 7 i) ∧ mWe T i = nI (P 8 i) ∧ mSt T i = nI (if P 9 i = 3 then 0 else P 9 i) ∧ mHe T i = nI (if P 9 i = 3 then 1 else 0)
def PI (P : PD) (i : Nat) : Prop := P 0 i ≤ 5 ∧ 1 ≤ P 1 i ∧ P 1 i ≤ 1000000000 ∧ P 7 i ≤ 3 ∧ (P 0 i ≠ 0 → P 2 i < i) ∧ (P 0 i = 0 → P 7 i = 0) ∧
  (P 0 i = 1 → P 1 i = P 4 i ∧ P 4 i < P 1 (P 2 i) ∧ P 7 i = P 7 (P 2 i)) ∧ (P 0 i = 2 → 1 ≤ P 4 i ∧ P 4 i + P 1 i = P 1 (P 2 i) ∧ P 7 i = P 7 (P 2 i)) ∧
  (P 0 i = 3 → P 3 i < i ∧ P 4 i = P 1 (P 2 i) ∧ P 1 i = P 1 (P 2 i) + P 1 (P 3 i) ∧ P 7 (P 2 i) ≤ P 7 i ∧ P 7 (P 3 i) ≤ P 7 i) ∧
  (P 0 i = 4 → 1 ≤ P 5 i ∧ P 5 i ≤ 20 ∧ 1 ≤ P 6 i ∧ P 6 i ≤ 20 ∧ P 1 i = P 1 (P 2 i) * P 5 i / P 6 i ∧ P 7 i = P 7 (P 2 i) + 1) ∧ (P 0 i = 5 → P 1 i = P 1 (P 2 i) ∧ P 7 i = P 7 (P 2 i))
theorem PI_congr {P Q : PD} {i : Nat} (h : ∀ f j, f ≤ 7 → j ≤ i → Q f j = P f j) (hp : PI P i) : PI Q i := by
  obtain ⟨a0, a1, a2, a3, a4, a5, a6, a7, a8, a9, a10⟩ := hp
  have e : ∀ f, f ≤ 7 → Q f i = P f i := fun f hf => h f i hf (Nat.le_refl _)
  have e0 := e 0 (by omega)
  have e1 := e 1 (by omega)
  have e2 := e 2 (by omega)
  have e3 := e 3 (by omega)
  have e4 := e 4 (by omega)
  have e5 := e 5 (by omega)
  have e6 := e 6 (by omega)
  have e7 := e 7 (by omega)
  unfold PI
  rw [e0, e1, e2, e3, e4, e5, e6, e7]
  refine ⟨a0, a1, a2, a3, a4, a5, fun k => ?_, fun k => ?_, fun k => ?_, fun k => ?_, fun k => ?_⟩
  · have hs := a4 (by omega)
    rw [h 1 _ (by omega) (by omega), h 7 _ (by omega) (by omega)]; exact a6 k
  · have hs := a4 (by omega)
    rw [h 1 _ (by omega) (by omega), h 7 _ (by omega) (by omega)]; exact a7 k
  · have hs := a4 (by omega)
    have h8 := a8 k
    rw [h 1 (P 2 i) (by omega) (by omega), h 7 (P 2 i) (by omega) (by omega), h 1 (P 3 i) (by omega) (by omega), h 7 (P 3 i) (by omega) (by omega)]; exact h8
  · have hs := a4 (by omega)
    rw [h 1 _ (by omega) (by omega), h 7 _ (by omega) (by omega)]; exact a9 k
  · have hs := a4 (by omega)
    rw [h 1 _ (by omega) (by omega), h 7 _ (by omega) (by omega)]; exact a10 k
/-- what the live pieces weigh -/
def lsum (P : PD) : Nat → Nat
  | 0 => 0
  | n + 1 => lsum P n + (if P 9 n = 0 ∨ P 9 n = 3 then P 8 n else 0)
theorem lsum_congr {P Q : PD} : ∀ n : Nat, (∀ j, j < n → Q 8 j = P 8 j ∧ Q 9 j = P 9 j) → lsum Q n = lsum P n
  | 0, _ => rfl
  | n + 1, h => by
    have h1 := h n (by omega)
    rw [lsum, lsum, lsum_congr n (fun j hj => h j (by omega)), h1.1, h1.2]
theorem lsum_le {P : PD} : ∀ {n i : Nat}, i < n → (P 9 i = 0 ∨ P 9 i = 3) → P 8 i ≤ lsum P n
  | 0, i, h, _ => absurd h (by omega)
  | n + 1, i, h, hl => by
    rcases Nat.lt_or_ge i n with q | q
    · have := lsum_le (n := n) q hl
      rw [lsum]; omega
    · have e : i = n := by omega
      subst e
      rw [lsum, if_pos hl]; omega
/-- a live piece is no more: its weight goes -/
theorem lsum_off {P Q : PD} {k : Nat} (hk : P 9 k = 0 ∨ P 9 k = 3) (hq : ¬ (Q 9 k = 0 ∨ Q 9 k = 3)) (h : ∀ j, j ≠ k → Q 8 j = P 8 j ∧ Q 9 j = P 9 j) : ∀ n : Nat, k < n → lsum Q n + P 8 k = lsum P n
  | 0, hn => absurd hn (by omega)
  | n + 1, hn => by
    rcases Nat.lt_or_ge k n with q | q
    · have h1 := h n (by omega)
      have h2 := lsum_off hk hq h n q
      rw [lsum, lsum, h1.1, h1.2]; omega
    · have e : k = n := by omega
      subst e
      rw [lsum, lsum, if_pos hk, if_neg hq, lsum_congr k (fun j hj => h j (by omega))]; omega
def pAdd (P : PD) (n : Nat) (v : Nat → Nat) : PD := fun f j => if j = n then v f else P f j
theorem pAdd_ne {P : PD} {n : Nat} {v : Nat → Nat} {f j : Nat} (h : j ≠ n) : pAdd P n v f j = P f j := if_neg h
theorem pAdd_eq {P : PD} {n : Nat} {v : Nat → Nat} {f : Nat} : pAdd P n v f n = v f := if_pos rfl
def pSet (P : PD) (k x : Nat) : PD := fun f j => if f = 9 ∧ j = k then x else P f j
theorem pSet_f {P : PD} {k x f j : Nat} (h : f ≠ 9) : pSet P k x f j = P f j := if_neg (fun q => h q.1)
theorem pSet_j {P : PD} {k x f j : Nat} (h : j ≠ k) : pSet P k x f j = P f j := if_neg (fun q => h q.2)
theorem pSet_9 {P : PD} {k x : Nat} : pSet P k x 9 k = x := if_pos ⟨rfl, rfl⟩
theorem PI_add {P : PD} {n i : Nat} {v : Nat → Nat} (hi : i < n) (h : PI P i) : PI (pAdd P n v) i := PI_congr (fun f j _ hj => pAdd_ne (by omega)) h
theorem PI_set {P : PD} {i k x : Nat} (h : PI P i) : PI (pSet P k x) i := PI_congr (fun f j hf _ => pSet_f (by omega)) h
/-- the defects: melt, upper, lower number -/
def DR (P : PD) (n : Nat) (q : Nat × Nat × Nat) : Prop := q.1 < n ∧ P 0 q.1 = 0 ∧ Nat.gcd q.2.1 q.2.2 = 1 ∧ 0 < q.2.2 ∧ q.2.2 ≤ 8000 ∧ q.2.1 < P 1 q.1 * q.2.2
def Rel (P : PD) (n : Nat) (df : Nat → Nat × Nat × Nat) (d hp : Nat) (S : XSt) (T : MSt) : Prop :=
  n ≤ 40 ∧ d ≤ 10 ∧ xpc S = nI n ∧ mpc T = nI n ∧ xdc S = nI d ∧ mdc T = nI d ∧ xhp S = nI hp ∧ mhp T = nI hp ∧ xml S = mml T ∧ (∀ i, i < n → XR P i S ∧ MR P i T ∧ PI P i ∧ P 9 i ≤ 3) ∧ lsum P n + hp ≤ 1000000 * n ∧
  ∀ j, j < d → xDM S j = nI (df j).1 ∧ mDM T j = nI (df j).1 ∧ xDU S j = lN (df j).2.1 ∧ mDU T j = lN (df j).2.1 ∧ xDL S j = lN (df j).2.2 ∧ mDL T j = lN (df j).2.2 ∧ DR P n (df j)
/-- both sides answered alike -/
def Agree (r : Int32) (b : Int64) (O : LSt) (T : MSt) : Prop := mth T = r ∧ (r = 0 → O.1 0 = b) ∧ ∃ P n df d hp, Rel P n df d hp O.2 T
theorem out_put {O : LSt} {x : Int64} {T : LSt} (e : T = luO O 0 x) : T.1 0 = x ∧ T.2 = O.2 := by
  subst e
  exact ⟨rfl, rfl⟩
/-- what the rows look like where the arrays are the same there -/
theorem XR_keep {P : PD} {i : Nat} {S U : XSt} (h : XR P i S) (a1 : xKi U i = xKi S i) (a2 : xLe U i = xLe S i) (a3 : xSo U i = xSo S i) (a4 : xSe U i = xSe S i) (a5 : xSm U i = xSm S i) (a6 : xRU U i = xRU S i) (a7 : xRL U i = xRL S i) (a8 : xRo U i = xRo S i) (a9 : xWe U i = xWe S i) (a10 : xSt U i = xSt S i) : XR P i U := by
  unfold XR
  rw [a1, a2, a3, a4, a5, a6, a7, a8, a9, a10]
  exact h
theorem MR_keep {P : PD} {i : Nat} {S U : MSt} (h : MR P i S) (a1 : mKi U i = mKi S i) (a2 : mLe U i = mLe S i) (a3 : mOf U i = mOf S i) (a4 : mOt U i = mOt S i) (a5 : mCu U i = mCu S i) (a6 : mOv U i = mOv S i) (a7 : mUn U i = mUn S i) (a8 : mRo U i = mRo S i) (a9 : mWe U i = mWe S i) (a10 : mSt U i = mSt S i) (a11 : mHe U i = mHe S i) : MR P i U := by
  unfold MR
  rw [a1, a2, a3, a4, a5, a6, a7, a8, a9, a10, a11]
  exact h
theorem XR_addP {P : PD} {n i : Nat} {v : Nat → Nat} {S : XSt} (hi : i < n) (h : XR P i S) : XR (pAdd P n v) i S := by
  have e : ∀ f, pAdd P n v f i = P f i := fun f => pAdd_ne (by omega)
  unfold XR
  rw [e, e, e, e, e, e, e, e, e, e]
  exact h
theorem MR_addP {P : PD} {n i : Nat} {v : Nat → Nat} {S : MSt} (hi : i < n) (h : MR P i S) : MR (pAdd P n v) i S := by
  have e : ∀ f, pAdd P n v f i = P f i := fun f => pAdd_ne (by omega)
  unfold MR
  rw [e, e, e, e, e, e, e, e, e, e]
  exact h
theorem DR_add {P : PD} {n m : Nat} {v : Nat → Nat} {q : Nat × Nat × Nat} (hm : n ≤ m) (h : DR P n q) : DR (pAdd P n v) m q := by
  obtain ⟨h1, h2, h3, h4, h5, h6⟩ := h
  refine ⟨by omega, ?_, h3, h4, h5, ?_⟩
  · rw [pAdd_ne (by omega)]; exact h2
  · rw [pAdd_ne (by omega)]; exact h6
theorem DR_set {P : PD} {n k x : Nat} {q : Nat × Nat × Nat} (h : DR P n q) : DR (pSet P k x) n q := by
  unfold DR
  rw [pSet_f (by omega), pSet_f (by omega)]
  exact h

