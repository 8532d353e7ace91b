/-! PURE ROWS: what the inner methods' wp come to -/
abbrev pz (S : XSt) (p : Int32) : Prop := ¬ p < 0 ∧ ¬ xpc S ≤ p
def gcdL : Nat → Int64 → Int64 → Int64
  | 0, x, _ => x
  | n + 1, x, y => if y = 0 then x else gcdL n y (x - x / y * y)
/-- the same but for the spot -/
def xSp (S T : XSt) (x y : Int64) : Prop := xKi T = xKi S ∧ xWe T = xWe S ∧ xLe T = xLe S ∧ xSt T = xSt S ∧ xSo T = xSo S ∧ xSe T = xSe S ∧ xRo T = xRo S ∧ xSm T = xSm S ∧ xRU T = xRU S ∧ xRL T = xRL S ∧ xDM T = xDM S ∧ xDU T = xDU S ∧ xDL T = xDL S ∧ xFU T = xFU S ∧ xFL T = xFL S ∧ xpc T = xpc S ∧ xdc T = xdc S ∧ xhp T = xhp S ∧ xml T = xml S ∧ xup T = x ∧ xlo T = y
theorem r_set {post : XSt → Prop} {x y : Int64} {S : XSt} (h : ∀ T, xSp S T x y → post T) : wp_P_set post x y S := by
  intro S1 e1 S2 e2
  have f1 := xEup e1
  have f2 := xElo e2
  exact h S2 (by simp only [xSp, f1, f2, and_self])
theorem r_move {post : XSt → Prop} {x : Int64} {S : XSt} (h : ∀ T, xSp S T (xup S + x * xlo S) (xlo S) → post T) : wp_P_move post x S := by
  intro S1 e1
  have f1 := xEup e1
  exact h S1 (by simp only [xSp, f1, and_self])
theorem r_isBelow {post : Int32 → XSt → Prop} {x : Int64} {S : XSt} (h0 : x * xlo S ≤ xup S → post 0 S) (h1 : ¬ x * xlo S ≤ xup S → post 1 S) : wp_P_isBelow post x S := ⟨h0, h1⟩
theorem r_gcdL {post : Int64 → XSt → Prop} {p0 p1 : Int64} {S : XSt} : ∀ (k : Nat) (x y : Int64) (u : Int32), k ≤ 100 → u = nI (100 - k) → post (gcdL k x y) S → wpL_P_commonDivisor_9 post p0 p1 (k + 1) S x y u
  | 0, x, y, u, _, hu, h => by
    refine ⟨fun _ => h, fun hn => absurd ?_ hn⟩
    rw [hu]; decide
  | k + 1, x, y, u, hk, hu, h => by
    refine ⟨fun hn => absurd hn ?_, fun _ => ⟨fun hy => ?_, fun hy => ⟨hy, ?_⟩⟩⟩
    · rw [hu]; exact nI_ge (a := 100 - (k + 1)) (b := 100) (by omega) (by omega)
    · rw [gcdL, if_pos hy] at h; exact h
    · intro v e w e2
      subst e; subst e2
      rw [gcdL, if_neg hy] at h
      exact r_gcdL k _ _ _ (by omega) (by rw [hu, nI_1]; congr 1; omega) h
theorem r_isPiece {post : Int32 → XSt → Prop} {p : Int32} {S : XSt} (h1 : pz S p → post 1 S) (h0 : ¬ pz S p → post 0 S) : wp_X_isPiece post p S :=
  ⟨fun h => h0 (fun q => q.1 h), fun h => ⟨fun h2 => h0 (fun q => q.2 h2), fun h2 => h1 ⟨h, h2⟩⟩⟩
theorem r_isLive {post : Int32 → XSt → Prop} {p : Int32} {S : XSt} (hp : vp_in p 40) (h1 : (xSt S p.toNatClampNeg = 0 ∨ xSt S p.toNatClampNeg = 3) → post 1 S) (h0 : ¬ (xSt S p.toNatClampNeg = 0 ∨ xSt S p.toNatClampNeg = 3) → post 0 S) : wp_X_isLive post p S :=
  ⟨hp, fun h => h1 (Or.inl h), fun h => ⟨hp, fun h2 => h1 (Or.inr h2), fun h2 => h0 (fun q => q.elim h h2)⟩⟩
theorem r_needPiece {post : XSt → Prop} {xp : String → XSt → Prop} {p : Int32} {S : XSt} (h1 : pz S p → post S) (h0 : ¬ pz S p → xp "java/lang/IndexOutOfBoundsException" S) : wp_X_needPiece post xp p S :=
  r_isPiece (fun h => ⟨fun q => absurd q (by decide), fun _ => h1 h⟩) (fun h => ⟨fun _ => h0 h, fun q => absurd rfl q⟩)
theorem r_needDefect {post : XSt → Prop} {xp : String → XSt → Prop} {p : Int32} {S : XSt} (h1 : ¬ p < 0 → p < xdc S → post S) (h0 : (p < 0 ∨ ¬ p < xdc S) → xp "java/lang/IndexOutOfBoundsException" S) : wp_X_needDefect post xp p S :=
  ⟨fun h => h0 (Or.inl h), fun h => ⟨fun h2 => h1 h h2, fun h2 => h0 (Or.inr h2)⟩⟩
theorem r_needPart {post : XSt → Prop} {xp : String → XSt → Prop} {p q : Int32} {S : XSt} (h1 : ¬ p < 0 → p ≤ q → post S) (h0 : (p < 0 ∨ ¬ p ≤ q) → xp "java/lang/IndexOutOfBoundsException" S) : wp_X_needPart post xp p q S :=
  ⟨fun h => h0 (Or.inl h), fun h => ⟨fun h2 => h1 h h2, fun h2 => h0 (Or.inr h2)⟩⟩
theorem r_needFree {post : XSt → Prop} {xp : String → XSt → Prop} {p : Int32} {S : XSt} (hp : vp_in p 40) (h1 : xSt S p.toNatClampNeg = 0 → post S) (h0 : ¬ xSt S p.toNatClampNeg = 0 → xp "java/lang/IllegalStateException" S) : wp_X_needFree post xp p S := ⟨hp, h1, h0⟩
theorem r_needWithin {post : XSt → Prop} {xp : String → XSt → Prop} {p lo hi : Int32} {S : XSt} (h1 : ¬ p < lo → p ≤ hi → post S) (h0 : (p < lo ∨ ¬ p ≤ hi) → xp "java/lang/IllegalArgumentException" S) : wp_X_needWithin post xp p lo hi S :=
  ⟨fun h => h0 (Or.inl h), fun h => ⟨fun h2 => h1 h h2, fun h2 => h0 (Or.inr h2)⟩⟩
theorem r_needRoom {post : XSt → Prop} {xp : String → XSt → Prop} {n : Int32} {S : XSt} (h1 : xpc S + n ≤ 40 → post S) (h0 : ¬ xpc S + n ≤ 40 → xp "java/lang/UnsupportedOperationException" S) : wp_X_needRoom post xp n S := ⟨h1, h0⟩
theorem pz_in {S : XSt} {p : Int32} (hc : xpc S ≤ 40) (h : pz S p) : vp_in p 40 := by
  rw [vp_in_iff]
  have h1 := h.1
  have h2 := h.2
  rw [Int32.lt_iff_toInt_lt] at h1
  rw [Int32.le_iff_toInt_le] at h2 hc
  have e0 : (0 : Int32).toInt = 0 := by decide
  have e4 : (40 : Int32).toInt = 40 := by decide
  rw [e0] at h1
  rw [e4] at hc
  omega
/-! numbers -/
theorem lN0 : lN 0 = 0 := rfl
theorem lNz {y : Nat} (h : 0 < y) (hy : y < 2 ^ 63) : ¬ lN y = 0 := fun e => by
  have h2 := (pk_lEQ (a := y) (b := 0) hy (by decide)).mp e
  omega
theorem mulhalf {x y r K : Nat} (hr : r < y) (hx : y + r ≤ x) (h : x * y < 2 * K) : y * r < K := by
  have h1 : y * (2 * r) ≤ y * x := Nat.mul_le_mul_left y (by omega)
  have h2 : y * (2 * r) = 2 * (y * r) := by rw [Nat.mul_left_comm]
  rw [Nat.mul_comm y x] at h1
  omega
theorem gL1 : ∀ (k x y : Nat), y ≤ x → x * y < 2 ^ k → x < 2 ^ 63 → gcdL (k + 1) (lN x) (lN y) = lN (Nat.gcd x y)
  | 0, x, y, hyx, hxy, hx => by
    have hy : y = 0 := by
      rcases Nat.eq_zero_or_pos y with h | h
      · exact h
      · have h2 : 0 < x * y := Nat.mul_pos (by omega) h
        omega
    subst hy
    rw [gcdL, if_pos lN0, Nat.gcd_zero_right]
  | k + 1, x, y, hyx, hxy, hx => by
    rcases Nat.eq_zero_or_pos y with h | h
    · subst h
      rw [gcdL, if_pos lN0, Nat.gcd_zero_right]
    · have hr : x % y < y := Nat.mod_lt x h
      have hd : 1 ≤ x / y := (Nat.one_le_div_iff h).mpr hyx
      have hx2 : y + x % y ≤ x := by
        have e := Nat.div_add_mod x y
        have h3 : y * 1 ≤ y * (x / y) := Nat.mul_le_mul_left y hd
        omega
      rw [gcdL, if_neg (lNz h (by omega)), pk_lRem hx h (by omega), gL1 k y (x % y) (by omega) (mulhalf hr hx2 (by rw [Nat.pow_succ] at hxy; omega)) (by omega)]
      congr 1
      rw [Nat.gcd_comm y (x % y), ← Nat.gcd_rec, Nat.gcd_comm]
theorem gL2 (k x y : Nat) (hxy : x * y < 2 ^ k) (hx : x < 2 ^ 63) (hy : y < 2 ^ 63) : gcdL (k + 2) (lN x) (lN y) = lN (Nat.gcd x y) := by
  rcases Nat.lt_or_ge x y with h | h
  · rw [gcdL, if_neg (lNz (by omega) hy), pk_lRem hx (by omega) hy, Nat.mod_eq_of_lt h, gL1 k y x (by omega) (by rw [Nat.mul_comm]; exact hxy) hy, Nat.gcd_comm]
  · exact gL1 (k + 1) x y h (by rw [Nat.pow_succ]; omega) hx
def red (u w : Nat) : Nat × Nat := (u / Nat.gcd u w, w / Nat.gcd u w)
theorem r_gcdK (k : Nat) (hk : k + 2 = 100) {post : Int64 → XSt → Prop} {a b : Nat} {x y : Int64} {S : XSt} (hx : x = lN a) (hy : y = lN b) (hab : a * b < 2 ^ k) (ha : a < 2 ^ 63) (hb : b < 2 ^ 63) (h : post (lN (Nat.gcd a b)) S) : wp_P_commonDivisor post x y S :=
  ⟨k + 2 + 1, r_gcdL (k + 2) x y 0 (by omega) (by rw [hk]; rfl) (by rw [hx, hy, gL2 k a b hab ha hb]; exact h)⟩
theorem r_stretchN {post : XSt → Prop} {o p : Int64} {u w a b : Nat} {S : XSt} (hu : xup S = lN u) (hw : xlo S = lN w) (ho : o = lN a) (hp : p = lN b) (h1 : u * a < 2 ^ 62) (h2 : w * b < 2 ^ 36) (h3 : 0 < w * b) (h : ∀ T, xSp S T (lN (red (u * a) (w * b)).1) (lN (red (u * a) (w * b)).2) → post T) : wp_P_stretch post o p S := by
  have hg1 : 0 < Nat.gcd (u * a) (w * b) := Nat.gcd_pos_of_pos_right _ h3
  have hg2 : Nat.gcd (u * a) (w * b) ≤ w * b := Nat.gcd_le_right _ h3
  unfold red at h
  obtain ⟨g, hg⟩ : ∃ g, g = Nat.gcd (u * a) (w * b) := ⟨_, rfl⟩
  rw [← hg] at hg1 hg2 h
  intro S1 e1 S2 e2
  have f1 := xEup e1
  have f2 := xElo e2
  have el : xlo S1 = lN w := by simp only [f1, hw]
  have eu2 : xup S2 = lN (u * a) := by simp only [f2, f1, hu, ho, lN_mul]
  have el2 : xlo S2 = lN (w * b) := by simp only [f2, el, hp, lN_mul]
  have hbd : u * a * (w * b) < 2 ^ 98 := by
    have q := Nat.mul_lt_mul'' h1 h2
    rw [← Nat.pow_add] at q
    exact q
  refine r_gcdK 98 rfl eu2 el2 hbd (by omega) (by omega) ?_
  rw [← hg]
  refine ⟨fun hl => ?_, fun hl => ?_⟩
  · have hl2 : g ≤ 1 := (pk_lLE (a := g) (b := 1) (by omega) (by decide)).mp hl
    have hg9 : g = 1 := by omega
    rw [hg9, Nat.div_one, Nat.div_one] at h
    exact h S2 (by simp only [xSp, eu2, el2, f2, f1, and_self])
  · have hz := lNz (y := g) hg1 (by omega)
    refine ⟨hz, fun S7 e7 => ⟨hz, fun S9 e9 => ?_⟩⟩
    have f7 := xEup e7
    have f9 := xElo e9
    have q1 : xup S7 = lN (u * a / g) := by simp only [f7]; rw [eu2, pk_lDiv (by omega) hg1 (by omega)]
    have q2 : xlo S9 = lN (w * b / g) := by simp only [f9, f7]; rw [el2, pk_lDiv (by omega) hg1 (by omega)]
    exact h S9 (by simp only [xSp, q2, f9, q1, f7, f2, f1, and_self])

