/-! PURE ROWS OF THE CLASS: what each private method's wp comes to -/
abbrev pz (S : XSt) (p : Int32) : Prop := ¬ p < 0 ∧ ¬ xpc S ≤ p
def fMove (q : Int64 × Int64) (d : Int64) : Int64 × Int64 := (q.1 + d * q.2, q.2)
def gcdL : Nat → Int64 → Int64 → Int64
  | 0, x, _ => x
  | n + 1, x, y => if y = 0 then x else gcdL n y (x - x / y * y)
def fStr (q : Int64 × Int64) (o u : Int64) : Int64 × Int64 :=
  if gcdL 100 (q.1 * o) (q.2 * u) ≤ 1 then (q.1 * o, q.2 * u) else (q.1 * o / gcdL 100 (q.1 * o) (q.2 * u), q.2 * u / gcdL 100 (q.1 * o) (q.2 * u))
abbrev xsp (S : XSt) : Int64 × Int64 := (xup S, xlo S)
abbrev xssp (S : XSt) (q : Int64 × Int64) : XSt := xslo (xsup S q.1) q.2
theorem r_set {post : XSt → Prop} {x y : Int64} {S : XSt} (h : post (xssp S (x, y))) : wp_P_set post x y S := by
  intro S1 e1 S2 e2
  subst e1; subst e2
  exact h
theorem r_move {post : XSt → Prop} {x : Int64} {S : XSt} (h : post (xssp S (fMove (xsp S) x))) : wp_P_move post x S := by
  intro S1 e1
  subst e1
  exact h
theorem r_isBelow {post : Int32 → XSt → Prop} {x : Int64} {S : XSt} (h0 : x * xlo S ≤ xup S → post 0 S) (h1 : ¬ x * xlo S ≤ xup S → post 1 S) : wp_P_isBelow post x S := ⟨h0, h1⟩
theorem r_gcdL {post : Int64 → XSt → Prop} {p0 p1 : Int64} {S : XSt} : ∀ (k : Nat) (x y : Int64) (u : Int32), k ≤ 100 → u = nI (100 - k) → post (gcdL k x y) S → wpL_P_commonDivisor_9 post p0 p1 (k + 1) S x y u
  | 0, x, y, u, _, hu, h => by
    refine ⟨fun _ => h, fun hn => absurd ?_ hn⟩
    rw [hu]; decide
  | k + 1, x, y, u, hk, hu, h => by
    refine ⟨fun hn => absurd hn ?_, fun _ => ⟨fun hy => ?_, fun hy => ⟨hy, ?_⟩⟩⟩
    · rw [hu]; exact nI_ge (a := 100 - (k + 1)) (b := 100) (by omega) (by omega)
    · rw [gcdL, if_pos hy] at h; exact h
    · intro v e w e2
      subst e; subst e2
      rw [gcdL, if_neg hy] at h
      exact r_gcdL k _ _ _ (by omega) (by rw [hu, nI_1]; congr 1; omega) h
theorem r_gcd {post : Int64 → XSt → Prop} {x y : Int64} {S : XSt} (h : post (gcdL 100 x y) S) : wp_P_commonDivisor post x y S := ⟨101, r_gcdL 100 x y 0 (Nat.le_refl _) rfl h⟩
theorem r_stretch {post : XSt → Prop} {o u : Int64} {S : XSt} (h : post (xssp S (fStr (xsp S) o u))) : wp_P_stretch post o u S := by
  intro S1 e1 S2 e2
  subst e1; subst e2
  refine r_gcd ⟨fun hg => ?_, fun hg => ?_⟩
  · rw [fStr, if_pos hg] at h
    exact h
  · rw [fStr, if_neg hg] at h
    have hz : ¬ gcdL 100 (xup S * o) (xlo S * u) = 0 := fun hz => hg (by show gcdL 100 (xup S * o) (xlo S * u) ≤ 1; rw [hz]; decide)
    refine ⟨hz, fun S7 e7 => ?_⟩
    subst e7
    refine ⟨hz, fun S9 e9 => ?_⟩
    subst e9
    exact h
theorem r_isPiece {post : Int32 → XSt → Prop} {p : Int32} {S : XSt} (h1 : pz S p → post 1 S) (h0 : ¬ pz S p → post 0 S) : wp_X_isPiece post p S :=
  ⟨fun h => h0 (fun q => q.1 h), fun h => ⟨fun h2 => h0 (fun q => q.2 h2), fun h2 => h1 ⟨h, h2⟩⟩⟩
theorem r_isLive {post : Int32 → XSt → Prop} {p : Int32} {S : XSt} (hp : vp_in p 40) (h1 : (xSt S p.toNatClampNeg = 0 ∨ xSt S p.toNatClampNeg = 3) → post 1 S) (h0 : ¬ (xSt S p.toNatClampNeg = 0 ∨ xSt S p.toNatClampNeg = 3) → post 0 S) : wp_X_isLive post p S :=
  ⟨hp, fun h => h1 (Or.inl h), fun h => ⟨hp, fun h2 => h1 (Or.inr h2), fun h2 => h0 (fun q => q.elim h h2)⟩⟩
theorem r_needPiece {post : XSt → Prop} {xp : String → XSt → Prop} {p : Int32} {S : XSt} (h1 : pz S p → post S) (h0 : ¬ pz S p → xp "java/lang/IndexOutOfBoundsException" S) : wp_X_needPiece post xp p S :=
  r_isPiece (fun h => ⟨fun q => absurd q (by decide), fun _ => h1 h⟩) (fun h => ⟨fun _ => h0 h, fun q => absurd rfl q⟩)
theorem r_needDefect {post : XSt → Prop} {xp : String → XSt → Prop} {p : Int32} {S : XSt} (h1 : ¬ p < 0 → p < xdc S → post S) (h0 : (p < 0 ∨ ¬ p < xdc S) → xp "java/lang/IndexOutOfBoundsException" S) : wp_X_needDefect post xp p S :=
  ⟨fun h => h0 (Or.inl h), fun h => ⟨fun h2 => h1 h h2, fun h2 => h0 (Or.inr h2)⟩⟩
theorem r_needPart {post : XSt → Prop} {xp : String → XSt → Prop} {p q : Int32} {S : XSt} (h1 : ¬ p < 0 → p ≤ q → post S) (h0 : (p < 0 ∨ ¬ p ≤ q) → xp "java/lang/IndexOutOfBoundsException" S) : wp_X_needPart post xp p q S :=
  ⟨fun h => h0 (Or.inl h), fun h => ⟨fun h2 => h1 h h2, fun h2 => h0 (Or.inr h2)⟩⟩
theorem r_needFree {post : XSt → Prop} {xp : String → XSt → Prop} {p : Int32} {S : XSt} (hp : vp_in p 40) (h1 : xSt S p.toNatClampNeg = 0 → post S) (h0 : ¬ xSt S p.toNatClampNeg = 0 → xp "java/lang/IllegalStateException" S) : wp_X_needFree post xp p S := ⟨hp, h1, h0⟩
theorem r_needWithin {post : XSt → Prop} {xp : String → XSt → Prop} {p lo hi : Int32} {S : XSt} (h1 : ¬ p < lo → p ≤ hi → post S) (h0 : (p < lo ∨ ¬ p ≤ hi) → xp "java/lang/IllegalArgumentException" S) : wp_X_needWithin post xp p lo hi S :=
  ⟨fun h => h0 (Or.inl h), fun h => ⟨fun h2 => h1 h h2, fun h2 => h0 (Or.inr h2)⟩⟩
theorem r_needRoom {post : XSt → Prop} {xp : String → XSt → Prop} {n : Int32} {S : XSt} (h1 : xpc S + n ≤ 40 → post S) (h0 : ¬ xpc S + n ≤ 40 → xp "java/lang/UnsupportedOperationException" S) : wp_X_needRoom post xp n S := ⟨h1, h0⟩
def xAdd (S : XSt) (k so w le : Int32) : XSt :=
  xspc (xuRo (xuSe (xuSo (xuSt (xuLe (xuWe (xuKi S (xpc S) k) (xpc S) w) (xpc S) le) (xpc S) 0) (xpc S) so) (xpc S) (-1)) (xpc S) (if so = (-1) then 0 else xRo S so.toNatClampNeg)) (xpc S + 1)
theorem r_addPiece {post : Int32 → XSt → Prop} {k so w le : Int32} {S : XSt} (hpc : vp_in (xpc S) 40) (hso : ¬ so = (-1) → vp_in so 40) (h : post (xpc S) (xAdd S k so w le)) : wp_X_addPiece post k so w le S := by
  intro v e
  subst e
  refine ⟨hpc, fun S3 e3 => ⟨hpc, fun S5 e5 => ⟨hpc, fun S7 e7 => ⟨hpc, fun S9 e9 => ⟨hpc, fun S11 e11 => ⟨hpc, fun S13 e13 => ⟨fun h1 => ⟨hpc, fun S20 e20 S21 e21 => ?_⟩, fun h1 => ⟨hso h1, hpc, fun S17 e17 S18 e18 => ?_⟩⟩⟩⟩⟩⟩⟩⟩
  · subst e3 e5 e7 e9 e11 e13 e20 e21
    rw [xAdd, if_pos h1] at h
    exact h
  · subst e3 e5 e7 e9 e11 e13 e17 e18
    rw [xAdd, if_neg h1] at h
    exact h
def kBack (S : XSt) (p : Int32) (q : Int64 × Int64) : Int32 × (Int64 × Int64) :=
  if xKi S p.toNatClampNeg = 2 then (xSo S p.toNatClampNeg, fMove q (xSm S p.toNatClampNeg).toInt64)
  else if xKi S p.toNatClampNeg = 3 then (if (xSm S p.toNatClampNeg).toInt64 * q.2 ≤ q.1 then (xSe S p.toNatClampNeg, fMove q (-(xSm S p.toNatClampNeg)).toInt64) else (xSo S p.toNatClampNeg, q))
  else if xKi S p.toNatClampNeg = 4 then (xSo S p.toNatClampNeg, fStr q (xRL S p.toNatClampNeg).toInt64 (xRU S p.toNatClampNeg).toInt64)
  else (xSo S p.toNatClampNeg, q)
theorem r_stepBack {post : Int32 → XSt → Prop} {p : Int32} {S : XSt} (hp : vp_in p 40) (h : post (kBack S p (xsp S)).1 (xssp S (kBack S p (xsp S)).2)) : wp_X_stepBack post p S := by
  refine ⟨hp, fun k e => ?_⟩
  subst e
  refine ⟨fun h2 => ⟨hp, r_move ⟨hp, ?_⟩⟩, fun h2 => ⟨fun h3 => ⟨hp, r_isBelow (fun hb => ⟨fun _ => ⟨hp, r_move ⟨hp, ?_⟩⟩, fun q => absurd rfl q⟩) (fun hb => ⟨fun q => absurd q (by decide), fun _ => ⟨hp, ?_⟩⟩)⟩, fun h3 => ⟨fun h4 => ⟨hp, hp, r_stretch ⟨hp, ?_⟩⟩, fun h4 => ⟨hp, ?_⟩⟩⟩⟩
  · rw [kBack, if_pos h2] at h; exact h
  · rw [kBack, if_neg h2, if_pos h3, if_pos hb] at h; exact h
  · rw [kBack, if_neg h2, if_pos h3, if_neg hb] at h; exact h
  · rw [kBack, if_neg h2, if_neg h3, if_pos h4] at h; exact h
  · rw [kBack, if_neg h2, if_neg h3, if_neg h4] at h; exact h
theorem pz_in {S : XSt} {p : Int32} (hc : xpc S ≤ 40) (h : pz S p) : vp_in p 40 := by
  rw [vp_in_iff]
  have h1 := h.1
  have h2 := h.2
  rw [Int32.lt_iff_toInt_lt] at h1
  rw [Int32.le_iff_toInt_le] at h2 hc
  have e0 : (0 : Int32).toInt = 0 := by decide
  have e4 : (40 : Int32).toInt = 40 := by decide
  rw [e0] at h1
  rw [e4] at hc
  omega
def kWalk (S : XSt) : Nat → Int32 → Int64 × Int64 → Int32 × (Int64 × Int64)
  | 0, p, q => (p, q)
  | n + 1, p, q => if pz S (kBack S p q).1 then kWalk S n (kBack S p q).1 (kBack S p q).2 else (p, (kBack S p q).2)
theorem r_walkL {post : Int32 → XSt → Prop} {p0 p1 : Int32} {S : XSt} (hc : xpc S ≤ 40) : ∀ (k : Nat) (p : Int32) (q : Int64 × Int64) (u : Int32), k ≤ 40 → u = nI (40 - k) → vp_in p 40 → post (kWalk S k p q).1 (xssp S (kWalk S k p q).2) → wpL_X_walkBack_15 post p0 p1 (k + 1) (xssp S q) p u
  | 0, p, q, u, _, hu, _, h => by
    refine ⟨fun _ => h, fun hn => absurd ?_ hn⟩
    rw [hu]; decide
  | k + 1, p, q, u, hk, hu, hp, h => by
    refine ⟨fun hn => absurd hn ?_, fun _ => ?_⟩
    · rw [hu]; exact nI_ge (a := 40 - (k + 1)) (b := 40) (by omega) (by omega)
    · refine r_stepBack hp ?_
      show wp_X_isPiece _ (kBack S p q).1 (xssp S (kBack S p q).2)
      refine r_isPiece (fun hz => ⟨fun e => absurd e (by decide), fun _ v e => ?_⟩) (fun hz => ⟨fun _ => ?_, fun e => absurd rfl e⟩)
      · subst e
        have hz : pz S (kBack S p q).1 := hz
        rw [kWalk, if_pos hz] at h
        exact r_walkL hc k _ _ _ (by omega) (by rw [hu, nI_1]; congr 1; omega) (pz_in hc hz) h
      · have hz : ¬ pz S (kBack S p q).1 := hz
        rw [kWalk, if_neg hz] at h
        exact h
theorem r_walkBack {post : Int32 → XSt → Prop} {p pl : Int32} {S : XSt} (hc : xpc S ≤ 40) (hp : vp_in p 40) (h : post (kWalk S 40 p (pl.toInt64, 1)).1 (xssp S (kWalk S 40 p (pl.toInt64, 1)).2)) : wp_X_walkBack post p pl S :=
  r_set ⟨41, r_walkL hc 40 p _ 0 (Nat.le_refl _) rfl hp h⟩
/-- where the piece p has what the found rows say; none where they say nothing -/
def kTake (S : XSt) (p : Int32) : Option (Int64 × Int64) := if pz S p then (if xFL S p.toNatClampNeg = 0 then none else some (xFU S p.toNatClampNeg, xFL S p.toNatClampNeg)) else none
theorem r_takeFound {post : Int32 → XSt → Prop} {p : Int32} {S : XSt} (hc : xpc S ≤ 40) (h1 : ∀ q, kTake S p = some q → post 1 (xssp S q)) (h0 : kTake S p = none → ∀ q, post 0 (xssp S q)) : wp_X_takeFound post p S := by
  refine r_isPiece (fun hz => ⟨fun e => absurd e (by decide), fun _ => ?_⟩) (fun hz => ⟨fun _ => ?_, fun e => absurd rfl e⟩)
  · have hp := pz_in hc hz
    refine ⟨hp, hp, r_set ⟨hp, fun e => ?_, fun e => ?_⟩⟩
    · exact h0 (by rw [kTake, if_pos hz, if_pos e]) _
    · exact h1 _ (by rw [kTake, if_pos hz, if_neg e])
  · exact h0 (by rw [kTake, if_neg hz]) (xsp S)
/-- one step forward, out of what the found rows say -/
def kFwd (S : XSt) (d p : Int32) : Option (Int64 × Int64) :=
  if xKi S p.toNatClampNeg = 0 then (if xDM S d.toNatClampNeg = p then some (xDU S d.toNatClampNeg, xDL S d.toNatClampNeg) else none)
  else if xKi S p.toNatClampNeg = 1 then (match kTake S (xSo S p.toNatClampNeg) with | none => none | some q => if (xSm S p.toNatClampNeg).toInt64 * q.2 ≤ q.1 then none else some q)
  else if xKi S p.toNatClampNeg = 2 then (match kTake S (xSo S p.toNatClampNeg) with | none => none | some q => if (xSm S p.toNatClampNeg).toInt64 * q.2 ≤ q.1 then some (fMove q (-(xSm S p.toNatClampNeg)).toInt64) else none)
  else if xKi S p.toNatClampNeg = 3 then (match kTake S (xSo S p.toNatClampNeg) with | some q => some q | none => (match kTake S (xSe S p.toNatClampNeg) with | none => none | some q => some (fMove q (xSm S p.toNatClampNeg).toInt64)))
  else if xKi S p.toNatClampNeg = 4 then (match kTake S (xSo S p.toNatClampNeg) with | none => none | some q => if (xLe S p.toNatClampNeg).toInt64 * (fStr q (xRU S p.toNatClampNeg).toInt64 (xRL S p.toNatClampNeg).toInt64).2 ≤ (fStr q (xRU S p.toNatClampNeg).toInt64 (xRL S p.toNatClampNeg).toInt64).1 then none else some (fStr q (xRU S p.toNatClampNeg).toInt64 (xRL S p.toNatClampNeg).toInt64))
  else kTake S (xSo S p.toNatClampNeg)
theorem r_stepForward {post : Int32 → XSt → Prop} {d p : Int32} {S : XSt} (hc : xpc S ≤ 40) (hd : vp_in d 10) (hp : vp_in p 40) (h1 : ∀ q, kFwd S d p = some q → post 1 (xssp S q)) (h0 : kFwd S d p = none → ∀ q, post 0 (xssp S q)) : wp_X_stepForward post d p S := by
  have key : ∀ (r3 : Int32) (q3 : Int64 × Int64), ((r3 = 1 ∧ kTake S (xSo S p.toNatClampNeg) = some q3) ∨ (r3 = 0 ∧ kTake S (xSo S p.toNatClampNeg) = none)) →
      (vp_in p 40 ∧ (∀ k5 : Int32, k5 = (xKi (xssp S q3) p.toNatClampNeg) → ((k5 = 0 → (vp_in d 10 ∧ (vp_in d 10 ∧ (wp_P_set (fun  S9 => (vp_in d 10 ∧ (((xDM S9 d.toNatClampNeg) = p → (post 1 S9)) ∧ (¬ (xDM S9 d.toNatClampNeg) = p → (post 0 S9))))) (xDU (xssp S q3) d.toNatClampNeg) (xDL (xssp S q3) d.toNatClampNeg) (xssp S q3))))) ∧ (¬ k5 = 0 → ((k5 = 1 → ((r3 = 0 → (post 0 (xssp S q3))) ∧ (¬ r3 = 0 → (vp_in p 40 ∧ (wp_P_isBelow (fun r16 S15 => ((r16 = 0 → (post 0 S15)) ∧ (¬ r16 = 0 → (post 1 S15)))) ((xSm (xssp S q3) p.toNatClampNeg).toInt64) (xssp S q3)))))) ∧ (¬ k5 = 1 → ((k5 = 2 → ((r3 = 0 → (post 0 (xssp S q3))) ∧ (¬ r3 = 0 → (vp_in p 40 ∧ (wp_P_isBelow (fun r22 S21 => ((r22 = 0 → (vp_in p 40 ∧ (wp_P_move (fun  S25 => (post 1 S25)) ((-(xSm S21 p.toNatClampNeg)).toInt64) S21))) ∧ (¬ r22 = 0 → (post 0 S21)))) ((xSm (xssp S q3) p.toNatClampNeg).toInt64) (xssp S q3)))))) ∧ (¬ k5 = 2 → ((k5 = 3 → ((r3 = 0 → (vp_in p 40 ∧ (wp_X_takeFound (fun r30 S29 => ((r30 = 0 → (post r3 S29)) ∧ (¬ r30 = 0 → (vp_in p 40 ∧ (wp_P_move (fun  S33 => (post 1 S33)) ((xSm S29 p.toNatClampNeg).toInt64) S29))))) (xSe (xssp S q3) p.toNatClampNeg) (xssp S q3)))) ∧ (¬ r3 = 0 → (post r3 (xssp S q3))))) ∧ (¬ k5 = 3 → ((k5 = 4 → ((r3 = 0 → (post 0 (xssp S q3))) ∧ (¬ r3 = 0 → (vp_in p 40 ∧ (vp_in p 40 ∧ (wp_P_stretch (fun  S38 => (vp_in p 40 ∧ (wp_P_isBelow (fun r41 S40 => (post r41 S40)) ((xLe S38 p.toNatClampNeg).toInt64) S38))) ((xRU (xssp S q3) p.toNatClampNeg).toInt64) ((xRL (xssp S q3) p.toNatClampNeg).toInt64) (xssp S q3))))))) ∧ (¬ k5 = 4 → (post r3 (xssp S q3)))))))))))))) := by
    intro r3 q3 hr
    refine ⟨hp, fun k e => ?_⟩
    subst e
    refine ⟨fun k0 => ⟨hd, hd, r_set ⟨hd, fun e => h1 _ (by rw [kFwd, if_pos k0, if_pos e]), fun e => h0 (by rw [kFwd, if_pos k0, if_neg e]) _⟩⟩, fun k0 => ⟨fun k1 => ?_, fun k1 => ⟨fun k2 => ?_, fun k2 => ⟨fun k3 => ?_, fun k3 => ⟨fun k4 => ?_, fun k4 => ?_⟩⟩⟩⟩⟩
    · rcases hr with ⟨rfl, ht⟩ | ⟨rfl, ht⟩
      · refine ⟨fun e => absurd e (by decide), fun _ => ⟨hp, r_isBelow (fun hb => ⟨fun _ => ?_, fun e => absurd rfl e⟩) (fun hb => ⟨fun e => absurd e (by decide), fun _ => ?_⟩)⟩⟩
        · exact h0 (by rw [kFwd, if_neg k0, if_pos k1, ht]; exact if_pos hb) _
        · exact h1 _ (by rw [kFwd, if_neg k0, if_pos k1, ht]; exact if_neg hb)
      · exact ⟨fun _ => h0 (by rw [kFwd, if_neg k0, if_pos k1, ht]) _, fun e => absurd rfl e⟩
    · rcases hr with ⟨rfl, ht⟩ | ⟨rfl, ht⟩
      · refine ⟨fun e => absurd e (by decide), fun _ => ⟨hp, r_isBelow (fun hb => ⟨fun _ => ⟨hp, r_move ?_⟩, fun e => absurd rfl e⟩) (fun hb => ⟨fun e => absurd e (by decide), fun _ => ?_⟩)⟩⟩
        · exact h1 _ (by rw [kFwd, if_neg k0, if_neg k1, if_pos k2, ht]; exact if_pos hb)
        · exact h0 (by rw [kFwd, if_neg k0, if_neg k1, if_pos k2, ht]; exact if_neg hb) _
      · exact ⟨fun _ => h0 (by rw [kFwd, if_neg k0, if_neg k1, if_pos k2, ht]) _, fun e => absurd rfl e⟩
    · rcases hr with ⟨rfl, ht⟩ | ⟨rfl, ht⟩
      · exact ⟨fun e => absurd e (by decide), fun _ => h1 _ (by rw [kFwd, if_neg k0, if_neg k1, if_neg k2, if_pos k3, ht])⟩
      · refine ⟨fun _ => ⟨hp, r_takeFound hc (fun q hq => ⟨fun e => absurd e (by decide), fun _ => ⟨hp, r_move ?_⟩⟩) (fun hq q => ⟨fun _ => ?_, fun e => absurd rfl e⟩)⟩, fun e => absurd rfl e⟩
        · have hq : kTake S (xSe S p.toNatClampNeg) = some q := hq
          exact h1 _ (by rw [kFwd, if_neg k0, if_neg k1, if_neg k2, if_pos k3, ht]; simp only [hq])
        · have hq : kTake S (xSe S p.toNatClampNeg) = none := hq
          exact h0 (by rw [kFwd, if_neg k0, if_neg k1, if_neg k2, if_pos k3, ht]; simp only [hq]) q
    · rcases hr with ⟨rfl, ht⟩ | ⟨rfl, ht⟩
      · refine ⟨fun e => absurd e (by decide), fun _ => ⟨hp, hp, r_stretch ⟨hp, r_isBelow (fun hb => ?_) (fun hb => ?_)⟩⟩⟩
        · exact h0 (by rw [kFwd, if_neg k0, if_neg k1, if_neg k2, if_neg k3, if_pos k4, ht]; exact if_pos hb) _
        · exact h1 _ (by rw [kFwd, if_neg k0, if_neg k1, if_neg k2, if_neg k3, if_pos k4, ht]; exact if_neg hb)
      · exact ⟨fun _ => h0 (by rw [kFwd, if_neg k0, if_neg k1, if_neg k2, if_neg k3, if_pos k4, ht]) _, fun e => absurd rfl e⟩
    · rcases hr with ⟨rfl, ht⟩ | ⟨rfl, ht⟩
      · exact h1 _ (by rw [kFwd, if_neg k0, if_neg k1, if_neg k2, if_neg k3, if_neg k4, ht])
      · exact h0 (by rw [kFwd, if_neg k0, if_neg k1, if_neg k2, if_neg k3, if_neg k4, ht]) _
  exact ⟨hp, r_takeFound hc (fun q hq => key 1 q (Or.inl ⟨rfl, hq⟩)) (fun hq q => key 0 q (Or.inr ⟨rfl, hq⟩))⟩

