abbrev XSt : Type := (Nat → Int32) × (Nat → Int32) × (Nat → Int32) × (Nat → Int32) × (Nat → Int32) × (Nat → Int32) × (Nat → Int32) × (Nat → Int32) × (Nat → Int32) × (Nat → Int32) × (Nat → Int32) × (Nat → Int64) × (Nat → Int64) × (Nat → Int64) × (Nat → Int64) × Int32 × Int32 × Int32 × Int64 × Int64 × Int64
abbrev xKi (S : XSt) : (Nat → Int32) := S.1
abbrev xWe (S : XSt) : (Nat → Int32) := S.2.1
abbrev xLe (S : XSt) : (Nat → Int32) := S.2.2.1
abbrev xSt (S : XSt) : (Nat → Int32) := S.2.2.2.1
abbrev xSo (S : XSt) : (Nat → Int32) := S.2.2.2.2.1
abbrev xSe (S : XSt) : (Nat → Int32) := S.2.2.2.2.2.1
abbrev xRo (S : XSt) : (Nat → Int32) := S.2.2.2.2.2.2.1
abbrev xSm (S : XSt) : (Nat → Int32) := S.2.2.2.2.2.2.2.1
abbrev xRU (S : XSt) : (Nat → Int32) := S.2.2.2.2.2.2.2.2.1
abbrev xRL (S : XSt) : (Nat → Int32) := S.2.2.2.2.2.2.2.2.2.1
abbrev xDM (S : XSt) : (Nat → Int32) := S.2.2.2.2.2.2.2.2.2.2.1
abbrev xDU (S : XSt) : (Nat → Int64) := S.2.2.2.2.2.2.2.2.2.2.2.1
abbrev xDL (S : XSt) : (Nat → Int64) := S.2.2.2.2.2.2.2.2.2.2.2.2.1
abbrev xFU (S : XSt) : (Nat → Int64) := S.2.2.2.2.2.2.2.2.2.2.2.2.2.1
abbrev xFL (S : XSt) : (Nat → Int64) := S.2.2.2.2.2.2.2.2.2.2.2.2.2.2.1
abbrev xpc (S : XSt) : Int32 := S.2.2.2.2.2.2.2.2.2.2.2.2.2.2.2.1
abbrev xdc (S : XSt) : Int32 := S.2.2.2.2.2.2.2.2.2.2.2.2.2.2.2.2.1
abbrev xhp (S : XSt) : Int32 := S.2.2.2.2.2.2.2.2.2.2.2.2.2.2.2.2.2.1
abbrev xml (S : XSt) : Int64 := S.2.2.2.2.2.2.2.2.2.2.2.2.2.2.2.2.2.2.1
abbrev xup (S : XSt) : Int64 := S.2.2.2.2.2.2.2.2.2.2.2.2.2.2.2.2.2.2.2.1
abbrev xlo (S : XSt) : Int64 := S.2.2.2.2.2.2.2.2.2.2.2.2.2.2.2.2.2.2.2.2
abbrev xsKi (S : XSt) (v : (Nat → Int32)) : XSt := (v, S.2)
def xuKi (S : XSt) (i : Int32) (x : Int32) : XSt := xsKi S (upd (xKi S) i.toNatClampNeg x)
abbrev xsWe (S : XSt) (v : (Nat → Int32)) : XSt := (S.1, v, S.2.2)
def xuWe (S : XSt) (i : Int32) (x : Int32) : XSt := xsWe S (upd (xWe S) i.toNatClampNeg x)
abbrev xsLe (S : XSt) (v : (Nat → Int32)) : XSt := (S.1, S.2.1, v, S.2.2.2)
def xuLe (S : XSt) (i : Int32) (x : Int32) : XSt := xsLe S (upd (xLe S) i.toNatClampNeg x)
abbrev xsSt (S : XSt) (v : (Nat → Int32)) : XSt := (S.1, S.2.1, S.2.2.1, v, S.2.2.2.2)
def xuSt (S : XSt) (i : Int32) (x : Int32) : XSt := xsSt S (upd (xSt S) i.toNatClampNeg x)
abbrev xsSo (S : XSt) (v : (Nat → Int32)) : XSt := (S.1, S.2.1, S.2.2.1, S.2.2.2.1, v, S.2.2.2.2.2)
def xuSo (S : XSt) (i : Int32) (x : Int32) : XSt := xsSo S (upd (xSo S) i.toNatClampNeg x)
abbrev xsSe (S : XSt) (v : (Nat → Int32)) : XSt := (S.1, S.2.1, S.2.2.1, S.2.2.2.1, S.2.2.2.2.1, v, S.2.2.2.2.2.2)
def xuSe (S : XSt) (i : Int32) (x : Int32) : XSt := xsSe S (upd (xSe S) i.toNatClampNeg x)
abbrev xsRo (S : XSt) (v : (Nat → Int32)) : XSt := (S.1, S.2.1, S.2.2.1, S.2.2.2.1, S.2.2.2.2.1, S.2.2.2.2.2.1, v, S.2.2.2.2.2.2.2)
def xuRo (S : XSt) (i : Int32) (x : Int32) : XSt := xsRo S (upd (xRo S) i.toNatClampNeg x)
abbrev xsSm (S : XSt) (v : (Nat → Int32)) : XSt := (S.1, S.2.1, S.2.2.1, S.2.2.2.1, S.2.2.2.2.1, S.2.2.2.2.2.1, S.2.2.2.2.2.2.1, v, S.2.2.2.2.2.2.2.2)
def xuSm (S : XSt) (i : Int32) (x : Int32) : XSt := xsSm S (upd (xSm S) i.toNatClampNeg x)
abbrev xsRU (S : XSt) (v : (Nat → Int32)) : XSt := (S.1, S.2.1, S.2.2.1, S.2.2.2.1, S.2.2.2.2.1, S.2.2.2.2.2.1, S.2.2.2.2.2.2.1, S.2.2.2.2.2.2.2.1, v, S.2.2.2.2.2.2.2.2.2)
def xuRU (S : XSt) (i : Int32) (x : Int32) : XSt := xsRU S (upd (xRU S) i.toNatClampNeg x)
abbrev xsRL (S : XSt) (v : (Nat → Int32)) : XSt := (S.1, S.2.1, S.2.2.1, S.2.2.2.1, S.2.2.2.2.1, S.2.2.2.2.2.1, S.2.2.2.2.2.2.1, S.2.2.2.2.2.2.2.1, S.2.2.2.2.2.2.2.2.1, v, S.2.2.2.2.2.2.2.2.2.2)
def xuRL (S : XSt) (i : Int32) (x : Int32) : XSt := xsRL S (upd (xRL S) i.toNatClampNeg x)
abbrev xsDM (S : XSt) (v : (Nat → Int32)) : XSt := (S.1, S.2.1, S.2.2.1, S.2.2.2.1, S.2.2.2.2.1, S.2.2.2.2.2.1, S.2.2.2.2.2.2.1, S.2.2.2.2.2.2.2.1, S.2.2.2.2.2.2.2.2.1, S.2.2.2.2.2.2.2.2.2.1, v, S.2.2.2.2.2.2.2.2.2.2.2)
def xuDM (S : XSt) (i : Int32) (x : Int32) : XSt := xsDM S (upd (xDM S) i.toNatClampNeg x)
abbrev xsDU (S : XSt) (v : (Nat → Int64)) : XSt := (S.1, S.2.1, S.2.2.1, S.2.2.2.1, S.2.2.2.2.1, S.2.2.2.2.2.1, S.2.2.2.2.2.2.1, S.2.2.2.2.2.2.2.1, S.2.2.2.2.2.2.2.2.1, S.2.2.2.2.2.2.2.2.2.1, S.2.2.2.2.2.2.2.2.2.2.1, v, S.2.2.2.2.2.2.2.2.2.2.2.2)
def xuDU (S : XSt) (i : Int32) (x : Int64) : XSt := xsDU S (vp_updL (xDU S) i.toNatClampNeg x)
abbrev xsDL (S : XSt) (v : (Nat → Int64)) : XSt := (S.1, S.2.1, S.2.2.1, S.2.2.2.1, S.2.2.2.2.1, S.2.2.2.2.2.1, S.2.2.2.2.2.2.1, S.2.2.2.2.2.2.2.1, S.2.2.2.2.2.2.2.2.1, S.2.2.2.2.2.2.2.2.2.1, S.2.2.2.2.2.2.2.2.2.2.1, S.2.2.2.2.2.2.2.2.2.2.2.1, v, S.2.2.2.2.2.2.2.2.2.2.2.2.2)
def xuDL (S : XSt) (i : Int32) (x : Int64) : XSt := xsDL S (vp_updL (xDL S) i.toNatClampNeg x)
abbrev xsFU (S : XSt) (v : (Nat → Int64)) : XSt := (S.1, S.2.1, S.2.2.1, S.2.2.2.1, S.2.2.2.2.1, S.2.2.2.2.2.1, S.2.2.2.2.2.2.1, S.2.2.2.2.2.2.2.1, S.2.2.2.2.2.2.2.2.1, S.2.2.2.2.2.2.2.2.2.1, S.2.2.2.2.2.2.2.2.2.2.1, S.2.2.2.2.2.2.2.2.2.2.2.1, S.2.2.2.2.2.2.2.2.2.2.2.2.1, v, S.2.2.2.2.2.2.2.2.2.2.2.2.2.2)
def xuFU (S : XSt) (i : Int32) (x : Int64) : XSt := xsFU S (vp_updL (xFU S) i.toNatClampNeg x)
abbrev xsFL (S : XSt) (v : (Nat → Int64)) : XSt := (S.1, S.2.1, S.2.2.1, S.2.2.2.1, S.2.2.2.2.1, S.2.2.2.2.2.1, S.2.2.2.2.2.2.1, S.2.2.2.2.2.2.2.1, S.2.2.2.2.2.2.2.2.1, S.2.2.2.2.2.2.2.2.2.1, S.2.2.2.2.2.2.2.2.2.2.1, S.2.2.2.2.2.2.2.2.2.2.2.1, S.2.2.2.2.2.2.2.2.2.2.2.2.1, S.2.2.2.2.2.2.2.2.2.2.2.2.2.1, v, S.2.2.2.2.2.2.2.2.2.2.2.2.2.2.2)
def xuFL (S : XSt) (i : Int32) (x : Int64) : XSt := xsFL S (vp_updL (xFL S) i.toNatClampNeg x)
abbrev xspc (S : XSt) (v : Int32) : XSt := (S.1, S.2.1, S.2.2.1, S.2.2.2.1, S.2.2.2.2.1, S.2.2.2.2.2.1, S.2.2.2.2.2.2.1, S.2.2.2.2.2.2.2.1, S.2.2.2.2.2.2.2.2.1, S.2.2.2.2.2.2.2.2.2.1, S.2.2.2.2.2.2.2.2.2.2.1, S.2.2.2.2.2.2.2.2.2.2.2.1, S.2.2.2.2.2.2.2.2.2.2.2.2.1, S.2.2.2.2.2.2.2.2.2.2.2.2.2.1, S.2.2.2.2.2.2.2.2.2.2.2.2.2.2.1, v, S.2.2.2.2.2.2.2.2.2.2.2.2.2.2.2.2)
abbrev xsdc (S : XSt) (v : Int32) : XSt := (S.1, S.2.1, S.2.2.1, S.2.2.2.1, S.2.2.2.2.1, S.2.2.2.2.2.1, S.2.2.2.2.2.2.1, S.2.2.2.2.2.2.2.1, S.2.2.2.2.2.2.2.2.1, S.2.2.2.2.2.2.2.2.2.1, S.2.2.2.2.2.2.2.2.2.2.1, S.2.2.2.2.2.2.2.2.2.2.2.1, S.2.2.2.2.2.2.2.2.2.2.2.2.1, S.2.2.2.2.2.2.2.2.2.2.2.2.2.1, S.2.2.2.2.2.2.2.2.2.2.2.2.2.2.1, S.2.2.2.2.2.2.2.2.2.2.2.2.2.2.2.1, v, S.2.2.2.2.2.2.2.2.2.2.2.2.2.2.2.2.2)
abbrev xshp (S : XSt) (v : Int32) : XSt := (S.1, S.2.1, S.2.2.1, S.2.2.2.1, S.2.2.2.2.1, S.2.2.2.2.2.1, S.2.2.2.2.2.2.1, S.2.2.2.2.2.2.2.1, S.2.2.2.2.2.2.2.2.1, S.2.2.2.2.2.2.2.2.2.1, S.2.2.2.2.2.2.2.2.2.2.1, S.2.2.2.2.2.2.2.2.2.2.2.1, S.2.2.2.2.2.2.2.2.2.2.2.2.1, S.2.2.2.2.2.2.2.2.2.2.2.2.2.1, S.2.2.2.2.2.2.2.2.2.2.2.2.2.2.1, S.2.2.2.2.2.2.2.2.2.2.2.2.2.2.2.1, S.2.2.2.2.2.2.2.2.2.2.2.2.2.2.2.2.1, v, S.2.2.2.2.2.2.2.2.2.2.2.2.2.2.2.2.2.2)
abbrev xsml (S : XSt) (v : Int64) : XSt := (S.1, S.2.1, S.2.2.1, S.2.2.2.1, S.2.2.2.2.1, S.2.2.2.2.2.1, S.2.2.2.2.2.2.1, S.2.2.2.2.2.2.2.1, S.2.2.2.2.2.2.2.2.1, S.2.2.2.2.2.2.2.2.2.1, S.2.2.2.2.2.2.2.2.2.2.1, S.2.2.2.2.2.2.2.2.2.2.2.1, S.2.2.2.2.2.2.2.2.2.2.2.2.1, S.2.2.2.2.2.2.2.2.2.2.2.2.2.1, S.2.2.2.2.2.2.2.2.2.2.2.2.2.2.1, S.2.2.2.2.2.2.2.2.2.2.2.2.2.2.2.1, S.2.2.2.2.2.2.2.2.2.2.2.2.2.2.2.2.1, S.2.2.2.2.2.2.2.2.2.2.2.2.2.2.2.2.2.1, v, S.2.2.2.2.2.2.2.2.2.2.2.2.2.2.2.2.2.2.2)
abbrev xsup (S : XSt) (v : Int64) : XSt := (S.1, S.2.1, S.2.2.1, S.2.2.2.1, S.2.2.2.2.1, S.2.2.2.2.2.1, S.2.2.2.2.2.2.1, S.2.2.2.2.2.2.2.1, S.2.2.2.2.2.2.2.2.1, S.2.2.2.2.2.2.2.2.2.1, S.2.2.2.2.2.2.2.2.2.2.1, S.2.2.2.2.2.2.2.2.2.2.2.1, S.2.2.2.2.2.2.2.2.2.2.2.2.1, S.2.2.2.2.2.2.2.2.2.2.2.2.2.1, S.2.2.2.2.2.2.2.2.2.2.2.2.2.2.1, S.2.2.2.2.2.2.2.2.2.2.2.2.2.2.2.1, S.2.2.2.2.2.2.2.2.2.2.2.2.2.2.2.2.1, S.2.2.2.2.2.2.2.2.2.2.2.2.2.2.2.2.2.1, S.2.2.2.2.2.2.2.2.2.2.2.2.2.2.2.2.2.2.1, v, S.2.2.2.2.2.2.2.2.2.2.2.2.2.2.2.2.2.2.2.2)
abbrev xslo (S : XSt) (v : Int64) : XSt := (S.1, S.2.1, S.2.2.1, S.2.2.2.1, S.2.2.2.2.1, S.2.2.2.2.2.1, S.2.2.2.2.2.2.1, S.2.2.2.2.2.2.2.1, S.2.2.2.2.2.2.2.2.1, S.2.2.2.2.2.2.2.2.2.1, S.2.2.2.2.2.2.2.2.2.2.1, S.2.2.2.2.2.2.2.2.2.2.2.1, S.2.2.2.2.2.2.2.2.2.2.2.2.1, S.2.2.2.2.2.2.2.2.2.2.2.2.2.1, S.2.2.2.2.2.2.2.2.2.2.2.2.2.2.1, S.2.2.2.2.2.2.2.2.2.2.2.2.2.2.2.1, S.2.2.2.2.2.2.2.2.2.2.2.2.2.2.2.2.1, S.2.2.2.2.2.2.2.2.2.2.2.2.2.2.2.2.2.1, S.2.2.2.2.2.2.2.2.2.2.2.2.2.2.2.2.2.2.1, S.2.2.2.2.2.2.2.2.2.2.2.2.2.2.2.2.2.2.2.1, v)
def XW (cI cL cZ : ClassId) (h : Nat) (a : Nat → Nat) (S : XSt) : va_W := [(h, .inr (1, [.ref (a 0), .ref (a 1), .ref (a 2), .ref (a 3), .ref (a 4), .ref (a 5), .ref (a 6), .ref (a 7), .ref (a 8), .ref (a 9), .int (xpc S), .ref (a 10), .ref (a 11), .ref (a 12), .int (xdc S), .int (xhp S), .long (xml S), .ref (a 15), .ref (a 13), .ref (a 14)])),
  (a 0, .inl (cI, 40, .inl (xKi S))),
  (a 1, .inl (cI, 40, .inl (xWe S))),
  (a 2, .inl (cI, 40, .inl (xLe S))),
  (a 3, .inl (cI, 40, .inl (xSt S))),
  (a 4, .inl (cI, 40, .inl (xSo S))),
  (a 5, .inl (cI, 40, .inl (xSe S))),
  (a 6, .inl (cI, 40, .inl (xRo S))),
  (a 7, .inl (cI, 40, .inl (xSm S))),
  (a 8, .inl (cI, 40, .inl (xRU S))),
  (a 9, .inl (cI, 40, .inl (xRL S))),
  (a 10, .inl (cI, 10, .inl (xDM S))),
  (a 11, .inl (cL, 10, .inr (.inl (xDU S)))),
  (a 12, .inl (cL, 10, .inr (.inl (xDL S)))),
  (a 13, .inl (cL, 40, .inr (.inl (xFU S)))),
  (a 14, .inl (cL, 40, .inr (.inl (xFL S)))),
  (a 15, .inr (0, [.long (xup S), .long (xlo S)]))]
theorem XWc_0 (cI cL cZ : ClassId) (h : Nat) (a : Nat → Nat) (S : XSt) : (XW cI cL cZ h a S)[0]? = some (h, .inr (1, [.ref (a 0), .ref (a 1), .ref (a 2), .ref (a 3), .ref (a 4), .ref (a 5), .ref (a 6), .ref (a 7), .ref (a 8), .ref (a 9), .int (xpc S), .ref (a 10), .ref (a 11), .ref (a 12), .int (xdc S), .int (xhp S), .long (xml S), .ref (a 15), .ref (a 13), .ref (a 14)])) := rfl
theorem XWc_1 (cI cL cZ : ClassId) (h : Nat) (a : Nat → Nat) (S : XSt) : (XW cI cL cZ h a S)[1]? = some (a 0, .inl (cI, 40, .inl (xKi S))) := rfl
theorem XWc_2 (cI cL cZ : ClassId) (h : Nat) (a : Nat → Nat) (S : XSt) : (XW cI cL cZ h a S)[2]? = some (a 1, .inl (cI, 40, .inl (xWe S))) := rfl
theorem XWc_3 (cI cL cZ : ClassId) (h : Nat) (a : Nat → Nat) (S : XSt) : (XW cI cL cZ h a S)[3]? = some (a 2, .inl (cI, 40, .inl (xLe S))) := rfl
theorem XWc_4 (cI cL cZ : ClassId) (h : Nat) (a : Nat → Nat) (S : XSt) : (XW cI cL cZ h a S)[4]? = some (a 3, .inl (cI, 40, .inl (xSt S))) := rfl
theorem XWc_5 (cI cL cZ : ClassId) (h : Nat) (a : Nat → Nat) (S : XSt) : (XW cI cL cZ h a S)[5]? = some (a 4, .inl (cI, 40, .inl (xSo S))) := rfl
theorem XWc_6 (cI cL cZ : ClassId) (h : Nat) (a : Nat → Nat) (S : XSt) : (XW cI cL cZ h a S)[6]? = some (a 5, .inl (cI, 40, .inl (xSe S))) := rfl
theorem XWc_7 (cI cL cZ : ClassId) (h : Nat) (a : Nat → Nat) (S : XSt) : (XW cI cL cZ h a S)[7]? = some (a 6, .inl (cI, 40, .inl (xRo S))) := rfl
theorem XWc_8 (cI cL cZ : ClassId) (h : Nat) (a : Nat → Nat) (S : XSt) : (XW cI cL cZ h a S)[8]? = some (a 7, .inl (cI, 40, .inl (xSm S))) := rfl
theorem XWc_9 (cI cL cZ : ClassId) (h : Nat) (a : Nat → Nat) (S : XSt) : (XW cI cL cZ h a S)[9]? = some (a 8, .inl (cI, 40, .inl (xRU S))) := rfl
theorem XWc_10 (cI cL cZ : ClassId) (h : Nat) (a : Nat → Nat) (S : XSt) : (XW cI cL cZ h a S)[10]? = some (a 9, .inl (cI, 40, .inl (xRL S))) := rfl
theorem XWc_11 (cI cL cZ : ClassId) (h : Nat) (a : Nat → Nat) (S : XSt) : (XW cI cL cZ h a S)[11]? = some (a 10, .inl (cI, 10, .inl (xDM S))) := rfl
theorem XWc_12 (cI cL cZ : ClassId) (h : Nat) (a : Nat → Nat) (S : XSt) : (XW cI cL cZ h a S)[12]? = some (a 11, .inl (cL, 10, .inr (.inl (xDU S)))) := rfl
theorem XWc_13 (cI cL cZ : ClassId) (h : Nat) (a : Nat → Nat) (S : XSt) : (XW cI cL cZ h a S)[13]? = some (a 12, .inl (cL, 10, .inr (.inl (xDL S)))) := rfl
theorem XWc_14 (cI cL cZ : ClassId) (h : Nat) (a : Nat → Nat) (S : XSt) : (XW cI cL cZ h a S)[14]? = some (a 13, .inl (cL, 40, .inr (.inl (xFU S)))) := rfl
theorem XWc_15 (cI cL cZ : ClassId) (h : Nat) (a : Nat → Nat) (S : XSt) : (XW cI cL cZ h a S)[15]? = some (a 14, .inl (cL, 40, .inr (.inl (xFL S)))) := rfl
theorem XWc_16 (cI cL cZ : ClassId) (h : Nat) (a : Nat → Nat) (S : XSt) : (XW cI cL cZ h a S)[16]? = some (a 15, .inr (0, [.long (xup S), .long (xlo S)])) := rfl
def xS0 : XSt := (fun _ => 0, fun _ => 0, fun _ => 0, fun _ => 0, fun _ => 0, fun _ => 0, fun _ => 0, fun _ => 0, fun _ => 0, fun _ => 0, fun _ => 0, fun _ => 0, fun _ => 0, fun _ => 0, fun _ => 0, 0, 0, 0, 0, 0, 0)
abbrev MSt : Type := (Nat → Int32) × (Nat → Int32) × (Nat → Int32) × (Nat → Int32) × (Nat → Int32) × (Nat → Int32) × (Nat → Int32) × (Nat → Int32) × (Nat → Int32) × (Nat → Int32) × (Nat → Int32) × (Nat → Int32) × (Nat → Int64) × (Nat → Int64) × (Nat → Int64) × (Nat → Int64) × Int32 × Int32 × Int32 × Int64 × Int32 × Int32 × Int64 × Int64
abbrev mKi (S : MSt) : (Nat → Int32) := S.1
abbrev mWe (S : MSt) : (Nat → Int32) := S.2.1
abbrev mLe (S : MSt) : (Nat → Int32) := S.2.2.1
abbrev mSt (S : MSt) : (Nat → Int32) := S.2.2.2.1
abbrev mHe (S : MSt) : (Nat → Int32) := S.2.2.2.2.1
abbrev mOf (S : MSt) : (Nat → Int32) := S.2.2.2.2.2.1
abbrev mOt (S : MSt) : (Nat → Int32) := S.2.2.2.2.2.2.1
abbrev mCu (S : MSt) : (Nat → Int32) := S.2.2.2.2.2.2.2.1
abbrev mOv (S : MSt) : (Nat → Int32) := S.2.2.2.2.2.2.2.2.1
abbrev mUn (S : MSt) : (Nat → Int32) := S.2.2.2.2.2.2.2.2.2.1
abbrev mRo (S : MSt) : (Nat → Int32) := S.2.2.2.2.2.2.2.2.2.2.1
abbrev mDM (S : MSt) : (Nat → Int32) := S.2.2.2.2.2.2.2.2.2.2.2.1
abbrev mDU (S : MSt) : (Nat → Int64) := S.2.2.2.2.2.2.2.2.2.2.2.2.1
abbrev mDL (S : MSt) : (Nat → Int64) := S.2.2.2.2.2.2.2.2.2.2.2.2.2.1
abbrev mFU (S : MSt) : (Nat → Int64) := S.2.2.2.2.2.2.2.2.2.2.2.2.2.2.1
abbrev mFL (S : MSt) : (Nat → Int64) := S.2.2.2.2.2.2.2.2.2.2.2.2.2.2.2.1
abbrev mth (S : MSt) : Int32 := S.2.2.2.2.2.2.2.2.2.2.2.2.2.2.2.2.1
abbrev mpc (S : MSt) : Int32 := S.2.2.2.2.2.2.2.2.2.2.2.2.2.2.2.2.2.1
abbrev mhp (S : MSt) : Int32 := S.2.2.2.2.2.2.2.2.2.2.2.2.2.2.2.2.2.2.1
abbrev mml (S : MSt) : Int64 := S.2.2.2.2.2.2.2.2.2.2.2.2.2.2.2.2.2.2.2.1
abbrev mdc (S : MSt) : Int32 := S.2.2.2.2.2.2.2.2.2.2.2.2.2.2.2.2.2.2.2.2.1
abbrev mme (S : MSt) : Int32 := S.2.2.2.2.2.2.2.2.2.2.2.2.2.2.2.2.2.2.2.2.2.1
abbrev mup (S : MSt) : Int64 := S.2.2.2.2.2.2.2.2.2.2.2.2.2.2.2.2.2.2.2.2.2.2.1
abbrev mlo (S : MSt) : Int64 := S.2.2.2.2.2.2.2.2.2.2.2.2.2.2.2.2.2.2.2.2.2.2.2
abbrev msKi (S : MSt) (v : (Nat → Int32)) : MSt := (v, S.2)
def muKi (S : MSt) (i : Int32) (x : Int32) : MSt := msKi S (upd (mKi S) i.toNatClampNeg x)
abbrev msWe (S : MSt) (v : (Nat → Int32)) : MSt := (S.1, v, S.2.2)
def muWe (S : MSt) (i : Int32) (x : Int32) : MSt := msWe S (upd (mWe S) i.toNatClampNeg x)
abbrev msLe (S : MSt) (v : (Nat → Int32)) : MSt := (S.1, S.2.1, v, S.2.2.2)
def muLe (S : MSt) (i : Int32) (x : Int32) : MSt := msLe S (upd (mLe S) i.toNatClampNeg x)
abbrev msSt (S : MSt) (v : (Nat → Int32)) : MSt := (S.1, S.2.1, S.2.2.1, v, S.2.2.2.2)
def muSt (S : MSt) (i : Int32) (x : Int32) : MSt := msSt S (upd (mSt S) i.toNatClampNeg x)
abbrev msHe (S : MSt) (v : (Nat → Int32)) : MSt := (S.1, S.2.1, S.2.2.1, S.2.2.2.1, v, S.2.2.2.2.2)
def muHe (S : MSt) (i : Int32) (x : Int32) : MSt := msHe S (upd (mHe S) i.toNatClampNeg (vp_nar .boolean x))
abbrev msOf (S : MSt) (v : (Nat → Int32)) : MSt := (S.1, S.2.1, S.2.2.1, S.2.2.2.1, S.2.2.2.2.1, v, S.2.2.2.2.2.2)
def muOf (S : MSt) (i : Int32) (x : Int32) : MSt := msOf S (upd (mOf S) i.toNatClampNeg x)
abbrev msOt (S : MSt) (v : (Nat → Int32)) : MSt := (S.1, S.2.1, S.2.2.1, S.2.2.2.1, S.2.2.2.2.1, S.2.2.2.2.2.1, v, S.2.2.2.2.2.2.2)
def muOt (S : MSt) (i : Int32) (x : Int32) : MSt := msOt S (upd (mOt S) i.toNatClampNeg x)
abbrev msCu (S : MSt) (v : (Nat → Int32)) : MSt := (S.1, S.2.1, S.2.2.1, S.2.2.2.1, S.2.2.2.2.1, S.2.2.2.2.2.1, S.2.2.2.2.2.2.1, v, S.2.2.2.2.2.2.2.2)
def muCu (S : MSt) (i : Int32) (x : Int32) : MSt := msCu S (upd (mCu S) i.toNatClampNeg x)
abbrev msOv (S : MSt) (v : (Nat → Int32)) : MSt := (S.1, S.2.1, S.2.2.1, S.2.2.2.1, S.2.2.2.2.1, S.2.2.2.2.2.1, S.2.2.2.2.2.2.1, S.2.2.2.2.2.2.2.1, v, S.2.2.2.2.2.2.2.2.2)
def muOv (S : MSt) (i : Int32) (x : Int32) : MSt := msOv S (upd (mOv S) i.toNatClampNeg x)
abbrev msUn (S : MSt) (v : (Nat → Int32)) : MSt := (S.1, S.2.1, S.2.2.1, S.2.2.2.1, S.2.2.2.2.1, S.2.2.2.2.2.1, S.2.2.2.2.2.2.1, S.2.2.2.2.2.2.2.1, S.2.2.2.2.2.2.2.2.1, v, S.2.2.2.2.2.2.2.2.2.2)
def muUn (S : MSt) (i : Int32) (x : Int32) : MSt := msUn S (upd (mUn S) i.toNatClampNeg x)
abbrev msRo (S : MSt) (v : (Nat → Int32)) : MSt := (S.1, S.2.1, S.2.2.1, S.2.2.2.1, S.2.2.2.2.1, S.2.2.2.2.2.1, S.2.2.2.2.2.2.1, S.2.2.2.2.2.2.2.1, S.2.2.2.2.2.2.2.2.1, S.2.2.2.2.2.2.2.2.2.1, v, S.2.2.2.2.2.2.2.2.2.2.2)
def muRo (S : MSt) (i : Int32) (x : Int32) : MSt := msRo S (upd (mRo S) i.toNatClampNeg x)
abbrev msDM (S : MSt) (v : (Nat → Int32)) : MSt := (S.1, S.2.1, S.2.2.1, S.2.2.2.1, S.2.2.2.2.1, S.2.2.2.2.2.1, S.2.2.2.2.2.2.1, S.2.2.2.2.2.2.2.1, S.2.2.2.2.2.2.2.2.1, S.2.2.2.2.2.2.2.2.2.1, S.2.2.2.2.2.2.2.2.2.2.1, v, S.2.2.2.2.2.2.2.2.2.2.2.2)
def muDM (S : MSt) (i : Int32) (x : Int32) : MSt := msDM S (upd (mDM S) i.toNatClampNeg x)
abbrev msDU (S : MSt) (v : (Nat → Int64)) : MSt := (S.1, S.2.1, S.2.2.1, S.2.2.2.1, S.2.2.2.2.1, S.2.2.2.2.2.1, S.2.2.2.2.2.2.1, S.2.2.2.2.2.2.2.1, S.2.2.2.2.2.2.2.2.1, S.2.2.2.2.2.2.2.2.2.1, S.2.2.2.2.2.2.2.2.2.2.1, S.2.2.2.2.2.2.2.2.2.2.2.1, v, S.2.2.2.2.2.2.2.2.2.2.2.2.2)
def muDU (S : MSt) (i : Int32) (x : Int64) : MSt := msDU S (vp_updL (mDU S) i.toNatClampNeg x)
abbrev msDL (S : MSt) (v : (Nat → Int64)) : MSt := (S.1, S.2.1, S.2.2.1, S.2.2.2.1, S.2.2.2.2.1, S.2.2.2.2.2.1, S.2.2.2.2.2.2.1, S.2.2.2.2.2.2.2.1, S.2.2.2.2.2.2.2.2.1, S.2.2.2.2.2.2.2.2.2.1, S.2.2.2.2.2.2.2.2.2.2.1, S.2.2.2.2.2.2.2.2.2.2.2.1, S.2.2.2.2.2.2.2.2.2.2.2.2.1, v, S.2.2.2.2.2.2.2.2.2.2.2.2.2.2)
def muDL (S : MSt) (i : Int32) (x : Int64) : MSt := msDL S (vp_updL (mDL S) i.toNatClampNeg x)
abbrev msFU (S : MSt) (v : (Nat → Int64)) : MSt := (S.1, S.2.1, S.2.2.1, S.2.2.2.1, S.2.2.2.2.1, S.2.2.2.2.2.1, S.2.2.2.2.2.2.1, S.2.2.2.2.2.2.2.1, S.2.2.2.2.2.2.2.2.1, S.2.2.2.2.2.2.2.2.2.1, S.2.2.2.2.2.2.2.2.2.2.1, S.2.2.2.2.2.2.2.2.2.2.2.1, S.2.2.2.2.2.2.2.2.2.2.2.2.1, S.2.2.2.2.2.2.2.2.2.2.2.2.2.1, v, S.2.2.2.2.2.2.2.2.2.2.2.2.2.2.2)
def muFU (S : MSt) (i : Int32) (x : Int64) : MSt := msFU S (vp_updL (mFU S) i.toNatClampNeg x)
abbrev msFL (S : MSt) (v : (Nat → Int64)) : MSt := (S.1, S.2.1, S.2.2.1, S.2.2.2.1, S.2.2.2.2.1, S.2.2.2.2.2.1, S.2.2.2.2.2.2.1, S.2.2.2.2.2.2.2.1, S.2.2.2.2.2.2.2.2.1, S.2.2.2.2.2.2.2.2.2.1, S.2.2.2.2.2.2.2.2.2.2.1, S.2.2.2.2.2.2.2.2.2.2.2.1, S.2.2.2.2.2.2.2.2.2.2.2.2.1, S.2.2.2.2.2.2.2.2.2.2.2.2.2.1, S.2.2.2.2.2.2.2.2.2.2.2.2.2.2.1, v, S.2.2.2.2.2.2.2.2.2.2.2.2.2.2.2.2)
def muFL (S : MSt) (i : Int32) (x : Int64) : MSt := msFL S (vp_updL (mFL S) i.toNatClampNeg x)
abbrev msth (S : MSt) (v : Int32) : MSt := (S.1, S.2.1, S.2.2.1, S.2.2.2.1, S.2.2.2.2.1, S.2.2.2.2.2.1, S.2.2.2.2.2.2.1, S.2.2.2.2.2.2.2.1, S.2.2.2.2.2.2.2.2.1, S.2.2.2.2.2.2.2.2.2.1, S.2.2.2.2.2.2.2.2.2.2.1, S.2.2.2.2.2.2.2.2.2.2.2.1, S.2.2.2.2.2.2.2.2.2.2.2.2.1, S.2.2.2.2.2.2.2.2.2.2.2.2.2.1, S.2.2.2.2.2.2.2.2.2.2.2.2.2.2.1, S.2.2.2.2.2.2.2.2.2.2.2.2.2.2.2.1, v, S.2.2.2.2.2.2.2.2.2.2.2.2.2.2.2.2.2)
abbrev mspc (S : MSt) (v : Int32) : MSt := (S.1, S.2.1, S.2.2.1, S.2.2.2.1, S.2.2.2.2.1, S.2.2.2.2.2.1, S.2.2.2.2.2.2.1, S.2.2.2.2.2.2.2.1, S.2.2.2.2.2.2.2.2.1, S.2.2.2.2.2.2.2.2.2.1, S.2.2.2.2.2.2.2.2.2.2.1, S.2.2.2.2.2.2.2.2.2.2.2.1, S.2.2.2.2.2.2.2.2.2.2.2.2.1, S.2.2.2.2.2.2.2.2.2.2.2.2.2.1, S.2.2.2.2.2.2.2.2.2.2.2.2.2.2.1, S.2.2.2.2.2.2.2.2.2.2.2.2.2.2.2.1, S.2.2.2.2.2.2.2.2.2.2.2.2.2.2.2.2.1, v, S.2.2.2.2.2.2.2.2.2.2.2.2.2.2.2.2.2.2)
abbrev mshp (S : MSt) (v : Int32) : MSt := (S.1, S.2.1, S.2.2.1, S.2.2.2.1, S.2.2.2.2.1, S.2.2.2.2.2.1, S.2.2.2.2.2.2.1, S.2.2.2.2.2.2.2.1, S.2.2.2.2.2.2.2.2.1, S.2.2.2.2.2.2.2.2.2.1, S.2.2.2.2.2.2.2.2.2.2.1, S.2.2.2.2.2.2.2.2.2.2.2.1, S.2.2.2.2.2.2.2.2.2.2.2.2.1, S.2.2.2.2.2.2.2.2.2.2.2.2.2.1, S.2.2.2.2.2.2.2.2.2.2.2.2.2.2.1, S.2.2.2.2.2.2.2.2.2.2.2.2.2.2.2.1, S.2.2.2.2.2.2.2.2.2.2.2.2.2.2.2.2.1, S.2.2.2.2.2.2.2.2.2.2.2.2.2.2.2.2.2.1, v, S.2.2.2.2.2.2.2.2.2.2.2.2.2.2.2.2.2.2.2)
abbrev msml (S : MSt) (v : Int64) : MSt := (S.1, S.2.1, S.2.2.1, S.2.2.2.1, S.2.2.2.2.1, S.2.2.2.2.2.1, S.2.2.2.2.2.2.1, S.2.2.2.2.2.2.2.1, S.2.2.2.2.2.2.2.2.1, S.2.2.2.2.2.2.2.2.2.1, S.2.2.2.2.2.2.2.2.2.2.1, S.2.2.2.2.2.2.2.2.2.2.2.1, S.2.2.2.2.2.2.2.2.2.2.2.2.1, S.2.2.2.2.2.2.2.2.2.2.2.2.2.1, S.2.2.2.2.2.2.2.2.2.2.2.2.2.2.1, S.2.2.2.2.2.2.2.2.2.2.2.2.2.2.2.1, S.2.2.2.2.2.2.2.2.2.2.2.2.2.2.2.2.1, S.2.2.2.2.2.2.2.2.2.2.2.2.2.2.2.2.2.1, S.2.2.2.2.2.2.2.2.2.2.2.2.2.2.2.2.2.2.1, v, S.2.2.2.2.2.2.2.2.2.2.2.2.2.2.2.2.2.2.2.2)
abbrev msdc (S : MSt) (v : Int32) : MSt := (S.1, S.2.1, S.2.2.1, S.2.2.2.1, S.2.2.2.2.1, S.2.2.2.2.2.1, S.2.2.2.2.2.2.1, S.2.2.2.2.2.2.2.1, S.2.2.2.2.2.2.2.2.1, S.2.2.2.2.2.2.2.2.2.1, S.2.2.2.2.2.2.2.2.2.2.1, S.2.2.2.2.2.2.2.2.2.2.2.1, S.2.2.2.2.2.2.2.2.2.2.2.2.1, S.2.2.2.2.2.2.2.2.2.2.2.2.2.1, S.2.2.2.2.2.2.2.2.2.2.2.2.2.2.1, S.2.2.2.2.2.2.2.2.2.2.2.2.2.2.2.1, S.2.2.2.2.2.2.2.2.2.2.2.2.2.2.2.2.1, S.2.2.2.2.2.2.2.2.2.2.2.2.2.2.2.2.2.1, S.2.2.2.2.2.2.2.2.2.2.2.2.2.2.2.2.2.2.1, S.2.2.2.2.2.2.2.2.2.2.2.2.2.2.2.2.2.2.2.1, v, S.2.2.2.2.2.2.2.2.2.2.2.2.2.2.2.2.2.2.2.2.2)
abbrev msme (S : MSt) (v : Int32) : MSt := (S.1, S.2.1, S.2.2.1, S.2.2.2.1, S.2.2.2.2.1, S.2.2.2.2.2.1, S.2.2.2.2.2.2.1, S.2.2.2.2.2.2.2.1, S.2.2.2.2.2.2.2.2.1, S.2.2.2.2.2.2.2.2.2.1, S.2.2.2.2.2.2.2.2.2.2.1, S.2.2.2.2.2.2.2.2.2.2.2.1, S.2.2.2.2.2.2.2.2.2.2.2.2.1, S.2.2.2.2.2.2.2.2.2.2.2.2.2.1, S.2.2.2.2.2.2.2.2.2.2.2.2.2.2.1, S.2.2.2.2.2.2.2.2.2.2.2.2.2.2.2.1, S.2.2.2.2.2.2.2.2.2.2.2.2.2.2.2.2.1, S.2.2.2.2.2.2.2.2.2.2.2.2.2.2.2.2.2.1, S.2.2.2.2.2.2.2.2.2.2.2.2.2.2.2.2.2.2.1, S.2.2.2.2.2.2.2.2.2.2.2.2.2.2.2.2.2.2.2.1, S.2.2.2.2.2.2.2.2.2.2.2.2.2.2.2.2.2.2.2.2.1, v, S.2.2.2.2.2.2.2.2.2.2.2.2.2.2.2.2.2.2.2.2.2.2)
abbrev msup (S : MSt) (v : Int64) : MSt := (S.1, S.2.1, S.2.2.1, S.2.2.2.1, S.2.2.2.2.1, S.2.2.2.2.2.1, S.2.2.2.2.2.2.1, S.2.2.2.2.2.2.2.1, S.2.2.2.2.2.2.2.2.1, S.2.2.2.2.2.2.2.2.2.1, S.2.2.2.2.2.2.2.2.2.2.1, S.2.2.2.2.2.2.2.2.2.2.2.1, S.2.2.2.2.2.2.2.2.2.2.2.2.1, S.2.2.2.2.2.2.2.2.2.2.2.2.2.1, S.2.2.2.2.2.2.2.2.2.2.2.2.2.2.1, S.2.2.2.2.2.2.2.2.2.2.2.2.2.2.2.1, S.2.2.2.2.2.2.2.2.2.2.2.2.2.2.2.2.1, S.2.2.2.2.2.2.2.2.2.2.2.2.2.2.2.2.2.1, S.2.2.2.2.2.2.2.2.2.2.2.2.2.2.2.2.2.2.1, S.2.2.2.2.2.2.2.2.2.2.2.2.2.2.2.2.2.2.2.1, S.2.2.2.2.2.2.2.2.2.2.2.2.2.2.2.2.2.2.2.2.1, S.2.2.2.2.2.2.2.2.2.2.2.2.2.2.2.2.2.2.2.2.2.1, v, S.2.2.2.2.2.2.2.2.2.2.2.2.2.2.2.2.2.2.2.2.2.2.2)
abbrev mslo (S : MSt) (v : Int64) : MSt := (S.1, S.2.1, S.2.2.1, S.2.2.2.1, S.2.2.2.2.1, S.2.2.2.2.2.1, S.2.2.2.2.2.2.1, S.2.2.2.2.2.2.2.1, S.2.2.2.2.2.2.2.2.1, S.2.2.2.2.2.2.2.2.2.1, S.2.2.2.2.2.2.2.2.2.2.1, S.2.2.2.2.2.2.2.2.2.2.2.1, S.2.2.2.2.2.2.2.2.2.2.2.2.1, S.2.2.2.2.2.2.2.2.2.2.2.2.2.1, S.2.2.2.2.2.2.2.2.2.2.2.2.2.2.1, S.2.2.2.2.2.2.2.2.2.2.2.2.2.2.2.1, S.2.2.2.2.2.2.2.2.2.2.2.2.2.2.2.2.1, S.2.2.2.2.2.2.2.2.2.2.2.2.2.2.2.2.2.1, S.2.2.2.2.2.2.2.2.2.2.2.2.2.2.2.2.2.2.1, S.2.2.2.2.2.2.2.2.2.2.2.2.2.2.2.2.2.2.2.1, S.2.2.2.2.2.2.2.2.2.2.2.2.2.2.2.2.2.2.2.2.1, S.2.2.2.2.2.2.2.2.2.2.2.2.2.2.2.2.2.2.2.2.2.1, S.2.2.2.2.2.2.2.2.2.2.2.2.2.2.2.2.2.2.2.2.2.2.1, v)
def MW (cI cL cZ : ClassId) (hm : Nat) (am : Nat → Nat) (S : MSt) : va_W := [(hm, .inr (2, [.int (mth S), .int (mpc S), .ref (am 0), .ref (am 1), .ref (am 2), .ref (am 3), .ref (am 4), .ref (am 5), .ref (am 6), .ref (am 7), .ref (am 8), .ref (am 9), .ref (am 10), .int (mhp S), .long (mml S), .int (mdc S), .ref (am 11), .ref (am 12), .ref (am 13), .int (mme S), .long (mup S), .long (mlo S), .ref (am 14), .ref (am 15)])),
  (am 0, .inl (cI, 40, .inl (mKi S))),
  (am 1, .inl (cI, 40, .inl (mWe S))),
  (am 2, .inl (cI, 40, .inl (mLe S))),
  (am 3, .inl (cI, 40, .inl (mSt S))),
  (am 4, .inl (cZ, 40, .inl (mHe S))),
  (am 5, .inl (cI, 40, .inl (mOf S))),
  (am 6, .inl (cI, 40, .inl (mOt S))),
  (am 7, .inl (cI, 40, .inl (mCu S))),
  (am 8, .inl (cI, 40, .inl (mOv S))),
  (am 9, .inl (cI, 40, .inl (mUn S))),
  (am 10, .inl (cI, 40, .inl (mRo S))),
  (am 11, .inl (cI, 10, .inl (mDM S))),
  (am 12, .inl (cL, 10, .inr (.inl (mDU S)))),
  (am 13, .inl (cL, 10, .inr (.inl (mDL S)))),
  (am 14, .inl (cL, 40, .inr (.inl (mFU S)))),
  (am 15, .inl (cL, 40, .inr (.inl (mFL S))))]
theorem MWc_0 (cI cL cZ : ClassId) (hm : Nat) (am : Nat → Nat) (S : MSt) : (MW cI cL cZ hm am S)[0]? = some (hm, .inr (2, [.int (mth S), .int (mpc S), .ref (am 0), .ref (am 1), .ref (am 2), .ref (am 3), .ref (am 4), .ref (am 5), .ref (am 6), .ref (am 7), .ref (am 8), .ref (am 9), .ref (am 10), .int (mhp S), .long (mml S), .int (mdc S), .ref (am 11), .ref (am 12), .ref (am 13), .int (mme S), .long (mup S), .long (mlo S), .ref (am 14), .ref (am 15)])) := rfl
theorem MWc_1 (cI cL cZ : ClassId) (hm : Nat) (am : Nat → Nat) (S : MSt) : (MW cI cL cZ hm am S)[1]? = some (am 0, .inl (cI, 40, .inl (mKi S))) := rfl
theorem MWc_2 (cI cL cZ : ClassId) (hm : Nat) (am : Nat → Nat) (S : MSt) : (MW cI cL cZ hm am S)[2]? = some (am 1, .inl (cI, 40, .inl (mWe S))) := rfl
theorem MWc_3 (cI cL cZ : ClassId) (hm : Nat) (am : Nat → Nat) (S : MSt) : (MW cI cL cZ hm am S)[3]? = some (am 2, .inl (cI, 40, .inl (mLe S))) := rfl
theorem MWc_4 (cI cL cZ : ClassId) (hm : Nat) (am : Nat → Nat) (S : MSt) : (MW cI cL cZ hm am S)[4]? = some (am 3, .inl (cI, 40, .inl (mSt S))) := rfl
theorem MWc_5 (cI cL cZ : ClassId) (hm : Nat) (am : Nat → Nat) (S : MSt) : (MW cI cL cZ hm am S)[5]? = some (am 4, .inl (cZ, 40, .inl (mHe S))) := rfl
theorem MWc_6 (cI cL cZ : ClassId) (hm : Nat) (am : Nat → Nat) (S : MSt) : (MW cI cL cZ hm am S)[6]? = some (am 5, .inl (cI, 40, .inl (mOf S))) := rfl
theorem MWc_7 (cI cL cZ : ClassId) (hm : Nat) (am : Nat → Nat) (S : MSt) : (MW cI cL cZ hm am S)[7]? = some (am 6, .inl (cI, 40, .inl (mOt S))) := rfl
theorem MWc_8 (cI cL cZ : ClassId) (hm : Nat) (am : Nat → Nat) (S : MSt) : (MW cI cL cZ hm am S)[8]? = some (am 7, .inl (cI, 40, .inl (mCu S))) := rfl
theorem MWc_9 (cI cL cZ : ClassId) (hm : Nat) (am : Nat → Nat) (S : MSt) : (MW cI cL cZ hm am S)[9]? = some (am 8, .inl (cI, 40, .inl (mOv S))) := rfl
theorem MWc_10 (cI cL cZ : ClassId) (hm : Nat) (am : Nat → Nat) (S : MSt) : (MW cI cL cZ hm am S)[10]? = some (am 9, .inl (cI, 40, .inl (mUn S))) := rfl
theorem MWc_11 (cI cL cZ : ClassId) (hm : Nat) (am : Nat → Nat) (S : MSt) : (MW cI cL cZ hm am S)[11]? = some (am 10, .inl (cI, 40, .inl (mRo S))) := rfl
theorem MWc_12 (cI cL cZ : ClassId) (hm : Nat) (am : Nat → Nat) (S : MSt) : (MW cI cL cZ hm am S)[12]? = some (am 11, .inl (cI, 10, .inl (mDM S))) := rfl
theorem MWc_13 (cI cL cZ : ClassId) (hm : Nat) (am : Nat → Nat) (S : MSt) : (MW cI cL cZ hm am S)[13]? = some (am 12, .inl (cL, 10, .inr (.inl (mDU S)))) := rfl
theorem MWc_14 (cI cL cZ : ClassId) (hm : Nat) (am : Nat → Nat) (S : MSt) : (MW cI cL cZ hm am S)[14]? = some (am 13, .inl (cL, 10, .inr (.inl (mDL S)))) := rfl
theorem MWc_15 (cI cL cZ : ClassId) (hm : Nat) (am : Nat → Nat) (S : MSt) : (MW cI cL cZ hm am S)[15]? = some (am 14, .inl (cL, 40, .inr (.inl (mFU S)))) := rfl
theorem MWc_16 (cI cL cZ : ClassId) (hm : Nat) (am : Nat → Nat) (S : MSt) : (MW cI cL cZ hm am S)[16]? = some (am 15, .inl (cL, 40, .inr (.inl (mFL S)))) := rfl
def mS0 : MSt := (fun _ => 0, fun _ => 0, fun _ => 0, fun _ => 0, fun _ => 0, fun _ => 0, fun _ => 0, fun _ => 0, fun _ => 0, fun _ => 0, fun _ => 0, fun _ => 0, fun _ => 0, fun _ => 0, fun _ => 0, fun _ => 0, 0, 0, 0, 0, 0, 0, 0, 0)
