theorem xEKi {S T : XSt} {i : Int32} {x : Int32} (e : T = xuKi S i x) : xKi T = upd (xKi S) i.toNatClampNeg x ∧ xWe T = xWe S ∧ xLe T = xLe S ∧ xSt T = xSt S ∧ xSo T = xSo S ∧ xSe T = xSe S ∧ xRo T = xRo S ∧ xSm T = xSm S ∧ xRU T = xRU S ∧ xRL T = xRL S ∧ xDM T = xDM S ∧ xDU T = xDU S ∧ xDL T = xDL S ∧ xFU T = xFU S ∧ xFL T = xFL S ∧ xpc T = xpc S ∧ xdc T = xdc S ∧ xhp T = xhp S ∧ xml T = xml S ∧ xup T = xup S ∧ xlo T = xlo S := by
  subst e
  exact ⟨rfl, rfl, rfl, rfl, rfl, rfl, rfl, rfl, rfl, rfl, rfl, rfl, rfl, rfl, rfl, rfl, rfl, rfl, rfl, rfl, rfl⟩
theorem xEWe {S T : XSt} {i : Int32} {x : Int32} (e : T = xuWe S i x) : xKi T = xKi S ∧ xWe T = upd (xWe S) i.toNatClampNeg x ∧ xLe T = xLe S ∧ xSt T = xSt S ∧ xSo T = xSo S ∧ xSe T = xSe S ∧ xRo T = xRo S ∧ xSm T = xSm S ∧ xRU T = xRU S ∧ xRL T = xRL S ∧ xDM T = xDM S ∧ xDU T = xDU S ∧ xDL T = xDL S ∧ xFU T = xFU S ∧ xFL T = xFL S ∧ xpc T = xpc S ∧ xdc T = xdc S ∧ xhp T = xhp S ∧ xml T = xml S ∧ xup T = xup S ∧ xlo T = xlo S := by
  subst e
  exact ⟨rfl, rfl, rfl, rfl, rfl, rfl, rfl, rfl, rfl, rfl, rfl, rfl, rfl, rfl, rfl, rfl, rfl, rfl, rfl, rfl, rfl⟩
theorem xELe {S T : XSt} {i : Int32} {x : Int32} (e : T = xuLe S i x) : xKi T = xKi S ∧ xWe T = xWe S ∧ xLe T = upd (xLe S) i.toNatClampNeg x ∧ xSt T = xSt S ∧ xSo T = xSo S ∧ xSe T = xSe S ∧ xRo T = xRo S ∧ xSm T = xSm S ∧ xRU T = xRU S ∧ xRL T = xRL S ∧ xDM T = xDM S ∧ xDU T = xDU S ∧ xDL T = xDL S ∧ xFU T = xFU S ∧ xFL T = xFL S ∧ xpc T = xpc S ∧ xdc T = xdc S ∧ xhp T = xhp S ∧ xml T = xml S ∧ xup T = xup S ∧ xlo T = xlo S := by
  subst e
  exact ⟨rfl, rfl, rfl, rfl, rfl, rfl, rfl, rfl, rfl, rfl, rfl, rfl, rfl, rfl, rfl, rfl, rfl, rfl, rfl, rfl, rfl⟩
theorem xESt {S T : XSt} {i : Int32} {x : Int32} (e : T = xuSt S i x) : xKi T = xKi S ∧ xWe T = xWe S ∧ xLe T = xLe S ∧ xSt T = upd (xSt S) i.toNatClampNeg x ∧ xSo T = xSo S ∧ xSe T = xSe S ∧ xRo T = xRo S ∧ xSm T = xSm S ∧ xRU T = xRU S ∧ xRL T = xRL S ∧ xDM T = xDM S ∧ xDU T = xDU S ∧ xDL T = xDL S ∧ xFU T = xFU S ∧ xFL T = xFL S ∧ xpc T = xpc S ∧ xdc T = xdc S ∧ xhp T = xhp S ∧ xml T = xml S ∧ xup T = xup S ∧ xlo T = xlo S := by
  subst e
  exact ⟨rfl, rfl, rfl, rfl, rfl, rfl, rfl, rfl, rfl, rfl, rfl, rfl, rfl, rfl, rfl, rfl, rfl, rfl, rfl, rfl, rfl⟩
theorem xESo {S T : XSt} {i : Int32} {x : Int32} (e : T = xuSo S i x) : xKi T = xKi S ∧ xWe T = xWe S ∧ xLe T = xLe S ∧ xSt T = xSt S ∧ xSo T = upd (xSo S) i.toNatClampNeg x ∧ xSe T = xSe S ∧ xRo T = xRo S ∧ xSm T = xSm S ∧ xRU T = xRU S ∧ xRL T = xRL S ∧ xDM T = xDM S ∧ xDU T = xDU S ∧ xDL T = xDL S ∧ xFU T = xFU S ∧ xFL T = xFL S ∧ xpc T = xpc S ∧ xdc T = xdc S ∧ xhp T = xhp S ∧ xml T = xml S ∧ xup T = xup S ∧ xlo T = xlo S := by
  subst e
  exact ⟨rfl, rfl, rfl, rfl, rfl, rfl, rfl, rfl, rfl, rfl, rfl, rfl, rfl, rfl, rfl, rfl, rfl, rfl, rfl, rfl, rfl⟩
theorem xESe {S T : XSt} {i : Int32} {x : Int32} (e : T = xuSe S i x) : xKi T = xKi S ∧ xWe T = xWe S ∧ xLe T = xLe S ∧ xSt T = xSt S ∧ xSo T = xSo S ∧ xSe T = upd (xSe S) i.toNatClampNeg x ∧ xRo T = xRo S ∧ xSm T = xSm S ∧ xRU T = xRU S ∧ xRL T = xRL S ∧ xDM T = xDM S ∧ xDU T = xDU S ∧ xDL T = xDL S ∧ xFU T = xFU S ∧ xFL T = xFL S ∧ xpc T = xpc S ∧ xdc T = xdc S ∧ xhp T = xhp S ∧ xml T = xml S ∧ xup T = xup S ∧ xlo T = xlo S := by
  subst e
  exact ⟨rfl, rfl, rfl, rfl, rfl, rfl, rfl, rfl, rfl, rfl, rfl, rfl, rfl, rfl, rfl, rfl, rfl, rfl, rfl, rfl, rfl⟩
theorem xERo {S T : XSt} {i : Int32} {x : Int32} (e : T = xuRo S i x) : xKi T = xKi S ∧ xWe T = xWe S ∧ xLe T = xLe S ∧ xSt T = xSt S ∧ xSo T = xSo S ∧ xSe T = xSe S ∧ xRo T = upd (xRo S) i.toNatClampNeg x ∧ xSm T = xSm S ∧ xRU T = xRU S ∧ xRL T = xRL S ∧ xDM T = xDM S ∧ xDU T = xDU S ∧ xDL T = xDL S ∧ xFU T = xFU S ∧ xFL T = xFL S ∧ xpc T = xpc S ∧ xdc T = xdc S ∧ xhp T = xhp S ∧ xml T = xml S ∧ xup T = xup S ∧ xlo T = xlo S := by
  subst e
  exact ⟨rfl, rfl, rfl, rfl, rfl, rfl, rfl, rfl, rfl, rfl, rfl, rfl, rfl, rfl, rfl, rfl, rfl, rfl, rfl, rfl, rfl⟩
theorem xESm {S T : XSt} {i : Int32} {x : Int32} (e : T = xuSm S i x) : xKi T = xKi S ∧ xWe T = xWe S ∧ xLe T = xLe S ∧ xSt T = xSt S ∧ xSo T = xSo S ∧ xSe T = xSe S ∧ xRo T = xRo S ∧ xSm T = upd (xSm S) i.toNatClampNeg x ∧ xRU T = xRU S ∧ xRL T = xRL S ∧ xDM T = xDM S ∧ xDU T = xDU S ∧ xDL T = xDL S ∧ xFU T = xFU S ∧ xFL T = xFL S ∧ xpc T = xpc S ∧ xdc T = xdc S ∧ xhp T = xhp S ∧ xml T = xml S ∧ xup T = xup S ∧ xlo T = xlo S := by
  subst e
  exact ⟨rfl, rfl, rfl, rfl, rfl, rfl, rfl, rfl, rfl, rfl, rfl, rfl, rfl, rfl, rfl, rfl, rfl, rfl, rfl, rfl, rfl⟩
theorem xERU {S T : XSt} {i : Int32} {x : Int32} (e : T = xuRU S i x) : xKi T = xKi S ∧ xWe T = xWe S ∧ xLe T = xLe S ∧ xSt T = xSt S ∧ xSo T = xSo S ∧ xSe T = xSe S ∧ xRo T = xRo S ∧ xSm T = xSm S ∧ xRU T = upd (xRU S) i.toNatClampNeg x ∧ xRL T = xRL S ∧ xDM T = xDM S ∧ xDU T = xDU S ∧ xDL T = xDL S ∧ xFU T = xFU S ∧ xFL T = xFL S ∧ xpc T = xpc S ∧ xdc T = xdc S ∧ xhp T = xhp S ∧ xml T = xml S ∧ xup T = xup S ∧ xlo T = xlo S := by
  subst e
  exact ⟨rfl, rfl, rfl, rfl, rfl, rfl, rfl, rfl, rfl, rfl, rfl, rfl, rfl, rfl, rfl, rfl, rfl, rfl, rfl, rfl, rfl⟩
theorem xERL {S T : XSt} {i : Int32} {x : Int32} (e : T = xuRL S i x) : xKi T = xKi S ∧ xWe T = xWe S ∧ xLe T = xLe S ∧ xSt T = xSt S ∧ xSo T = xSo S ∧ xSe T = xSe S ∧ xRo T = xRo S ∧ xSm T = xSm S ∧ xRU T = xRU S ∧ xRL T = upd (xRL S) i.toNatClampNeg x ∧ xDM T = xDM S ∧ xDU T = xDU S ∧ xDL T = xDL S ∧ xFU T = xFU S ∧ xFL T = xFL S ∧ xpc T = xpc S ∧ xdc T = xdc S ∧ xhp T = xhp S ∧ xml T = xml S ∧ xup T = xup S ∧ xlo T = xlo S := by
  subst e
  exact ⟨rfl, rfl, rfl, rfl, rfl, rfl, rfl, rfl, rfl, rfl, rfl, rfl, rfl, rfl, rfl, rfl, rfl, rfl, rfl, rfl, rfl⟩
theorem xEDM {S T : XSt} {i : Int32} {x : Int32} (e : T = xuDM S i x) : xKi T = xKi S ∧ xWe T = xWe S ∧ xLe T = xLe S ∧ xSt T = xSt S ∧ xSo T = xSo S ∧ xSe T = xSe S ∧ xRo T = xRo S ∧ xSm T = xSm S ∧ xRU T = xRU S ∧ xRL T = xRL S ∧ xDM T = upd (xDM S) i.toNatClampNeg x ∧ xDU T = xDU S ∧ xDL T = xDL S ∧ xFU T = xFU S ∧ xFL T = xFL S ∧ xpc T = xpc S ∧ xdc T = xdc S ∧ xhp T = xhp S ∧ xml T = xml S ∧ xup T = xup S ∧ xlo T = xlo S := by
  subst e
  exact ⟨rfl, rfl, rfl, rfl, rfl, rfl, rfl, rfl, rfl, rfl, rfl, rfl, rfl, rfl, rfl, rfl, rfl, rfl, rfl, rfl, rfl⟩
theorem xEDU {S T : XSt} {i : Int32} {x : Int64} (e : T = xuDU S i x) : xKi T = xKi S ∧ xWe T = xWe S ∧ xLe T = xLe S ∧ xSt T = xSt S ∧ xSo T = xSo S ∧ xSe T = xSe S ∧ xRo T = xRo S ∧ xSm T = xSm S ∧ xRU T = xRU S ∧ xRL T = xRL S ∧ xDM T = xDM S ∧ xDU T = vp_updL (xDU S) i.toNatClampNeg x ∧ xDL T = xDL S ∧ xFU T = xFU S ∧ xFL T = xFL S ∧ xpc T = xpc S ∧ xdc T = xdc S ∧ xhp T = xhp S ∧ xml T = xml S ∧ xup T = xup S ∧ xlo T = xlo S := by
  subst e
  exact ⟨rfl, rfl, rfl, rfl, rfl, rfl, rfl, rfl, rfl, rfl, rfl, rfl, rfl, rfl, rfl, rfl, rfl, rfl, rfl, rfl, rfl⟩
theorem xEDL {S T : XSt} {i : Int32} {x : Int64} (e : T = xuDL S i x) : xKi T = xKi S ∧ xWe T = xWe S ∧ xLe T = xLe S ∧ xSt T = xSt S ∧ xSo T = xSo S ∧ xSe T = xSe S ∧ xRo T = xRo S ∧ xSm T = xSm S ∧ xRU T = xRU S ∧ xRL T = xRL S ∧ xDM T = xDM S ∧ xDU T = xDU S ∧ xDL T = vp_updL (xDL S) i.toNatClampNeg x ∧ xFU T = xFU S ∧ xFL T = xFL S ∧ xpc T = xpc S ∧ xdc T = xdc S ∧ xhp T = xhp S ∧ xml T = xml S ∧ xup T = xup S ∧ xlo T = xlo S := by
  subst e
  exact ⟨rfl, rfl, rfl, rfl, rfl, rfl, rfl, rfl, rfl, rfl, rfl, rfl, rfl, rfl, rfl, rfl, rfl, rfl, rfl, rfl, rfl⟩
theorem xEFU {S T : XSt} {i : Int32} {x : Int64} (e : T = xuFU S i x) : xKi T = xKi S ∧ xWe T = xWe S ∧ xLe T = xLe S ∧ xSt T = xSt S ∧ xSo T = xSo S ∧ xSe T = xSe S ∧ xRo T = xRo S ∧ xSm T = xSm S ∧ xRU T = xRU S ∧ xRL T = xRL S ∧ xDM T = xDM S ∧ xDU T = xDU S ∧ xDL T = xDL S ∧ xFU T = vp_updL (xFU S) i.toNatClampNeg x ∧ xFL T = xFL S ∧ xpc T = xpc S ∧ xdc T = xdc S ∧ xhp T = xhp S ∧ xml T = xml S ∧ xup T = xup S ∧ xlo T = xlo S := by
  subst e
  exact ⟨rfl, rfl, rfl, rfl, rfl, rfl, rfl, rfl, rfl, rfl, rfl, rfl, rfl, rfl, rfl, rfl, rfl, rfl, rfl, rfl, rfl⟩
theorem xEFL {S T : XSt} {i : Int32} {x : Int64} (e : T = xuFL S i x) : xKi T = xKi S ∧ xWe T = xWe S ∧ xLe T = xLe S ∧ xSt T = xSt S ∧ xSo T = xSo S ∧ xSe T = xSe S ∧ xRo T = xRo S ∧ xSm T = xSm S ∧ xRU T = xRU S ∧ xRL T = xRL S ∧ xDM T = xDM S ∧ xDU T = xDU S ∧ xDL T = xDL S ∧ xFU T = xFU S ∧ xFL T = vp_updL (xFL S) i.toNatClampNeg x ∧ xpc T = xpc S ∧ xdc T = xdc S ∧ xhp T = xhp S ∧ xml T = xml S ∧ xup T = xup S ∧ xlo T = xlo S := by
  subst e
  exact ⟨rfl, rfl, rfl, rfl, rfl, rfl, rfl, rfl, rfl, rfl, rfl, rfl, rfl, rfl, rfl, rfl, rfl, rfl, rfl, rfl, rfl⟩
theorem xEpc {S T : XSt} {x : Int32} (e : T = xspc S x) : xKi T = xKi S ∧ xWe T = xWe S ∧ xLe T = xLe S ∧ xSt T = xSt S ∧ xSo T = xSo S ∧ xSe T = xSe S ∧ xRo T = xRo S ∧ xSm T = xSm S ∧ xRU T = xRU S ∧ xRL T = xRL S ∧ xDM T = xDM S ∧ xDU T = xDU S ∧ xDL T = xDL S ∧ xFU T = xFU S ∧ xFL T = xFL S ∧ xpc T = x ∧ xdc T = xdc S ∧ xhp T = xhp S ∧ xml T = xml S ∧ xup T = xup S ∧ xlo T = xlo S := by
  subst e
  exact ⟨rfl, rfl, rfl, rfl, rfl, rfl, rfl, rfl, rfl, rfl, rfl, rfl, rfl, rfl, rfl, rfl, rfl, rfl, rfl, rfl, rfl⟩
theorem xEdc {S T : XSt} {x : Int32} (e : T = xsdc S x) : xKi T = xKi S ∧ xWe T = xWe S ∧ xLe T = xLe S ∧ xSt T = xSt S ∧ xSo T = xSo S ∧ xSe T = xSe S ∧ xRo T = xRo S ∧ xSm T = xSm S ∧ xRU T = xRU S ∧ xRL T = xRL S ∧ xDM T = xDM S ∧ xDU T = xDU S ∧ xDL T = xDL S ∧ xFU T = xFU S ∧ xFL T = xFL S ∧ xpc T = xpc S ∧ xdc T = x ∧ xhp T = xhp S ∧ xml T = xml S ∧ xup T = xup S ∧ xlo T = xlo S := by
  subst e
  exact ⟨rfl, rfl, rfl, rfl, rfl, rfl, rfl, rfl, rfl, rfl, rfl, rfl, rfl, rfl, rfl, rfl, rfl, rfl, rfl, rfl, rfl⟩
theorem xEhp {S T : XSt} {x : Int32} (e : T = xshp S x) : xKi T = xKi S ∧ xWe T = xWe S ∧ xLe T = xLe S ∧ xSt T = xSt S ∧ xSo T = xSo S ∧ xSe T = xSe S ∧ xRo T = xRo S ∧ xSm T = xSm S ∧ xRU T = xRU S ∧ xRL T = xRL S ∧ xDM T = xDM S ∧ xDU T = xDU S ∧ xDL T = xDL S ∧ xFU T = xFU S ∧ xFL T = xFL S ∧ xpc T = xpc S ∧ xdc T = xdc S ∧ xhp T = x ∧ xml T = xml S ∧ xup T = xup S ∧ xlo T = xlo S := by
  subst e
  exact ⟨rfl, rfl, rfl, rfl, rfl, rfl, rfl, rfl, rfl, rfl, rfl, rfl, rfl, rfl, rfl, rfl, rfl, rfl, rfl, rfl, rfl⟩
theorem xEml {S T : XSt} {x : Int64} (e : T = xsml S x) : xKi T = xKi S ∧ xWe T = xWe S ∧ xLe T = xLe S ∧ xSt T = xSt S ∧ xSo T = xSo S ∧ xSe T = xSe S ∧ xRo T = xRo S ∧ xSm T = xSm S ∧ xRU T = xRU S ∧ xRL T = xRL S ∧ xDM T = xDM S ∧ xDU T = xDU S ∧ xDL T = xDL S ∧ xFU T = xFU S ∧ xFL T = xFL S ∧ xpc T = xpc S ∧ xdc T = xdc S ∧ xhp T = xhp S ∧ xml T = x ∧ xup T = xup S ∧ xlo T = xlo S := by
  subst e
  exact ⟨rfl, rfl, rfl, rfl, rfl, rfl, rfl, rfl, rfl, rfl, rfl, rfl, rfl, rfl, rfl, rfl, rfl, rfl, rfl, rfl, rfl⟩
theorem xEup {S T : XSt} {x : Int64} (e : T = xsup S x) : xKi T = xKi S ∧ xWe T = xWe S ∧ xLe T = xLe S ∧ xSt T = xSt S ∧ xSo T = xSo S ∧ xSe T = xSe S ∧ xRo T = xRo S ∧ xSm T = xSm S ∧ xRU T = xRU S ∧ xRL T = xRL S ∧ xDM T = xDM S ∧ xDU T = xDU S ∧ xDL T = xDL S ∧ xFU T = xFU S ∧ xFL T = xFL S ∧ xpc T = xpc S ∧ xdc T = xdc S ∧ xhp T = xhp S ∧ xml T = xml S ∧ xup T = x ∧ xlo T = xlo S := by
  subst e
  exact ⟨rfl, rfl, rfl, rfl, rfl, rfl, rfl, rfl, rfl, rfl, rfl, rfl, rfl, rfl, rfl, rfl, rfl, rfl, rfl, rfl, rfl⟩
theorem xElo {S T : XSt} {x : Int64} (e : T = xslo S x) : xKi T = xKi S ∧ xWe T = xWe S ∧ xLe T = xLe S ∧ xSt T = xSt S ∧ xSo T = xSo S ∧ xSe T = xSe S ∧ xRo T = xRo S ∧ xSm T = xSm S ∧ xRU T = xRU S ∧ xRL T = xRL S ∧ xDM T = xDM S ∧ xDU T = xDU S ∧ xDL T = xDL S ∧ xFU T = xFU S ∧ xFL T = xFL S ∧ xpc T = xpc S ∧ xdc T = xdc S ∧ xhp T = xhp S ∧ xml T = xml S ∧ xup T = xup S ∧ xlo T = x := by
  subst e
  exact ⟨rfl, rfl, rfl, rfl, rfl, rfl, rfl, rfl, rfl, rfl, rfl, rfl, rfl, rfl, rfl, rfl, rfl, rfl, rfl, rfl, rfl⟩
theorem mEKi {S T : MSt} {i : Int32} {x : Int32} (e : T = muKi S i x) : mKi T = upd (mKi S) i.toNatClampNeg x ∧ mWe T = mWe S ∧ mLe T = mLe S ∧ mSt T = mSt S ∧ mHe T = mHe S ∧ mOf T = mOf S ∧ mOt T = mOt S ∧ mCu T = mCu S ∧ mOv T = mOv S ∧ mUn T = mUn S ∧ mRo T = mRo S ∧ mDM T = mDM S ∧ mDU T = mDU S ∧ mDL T = mDL S ∧ mFU T = mFU S ∧ mFL T = mFL S ∧ mth T = mth S ∧ mpc T = mpc S ∧ mhp T = mhp S ∧ mml T = mml S ∧ mdc T = mdc S ∧ mme T = mme S ∧ mup T = mup S ∧ mlo T = mlo S := by
  subst e
  exact ⟨rfl, rfl, rfl, rfl, rfl, rfl, rfl, rfl, rfl, rfl, rfl, rfl, rfl, rfl, rfl, rfl, rfl, rfl, rfl, rfl, rfl, rfl, rfl, rfl⟩
theorem mEWe {S T : MSt} {i : Int32} {x : Int32} (e : T = muWe S i x) : mKi T = mKi S ∧ mWe T = upd (mWe S) i.toNatClampNeg x ∧ mLe T = mLe S ∧ mSt T = mSt S ∧ mHe T = mHe S ∧ mOf T = mOf S ∧ mOt T = mOt S ∧ mCu T = mCu S ∧ mOv T = mOv S ∧ mUn T = mUn S ∧ mRo T = mRo S ∧ mDM T = mDM S ∧ mDU T = mDU S ∧ mDL T = mDL S ∧ mFU T = mFU S ∧ mFL T = mFL S ∧ mth T = mth S ∧ mpc T = mpc S ∧ mhp T = mhp S ∧ mml T = mml S ∧ mdc T = mdc S ∧ mme T = mme S ∧ mup T = mup S ∧ mlo T = mlo S := by
  subst e
  exact ⟨rfl, rfl, rfl, rfl, rfl, rfl, rfl, rfl, rfl, rfl, rfl, rfl, rfl, rfl, rfl, rfl, rfl, rfl, rfl, rfl, rfl, rfl, rfl, rfl⟩
theorem mELe {S T : MSt} {i : Int32} {x : Int32} (e : T = muLe S i x) : mKi T = mKi S ∧ mWe T = mWe S ∧ mLe T = upd (mLe S) i.toNatClampNeg x ∧ mSt T = mSt S ∧ mHe T = mHe S ∧ mOf T = mOf S ∧ mOt T = mOt S ∧ mCu T = mCu S ∧ mOv T = mOv S ∧ mUn T = mUn S ∧ mRo T = mRo S ∧ mDM T = mDM S ∧ mDU T = mDU S ∧ mDL T = mDL S ∧ mFU T = mFU S ∧ mFL T = mFL S ∧ mth T = mth S ∧ mpc T = mpc S ∧ mhp T = mhp S ∧ mml T = mml S ∧ mdc T = mdc S ∧ mme T = mme S ∧ mup T = mup S ∧ mlo T = mlo S := by
  subst e
  exact ⟨rfl, rfl, rfl, rfl, rfl, rfl, rfl, rfl, rfl, rfl, rfl, rfl, rfl, rfl, rfl, rfl, rfl, rfl, rfl, rfl, rfl, rfl, rfl, rfl⟩
theorem mESt {S T : MSt} {i : Int32} {x : Int32} (e : T = muSt S i x) : mKi T = mKi S ∧ mWe T = mWe S ∧ mLe T = mLe S ∧ mSt T = upd (mSt S) i.toNatClampNeg x ∧ mHe T = mHe S ∧ mOf T = mOf S ∧ mOt T = mOt S ∧ mCu T = mCu S ∧ mOv T = mOv S ∧ mUn T = mUn S ∧ mRo T = mRo S ∧ mDM T = mDM S ∧ mDU T = mDU S ∧ mDL T = mDL S ∧ mFU T = mFU S ∧ mFL T = mFL S ∧ mth T = mth S ∧ mpc T = mpc S ∧ mhp T = mhp S ∧ mml T = mml S ∧ mdc T = mdc S ∧ mme T = mme S ∧ mup T = mup S ∧ mlo T = mlo S := by
  subst e
  exact ⟨rfl, rfl, rfl, rfl, rfl, rfl, rfl, rfl, rfl, rfl, rfl, rfl, rfl, rfl, rfl, rfl, rfl, rfl, rfl, rfl, rfl, rfl, rfl, rfl⟩
theorem mEHe {S T : MSt} {i : Int32} {x : Int32} (e : T = muHe S i x) : mKi T = mKi S ∧ mWe T = mWe S ∧ mLe T = mLe S ∧ mSt T = mSt S ∧ mHe T = upd (mHe S) i.toNatClampNeg (vp_nar .boolean x) ∧ mOf T = mOf S ∧ mOt T = mOt S ∧ mCu T = mCu S ∧ mOv T = mOv S ∧ mUn T = mUn S ∧ mRo T = mRo S ∧ mDM T = mDM S ∧ mDU T = mDU S ∧ mDL T = mDL S ∧ mFU T = mFU S ∧ mFL T = mFL S ∧ mth T = mth S ∧ mpc T = mpc S ∧ mhp T = mhp S ∧ mml T = mml S ∧ mdc T = mdc S ∧ mme T = mme S ∧ mup T = mup S ∧ mlo T = mlo S := by
  subst e
  exact ⟨rfl, rfl, rfl, rfl, rfl, rfl, rfl, rfl, rfl, rfl, rfl, rfl, rfl, rfl, rfl, rfl, rfl, rfl, rfl, rfl, rfl, rfl, rfl, rfl⟩
theorem mEOf {S T : MSt} {i : Int32} {x : Int32} (e : T = muOf S i x) : mKi T = mKi S ∧ mWe T = mWe S ∧ mLe T = mLe S ∧ mSt T = mSt S ∧ mHe T = mHe S ∧ mOf T = upd (mOf S) i.toNatClampNeg x ∧ mOt T = mOt S ∧ mCu T = mCu S ∧ mOv T = mOv S ∧ mUn T = mUn S ∧ mRo T = mRo S ∧ mDM T = mDM S ∧ mDU T = mDU S ∧ mDL T = mDL S ∧ mFU T = mFU S ∧ mFL T = mFL S ∧ mth T = mth S ∧ mpc T = mpc S ∧ mhp T = mhp S ∧ mml T = mml S ∧ mdc T = mdc S ∧ mme T = mme S ∧ mup T = mup S ∧ mlo T = mlo S := by
  subst e
  exact ⟨rfl, rfl, rfl, rfl, rfl, rfl, rfl, rfl, rfl, rfl, rfl, rfl, rfl, rfl, rfl, rfl, rfl, rfl, rfl, rfl, rfl, rfl, rfl, rfl⟩
theorem mEOt {S T : MSt} {i : Int32} {x : Int32} (e : T = muOt S i x) : mKi T = mKi S ∧ mWe T = mWe S ∧ mLe T = mLe S ∧ mSt T = mSt S ∧ mHe T = mHe S ∧ mOf T = mOf S ∧ mOt T = upd (mOt S) i.toNatClampNeg x ∧ mCu T = mCu S ∧ mOv T = mOv S ∧ mUn T = mUn S ∧ mRo T = mRo S ∧ mDM T = mDM S ∧ mDU T = mDU S ∧ mDL T = mDL S ∧ mFU T = mFU S ∧ mFL T = mFL S ∧ mth T = mth S ∧ mpc T = mpc S ∧ mhp T = mhp S ∧ mml T = mml S ∧ mdc T = mdc S ∧ mme T = mme S ∧ mup T = mup S ∧ mlo T = mlo S := by
  subst e
  exact ⟨rfl, rfl, rfl, rfl, rfl, rfl, rfl, rfl, rfl, rfl, rfl, rfl, rfl, rfl, rfl, rfl, rfl, rfl, rfl, rfl, rfl, rfl, rfl, rfl⟩
theorem mECu {S T : MSt} {i : Int32} {x : Int32} (e : T = muCu S i x) : mKi T = mKi S ∧ mWe T = mWe S ∧ mLe T = mLe S ∧ mSt T = mSt S ∧ mHe T = mHe S ∧ mOf T = mOf S ∧ mOt T = mOt S ∧ mCu T = upd (mCu S) i.toNatClampNeg x ∧ mOv T = mOv S ∧ mUn T = mUn S ∧ mRo T = mRo S ∧ mDM T = mDM S ∧ mDU T = mDU S ∧ mDL T = mDL S ∧ mFU T = mFU S ∧ mFL T = mFL S ∧ mth T = mth S ∧ mpc T = mpc S ∧ mhp T = mhp S ∧ mml T = mml S ∧ mdc T = mdc S ∧ mme T = mme S ∧ mup T = mup S ∧ mlo T = mlo S := by
  subst e
  exact ⟨rfl, rfl, rfl, rfl, rfl, rfl, rfl, rfl, rfl, rfl, rfl, rfl, rfl, rfl, rfl, rfl, rfl, rfl, rfl, rfl, rfl, rfl, rfl, rfl⟩
theorem mEOv {S T : MSt} {i : Int32} {x : Int32} (e : T = muOv S i x) : mKi T = mKi S ∧ mWe T = mWe S ∧ mLe T = mLe S ∧ mSt T = mSt S ∧ mHe T = mHe S ∧ mOf T = mOf S ∧ mOt T = mOt S ∧ mCu T = mCu S ∧ mOv T = upd (mOv S) i.toNatClampNeg x ∧ mUn T = mUn S ∧ mRo T = mRo S ∧ mDM T = mDM S ∧ mDU T = mDU S ∧ mDL T = mDL S ∧ mFU T = mFU S ∧ mFL T = mFL S ∧ mth T = mth S ∧ mpc T = mpc S ∧ mhp T = mhp S ∧ mml T = mml S ∧ mdc T = mdc S ∧ mme T = mme S ∧ mup T = mup S ∧ mlo T = mlo S := by
  subst e
  exact ⟨rfl, rfl, rfl, rfl, rfl, rfl, rfl, rfl, rfl, rfl, rfl, rfl, rfl, rfl, rfl, rfl, rfl, rfl, rfl, rfl, rfl, rfl, rfl, rfl⟩
theorem mEUn {S T : MSt} {i : Int32} {x : Int32} (e : T = muUn S i x) : mKi T = mKi S ∧ mWe T = mWe S ∧ mLe T = mLe S ∧ mSt T = mSt S ∧ mHe T = mHe S ∧ mOf T = mOf S ∧ mOt T = mOt S ∧ mCu T = mCu S ∧ mOv T = mOv S ∧ mUn T = upd (mUn S) i.toNatClampNeg x ∧ mRo T = mRo S ∧ mDM T = mDM S ∧ mDU T = mDU S ∧ mDL T = mDL S ∧ mFU T = mFU S ∧ mFL T = mFL S ∧ mth T = mth S ∧ mpc T = mpc S ∧ mhp T = mhp S ∧ mml T = mml S ∧ mdc T = mdc S ∧ mme T = mme S ∧ mup T = mup S ∧ mlo T = mlo S := by
  subst e
  exact ⟨rfl, rfl, rfl, rfl, rfl, rfl, rfl, rfl, rfl, rfl, rfl, rfl, rfl, rfl, rfl, rfl, rfl, rfl, rfl, rfl, rfl, rfl, rfl, rfl⟩
theorem mERo {S T : MSt} {i : Int32} {x : Int32} (e : T = muRo S i x) : mKi T = mKi S ∧ mWe T = mWe S ∧ mLe T = mLe S ∧ mSt T = mSt S ∧ mHe T = mHe S ∧ mOf T = mOf S ∧ mOt T = mOt S ∧ mCu T = mCu S ∧ mOv T = mOv S ∧ mUn T = mUn S ∧ mRo T = upd (mRo S) i.toNatClampNeg x ∧ mDM T = mDM S ∧ mDU T = mDU S ∧ mDL T = mDL S ∧ mFU T = mFU S ∧ mFL T = mFL S ∧ mth T = mth S ∧ mpc T = mpc S ∧ mhp T = mhp S ∧ mml T = mml S ∧ mdc T = mdc S ∧ mme T = mme S ∧ mup T = mup S ∧ mlo T = mlo S := by
  subst e
  exact ⟨rfl, rfl, rfl, rfl, rfl, rfl, rfl, rfl, rfl, rfl, rfl, rfl, rfl, rfl, rfl, rfl, rfl, rfl, rfl, rfl, rfl, rfl, rfl, rfl⟩
theorem mEDM {S T : MSt} {i : Int32} {x : Int32} (e : T = muDM S i x) : mKi T = mKi S ∧ mWe T = mWe S ∧ mLe T = mLe S ∧ mSt T = mSt S ∧ mHe T = mHe S ∧ mOf T = mOf S ∧ mOt T = mOt S ∧ mCu T = mCu S ∧ mOv T = mOv S ∧ mUn T = mUn S ∧ mRo T = mRo S ∧ mDM T = upd (mDM S) i.toNatClampNeg x ∧ mDU T = mDU S ∧ mDL T = mDL S ∧ mFU T = mFU S ∧ mFL T = mFL S ∧ mth T = mth S ∧ mpc T = mpc S ∧ mhp T = mhp S ∧ mml T = mml S ∧ mdc T = mdc S ∧ mme T = mme S ∧ mup T = mup S ∧ mlo T = mlo S := by
  subst e
  exact ⟨rfl, rfl, rfl, rfl, rfl, rfl, rfl, rfl, rfl, rfl, rfl, rfl, rfl, rfl, rfl, rfl, rfl, rfl, rfl, rfl, rfl, rfl, rfl, rfl⟩
theorem mEDU {S T : MSt} {i : Int32} {x : Int64} (e : T = muDU S i x) : mKi T = mKi S ∧ mWe T = mWe S ∧ mLe T = mLe S ∧ mSt T = mSt S ∧ mHe T = mHe S ∧ mOf T = mOf S ∧ mOt T = mOt S ∧ mCu T = mCu S ∧ mOv T = mOv S ∧ mUn T = mUn S ∧ mRo T = mRo S ∧ mDM T = mDM S ∧ mDU T = vp_updL (mDU S) i.toNatClampNeg x ∧ mDL T = mDL S ∧ mFU T = mFU S ∧ mFL T = mFL S ∧ mth T = mth S ∧ mpc T = mpc S ∧ mhp T = mhp S ∧ mml T = mml S ∧ mdc T = mdc S ∧ mme T = mme S ∧ mup T = mup S ∧ mlo T = mlo S := by
  subst e
  exact ⟨rfl, rfl, rfl, rfl, rfl, rfl, rfl, rfl, rfl, rfl, rfl, rfl, rfl, rfl, rfl, rfl, rfl, rfl, rfl, rfl, rfl, rfl, rfl, rfl⟩
theorem mEDL {S T : MSt} {i : Int32} {x : Int64} (e : T = muDL S i x) : mKi T = mKi S ∧ mWe T = mWe S ∧ mLe T = mLe S ∧ mSt T = mSt S ∧ mHe T = mHe S ∧ mOf T = mOf S ∧ mOt T = mOt S ∧ mCu T = mCu S ∧ mOv T = mOv S ∧ mUn T = mUn S ∧ mRo T = mRo S ∧ mDM T = mDM S ∧ mDU T = mDU S ∧ mDL T = vp_updL (mDL S) i.toNatClampNeg x ∧ mFU T = mFU S ∧ mFL T = mFL S ∧ mth T = mth S ∧ mpc T = mpc S ∧ mhp T = mhp S ∧ mml T = mml S ∧ mdc T = mdc S ∧ mme T = mme S ∧ mup T = mup S ∧ mlo T = mlo S := by
  subst e
  exact ⟨rfl, rfl, rfl, rfl, rfl, rfl, rfl, rfl, rfl, rfl, rfl, rfl, rfl, rfl, rfl, rfl, rfl, rfl, rfl, rfl, rfl, rfl, rfl, rfl⟩
theorem mEFU {S T : MSt} {i : Int32} {x : Int64} (e : T = muFU S i x) : mKi T = mKi S ∧ mWe T = mWe S ∧ mLe T = mLe S ∧ mSt T = mSt S ∧ mHe T = mHe S ∧ mOf T = mOf S ∧ mOt T = mOt S ∧ mCu T = mCu S ∧ mOv T = mOv S ∧ mUn T = mUn S ∧ mRo T = mRo S ∧ mDM T = mDM S ∧ mDU T = mDU S ∧ mDL T = mDL S ∧ mFU T = vp_updL (mFU S) i.toNatClampNeg x ∧ mFL T = mFL S ∧ mth T = mth S ∧ mpc T = mpc S ∧ mhp T = mhp S ∧ mml T = mml S ∧ mdc T = mdc S ∧ mme T = mme S ∧ mup T = mup S ∧ mlo T = mlo S := by
  subst e
  exact ⟨rfl, rfl, rfl, rfl, rfl, rfl, rfl, rfl, rfl, rfl, rfl, rfl, rfl, rfl, rfl, rfl, rfl, rfl, rfl, rfl, rfl, rfl, rfl, rfl⟩
theorem mEFL {S T : MSt} {i : Int32} {x : Int64} (e : T = muFL S i x) : mKi T = mKi S ∧ mWe T = mWe S ∧ mLe T = mLe S ∧ mSt T = mSt S ∧ mHe T = mHe S ∧ mOf T = mOf S ∧ mOt T = mOt S ∧ mCu T = mCu S ∧ mOv T = mOv S ∧ mUn T = mUn S ∧ mRo T = mRo S ∧ mDM T = mDM S ∧ mDU T = mDU S ∧ mDL T = mDL S ∧ mFU T = mFU S ∧ mFL T = vp_updL (mFL S) i.toNatClampNeg x ∧ mth T = mth S ∧ mpc T = mpc S ∧ mhp T = mhp S ∧ mml T = mml S ∧ mdc T = mdc S ∧ mme T = mme S ∧ mup T = mup S ∧ mlo T = mlo S := by
  subst e
  exact ⟨rfl, rfl, rfl, rfl, rfl, rfl, rfl, rfl, rfl, rfl, rfl, rfl, rfl, rfl, rfl, rfl, rfl, rfl, rfl, rfl, rfl, rfl, rfl, rfl⟩
theorem mEth {S T : MSt} {x : Int32} (e : T = msth S x) : mKi T = mKi S ∧ mWe T = mWe S ∧ mLe T = mLe S ∧ mSt T = mSt S ∧ mHe T = mHe S ∧ mOf T = mOf S ∧ mOt T = mOt S ∧ mCu T = mCu S ∧ mOv T = mOv S ∧ mUn T = mUn S ∧ mRo T = mRo S ∧ mDM T = mDM S ∧ mDU T = mDU S ∧ mDL T = mDL S ∧ mFU T = mFU S ∧ mFL T = mFL S ∧ mth T = x ∧ mpc T = mpc S ∧ mhp T = mhp S ∧ mml T = mml S ∧ mdc T = mdc S ∧ mme T = mme S ∧ mup T = mup S ∧ mlo T = mlo S := by
  subst e
  exact ⟨rfl, rfl, rfl, rfl, rfl, rfl, rfl, rfl, rfl, rfl, rfl, rfl, rfl, rfl, rfl, rfl, rfl, rfl, rfl, rfl, rfl, rfl, rfl, rfl⟩
theorem mEpc {S T : MSt} {x : Int32} (e : T = mspc S x) : mKi T = mKi S ∧ mWe T = mWe S ∧ mLe T = mLe S ∧ mSt T = mSt S ∧ mHe T = mHe S ∧ mOf T = mOf S ∧ mOt T = mOt S ∧ mCu T = mCu S ∧ mOv T = mOv S ∧ mUn T = mUn S ∧ mRo T = mRo S ∧ mDM T = mDM S ∧ mDU T = mDU S ∧ mDL T = mDL S ∧ mFU T = mFU S ∧ mFL T = mFL S ∧ mth T = mth S ∧ mpc T = x ∧ mhp T = mhp S ∧ mml T = mml S ∧ mdc T = mdc S ∧ mme T = mme S ∧ mup T = mup S ∧ mlo T = mlo S := by
  subst e
  exact ⟨rfl, rfl, rfl, rfl, rfl, rfl, rfl, rfl, rfl, rfl, rfl, rfl, rfl, rfl, rfl, rfl, rfl, rfl, rfl, rfl, rfl, rfl, rfl, rfl⟩
theorem mEhp {S T : MSt} {x : Int32} (e : T = mshp S x) : mKi T = mKi S ∧ mWe T = mWe S ∧ mLe T = mLe S ∧ mSt T = mSt S ∧ mHe T = mHe S ∧ mOf T = mOf S ∧ mOt T = mOt S ∧ mCu T = mCu S ∧ mOv T = mOv S ∧ mUn T = mUn S ∧ mRo T = mRo S ∧ mDM T = mDM S ∧ mDU T = mDU S ∧ mDL T = mDL S ∧ mFU T = mFU S ∧ mFL T = mFL S ∧ mth T = mth S ∧ mpc T = mpc S ∧ mhp T = x ∧ mml T = mml S ∧ mdc T = mdc S ∧ mme T = mme S ∧ mup T = mup S ∧ mlo T = mlo S := by
  subst e
  exact ⟨rfl, rfl, rfl, rfl, rfl, rfl, rfl, rfl, rfl, rfl, rfl, rfl, rfl, rfl, rfl, rfl, rfl, rfl, rfl, rfl, rfl, rfl, rfl, rfl⟩
theorem mEml {S T : MSt} {x : Int64} (e : T = msml S x) : mKi T = mKi S ∧ mWe T = mWe S ∧ mLe T = mLe S ∧ mSt T = mSt S ∧ mHe T = mHe S ∧ mOf T = mOf S ∧ mOt T = mOt S ∧ mCu T = mCu S ∧ mOv T = mOv S ∧ mUn T = mUn S ∧ mRo T = mRo S ∧ mDM T = mDM S ∧ mDU T = mDU S ∧ mDL T = mDL S ∧ mFU T = mFU S ∧ mFL T = mFL S ∧ mth T = mth S ∧ mpc T = mpc S ∧ mhp T = mhp S ∧ mml T = x ∧ mdc T = mdc S ∧ mme T = mme S ∧ mup T = mup S ∧ mlo T = mlo S := by
  subst e
  exact ⟨rfl, rfl, rfl, rfl, rfl, rfl, rfl, rfl, rfl, rfl, rfl, rfl, rfl, rfl, rfl, rfl, rfl, rfl, rfl, rfl, rfl, rfl, rfl, rfl⟩
theorem mEdc {S T : MSt} {x : Int32} (e : T = msdc S x) : mKi T = mKi S ∧ mWe T = mWe S ∧ mLe T = mLe S ∧ mSt T = mSt S ∧ mHe T = mHe S ∧ mOf T = mOf S ∧ mOt T = mOt S ∧ mCu T = mCu S ∧ mOv T = mOv S ∧ mUn T = mUn S ∧ mRo T = mRo S ∧ mDM T = mDM S ∧ mDU T = mDU S ∧ mDL T = mDL S ∧ mFU T = mFU S ∧ mFL T = mFL S ∧ mth T = mth S ∧ mpc T = mpc S ∧ mhp T = mhp S ∧ mml T = mml S ∧ mdc T = x ∧ mme T = mme S ∧ mup T = mup S ∧ mlo T = mlo S := by
  subst e
  exact ⟨rfl, rfl, rfl, rfl, rfl, rfl, rfl, rfl, rfl, rfl, rfl, rfl, rfl, rfl, rfl, rfl, rfl, rfl, rfl, rfl, rfl, rfl, rfl, rfl⟩
theorem mEme {S T : MSt} {x : Int32} (e : T = msme S x) : mKi T = mKi S ∧ mWe T = mWe S ∧ mLe T = mLe S ∧ mSt T = mSt S ∧ mHe T = mHe S ∧ mOf T = mOf S ∧ mOt T = mOt S ∧ mCu T = mCu S ∧ mOv T = mOv S ∧ mUn T = mUn S ∧ mRo T = mRo S ∧ mDM T = mDM S ∧ mDU T = mDU S ∧ mDL T = mDL S ∧ mFU T = mFU S ∧ mFL T = mFL S ∧ mth T = mth S ∧ mpc T = mpc S ∧ mhp T = mhp S ∧ mml T = mml S ∧ mdc T = mdc S ∧ mme T = x ∧ mup T = mup S ∧ mlo T = mlo S := by
  subst e
  exact ⟨rfl, rfl, rfl, rfl, rfl, rfl, rfl, rfl, rfl, rfl, rfl, rfl, rfl, rfl, rfl, rfl, rfl, rfl, rfl, rfl, rfl, rfl, rfl, rfl⟩
theorem mEup {S T : MSt} {x : Int64} (e : T = msup S x) : mKi T = mKi S ∧ mWe T = mWe S ∧ mLe T = mLe S ∧ mSt T = mSt S ∧ mHe T = mHe S ∧ mOf T = mOf S ∧ mOt T = mOt S ∧ mCu T = mCu S ∧ mOv T = mOv S ∧ mUn T = mUn S ∧ mRo T = mRo S ∧ mDM T = mDM S ∧ mDU T = mDU S ∧ mDL T = mDL S ∧ mFU T = mFU S ∧ mFL T = mFL S ∧ mth T = mth S ∧ mpc T = mpc S ∧ mhp T = mhp S ∧ mml T = mml S ∧ mdc T = mdc S ∧ mme T = mme S ∧ mup T = x ∧ mlo T = mlo S := by
  subst e
  exact ⟨rfl, rfl, rfl, rfl, rfl, rfl, rfl, rfl, rfl, rfl, rfl, rfl, rfl, rfl, rfl, rfl, rfl, rfl, rfl, rfl, rfl, rfl, rfl, rfl⟩
theorem mElo {S T : MSt} {x : Int64} (e : T = mslo S x) : mKi T = mKi S ∧ mWe T = mWe S ∧ mLe T = mLe S ∧ mSt T = mSt S ∧ mHe T = mHe S ∧ mOf T = mOf S ∧ mOt T = mOt S ∧ mCu T = mCu S ∧ mOv T = mOv S ∧ mUn T = mUn S ∧ mRo T = mRo S ∧ mDM T = mDM S ∧ mDU T = mDU S ∧ mDL T = mDL S ∧ mFU T = mFU S ∧ mFL T = mFL S ∧ mth T = mth S ∧ mpc T = mpc S ∧ mhp T = mhp S ∧ mml T = mml S ∧ mdc T = mdc S ∧ mme T = mme S ∧ mup T = mup S ∧ mlo T = x := by
  subst e
  exact ⟨rfl, rfl, rfl, rfl, rfl, rfl, rfl, rfl, rfl, rfl, rfl, rfl, rfl, rfl, rfl, rfl, rfl, rfl, rfl, rfl, rfl, rfl, rfl, rfl⟩
