/-! BASE: contracts over a world (a list of cells that a function gives of a state), calls over it, returns, throws. -/
section GBASE
theorem g_fm {α : Type} {f : Nat → Option α} : ∀ {l : List Nat} {w : List α}, l.map f = w.map some → l.filterMap f = w
  | [], [], _ => rfl
  | [], _ :: _, h => by cases h
  | _ :: _, [], h => by cases h
  | i :: l, x :: w, h => by
    have h1 : f i = some x := (List.cons.inj h).1
    have h2 : l.map f = w.map some := (List.cons.inj h).2
    rw [List.filterMap_cons_some h1, g_fm h2]
theorem g_nd : ∀ l : List Nat, l.Nodup → va_nd l = true
  | [], _ => rfl
  | a :: l, h => by
    have h1 := List.nodup_cons.mp h
    simp only [va_nd, g_nd l h1.2, Bool.and_true, decide_eq_true_eq]
    exact h1.1
theorem g_ndm (n k : Nat) : va_nd ((List.range n).map (fun i => k + i)) = true :=
  g_nd _ (List.pairwise_map.mpr (List.Pairwise.imp (fun h h2 => h (by omega)) List.nodup_range))
theorem g_rangeL {α : Type} (w1 w2 : List α) : (List.range w1.length).map (fun i => (w1 ++ w2)[i]?) = w1.map some := by
  apply List.ext_getElem?
  intro i
  rw [List.getElem?_map, List.getElem?_map]
  rcases Nat.lt_or_ge i w1.length with h | h
  · rw [List.getElem?_range h, List.getElem?_eq_getElem h]
    show some ((w1 ++ w2)[i]?) = _
    rw [List.getElem?_append_left h, List.getElem?_eq_getElem h]
    rfl
  · rw [List.getElem?_eq_none (by simpa using h), List.getElem?_eq_none h]
    rfl
theorem g_rangeR {α : Type} (w1 w2 : List α) : ((List.range w2.length).map (fun i => w1.length + i)).map (fun i => (w1 ++ w2)[i]?) = w2.map some := by
  apply List.ext_getElem?
  intro i
  rw [List.getElem?_map, List.getElem?_map, List.getElem?_map]
  rcases Nat.lt_or_ge i w2.length with h | h
  · rw [List.getElem?_range h, List.getElem?_eq_getElem h]
    show some ((w1 ++ w2)[w1.length + i]?) = _
    rw [List.getElem?_append_right (Nat.le_add_right _ _), Nat.add_sub_cancel_left, List.getElem?_eq_getElem h]
    rfl
  · rw [List.getElem?_eq_none (by simpa using h), List.getElem?_eq_none h]
    rfl
theorem g_sufP {D : va_G} {cl : List vw_C} {w1 w2 : va_W} {H : Heap} (h : va_P D cl (w1 ++ w2) H) : va_P D cl w2 H := h.sub _ (g_fm (g_rangeR w1 w2))
theorem g_sufD {A : Nat → Prop} {w1 w2 : va_W} (h : va_D A (w1 ++ w2)) : va_D A w2 := h.sub _ (g_ndm _ _) (g_rangeR w1 w2)
theorem g_freeS {A0 : Nat → Prop} {w1 w2 : va_W} {H0 H : Heap} {locs : List Loc} (hD : va_D A0 (w1 ++ w2)) (hS : va_S A0 H0 H locs) (hA : ∀ q, H0.size ≤ q → A0 q) : ∀ q, va_A w2 H.size q → A0 q := va_free hD hS hA _ (g_rangeR w1 w2)
theorem g_joinS {A0 : Nat → Prop} {D : va_G} {cl : List vw_C} {w1 w2 u : va_W} {H H1 : Heap} (hP : va_P D cl (w1 ++ w2) H) (hD : va_D A0 (w1 ++ w2)) (hk : ∀ q : Nat, q < H.size → ¬ va_A w2 H.size q → H1[q]? = H[q]?) (hF : ∀ q, va_A w2 H.size q → A0 q) (hP1 : va_P D cl u H1) (hD1 : va_D (va_A w2 H.size) u) : va_P D cl (w1 ++ u) H1 ∧ va_D A0 (w1 ++ u) :=
  va_join (wc := w2) (wr := w1) hP hD ((List.range w2.length).map (fun i => w1.length + i)) (List.range w1.length) (g_rangeR w1 w2) (g_rangeL w1 w2) (g_nd _ List.nodup_range) (fun i hi hj => by
    have h1 := List.mem_range.mp hi
    obtain ⟨j, -, rfl⟩ := List.mem_map.mp hj
    omega) hk hF hP1 hD1
theorem g_swapP {D : va_G} {cl : List vw_C} {w1 w2 : va_W} {H : Heap} (h : va_P D cl (w1 ++ w2) H) : va_P D cl (w2 ++ w1) H := by
  intro k q hk
  have hm : q ∈ w1 ++ w2 := by
    rcases List.mem_append.mp (List.mem_of_getElem? hk) with h1 | h1
    · exact List.mem_append_right _ h1
    · exact List.mem_append_left _ h1
  obtain ⟨i, hi⟩ := List.mem_iff_getElem?.mp hm
  exact h i q hi
theorem g_swapD {A : Nat → Prop} {w1 w2 : va_W} (h : va_D A (w1 ++ w2)) : va_D A (w2 ++ w1) := by
  have key : ∀ (i : Nat) (p : Nat × va_E), (w2 ++ w1)[i]? = some p → (i < w2.length ∧ (w1 ++ w2)[w1.length + i]? = some p) ∨ (w2.length ≤ i ∧ i - w2.length < w1.length ∧ (w1 ++ w2)[i - w2.length]? = some p) := by
    intro i p hi
    rcases Nat.lt_or_ge i w2.length with h1 | h1
    · left
      refine ⟨h1, ?_⟩
      rw [List.getElem?_append_right (Nat.le_add_right _ _), Nat.add_sub_cancel_left]
      rwa [List.getElem?_append_left h1] at hi
    · right
      rw [List.getElem?_append_right h1] at hi
      have h2 : i - w2.length < w1.length := (List.getElem?_eq_some_iff.mp hi).1
      refine ⟨h1, h2, ?_⟩
      rw [List.getElem?_append_left h2]
      exact hi
  constructor
  · intro i j p q hi hj hpq
    rcases key i p hi with ⟨a1, b1⟩ | ⟨a1, a2, b1⟩ <;> rcases key j q hj with ⟨c1, d1⟩ | ⟨c1, c2, d1⟩ <;>
      (have := h.1 _ _ _ _ b1 d1 hpq; omega)
  · intro k q hk
    have hm : q ∈ w1 ++ w2 := by
      rcases List.mem_append.mp (List.mem_of_getElem? hk) with h1 | h1
      · exact List.mem_append_right _ h1
      · exact List.mem_append_left _ h1
    obtain ⟨i, hi⟩ := List.mem_iff_getElem?.mp hm
    exact h.2 i q hi
end GBASE
/-! what the whole run takes as given, beside the words: words across the nest, classes that aren't castable, texts, two statics of Throwable -/
def gGF (A : Nat → Prop) (U : State) : Prop :=
  (∀ w ∈ gNW, va_Nw w U) ∧ (∀ q ∈ gNC, va_Nc q.1 q.2 U) ∧ (∀ q ∈ gSR, ∃ sa, vk_R q.1 q.2.1 q.2.2 sa U) ∧ vx_Zq Bundle.tN "UNASSIGNED_STACK" Bundle.steD A U U.heap ∧ vx_Zq Bundle.tN "SUPPRESSED_SENTINEL" Bundle.listD A U U.heap
theorem gGF.same {A : Nat → Prop} {u U : State} (hv : u.vm = U.vm) (hh : U.heap = u.heap) (h : gGF A u) : gGF A U := by
  obtain ⟨h1, h2, h3, h4, h5⟩ := h
  have ha : u.vm.Alike U.vm := by rw [hv]; exact Vm.Alike.refl _
  refine ⟨fun w hw => va_Nw.same (gNW_t w hw) hv (h1 w hw), fun q hq => va_Nc.moved ha (h2 q hq), fun q hq => ?_, ?_, ?_⟩
  · obtain ⟨sa, hs⟩ := h3 q hq
    exact ⟨sa, hs.same hv.symm⟩
  · rw [hh]; exact h4.moved ha
  · rw [hh]; exact h5.moved ha
theorem gGF.call {A B : Nat → Prop} {s U : State} {H : Heap} {locs : List Loc} (h : gGF A s) (hS : va_S A s.heap H locs) (hF : ∀ q, B q → A q) (hU : U.heap = H) (hW : s.WarmedH U.vm) : gGF B U := by
  obtain ⟨h1, h2, h3, h4, h5⟩ := h
  refine ⟨fun w hw => gNW_warm hW w hw (h1 w hw), fun q hq => va_Nc.moved hW.alike (h2 q hq), fun q hq => ?_, ?_, ?_⟩
  · obtain ⟨sa, hs⟩ := h3 q hq
    exact ⟨sa, hs.warm hW⟩
  · rw [hU]; exact ((h4.moved hW.alike).kept hS.2.1).narrow hF
  · rw [hU]; exact ((h5.moved hW.alike).kept hS.2.1).narrow hF
/-! contracts -/
def gPre (D : va_G) (tys : List (ClassId × FieldType)) (av : List Value) (w0 : va_W) (sz : Nat) : Array Value → State → Prop :=
  va_Pc av (fun U => U.heap.size = sz ∧ va_P D vwCl w0 U.heap ∧ va_K D vwCl tys U ∧ va_D (fun _ => True) w0 ∧ gGF (va_A w0 sz) U)
theorem gPre_blind {D : va_G} {tys : List (ClassId × FieldType)} {av : List Value} {w0 : va_W} {sz : Nat} : FrameBlind (gPre D tys av w0 sz) := fun a U g mk q => by
  obtain ⟨q0, q1, qP, qK, qD, qG⟩ := q
  exact ⟨q0, q1, qP, va_K.moved (u := U) (U := U.calling g mk a) (Vm.Alike.refl U.vm) qK, qD, gGF.same (u := U) (U := U.calling g mk a) rfl rfl qG⟩
def gB (D : va_G) (tys : List (ClassId × FieldType)) (A : Nat → Prop) (w : va_W) (t : State) : Prop := va_P D vwCl w t.heap ∧ va_K D vwCl tys t ∧ va_D A w
def gXC {St : Type} (D : va_G) (tys : List (ClassId × FieldType)) (wf : St → va_W) (xp : String → St → Prop) (A : Nat → Prop) : String → State → State → Prop :=
  vx_X (fun u : String × St => xp u.1 u.2) (fun E u t => E = u.1 ∧ gB D tys A (wf u.2) t) A
def gQi {St : Type} (D : va_G) (tys : List (ClassId × FieldType)) (wf : St → va_W) (post : Int32 → St → Prop) (A : Nat → Prop) : Array Value → State → Outcome → State → Prop := va_Qi post (fun S => gB D tys A (wf S)) A
def gQz {St : Type} (D : va_G) (tys : List (ClassId × FieldType)) (wf : St → va_W) (post : Int32 → St → Prop) (A : Nat → Prop) : Array Value → State → Outcome → State → Prop := va_Qi (fun r S => (r = 0 ∨ r = 1) ∧ post r S) (fun S => gB D tys A (wf S)) A
def gQl {St : Type} (D : va_G) (tys : List (ClassId × FieldType)) (wf : St → va_W) (post : Int64 → St → Prop) (A : Nat → Prop) : Array Value → State → Outcome → State → Prop := va_Ql post (fun S => gB D tys A (wf S)) A
def gQv {St : Type} (D : va_G) (tys : List (ClassId × FieldType)) (wf : St → va_W) (post : St → Prop) (A : Nat → Prop) : Array Value → State → Outcome → State → Prop := va_Qv post (fun S => gB D tys A (wf S)) A
/-- a return of a method that may throw: nothing new was made -/
def gT (Qc : Array Value → State → Outcome → State → Prop) (A : Nat → Prop) : Array Value → State → Outcome → State → Prop := fun a st o t => Qc a st o t ∧ ∃ L, FrameEnd st o t L 0 0 ∧ ∀ q ∈ L, A q.base
def gMi {St : Type} (l : Launch) (y : MethodName) (ws : List Cond) (rm : Room) (D : va_G) (tys : List (ClassId × FieldType)) (av : List Value) (w0 : va_W) (wf : St → va_W) (post : Int32 → St → Prop) : Prop :=
  ∀ sz : Nat, Met l y ws rm (gPre D tys av w0 sz) (gQi D tys wf post (va_A w0 sz)) rm.cells rm.slots (va_A w0 sz)
def gXi {St : Type} (l : Launch) (y : MethodName) (ws : List Cond) (rm : Room) (D : va_G) (tys : List (ClassId × FieldType)) (av : List Value) (w0 : va_W) (wf : St → va_W) (post : Int32 → St → Prop) (xp : String → St → Prop) : Prop :=
  ∀ sz : Nat, vx_Met l y ws rm (gPre D tys av w0 sz) (gT (gQi D tys wf post (va_A w0 sz)) (va_A w0 sz)) (gXC D tys wf xp (va_A w0 sz)) rm.cells rm.slots (va_A w0 sz)
def gMz {St : Type} (l : Launch) (y : MethodName) (ws : List Cond) (rm : Room) (D : va_G) (tys : List (ClassId × FieldType)) (av : List Value) (w0 : va_W) (wf : St → va_W) (post : Int32 → St → Prop) : Prop :=
  ∀ sz : Nat, Met l y ws rm (gPre D tys av w0 sz) (gQz D tys wf post (va_A w0 sz)) rm.cells rm.slots (va_A w0 sz)
def gXz {St : Type} (l : Launch) (y : MethodName) (ws : List Cond) (rm : Room) (D : va_G) (tys : List (ClassId × FieldType)) (av : List Value) (w0 : va_W) (wf : St → va_W) (post : Int32 → St → Prop) (xp : String → St → Prop) : Prop :=
  ∀ sz : Nat, vx_Met l y ws rm (gPre D tys av w0 sz) (gT (gQz D tys wf post (va_A w0 sz)) (va_A w0 sz)) (gXC D tys wf xp (va_A w0 sz)) rm.cells rm.slots (va_A w0 sz)
def gMl {St : Type} (l : Launch) (y : MethodName) (ws : List Cond) (rm : Room) (D : va_G) (tys : List (ClassId × FieldType)) (av : List Value) (w0 : va_W) (wf : St → va_W) (post : Int64 → St → Prop) : Prop :=
  ∀ sz : Nat, Met l y ws rm (gPre D tys av w0 sz) (gQl D tys wf post (va_A w0 sz)) rm.cells rm.slots (va_A w0 sz)
def gXl {St : Type} (l : Launch) (y : MethodName) (ws : List Cond) (rm : Room) (D : va_G) (tys : List (ClassId × FieldType)) (av : List Value) (w0 : va_W) (wf : St → va_W) (post : Int64 → St → Prop) (xp : String → St → Prop) : Prop :=
  ∀ sz : Nat, vx_Met l y ws rm (gPre D tys av w0 sz) (gT (gQl D tys wf post (va_A w0 sz)) (va_A w0 sz)) (gXC D tys wf xp (va_A w0 sz)) rm.cells rm.slots (va_A w0 sz)
def gMv {St : Type} (l : Launch) (y : MethodName) (ws : List Cond) (rm : Room) (D : va_G) (tys : List (ClassId × FieldType)) (av : List Value) (w0 : va_W) (wf : St → va_W) (post : St → Prop) : Prop :=
  ∀ sz : Nat, Met l y ws rm (gPre D tys av w0 sz) (gQv D tys wf post (va_A w0 sz)) rm.cells rm.slots (va_A w0 sz)
def gXv {St : Type} (l : Launch) (y : MethodName) (ws : List Cond) (rm : Room) (D : va_G) (tys : List (ClassId × FieldType)) (av : List Value) (w0 : va_W) (wf : St → va_W) (post : St → Prop) (xp : String → St → Prop) : Prop :=
  ∀ sz : Nat, vx_Met l y ws rm (gPre D tys av w0 sz) (gT (gQv D tys wf post (va_A w0 sz)) (va_A w0 sz)) (gXC D tys wf xp (va_A w0 sz)) rm.cells rm.slots (va_A w0 sz)
section GCALL
variable {p : Program} {l : Launch} {e : Env} {R : Room} {s : State} {m : MethodId} {args : Array Value} {below : List Frame} {meth : Method} {c : Code} {H : Heap} {locs : List Loc} {cells slots : Nat} {Q : State → Prop}
variable {D : va_G} {tys : List (ClassId × FieldType)} {A : Nat → Prop} {St : Type} {wf wfc : St → va_W} {w wr wc : va_W} {mc ms pc : Nat} {ls : Array Slot} {st0 rest : List Value} {a9 : Array Value} {cc : ByteArray}
theorem g_tight {T T' st₀ t : State} {L L9 : List Loc} {o : Outcome} (X : Stand p l e R s m args below meth c T locs cells slots) (hT : T.heap = H) (X' : Stand p l e R s m args below meth c T' (locs ++ L) (cells + mc) (slots + ms)) (h0 : st₀.heap = H) (e1 : T'.heap = t.heap) (hE : FrameEnd st₀ o t L9 0 0) : Stand p l e R s m args below meth c T' (locs ++ L) cells slots := by
  obtain ⟨-, -, -, q2, q3, -, -, q6⟩ := hE
  obtain ⟨z1, z2, z3, z4, z5, z6⟩ := X'.same
  obtain ⟨-, -, y3, -, y5, -⟩ := X.same
  have q2 : st₀.heap.size ≤ t.heap.size := q2
  have q3 : t.heap.size ≤ st₀.heap.size + 0 := q3
  have y3 : T.heap.size ≤ s.heap.size + cells := y3
  have y5 : ((T.heap.toList.drop s.heap.size).map (·.slots.size)).sum ≤ slots := y5
  have hsz : T'.heap.size = T.heap.size := by rw [e1, hT, ← h0]; omega
  have hm : T'.heap.toList.map (·.slots.size) = T.heap.toList.map (·.slots.size) := by
    apply List.ext_getElem?
    intro i
    rw [List.getElem?_map, List.getElem?_map, Array.getElem?_toList, Array.getElem?_toList]
    rcases Nat.lt_or_ge i T.heap.size with hi | hi
    · have hc : st₀.heap[i]? = some T.heap[i] := by rw [h0, ← hT]; exact Array.getElem?_eq_getElem hi
      obtain ⟨c', h1, -, h3, -⟩ := q6 i _ hc
      have h1 : t.heap[i]? = some c' := h1
      rw [e1, h1, Array.getElem?_eq_getElem hi]
      show some c'.slots.size = some T.heap[i].slots.size
      rw [h3]
    · rw [Array.getElem?_eq_none hi, Array.getElem?_eq_none (by omega)]
  refine { X' with same := ⟨z1, z2, ?_, z4, ?_, z6⟩ }
  · show T'.heap.size ≤ s.heap.size + cells
    omega
  · show ((T'.heap.toList.drop s.heap.size).map (·.slots.size)).sum ≤ slots
    rw [List.map_drop, hm, ← List.map_drop]
    exact y5
theorem g_preV {b : Addr} {As : List Value} {q0 ci : Nat} {q : vw_C} {fs : List Value} {C : String} (hK : va_K D vwCl tys s) (hG : gGF A s) (hA : ∀ q, s.heap.size ≤ q → A q) (hP : va_P D vwCl (wr ++ wc) H) (hD : va_D A (wr ++ wc)) (hS : va_S A s.heap H locs) (hc : vwCl[ci]? = some q) (he : wc[q0]? = some (b, .inr (ci, fs))) (hC : q.1 = C) : PreV s H C b (gPre D tys (.ref b :: As) wc H.size) As :=
  ⟨gPre_blind, by have h1 := va_recv hK (g_sufP hP) hc he; rwa [hC] at h1, fun U hU hW => ⟨rfl, by rw [hU], by rw [hU]; exact g_sufP hP, va_K.moved hW.alike hK, (g_sufD hD).weaken (fun _ _ _ _ => trivial), hG.call hS (g_freeS hD hS hA) hU hW⟩⟩
theorem g_preS {As : List Value} (hK : va_K D vwCl tys s) (hG : gGF A s) (hA : ∀ q, s.heap.size ≤ q → A q) (hP : va_P D vwCl (wr ++ wc) H) (hD : va_D A (wr ++ wc)) (hS : va_S A s.heap H locs) : PreS s H (gPre D tys As wc H.size) As :=
  ⟨gPre_blind, fun U hU hW => ⟨rfl, by rw [hU], by rw [hU]; exact g_sufP hP, va_K.moved hW.alike hK, (g_sufD hD).weaken (fun _ _ _ _ => trivial), hG.call hS (g_freeS hD hS hA) hU hW⟩⟩
theorem gk_i {post : Int32 → St → Prop} (hP : va_P D vwCl (wr ++ wc) H) (hD : va_D A (wr ++ wc)) (hS : va_S A s.heap H locs) (hA : ∀ q, s.heap.size ≤ q → A q)
    (hr : va_Run p l e R s m args below meth c H locs cells slots mc ms (F0 m pc ls st0) rest (gQi D tys wfc post (va_A wc H.size) a9) (va_A wc H.size))
    (kk : ∀ (r : Int32) (S1 : St) (H1 : Heap) (locs1 : List Loc), post r S1 → va_P D vwCl (wr ++ wfc S1) H1 → va_D A (wr ++ wfc S1) → va_S A s.heap H1 locs1 → W p l e R s m args below meth c H1 locs1 (cells + mc) (slots + ms) Q (F0 m (pc + 3) ls (.int r :: rest))) :
    W p l e R s m args below meth c H locs cells slots Q (F0 m pc ls st0) := by
  have hFc := g_freeS hD hS hA
  refine va_calli hr hS (fun q _ h => hFc q h) hFc (fun r u t H1 locs1 ht hvm hw hB hz1 hk1 hS1 => ?_)
  obtain ⟨hP1, hK1, hD1⟩ := hB
  rw [ht] at hP1
  obtain ⟨h1, h2⟩ := g_joinS hP hD hk1 hFc hP1 hD1
  exact kk r u H1 locs1 hw h1 h2 hS1
theorem gk_xi {post : Int32 → St → Prop} {xp : String → St → Prop} (hP : va_P D vwCl (wr ++ wc) H) (hD : va_D A (wr ++ wc)) (hS : va_S A s.heap H locs) (hA : ∀ q, s.heap.size ≤ q → A q)
    (hr : vx_Run p l e R s m args below meth c H locs cells slots mc ms (F0 m pc ls st0) rest (gT (gQi D tys wfc post (va_A wc H.size)) (va_A wc H.size) a9) (gXC D tys wfc xp (va_A wc H.size)) (va_A wc H.size))
    (kx : ∀ (E : String) (S1 : St) (ce : Cell) (q9 : Addr) (H1 : Heap) (locs1 : List Loc), xp E S1 → va_P D vwCl (wr ++ wfc S1) H1 → va_D A (wr ++ wfc S1) → va_S A s.heap H1 locs1 → H1[q9]? = some ce → ce.vm = .none → s.vm.findClass E = some ce.cls → vx_W p l e R s m args below meth c H1 locs1 (cells + mc) (slots + ms) Q (F0 m pc ls rest) q9)
    (kk : ∀ (r : Int32) (S1 : St) (H1 : Heap) (locs1 : List Loc), post r S1 → va_P D vwCl (wr ++ wfc S1) H1 → va_D A (wr ++ wfc S1) → va_S A s.heap H1 locs1 → W p l e R s m args below meth c H1 locs1 cells slots Q (F0 m (pc + 3) ls (.int r :: rest))) :
    W p l e R s m args below meth c H locs cells slots Q (F0 m pc ls st0) := by
  have hFc := g_freeS hD hS hA
  intro T hT X
  rcases hr T hT X with ⟨v, st₀, t, T', L, h0, X', hL, e1, e2, ⟨⟨⟨r, u, hv, hp, hb⟩, hF⟩, L9, hE9, -⟩, st⟩ | ⟨q, st₀, t, T', L, E, ce, h0, X', hL, e1, e2, ⟨u, hp, hb, hF⟩, hce, hcv, hcl, st⟩
  · cases hv
    obtain ⟨k1, k2, k3⟩ := vx_keep h0 e1 hS (fun q _ h => hFc q h) hFc hL hF
    have X9 := g_tight X hT X' h0 e1 hE9
    obtain ⟨hP1, hK1, hD1⟩ := hb
    rw [← e1] at hP1
    obtain ⟨h1, h2⟩ := g_joinS hP hD k2 hFc hP1 hD1
    obtain ⟨t2, a1, b1⟩ := kk r u T'.heap (locs ++ L) hp h1 h2 k3 T' rfl X9
    exact ⟨t2, st t2 a1, b1⟩
  · obtain ⟨k1, k2, k3⟩ := vx_keep h0 e1 hS (fun q _ h => hFc q h) hFc hL hF
    obtain ⟨e3, hP1, hK1, hD1⟩ := hb
    subst e3
    rw [← e1] at hP1
    obtain ⟨h1, h2⟩ := g_joinS hP hD k2 hFc hP1 hD1
    obtain ⟨t2, a1, b1⟩ := kx u.1 u.2 ce q T'.heap (locs ++ L) hp h1 h2 k3 (by rw [e1]; exact hce) hcv hcl T' rfl X'
    exact ⟨t2, st.trans a1, b1⟩
theorem gk_z {post : Int32 → St → Prop} (hP : va_P D vwCl (wr ++ wc) H) (hD : va_D A (wr ++ wc)) (hS : va_S A s.heap H locs) (hA : ∀ q, s.heap.size ≤ q → A q)
    (hr : va_Run p l e R s m args below meth c H locs cells slots mc ms (F0 m pc ls st0) rest (gQz D tys wfc post (va_A wc H.size) a9) (va_A wc H.size))
    (kk : ∀ (r : Int32) (S1 : St) (hz : r = 0 ∨ r = 1) (H1 : Heap) (locs1 : List Loc), post r S1 → va_P D vwCl (wr ++ wfc S1) H1 → va_D A (wr ++ wfc S1) → va_S A s.heap H1 locs1 → W p l e R s m args below meth c H1 locs1 (cells + mc) (slots + ms) Q (F0 m (pc + 3) ls (.int r :: rest))) :
    W p l e R s m args below meth c H locs cells slots Q (F0 m pc ls st0) := by
  have hFc := g_freeS hD hS hA
  refine va_calli hr hS (fun q _ h => hFc q h) hFc (fun r u t H1 locs1 ht hvm hw hB hz1 hk1 hS1 => ?_)
  obtain ⟨hP1, hK1, hD1⟩ := hB
  rw [ht] at hP1
  obtain ⟨h1, h2⟩ := g_joinS hP hD hk1 hFc hP1 hD1
  exact kk r u hw.1 H1 locs1 hw.2 h1 h2 hS1
theorem gk_xz {post : Int32 → St → Prop} {xp : String → St → Prop} (hP : va_P D vwCl (wr ++ wc) H) (hD : va_D A (wr ++ wc)) (hS : va_S A s.heap H locs) (hA : ∀ q, s.heap.size ≤ q → A q)
    (hr : vx_Run p l e R s m args below meth c H locs cells slots mc ms (F0 m pc ls st0) rest (gT (gQz D tys wfc post (va_A wc H.size)) (va_A wc H.size) a9) (gXC D tys wfc xp (va_A wc H.size)) (va_A wc H.size))
    (kx : ∀ (E : String) (S1 : St) (ce : Cell) (q9 : Addr) (H1 : Heap) (locs1 : List Loc), xp E S1 → va_P D vwCl (wr ++ wfc S1) H1 → va_D A (wr ++ wfc S1) → va_S A s.heap H1 locs1 → H1[q9]? = some ce → ce.vm = .none → s.vm.findClass E = some ce.cls → vx_W p l e R s m args below meth c H1 locs1 (cells + mc) (slots + ms) Q (F0 m pc ls rest) q9)
    (kk : ∀ (r : Int32) (S1 : St) (hz : r = 0 ∨ r = 1) (H1 : Heap) (locs1 : List Loc), post r S1 → va_P D vwCl (wr ++ wfc S1) H1 → va_D A (wr ++ wfc S1) → va_S A s.heap H1 locs1 → W p l e R s m args below meth c H1 locs1 cells slots Q (F0 m (pc + 3) ls (.int r :: rest))) :
    W p l e R s m args below meth c H locs cells slots Q (F0 m pc ls st0) := by
  have hFc := g_freeS hD hS hA
  intro T hT X
  rcases hr T hT X with ⟨v, st₀, t, T', L, h0, X', hL, e1, e2, ⟨⟨⟨r, u, hv, hp, hb⟩, hF⟩, L9, hE9, -⟩, st⟩ | ⟨q, st₀, t, T', L, E, ce, h0, X', hL, e1, e2, ⟨u, hp, hb, hF⟩, hce, hcv, hcl, st⟩
  · cases hv
    obtain ⟨k1, k2, k3⟩ := vx_keep h0 e1 hS (fun q _ h => hFc q h) hFc hL hF
    have X9 := g_tight X hT X' h0 e1 hE9
    obtain ⟨hP1, hK1, hD1⟩ := hb
    rw [← e1] at hP1
    obtain ⟨h1, h2⟩ := g_joinS hP hD k2 hFc hP1 hD1
    obtain ⟨t2, a1, b1⟩ := kk r u hp.1 T'.heap (locs ++ L) hp.2 h1 h2 k3 T' rfl X9
    exact ⟨t2, st t2 a1, b1⟩
  · obtain ⟨k1, k2, k3⟩ := vx_keep h0 e1 hS (fun q _ h => hFc q h) hFc hL hF
    obtain ⟨e3, hP1, hK1, hD1⟩ := hb
    subst e3
    rw [← e1] at hP1
    obtain ⟨h1, h2⟩ := g_joinS hP hD k2 hFc hP1 hD1
    obtain ⟨t2, a1, b1⟩ := kx u.1 u.2 ce q T'.heap (locs ++ L) hp h1 h2 k3 (by rw [e1]; exact hce) hcv hcl T' rfl X'
    exact ⟨t2, st.trans a1, b1⟩
theorem gk_l {post : Int64 → St → Prop} (hP : va_P D vwCl (wr ++ wc) H) (hD : va_D A (wr ++ wc)) (hS : va_S A s.heap H locs) (hA : ∀ q, s.heap.size ≤ q → A q)
    (hr : va_Run p l e R s m args below meth c H locs cells slots mc ms (F0 m pc ls st0) rest (gQl D tys wfc post (va_A wc H.size) a9) (va_A wc H.size))
    (kk : ∀ (r : Int64) (S1 : St) (H1 : Heap) (locs1 : List Loc), post r S1 → va_P D vwCl (wr ++ wfc S1) H1 → va_D A (wr ++ wfc S1) → va_S A s.heap H1 locs1 → W p l e R s m args below meth c H1 locs1 (cells + mc) (slots + ms) Q (F0 m (pc + 3) ls (.long r :: rest))) :
    W p l e R s m args below meth c H locs cells slots Q (F0 m pc ls st0) := by
  have hFc := g_freeS hD hS hA
  refine va_calll hr hS (fun q _ h => hFc q h) hFc (fun r u t H1 locs1 ht hvm hw hB hz1 hk1 hS1 => ?_)
  obtain ⟨hP1, hK1, hD1⟩ := hB
  rw [ht] at hP1
  obtain ⟨h1, h2⟩ := g_joinS hP hD hk1 hFc hP1 hD1
  exact kk r u H1 locs1 hw h1 h2 hS1
theorem gk_xl {post : Int64 → St → Prop} {xp : String → St → Prop} (hP : va_P D vwCl (wr ++ wc) H) (hD : va_D A (wr ++ wc)) (hS : va_S A s.heap H locs) (hA : ∀ q, s.heap.size ≤ q → A q)
    (hr : vx_Run p l e R s m args below meth c H locs cells slots mc ms (F0 m pc ls st0) rest (gT (gQl D tys wfc post (va_A wc H.size)) (va_A wc H.size) a9) (gXC D tys wfc xp (va_A wc H.size)) (va_A wc H.size))
    (kx : ∀ (E : String) (S1 : St) (ce : Cell) (q9 : Addr) (H1 : Heap) (locs1 : List Loc), xp E S1 → va_P D vwCl (wr ++ wfc S1) H1 → va_D A (wr ++ wfc S1) → va_S A s.heap H1 locs1 → H1[q9]? = some ce → ce.vm = .none → s.vm.findClass E = some ce.cls → vx_W p l e R s m args below meth c H1 locs1 (cells + mc) (slots + ms) Q (F0 m pc ls rest) q9)
    (kk : ∀ (r : Int64) (S1 : St) (H1 : Heap) (locs1 : List Loc), post r S1 → va_P D vwCl (wr ++ wfc S1) H1 → va_D A (wr ++ wfc S1) → va_S A s.heap H1 locs1 → W p l e R s m args below meth c H1 locs1 cells slots Q (F0 m (pc + 3) ls (.long r :: rest))) :
    W p l e R s m args below meth c H locs cells slots Q (F0 m pc ls st0) := by
  have hFc := g_freeS hD hS hA
  intro T hT X
  rcases hr T hT X with ⟨v, st₀, t, T', L, h0, X', hL, e1, e2, ⟨⟨⟨r, u, hv, hp, hb⟩, hF⟩, L9, hE9, -⟩, st⟩ | ⟨q, st₀, t, T', L, E, ce, h0, X', hL, e1, e2, ⟨u, hp, hb, hF⟩, hce, hcv, hcl, st⟩
  · cases hv
    obtain ⟨k1, k2, k3⟩ := vx_keep h0 e1 hS (fun q _ h => hFc q h) hFc hL hF
    have X9 := g_tight X hT X' h0 e1 hE9
    obtain ⟨hP1, hK1, hD1⟩ := hb
    rw [← e1] at hP1
    obtain ⟨h1, h2⟩ := g_joinS hP hD k2 hFc hP1 hD1
    obtain ⟨t2, a1, b1⟩ := kk r u T'.heap (locs ++ L) hp h1 h2 k3 T' rfl X9
    exact ⟨t2, st t2 a1, b1⟩
  · obtain ⟨k1, k2, k3⟩ := vx_keep h0 e1 hS (fun q _ h => hFc q h) hFc hL hF
    obtain ⟨e3, hP1, hK1, hD1⟩ := hb
    subst e3
    rw [← e1] at hP1
    obtain ⟨h1, h2⟩ := g_joinS hP hD k2 hFc hP1 hD1
    obtain ⟨t2, a1, b1⟩ := kx u.1 u.2 ce q T'.heap (locs ++ L) hp h1 h2 k3 (by rw [e1]; exact hce) hcv hcl T' rfl X'
    exact ⟨t2, st.trans a1, b1⟩
theorem gk_v {post : St → Prop} (hP : va_P D vwCl (wr ++ wc) H) (hD : va_D A (wr ++ wc)) (hS : va_S A s.heap H locs) (hA : ∀ q, s.heap.size ≤ q → A q)
    (hr : va_Run p l e R s m args below meth c H locs cells slots mc ms (F0 m pc ls st0) rest (gQv D tys wfc post (va_A wc H.size) a9) (va_A wc H.size))
    (kk : ∀ (S1 : St) (H1 : Heap) (locs1 : List Loc), post S1 → va_P D vwCl (wr ++ wfc S1) H1 → va_D A (wr ++ wfc S1) → va_S A s.heap H1 locs1 → W p l e R s m args below meth c H1 locs1 (cells + mc) (slots + ms) Q (F0 m (pc + 3) ls (rest))) :
    W p l e R s m args below meth c H locs cells slots Q (F0 m pc ls st0) := by
  have hFc := g_freeS hD hS hA
  refine va_callv hr hS (fun q _ h => hFc q h) hFc (fun u t H1 locs1 ht hvm hw hB hz1 hk1 hS1 => ?_)
  obtain ⟨hP1, hK1, hD1⟩ := hB
  rw [ht] at hP1
  obtain ⟨h1, h2⟩ := g_joinS hP hD hk1 hFc hP1 hD1
  exact kk u H1 locs1 hw h1 h2 hS1
theorem gk_xv {post : St → Prop} {xp : String → St → Prop} (hP : va_P D vwCl (wr ++ wc) H) (hD : va_D A (wr ++ wc)) (hS : va_S A s.heap H locs) (hA : ∀ q, s.heap.size ≤ q → A q)
    (hr : vx_Run p l e R s m args below meth c H locs cells slots mc ms (F0 m pc ls st0) rest (gT (gQv D tys wfc post (va_A wc H.size)) (va_A wc H.size) a9) (gXC D tys wfc xp (va_A wc H.size)) (va_A wc H.size))
    (kx : ∀ (E : String) (S1 : St) (ce : Cell) (q9 : Addr) (H1 : Heap) (locs1 : List Loc), xp E S1 → va_P D vwCl (wr ++ wfc S1) H1 → va_D A (wr ++ wfc S1) → va_S A s.heap H1 locs1 → H1[q9]? = some ce → ce.vm = .none → s.vm.findClass E = some ce.cls → vx_W p l e R s m args below meth c H1 locs1 (cells + mc) (slots + ms) Q (F0 m pc ls rest) q9)
    (kk : ∀ (S1 : St) (H1 : Heap) (locs1 : List Loc), post S1 → va_P D vwCl (wr ++ wfc S1) H1 → va_D A (wr ++ wfc S1) → va_S A s.heap H1 locs1 → W p l e R s m args below meth c H1 locs1 cells slots Q (F0 m (pc + 3) ls (rest))) :
    W p l e R s m args below meth c H locs cells slots Q (F0 m pc ls st0) := by
  have hFc := g_freeS hD hS hA
  intro T hT X
  rcases hr T hT X with ⟨v, st₀, t, T', L, h0, X', hL, e1, e2, ⟨⟨⟨u, hv, hp, hb⟩, hF⟩, L9, hE9, -⟩, st⟩ | ⟨q, st₀, t, T', L, E, ce, h0, X', hL, e1, e2, ⟨u, hp, hb, hF⟩, hce, hcv, hcl, st⟩
  · cases hv
    obtain ⟨k1, k2, k3⟩ := vx_keep h0 e1 hS (fun q _ h => hFc q h) hFc hL hF
    have X9 := g_tight X hT X' h0 e1 hE9
    obtain ⟨hP1, hK1, hD1⟩ := hb
    rw [← e1] at hP1
    obtain ⟨h1, h2⟩ := g_joinS hP hD k2 hFc hP1 hD1
    obtain ⟨t2, a1, b1⟩ := kk u T'.heap (locs ++ L) hp h1 h2 k3 T' rfl X9
    exact ⟨t2, st t2 a1, b1⟩
  · obtain ⟨k1, k2, k3⟩ := vx_keep h0 e1 hS (fun q _ h => hFc q h) hFc hL hF
    obtain ⟨e3, hP1, hK1, hD1⟩ := hb
    subst e3
    rw [← e1] at hP1
    obtain ⟨h1, h2⟩ := g_joinS hP hD k2 hFc hP1 hD1
    obtain ⟨t2, a1, b1⟩ := kx u.1 u.2 ce q T'.heap (locs ++ L) hp h1 h2 k3 (by rw [e1]; exact hce) hcv hcl T' rfl X'
    exact ⟨t2, st.trans a1, b1⟩
theorem gr_i {S : St} {v : Int32} {post : Int32 → St → Prop} (hx : p.tables.exec = Jvm.exec) (hb : c.code = cc) (hr : meth.sig.returnType = some .int) (hlocks : meth.locks = false) (hK : va_K D vwCl tys s) (hP : va_P D vwCl (wf S) H) (hD : va_D A (wf S)) (hS : va_S A s.heap H locs) (hw : post v S) (hc : cells ≤ mc) (hs : slots ≤ ms) (hdg : decode cc pc = .ok (.ireturn, 1)) :
    W p l e R s m args below meth c H locs cells slots (MQ below (gQi D tys wf post A) args s mc ms A) (F0 m pc ls [.int v]) := by
  refine W.widen hc hs ?_
  exact W.iret hx hb hr (fun t ht hW => ⟨⟨v, S, rfl, hw, by rw [ht]; exact hP, va_K.moved hW.alike hK, hD⟩, hS.F ht⟩) hS.2.2 hdg hlocks
theorem gx_i {S : St} {v : Int32} {post : Int32 → St → Prop} {XC : String → State → State → Prop} (hx : p.tables.exec = Jvm.exec) (hb : c.code = cc) (hr : meth.sig.returnType = some .int) (hlocks : meth.locks = false) (hK : va_K D vwCl tys s) (hP : va_P D vwCl (wf S) H) (hD : va_D A (wf S)) (hS : va_S A s.heap H locs) (hw : post v S) (hdg : decode cc pc = .ok (.ireturn, 1)) :
    W p l e R s m args below meth c H locs 0 0 (vx_MQ below (gT (gQi D tys wf post A) A) XC args s mc ms A) (F0 m pc ls [.int v]) := by
  intro T hT X
  obtain ⟨t, a1, o, b1, b2, b3, L, b4, b5⟩ := gr_i (mc := 0) (ms := 0) hx hb hr hlocks hK hP hD hS hw (Nat.le_refl 0) (Nat.le_refl 0) hdg T hT X
  exact ⟨t, a1, o, b1, b2, Or.inl ⟨⟨b3, L, b4, b5⟩, L, ⟨b4.1, b4.2.1, b4.2.2.mono (Nat.zero_le _) (Nat.zero_le _)⟩, b5⟩⟩
theorem gr_l {S : St} {v : Int64} {post : Int64 → St → Prop} (hx : p.tables.exec = Jvm.exec) (hb : c.code = cc) (hr : meth.sig.returnType = some .long) (hlocks : meth.locks = false) (hK : va_K D vwCl tys s) (hP : va_P D vwCl (wf S) H) (hD : va_D A (wf S)) (hS : va_S A s.heap H locs) (hw : post v S) (hc : cells ≤ mc) (hs : slots ≤ ms) (hdg : decode cc pc = .ok (.lreturn, 1)) :
    W p l e R s m args below meth c H locs cells slots (MQ below (gQl D tys wf post A) args s mc ms A) (F0 m pc ls [.long v]) := by
  refine W.widen hc hs ?_
  exact W.lret hx hb hr (fun t ht hW => ⟨⟨v, S, rfl, hw, by rw [ht]; exact hP, va_K.moved hW.alike hK, hD⟩, hS.F ht⟩) hS.2.2 hdg hlocks
theorem gx_l {S : St} {v : Int64} {post : Int64 → St → Prop} {XC : String → State → State → Prop} (hx : p.tables.exec = Jvm.exec) (hb : c.code = cc) (hr : meth.sig.returnType = some .long) (hlocks : meth.locks = false) (hK : va_K D vwCl tys s) (hP : va_P D vwCl (wf S) H) (hD : va_D A (wf S)) (hS : va_S A s.heap H locs) (hw : post v S) (hdg : decode cc pc = .ok (.lreturn, 1)) :
    W p l e R s m args below meth c H locs 0 0 (vx_MQ below (gT (gQl D tys wf post A) A) XC args s mc ms A) (F0 m pc ls [.long v]) := by
  intro T hT X
  obtain ⟨t, a1, o, b1, b2, b3, L, b4, b5⟩ := gr_l (mc := 0) (ms := 0) hx hb hr hlocks hK hP hD hS hw (Nat.le_refl 0) (Nat.le_refl 0) hdg T hT X
  exact ⟨t, a1, o, b1, b2, Or.inl ⟨⟨b3, L, b4, b5⟩, L, ⟨b4.1, b4.2.1, b4.2.2.mono (Nat.zero_le _) (Nat.zero_le _)⟩, b5⟩⟩
theorem gr_v {S : St} {post : St → Prop} (hx : p.tables.exec = Jvm.exec) (hb : c.code = cc) (hr : meth.sig.returnType = none) (hlocks : meth.locks = false) (hK : va_K D vwCl tys s) (hP : va_P D vwCl (wf S) H) (hD : va_D A (wf S)) (hS : va_S A s.heap H locs) (hw : post S) (hc : cells ≤ mc) (hs : slots ≤ ms) (hdg : decode cc pc = .ok (.return_, 1)) :
    W p l e R s m args below meth c H locs cells slots (MQ below (gQv D tys wf post A) args s mc ms A) (F0 m pc ls []) := by
  refine W.widen hc hs ?_
  exact W.vret hx hb hr (fun t ht hW => ⟨⟨S, rfl, hw, by rw [ht]; exact hP, va_K.moved hW.alike hK, hD⟩, hS.F ht⟩) hS.2.2 hdg hlocks
theorem gx_v {S : St} {post : St → Prop} {XC : String → State → State → Prop} (hx : p.tables.exec = Jvm.exec) (hb : c.code = cc) (hr : meth.sig.returnType = none) (hlocks : meth.locks = false) (hK : va_K D vwCl tys s) (hP : va_P D vwCl (wf S) H) (hD : va_D A (wf S)) (hS : va_S A s.heap H locs) (hw : post S) (hdg : decode cc pc = .ok (.return_, 1)) :
    W p l e R s m args below meth c H locs 0 0 (vx_MQ below (gT (gQv D tys wf post A) A) XC args s mc ms A) (F0 m pc ls []) := by
  intro T hT X
  obtain ⟨t, a1, o, b1, b2, b3, L, b4, b5⟩ := gr_v (mc := 0) (ms := 0) hx hb hr hlocks hK hP hD hS hw (Nat.le_refl 0) (Nat.le_refl 0) hdg T hT X
  exact ⟨t, a1, o, b1, b2, Or.inl ⟨⟨b3, L, b4, b5⟩, L, ⟨b4.1, b4.2.1, b4.2.2.mono (Nat.zero_le _) (Nat.zero_le _)⟩, b5⟩⟩
theorem gr_z {S : St} {v : Int32} {post : Int32 → St → Prop} (hx : p.tables.exec = Jvm.exec) (hb : c.code = cc) (hr : meth.sig.returnType = some .boolean) (hlocks : meth.locks = false) (hz : v = 0 ∨ v = 1) (hK : va_K D vwCl tys s) (hP : va_P D vwCl (wf S) H) (hD : va_D A (wf S)) (hS : va_S A s.heap H locs) (hw : post v S) (hc : cells ≤ mc) (hs : slots ≤ ms) (hdg : decode cc pc = .ok (.ireturn, 1)) :
    W p l e R s m args below meth c H locs cells slots (MQ below (gQz D tys wf post A) args s mc ms A) (F0 m pc ls [.int v]) := by
  refine W.widen hc hs ?_
  exact W.zret hx hb hr (by rcases hz with rfl | rfl <;> rfl) (fun t ht hW => ⟨⟨v, S, rfl, ⟨hz, hw⟩, by rw [ht]; exact hP, va_K.moved hW.alike hK, hD⟩, hS.F ht⟩) hS.2.2 hdg hlocks
/-- an exception of a callee goes on to the caller -/
theorem gx_out {S : St} {E : String} {ce : Cell} {q : Addr} {Qc : Array Value → State → Outcome → State → Prop} {xp : String → St → Prop} (hEx : ∀ x ∈ c.exceptionTable.toList, False) (hlocks : meth.locks = false) (hce : H[q]? = some ce) (hcv : ce.vm = .none) (hcl : s.vm.findClass E = some ce.cls) (hK : va_K D vwCl tys s) (hw : xp E S) (hP : va_P D vwCl (wf S) H) (hD : va_D A (wf S)) (hS : va_S A s.heap H locs) (hc : cells ≤ mc) (hs : slots ≤ ms) :
    vx_W p l e R s m args below meth c H locs cells slots (vx_MQ below Qc (gXC D tys wf xp A) args s mc ms A) (F0 m pc ls rest) q :=
  vx_out (fun x hx => (hEx x hx).elim) hlocks hce hcv hcl (fun t ht ha => ⟨(E, S), hw, ⟨rfl, by rw [ht]; exact hP, va_K.moved ha hK, hD⟩, hS.F ht⟩) hS.2.2 hc hs
/-- throw new E("text") -/
theorem g_throw {S : St} {own cls text : String} {ik is ic : Nat} {Qc : Array Value → State → Outcome → State → Prop} {xp : String → St → Prop} (hx : p.tables.exec = Jvm.exec) (hb : c.code = cc) (hl9 : l.stackTraces = false) (hown : s.vm.findClass own = some m.cls)
    (hk : (Cond.classLink own ik cls).before args s = true) (hini : (Cond.initialized cls).before args s = true) (hstr : ∃ sa, vk_R own is text sa s) (hat : ∀ w ∈ vx_atS own ic cls ["java/lang/RuntimeException", "java/lang/Exception"], w.before args s = true)
    (hcls : Bundle.fit cls = true) (hnames : ∀ n ∈ ["java/lang/RuntimeException", "java/lang/Exception"], Bundle.fit n = true)
    (hgood : ∀ w ∈ Cond.classLink own ik cls :: Cond.initialized cls :: vx_atS own ic cls ["java/lang/RuntimeException", "java/lang/Exception"], vx_ot w = true)
    (hG : gGF A s) (hK : va_K D vwCl tys s) (hP : va_P D vwCl (wf S) H) (hD : va_D A (wf S)) (hS : va_S A s.heap H locs) (hsize : ls.size = c.maxLocals)
    (d0 : decode cc pc = .ok (.new ik, 3)) (d3 : decode cc (pc + 3) = .ok (.dup, 1)) (d4 : decode cc (pc + 4) = .ok (.ldc is, 2)) (d6 : decode cc (pc + 6) = .ok (.invokespecial ic, 3)) (d9 : decode cc (pc + 9) = .ok (.athrow, 1))
    (hEx : ∀ x ∈ c.exceptionTable.toList, False) (hRf : 5 < R.frames) (hRl : (rest.map fun v => v.category).sum + 82 ≤ R.locals) (hRc : cells + 1 ≤ R.cells) (hRs : slots + 6 ≤ R.slots) (hlocks : meth.locks = false) (hw : xp cls S) (hc : cells + 1 ≤ mc) (hs : slots + 6 ≤ ms) :
    W p l e R s m args below meth c H locs cells slots (vx_MQ below Qc (gXC D tys wf xp A) args s mc ms A) (F0 m pc ls rest) := by
  obtain ⟨sa, hstr⟩ := hstr
  exact vx_throwS (names := ["java/lang/RuntimeException", "java/lang/Exception"]) hx hb hl9 hown hcls hnames hk hini hstr hat hgood hG.2.2.2.1 hG.2.2.2.2 hS hsize d0 d3 d4 d6 d9 (fun x hx => (hEx x hx).elim) hRf hRl hRc hRs hlocks
    (fun t ha hsz hk => ⟨(cls, S), hw, ⟨rfl, hP.kept (fun k q hq => hk q.1 (hP k q hq).lt), va_K.moved ha hK, hD⟩, Nat.le_trans hS.1 hsz, fun q h1 h2 => (hk q (Nat.lt_of_lt_of_le h1 hS.1)).trans (hS.2.1 q h1 h2)⟩) hS.2.2 hc hs
theorem g_iast {H0 : Heap} {S' : St} {a : Nat} (hexec : p.tables.exec = Jvm.exec) (hb : c.code = cc) (hK : va_K D vwCl tys s) (hP : va_P D vwCl w H) (hD : va_D A w) (hS : va_S A H0 H locs) (q0 t0 : Nat) {cA : ClassId} {n : Nat} {f : Nat → Int32} (ha : w[q0]? = some (a, .inl (cA, n, .inl f))) (ht : tys[t0]? = some (cA, .int)) {i : Int32} {x : Int32} (hset : w.set q0 (a, .inl (cA, n, .inl (upd f i.toNatClampNeg x))) = wf S') (hin : vp_in i n) (hdg : decode cc pc = .ok (.iastore, 1))
    (kk : ∀ (S1 : St) (e1 : S1 = S') (H1 : Heap) (locs1 : List Loc), va_P D vwCl (wf S1) H1 → va_D A (wf S1) → va_S A H0 H1 locs1 → W p l e R s m args below meth c H1 locs1 cells slots Q (F0 m (pc + 1) ls rest)) : W p l e R s m args below meth c H locs cells slots Q (F0 m pc ls (.int x :: .int i :: .ref a :: rest)) :=
  va_iast hexec hb hK hP hD hS q0 t0 ha ht hin hdg (fun H1 locs1 h1 h2 h3 => kk S' rfl H1 locs1 (hset ▸ h1) (hset ▸ h2) h3)
theorem g_last {H0 : Heap} {S' : St} {a : Nat} (hexec : p.tables.exec = Jvm.exec) (hb : c.code = cc) (hK : va_K D vwCl tys s) (hP : va_P D vwCl w H) (hD : va_D A w) (hS : va_S A H0 H locs) (q0 t0 : Nat) {cA : ClassId} {n : Nat} {f : Nat → Int64} (ha : w[q0]? = some (a, .inl (cA, n, .inr (.inl f)))) (ht : tys[t0]? = some (cA, .long)) {i : Int32} {x : Int64} (hset : w.set q0 (a, .inl (cA, n, .inr (.inl (vp_updL f i.toNatClampNeg x)))) = wf S') (hin : vp_in i n) (hdg : decode cc pc = .ok (.lastore, 1))
    (kk : ∀ (S1 : St) (e1 : S1 = S') (H1 : Heap) (locs1 : List Loc), va_P D vwCl (wf S1) H1 → va_D A (wf S1) → va_S A H0 H1 locs1 → W p l e R s m args below meth c H1 locs1 cells slots Q (F0 m (pc + 1) ls rest)) : W p l e R s m args below meth c H locs cells slots Q (F0 m pc ls (.long x :: .int i :: .ref a :: rest)) :=
  va_last hexec hb hK hP hD hS q0 t0 ha ht hin hdg (fun H1 locs1 h1 h2 h3 => kk S' rfl H1 locs1 (hset ▸ h1) (hset ▸ h2) h3)
theorem g_put {H0 : Heap} {S' : St} {a : Nat} (hexec : p.tables.exec = Jvm.exec) (hb : c.code = cc) {own ref C : String} {T : u_T} {N ci index : Nat} {Ts : List Cond} (hts : ∀ w ∈ Ts, w.before args s = true) (hin : ∀ w ∈ u_ws C T N, w ∈ Ts) (ty0 : Nat → FieldType) (hty : ∀ k, k < N → parseFieldDescriptor (T k).2.2.1 = some (ty0 k)) (hnm : ∀ a, a < N → ∀ b, b < N → a ≠ b → (T a).2.1 ≠ (T b).2.1) (hown : s.vm.findClass own = some m.cls) (hK : va_K D vwCl tys s) (hP : va_P D vwCl w H) (hD : va_D A w) (hS0 : va_S A H0 H locs) (q0 : Nat) {fs : List Value} (he : w[q0]? = some (a, .inr (ci, fs))) (hc : vwCl[ci]? = some (C, T, N)) (k : Nat) (hk : k < N) (hlink : (Cond.fieldLink own index ref (T k).2.1 (T k).2.2.1).before args s = true) (hsame : ∀ x, s.fieldFound? (T k).1 (T k).2.1 (T k).2.2.1 = some x → s.fieldFound? ref (T k).2.1 (T k).2.2.1 = some x) (hfin : (T k).2.2.2 = false) {ty : FieldType} {v : Value} (hd : parseFieldDescriptor (T k).2.2.1 = some ty) (hn : narrow ty v = v) (hfit : fits ty v = true) (hl : k < fs.length) (hset : w.set q0 (a, .inr (ci, fs.set k v)) = wf S')
    (hdg : decode cc pc = .ok (.putfield index, 3)) (kk : ∀ (S1 : St) (e1 : S1 = S') (H1 : Heap) (locs1 : List Loc), va_P D vwCl (wf S1) H1 → va_D A (wf S1) → va_S A H0 H1 locs1 → W p l e R s m args below meth c H1 locs1 cells slots Q (F0 m (pc + 3) ls rest)) : W p l e R s m args below meth c H locs cells slots Q (F0 m pc ls (v :: .ref a :: rest)) :=
  va_put hexec hb hts hin ty0 hty hnm hown hK hP hD hS0 q0 he hc k hk hlink hsame hfin hd hn hfit hl hdg (fun H1 locs1 h1 h2 h3 => kk S' rfl H1 locs1 (hset ▸ h1) (hset ▸ h2) h3)
/-- a new array whose sort is known -/
theorem g_newa {H0 : Heap} (hexec : p.tables.exec = Jvm.exec) (hb : c.code = cc) {atype : ArrayType} (harr : (Cond.arrayClass (newarray.typeOf atype)).before args s = true) {ty : FieldType} (hty : newarray.typeOf atype = ty) {cA : ClassId} (hcA : s.vm.findClass ("[" ++ ty.toString) = some cA) (hP : va_P D vwCl w H) (hD : va_D A w) (hS : va_S A H0 H locs) (hA : ∀ q, H0.size ≤ q → A q)
    {n : Int32} {N' : Nat} {a0 : vp_A} (ha : vp_cell cA a0 = arrV cA N' (fun _ => defaultValue ty)) (hn : ¬ n < 0) (hN : n.toNatClampNeg = N') (hbytes : N' * componentBytes ty ≤ 536870912) (hcells : cells + 1 ≤ R.cells) (hslots : slots + N' ≤ R.slots) (hdg : decode cc pc = .ok (.newarray atype, 2))
    (kk : ∀ (q : Nat) (H1 : Heap), va_P D vwCl (w ++ [(q, .inl (cA, a0))]) H1 → va_D A (w ++ [(q, .inl (cA, a0))]) → va_S A H0 H1 locs → W p l e R s m args below meth c H1 locs (cells + 1) (slots + N') Q (F0 m (pc + 2) ls (.ref q :: rest))) : W p l e R s m args below meth c H locs cells slots Q (F0 m pc ls (.int n :: rest)) := by
  subst hty
  refine va_newaK hexec hb harr rfl hdg rfl hn hN hbytes hcells hslots rfl fun H1 cB e1 z1 o1 hAr hNm => ?_
  have hcc : cB = cA := Option.some.inj (hNm.symm.trans hcA)
  subst hcc
  have hk : ∀ (k : Nat) (x : Nat × va_E), w[k]? = some x → H1[x.1]? = H[x.1]? := fun k x hx => o1 x.1 ((hP k x hx).lt)
  refine kk H.size H1 ((hP.kept hk).app (fun k x hx => ?_)) (hD.push hP rfl (hA _ hS.1)) ⟨Nat.le_trans hS.1 (by omega), fun x h1 h2 => (o1 x (Nat.lt_of_lt_of_le h1 hS.1)).trans (hS.2.1 x h1 h2), hS.2.2⟩
  match k, hx with
  | 0, hx => cases hx; show H1[H.size]? = some (vp_cell _ _); rw [e1, ha]
  | k + 1, hx => simp at hx
end GCALL
/-! a body gives a contract -/
section GOF
variable {l : Launch} {y : MethodName} {ws ws' : List Cond} {rm : Room} {D : va_G} {tys : List (ClassId × FieldType)} {av : List Value} {w0 : va_W} {St : Type} {wf : St → va_W} {cc : ByteArray} {maxL : Nat} {ret : Option FieldType} {own : String}
theorem g_ofMi {post : Int32 → St → Prop} (hy : plainName y.cls = true) (hw : ws = Cond.code y cc maxL ret :: ws') (hcls : y.cls = own) (hlen : (lg_sl av).length ≤ maxL)
    (body : ∀ (p : Program) (e : Env) (s : State) (m : MethodId) (below : List Frame) (meth : Method) (c : Code) (A : Nat → Prop) (H : Heap) (locs : List Loc) (ls : Array Slot), CallFix p m c cc maxL s av.toArray ws own → meth.sig.returnType = ret → meth.locks = false → va_K D vwCl tys s → gGF A s → (∀ q, s.heap.size ≤ q → A q) → va_P D vwCl w0 H → va_D A w0 → va_S A s.heap H locs → lv_has ls maxL (lv_args 0 av) →
      W p l e (headSpec ws rm).room s m av.toArray below meth c H locs 0 0 (MQ below (gQi D tys wf post A) av.toArray s rm.cells rm.slots A) (F0 m 0 ls [])) : gMi l y ws rm D tys av w0 wf post := by
  intro sz
  refine Met.ofW (cc := cc) (maxL := maxL) (ret := ret) hy hw ?_
  intro p e s m args below meth c s₁ B hml hv
  obtain ⟨rfl, hsz, hP, hK, hD0, hG⟩ := hv
  subst hsz
  have hts := atoms_spec (ws := ws) B.pre
  have hown : s.vm.findClass own = some m.cls := by rw [← hcls]; exact findClass_of_methodNamed B.named
  have hl := lv_entry av (n := maxL) hlen
  rw [lg_entry_eq]
  refine body p e s m below meth c (va_A w0 s.heap.size) s.heap [] _ ⟨B.exec, B.bytes, hml, hown, hts⟩ B.returns B.notSynchronized hK hG (fun q h => Or.inr h) hP hD0.self va_S.rf hl
theorem g_ofXi {post : Int32 → St → Prop} {xp : String → St → Prop} (hy : plainName y.cls = true) (hw : ws = Cond.code y cc maxL ret :: ws') (hcls : y.cls = own) (hlen : (lg_sl av).length ≤ maxL)
    (body : ∀ (p : Program) (e : Env) (s : State) (m : MethodId) (below : List Frame) (meth : Method) (c : Code) (A : Nat → Prop) (H : Heap) (locs : List Loc) (ls : Array Slot), CallFix p m c cc maxL s av.toArray ws own → meth.sig.returnType = ret → meth.locks = false → (∀ x ∈ c.exceptionTable.toList, False) → va_K D vwCl tys s → gGF A s → (∀ q, s.heap.size ≤ q → A q) → va_P D vwCl w0 H → va_D A w0 → va_S A s.heap H locs → lv_has ls maxL (lv_args 0 av) →
      W p l e (headSpec ws rm).room s m av.toArray below meth c H locs 0 0 (vx_MQ below (gT (gQi D tys wf post A) A) (gXC D tys wf xp A) av.toArray s rm.cells rm.slots A) (F0 m 0 ls [])) : gXi l y ws rm D tys av w0 wf post xp := by
  intro sz
  refine vx_ofW (cc := cc) (maxL := maxL) (ret := ret) hy hw ?_
  intro p e s m args below meth c s₁ B hml hEx hv
  obtain ⟨rfl, hsz, hP, hK, hD0, hG⟩ := hv
  subst hsz
  have hts := atoms_spec (ws := ws) B.pre
  have hown : s.vm.findClass own = some m.cls := by rw [← hcls]; exact findClass_of_methodNamed B.named
  have hl := lv_entry av (n := maxL) hlen
  rw [lg_entry_eq]
  refine body p e s m below meth c (va_A w0 s.heap.size) s.heap [] _ ⟨B.exec, B.bytes, hml, hown, hts⟩ B.returns B.notSynchronized hEx hK hG (fun q h => Or.inr h) hP hD0.self va_S.rf hl
theorem g_ofWi {post : Int32 → St → Prop} {hh : List (Nat × Nat × Nat × Nat)} (hy : plainName y.cls = true) (hw : ws = Cond.codeWith y cc maxL ret hh :: ws') (hcls : y.cls = own) (hlen : (lg_sl av).length ≤ maxL)
    (body : ∀ (p : Program) (e : Env) (s : State) (m : MethodId) (below : List Frame) (meth : Method) (c : Code) (A : Nat → Prop) (H : Heap) (locs : List Loc) (ls : Array Slot), CallFix p m c cc maxL s av.toArray ws own → meth.sig.returnType = ret → meth.locks = false → c.exceptionTable.toList = tableOf hh → va_K D vwCl tys s → gGF A s → (∀ q, s.heap.size ≤ q → A q) → va_P D vwCl w0 H → va_D A w0 → va_S A s.heap H locs → lv_has ls maxL (lv_args 0 av) →
      W p l e (headSpec ws rm).room s m av.toArray below meth c H locs 0 0 (MQ below (gQi D tys wf post A) av.toArray s rm.cells rm.slots A) (F0 m 0 ls [])) : gMi l y ws rm D tys av w0 wf post := by
  intro sz
  refine va_MetW (cc := cc) (maxL := maxL) (ret := ret) (hh := hh) hy hw ?_
  intro p e s m args below meth c s₁ B hml hv
  obtain ⟨rfl, hsz, hP, hK, hD0, hG⟩ := hv
  subst hsz
  have hts := atoms_spec (ws := ws) B.pre
  have hown : s.vm.findClass own = some m.cls := by rw [← hcls]; exact findClass_of_methodNamed B.named
  have hl := lv_entry av (n := maxL) hlen
  rw [lg_entry_eq]
  refine body p e s m below meth c (va_A w0 s.heap.size) s.heap [] _ ⟨B.exec, B.bytes, hml, hown, hts⟩ B.returns B.notSynchronized (vx_table (x := y) B (hts _ (by rw [hw]; exact List.mem_cons_self))) hK hG (fun q h => Or.inr h) hP hD0.self va_S.rf hl
theorem g_ofMz {post : Int32 → St → Prop} (hy : plainName y.cls = true) (hw : ws = Cond.code y cc maxL ret :: ws') (hcls : y.cls = own) (hlen : (lg_sl av).length ≤ maxL)
    (body : ∀ (p : Program) (e : Env) (s : State) (m : MethodId) (below : List Frame) (meth : Method) (c : Code) (A : Nat → Prop) (H : Heap) (locs : List Loc) (ls : Array Slot), CallFix p m c cc maxL s av.toArray ws own → meth.sig.returnType = ret → meth.locks = false → va_K D vwCl tys s → gGF A s → (∀ q, s.heap.size ≤ q → A q) → va_P D vwCl w0 H → va_D A w0 → va_S A s.heap H locs → lv_has ls maxL (lv_args 0 av) →
      W p l e (headSpec ws rm).room s m av.toArray below meth c H locs 0 0 (MQ below (gQz D tys wf post A) av.toArray s rm.cells rm.slots A) (F0 m 0 ls [])) : gMz l y ws rm D tys av w0 wf post := by
  intro sz
  refine Met.ofW (cc := cc) (maxL := maxL) (ret := ret) hy hw ?_
  intro p e s m args below meth c s₁ B hml hv
  obtain ⟨rfl, hsz, hP, hK, hD0, hG⟩ := hv
  subst hsz
  have hts := atoms_spec (ws := ws) B.pre
  have hown : s.vm.findClass own = some m.cls := by rw [← hcls]; exact findClass_of_methodNamed B.named
  have hl := lv_entry av (n := maxL) hlen
  rw [lg_entry_eq]
  refine body p e s m below meth c (va_A w0 s.heap.size) s.heap [] _ ⟨B.exec, B.bytes, hml, hown, hts⟩ B.returns B.notSynchronized hK hG (fun q h => Or.inr h) hP hD0.self va_S.rf hl
theorem g_ofXz {post : Int32 → St → Prop} {xp : String → St → Prop} (hy : plainName y.cls = true) (hw : ws = Cond.code y cc maxL ret :: ws') (hcls : y.cls = own) (hlen : (lg_sl av).length ≤ maxL)
    (body : ∀ (p : Program) (e : Env) (s : State) (m : MethodId) (below : List Frame) (meth : Method) (c : Code) (A : Nat → Prop) (H : Heap) (locs : List Loc) (ls : Array Slot), CallFix p m c cc maxL s av.toArray ws own → meth.sig.returnType = ret → meth.locks = false → (∀ x ∈ c.exceptionTable.toList, False) → va_K D vwCl tys s → gGF A s → (∀ q, s.heap.size ≤ q → A q) → va_P D vwCl w0 H → va_D A w0 → va_S A s.heap H locs → lv_has ls maxL (lv_args 0 av) →
      W p l e (headSpec ws rm).room s m av.toArray below meth c H locs 0 0 (vx_MQ below (gT (gQz D tys wf post A) A) (gXC D tys wf xp A) av.toArray s rm.cells rm.slots A) (F0 m 0 ls [])) : gXz l y ws rm D tys av w0 wf post xp := by
  intro sz
  refine vx_ofW (cc := cc) (maxL := maxL) (ret := ret) hy hw ?_
  intro p e s m args below meth c s₁ B hml hEx hv
  obtain ⟨rfl, hsz, hP, hK, hD0, hG⟩ := hv
  subst hsz
  have hts := atoms_spec (ws := ws) B.pre
  have hown : s.vm.findClass own = some m.cls := by rw [← hcls]; exact findClass_of_methodNamed B.named
  have hl := lv_entry av (n := maxL) hlen
  rw [lg_entry_eq]
  refine body p e s m below meth c (va_A w0 s.heap.size) s.heap [] _ ⟨B.exec, B.bytes, hml, hown, hts⟩ B.returns B.notSynchronized hEx hK hG (fun q h => Or.inr h) hP hD0.self va_S.rf hl
theorem g_ofWz {post : Int32 → St → Prop} {hh : List (Nat × Nat × Nat × Nat)} (hy : plainName y.cls = true) (hw : ws = Cond.codeWith y cc maxL ret hh :: ws') (hcls : y.cls = own) (hlen : (lg_sl av).length ≤ maxL)
    (body : ∀ (p : Program) (e : Env) (s : State) (m : MethodId) (below : List Frame) (meth : Method) (c : Code) (A : Nat → Prop) (H : Heap) (locs : List Loc) (ls : Array Slot), CallFix p m c cc maxL s av.toArray ws own → meth.sig.returnType = ret → meth.locks = false → c.exceptionTable.toList = tableOf hh → va_K D vwCl tys s → gGF A s → (∀ q, s.heap.size ≤ q → A q) → va_P D vwCl w0 H → va_D A w0 → va_S A s.heap H locs → lv_has ls maxL (lv_args 0 av) →
      W p l e (headSpec ws rm).room s m av.toArray below meth c H locs 0 0 (MQ below (gQz D tys wf post A) av.toArray s rm.cells rm.slots A) (F0 m 0 ls [])) : gMz l y ws rm D tys av w0 wf post := by
  intro sz
  refine va_MetW (cc := cc) (maxL := maxL) (ret := ret) (hh := hh) hy hw ?_
  intro p e s m args below meth c s₁ B hml hv
  obtain ⟨rfl, hsz, hP, hK, hD0, hG⟩ := hv
  subst hsz
  have hts := atoms_spec (ws := ws) B.pre
  have hown : s.vm.findClass own = some m.cls := by rw [← hcls]; exact findClass_of_methodNamed B.named
  have hl := lv_entry av (n := maxL) hlen
  rw [lg_entry_eq]
  refine body p e s m below meth c (va_A w0 s.heap.size) s.heap [] _ ⟨B.exec, B.bytes, hml, hown, hts⟩ B.returns B.notSynchronized (vx_table (x := y) B (hts _ (by rw [hw]; exact List.mem_cons_self))) hK hG (fun q h => Or.inr h) hP hD0.self va_S.rf hl
theorem g_ofMl {post : Int64 → St → Prop} (hy : plainName y.cls = true) (hw : ws = Cond.code y cc maxL ret :: ws') (hcls : y.cls = own) (hlen : (lg_sl av).length ≤ maxL)
    (body : ∀ (p : Program) (e : Env) (s : State) (m : MethodId) (below : List Frame) (meth : Method) (c : Code) (A : Nat → Prop) (H : Heap) (locs : List Loc) (ls : Array Slot), CallFix p m c cc maxL s av.toArray ws own → meth.sig.returnType = ret → meth.locks = false → va_K D vwCl tys s → gGF A s → (∀ q, s.heap.size ≤ q → A q) → va_P D vwCl w0 H → va_D A w0 → va_S A s.heap H locs → lv_has ls maxL (lv_args 0 av) →
      W p l e (headSpec ws rm).room s m av.toArray below meth c H locs 0 0 (MQ below (gQl D tys wf post A) av.toArray s rm.cells rm.slots A) (F0 m 0 ls [])) : gMl l y ws rm D tys av w0 wf post := by
  intro sz
  refine Met.ofW (cc := cc) (maxL := maxL) (ret := ret) hy hw ?_
  intro p e s m args below meth c s₁ B hml hv
  obtain ⟨rfl, hsz, hP, hK, hD0, hG⟩ := hv
  subst hsz
  have hts := atoms_spec (ws := ws) B.pre
  have hown : s.vm.findClass own = some m.cls := by rw [← hcls]; exact findClass_of_methodNamed B.named
  have hl := lv_entry av (n := maxL) hlen
  rw [lg_entry_eq]
  refine body p e s m below meth c (va_A w0 s.heap.size) s.heap [] _ ⟨B.exec, B.bytes, hml, hown, hts⟩ B.returns B.notSynchronized hK hG (fun q h => Or.inr h) hP hD0.self va_S.rf hl
theorem g_ofXl {post : Int64 → St → Prop} {xp : String → St → Prop} (hy : plainName y.cls = true) (hw : ws = Cond.code y cc maxL ret :: ws') (hcls : y.cls = own) (hlen : (lg_sl av).length ≤ maxL)
    (body : ∀ (p : Program) (e : Env) (s : State) (m : MethodId) (below : List Frame) (meth : Method) (c : Code) (A : Nat → Prop) (H : Heap) (locs : List Loc) (ls : Array Slot), CallFix p m c cc maxL s av.toArray ws own → meth.sig.returnType = ret → meth.locks = false → (∀ x ∈ c.exceptionTable.toList, False) → va_K D vwCl tys s → gGF A s → (∀ q, s.heap.size ≤ q → A q) → va_P D vwCl w0 H → va_D A w0 → va_S A s.heap H locs → lv_has ls maxL (lv_args 0 av) →
      W p l e (headSpec ws rm).room s m av.toArray below meth c H locs 0 0 (vx_MQ below (gT (gQl D tys wf post A) A) (gXC D tys wf xp A) av.toArray s rm.cells rm.slots A) (F0 m 0 ls [])) : gXl l y ws rm D tys av w0 wf post xp := by
  intro sz
  refine vx_ofW (cc := cc) (maxL := maxL) (ret := ret) hy hw ?_
  intro p e s m args below meth c s₁ B hml hEx hv
  obtain ⟨rfl, hsz, hP, hK, hD0, hG⟩ := hv
  subst hsz
  have hts := atoms_spec (ws := ws) B.pre
  have hown : s.vm.findClass own = some m.cls := by rw [← hcls]; exact findClass_of_methodNamed B.named
  have hl := lv_entry av (n := maxL) hlen
  rw [lg_entry_eq]
  refine body p e s m below meth c (va_A w0 s.heap.size) s.heap [] _ ⟨B.exec, B.bytes, hml, hown, hts⟩ B.returns B.notSynchronized hEx hK hG (fun q h => Or.inr h) hP hD0.self va_S.rf hl
theorem g_ofWl {post : Int64 → St → Prop} {hh : List (Nat × Nat × Nat × Nat)} (hy : plainName y.cls = true) (hw : ws = Cond.codeWith y cc maxL ret hh :: ws') (hcls : y.cls = own) (hlen : (lg_sl av).length ≤ maxL)
    (body : ∀ (p : Program) (e : Env) (s : State) (m : MethodId) (below : List Frame) (meth : Method) (c : Code) (A : Nat → Prop) (H : Heap) (locs : List Loc) (ls : Array Slot), CallFix p m c cc maxL s av.toArray ws own → meth.sig.returnType = ret → meth.locks = false → c.exceptionTable.toList = tableOf hh → va_K D vwCl tys s → gGF A s → (∀ q, s.heap.size ≤ q → A q) → va_P D vwCl w0 H → va_D A w0 → va_S A s.heap H locs → lv_has ls maxL (lv_args 0 av) →
      W p l e (headSpec ws rm).room s m av.toArray below meth c H locs 0 0 (MQ below (gQl D tys wf post A) av.toArray s rm.cells rm.slots A) (F0 m 0 ls [])) : gMl l y ws rm D tys av w0 wf post := by
  intro sz
  refine va_MetW (cc := cc) (maxL := maxL) (ret := ret) (hh := hh) hy hw ?_
  intro p e s m args below meth c s₁ B hml hv
  obtain ⟨rfl, hsz, hP, hK, hD0, hG⟩ := hv
  subst hsz
  have hts := atoms_spec (ws := ws) B.pre
  have hown : s.vm.findClass own = some m.cls := by rw [← hcls]; exact findClass_of_methodNamed B.named
  have hl := lv_entry av (n := maxL) hlen
  rw [lg_entry_eq]
  refine body p e s m below meth c (va_A w0 s.heap.size) s.heap [] _ ⟨B.exec, B.bytes, hml, hown, hts⟩ B.returns B.notSynchronized (vx_table (x := y) B (hts _ (by rw [hw]; exact List.mem_cons_self))) hK hG (fun q h => Or.inr h) hP hD0.self va_S.rf hl
theorem g_ofMv {post : St → Prop} (hy : plainName y.cls = true) (hw : ws = Cond.code y cc maxL ret :: ws') (hcls : y.cls = own) (hlen : (lg_sl av).length ≤ maxL)
    (body : ∀ (p : Program) (e : Env) (s : State) (m : MethodId) (below : List Frame) (meth : Method) (c : Code) (A : Nat → Prop) (H : Heap) (locs : List Loc) (ls : Array Slot), CallFix p m c cc maxL s av.toArray ws own → meth.sig.returnType = ret → meth.locks = false → va_K D vwCl tys s → gGF A s → (∀ q, s.heap.size ≤ q → A q) → va_P D vwCl w0 H → va_D A w0 → va_S A s.heap H locs → lv_has ls maxL (lv_args 0 av) →
      W p l e (headSpec ws rm).room s m av.toArray below meth c H locs 0 0 (MQ below (gQv D tys wf post A) av.toArray s rm.cells rm.slots A) (F0 m 0 ls [])) : gMv l y ws rm D tys av w0 wf post := by
  intro sz
  refine Met.ofW (cc := cc) (maxL := maxL) (ret := ret) hy hw ?_
  intro p e s m args below meth c s₁ B hml hv
  obtain ⟨rfl, hsz, hP, hK, hD0, hG⟩ := hv
  subst hsz
  have hts := atoms_spec (ws := ws) B.pre
  have hown : s.vm.findClass own = some m.cls := by rw [← hcls]; exact findClass_of_methodNamed B.named
  have hl := lv_entry av (n := maxL) hlen
  rw [lg_entry_eq]
  refine body p e s m below meth c (va_A w0 s.heap.size) s.heap [] _ ⟨B.exec, B.bytes, hml, hown, hts⟩ B.returns B.notSynchronized hK hG (fun q h => Or.inr h) hP hD0.self va_S.rf hl
theorem g_ofXv {post : St → Prop} {xp : String → St → Prop} (hy : plainName y.cls = true) (hw : ws = Cond.code y cc maxL ret :: ws') (hcls : y.cls = own) (hlen : (lg_sl av).length ≤ maxL)
    (body : ∀ (p : Program) (e : Env) (s : State) (m : MethodId) (below : List Frame) (meth : Method) (c : Code) (A : Nat → Prop) (H : Heap) (locs : List Loc) (ls : Array Slot), CallFix p m c cc maxL s av.toArray ws own → meth.sig.returnType = ret → meth.locks = false → (∀ x ∈ c.exceptionTable.toList, False) → va_K D vwCl tys s → gGF A s → (∀ q, s.heap.size ≤ q → A q) → va_P D vwCl w0 H → va_D A w0 → va_S A s.heap H locs → lv_has ls maxL (lv_args 0 av) →
      W p l e (headSpec ws rm).room s m av.toArray below meth c H locs 0 0 (vx_MQ below (gT (gQv D tys wf post A) A) (gXC D tys wf xp A) av.toArray s rm.cells rm.slots A) (F0 m 0 ls [])) : gXv l y ws rm D tys av w0 wf post xp := by
  intro sz
  refine vx_ofW (cc := cc) (maxL := maxL) (ret := ret) hy hw ?_
  intro p e s m args below meth c s₁ B hml hEx hv
  obtain ⟨rfl, hsz, hP, hK, hD0, hG⟩ := hv
  subst hsz
  have hts := atoms_spec (ws := ws) B.pre
  have hown : s.vm.findClass own = some m.cls := by rw [← hcls]; exact findClass_of_methodNamed B.named
  have hl := lv_entry av (n := maxL) hlen
  rw [lg_entry_eq]
  refine body p e s m below meth c (va_A w0 s.heap.size) s.heap [] _ ⟨B.exec, B.bytes, hml, hown, hts⟩ B.returns B.notSynchronized hEx hK hG (fun q h => Or.inr h) hP hD0.self va_S.rf hl
theorem g_ofWv {post : St → Prop} {hh : List (Nat × Nat × Nat × Nat)} (hy : plainName y.cls = true) (hw : ws = Cond.codeWith y cc maxL ret hh :: ws') (hcls : y.cls = own) (hlen : (lg_sl av).length ≤ maxL)
    (body : ∀ (p : Program) (e : Env) (s : State) (m : MethodId) (below : List Frame) (meth : Method) (c : Code) (A : Nat → Prop) (H : Heap) (locs : List Loc) (ls : Array Slot), CallFix p m c cc maxL s av.toArray ws own → meth.sig.returnType = ret → meth.locks = false → c.exceptionTable.toList = tableOf hh → va_K D vwCl tys s → gGF A s → (∀ q, s.heap.size ≤ q → A q) → va_P D vwCl w0 H → va_D A w0 → va_S A s.heap H locs → lv_has ls maxL (lv_args 0 av) →
      W p l e (headSpec ws rm).room s m av.toArray below meth c H locs 0 0 (MQ below (gQv D tys wf post A) av.toArray s rm.cells rm.slots A) (F0 m 0 ls [])) : gMv l y ws rm D tys av w0 wf post := by
  intro sz
  refine va_MetW (cc := cc) (maxL := maxL) (ret := ret) (hh := hh) hy hw ?_
  intro p e s m args below meth c s₁ B hml hv
  obtain ⟨rfl, hsz, hP, hK, hD0, hG⟩ := hv
  subst hsz
  have hts := atoms_spec (ws := ws) B.pre
  have hown : s.vm.findClass own = some m.cls := by rw [← hcls]; exact findClass_of_methodNamed B.named
  have hl := lv_entry av (n := maxL) hlen
  rw [lg_entry_eq]
  refine body p e s m below meth c (va_A w0 s.heap.size) s.heap [] _ ⟨B.exec, B.bytes, hml, hown, hts⟩ B.returns B.notSynchronized (vx_table (x := y) B (hts _ (by rw [hw]; exact List.mem_cons_self))) hK hG (fun q h => Or.inr h) hP hD0.self va_S.rf hl
theorem g_ofIv {post : St → Prop} (hy : plainName y.cls = true) (hw : ws = Cond.code y cc maxL ret :: ws') (hcls : y.cls = own) (hlen : (lg_sl av).length ≤ maxL)
    (body : ∀ (p : Program) (e : Env) (s : State) (m : MethodId) (below : List Frame) (meth : Method) (c : Code) (A : Nat → Prop) (H : Heap) (locs : List Loc) (ls : Array Slot), CallFix p m c cc maxL s av.toArray ws own → meth.sig.returnType = ret → meth.locks = false → meth.name = y.name → va_K D vwCl tys s → gGF A s → (∀ q, s.heap.size ≤ q → A q) → va_P D vwCl w0 H → va_D A w0 → va_S A s.heap H locs → lv_has ls maxL (lv_args 0 av) →
      W p l e (headSpec ws rm).room s m av.toArray below meth c H locs 0 0 (MQ below (gQv D tys wf post A) av.toArray s rm.cells rm.slots A) (F0 m 0 ls [])) : gMv l y ws rm D tys av w0 wf post := by
  intro sz
  refine Met.ofW (cc := cc) (maxL := maxL) (ret := ret) hy hw ?_
  intro p e s m args below meth c s₁ B hml hv
  obtain ⟨rfl, hsz, hP, hK, hD0, hG⟩ := hv
  subst hsz
  have hts := atoms_spec (ws := ws) B.pre
  have hown : s.vm.findClass own = some m.cls := by rw [← hcls]; exact findClass_of_methodNamed B.named
  have hl := lv_entry av (n := maxL) hlen
  rw [lg_entry_eq]
  refine body p e s m below meth c (va_A w0 s.heap.size) s.heap [] _ ⟨B.exec, B.bytes, hml, hown, hts⟩ B.returns B.notSynchronized (name_of_methodNamed B.named B.method).1 hK hG (fun q h => Or.inr h) hP hD0.self va_S.rf hl
end GOF

theorem g_at_IAE {args : Array Value} {s : State} {A : Nat → Prop} (hts : ∀ w ∈ gW, w.before args s = true) (hG : gGF A s) : ∀ w ∈ vx_atS RX9 179 "java/lang/IllegalArgumentException" ["java/lang/RuntimeException", "java/lang/Exception"], w.before args s = true := vx_hat (B := gBad_IAE) (fun w h => hts w (gWt_IAE_in w h)) gB9_IAE (fun w h => va_Nw.use (gBad_IAE_t w h) (hG.1 w (gBad_IAE_in w h)))
theorem gO_IAE_175 : ∀ w ∈ Cond.classLink RX9 175 "java/lang/IllegalArgumentException" :: Cond.initialized "java/lang/IllegalArgumentException" :: vx_atS RX9 179 "java/lang/IllegalArgumentException" ["java/lang/RuntimeException", "java/lang/Exception"], vx_ot w = true := by decide +kernel
theorem g_at_IOB {args : Array Value} {s : State} {A : Nat → Prop} (hts : ∀ w ∈ gW, w.before args s = true) (hG : gGF A s) : ∀ w ∈ vx_atS RX9 90 "java/lang/IndexOutOfBoundsException" ["java/lang/RuntimeException", "java/lang/Exception"], w.before args s = true := vx_hat (B := gBad_IOB) (fun w h => hts w (gWt_IOB_in w h)) gB9_IOB (fun w h => va_Nw.use (gBad_IOB_t w h) (hG.1 w (gBad_IOB_in w h)))
theorem gO_IOB_86 : ∀ w ∈ Cond.classLink RX9 86 "java/lang/IndexOutOfBoundsException" :: Cond.initialized "java/lang/IndexOutOfBoundsException" :: vx_atS RX9 90 "java/lang/IndexOutOfBoundsException" ["java/lang/RuntimeException", "java/lang/Exception"], vx_ot w = true := by decide +kernel
theorem g_at_ISE {args : Array Value} {s : State} {A : Nat → Prop} (hts : ∀ w ∈ gW, w.before args s = true) (hG : gGF A s) : ∀ w ∈ vx_atS RX9 114 "java/lang/IllegalStateException" ["java/lang/RuntimeException", "java/lang/Exception"], w.before args s = true := vx_hat (B := gBad_ISE) (fun w h => hts w (gWt_ISE_in w h)) gB9_ISE (fun w h => va_Nw.use (gBad_ISE_t w h) (hG.1 w (gBad_ISE_in w h)))
theorem gO_ISE_110 : ∀ w ∈ Cond.classLink RX9 110 "java/lang/IllegalStateException" :: Cond.initialized "java/lang/IllegalStateException" :: vx_atS RX9 114 "java/lang/IllegalStateException" ["java/lang/RuntimeException", "java/lang/Exception"], vx_ot w = true := by decide +kernel
theorem g_at_UOE {args : Array Value} {s : State} {A : Nat → Prop} (hts : ∀ w ∈ gW, w.before args s = true) (hG : gGF A s) : ∀ w ∈ vx_atS RX9 99 "java/lang/UnsupportedOperationException" ["java/lang/RuntimeException", "java/lang/Exception"], w.before args s = true := vx_hat (B := gBad_UOE) (fun w h => hts w (gWt_UOE_in w h)) gB9_UOE (fun w h => va_Nw.use (gBad_UOE_t w h) (hG.1 w (gBad_UOE_in w h)))
theorem gO_UOE_95 : ∀ w ∈ Cond.classLink RX9 95 "java/lang/UnsupportedOperationException" :: Cond.initialized "java/lang/UnsupportedOperationException" :: vx_atS RX9 99 "java/lang/UnsupportedOperationException" ["java/lang/RuntimeException", "java/lang/Exception"], vx_ot w = true := by decide +kernel
