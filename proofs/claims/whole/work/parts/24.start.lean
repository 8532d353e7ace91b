theorem g_arr {args : Array Value} {s : State} {t : FieldType} (h : (Cond.arrayClass t).before args s = true) (ho : ∀ C, t ≠ .object C) : ∃ c : ClassId, ArrOfT s c t ∧ va_RA s c t := by
  obtain ⟨c, k, comp, h1, h2, h3⟩ := Cond.arrayClass_spec h
  refine ⟨c, fun N z => ⟨(fun q hq => by cases hq), k, h2, comp, h3⟩, ?_⟩
  cases t <;> first | exact h1 | exact absurd rfl (ho _)
set_option maxHeartbeats 4000000 in
set_option maxRecDepth 100000 in
theorem whole_start {p : Program} {e : Env} {s : State} {m : MethodId} {below : List Frame} {meth : Method} {c : Code} (l : Launch) (hl9 : l.stackTraces = false) {b L : Nat} {xs : Nat → Int32} (hp : ∃ n : Nat, n ≤ 600 ∧ wpL_L_law xs L n (mS0, ((fun _ => 0), xS0)) 0) (C0 : lw_At p s m meth c b L xs) : W p l e room_1 s m #[Value.ref b] below meth c s.heap [] 0 0 (lw_Z below #[Value.ref b] s) (entryFrame m ([Value.ref b] : List Value).toArray 8) := by
  obtain ⟨n, hn, hw⟩ := hp
  obtain ⟨hx, hb, hr, hml, hown, hts0, hX, hbl, hlocks, hgv⟩ := id C0
  have hG := g_start hts0 hgv
  have hts : ∀ w ∈ gW, w.before #[Value.ref b] s = true := fun w h => hts0 w (gW_tbl w h)
  have hto := fun w (h9 : w ∈ gWo) => hts w (gWo_in w h9)
  have hown : s.vm.findClass RL9 = some m.cls := hown
  have C : CallFix p m c code 8 s #[Value.ref b] gW RL9 := ⟨hx, hb, hml, hown, hts⟩
  have hA : ∀ q : Nat, s.heap.size ≤ q → (fun q : Nat => s.heap.size ≤ q) q := fun _ h => h
  obtain ⟨c0, iS0, hKn0⟩ := u_known (C := RP9) (T := TP9) (N := 2) (n := 2) hts iP9 (hto (.instantiable RP9 2) (by decide +kernel))
  obtain ⟨c1, iS1, hKn1⟩ := u_known (C := RX9) (T := TX9) (N := 20) (n := 20) hts iX9 (hto (.instantiable RX9 20) (by decide +kernel))
  obtain ⟨c2, iS2, hKn2⟩ := u_known (C := RM9) (T := TM9) (N := 24) (n := 24) hts iM9 (hto (.instantiable RM9 24) (by decide +kernel))
  obtain ⟨cI, hcI⟩ := g_arr (t := .int) (hto (.arrayClass .int) (by decide +kernel)) (fun _ h9 => by cases h9)
  obtain ⟨cL, hcL⟩ := g_arr (t := .long) (hto (.arrayClass .long) (by decide +kernel)) (fun _ h9 => by cases h9)
  obtain ⟨cZ, hcZ⟩ := g_arr (t := .boolean) (hto (.arrayClass .boolean) (by decide +kernel)) (fun _ h9 => by cases h9)
  obtain ⟨D, hKc⟩ : ∃ D : va_G, ∀ (k : Nat) (q : vw_C), vwCl[k]? = some q → u_Kn s q.1 q.2.1 q.2.2 (D.1 k) (D.2 k) := by
    refine ⟨(fun k => if k = 0 then c0 else if k = 1 then c1 else c2, fun k => if k = 0 then iS0 else if k = 1 then iS1 else iS2), ?_⟩
    intro k q hq
    match k, hq with
    | 0, hq => cases hq; exact hKn0
    | 1, hq => cases hq; exact hKn1
    | 2, hq => cases hq; exact hKn2
    | k + 3, hq => simp [vwCl] at hq
  have hK : va_K D vwCl [(cI, .int), (cL, .long), (cZ, .boolean)] s := by
    refine ⟨hKc, fun k q h => ?_⟩
    match k, h with
    | 0, h => cases h; exact hcI
    | 1, h => cases h; exact hcL
    | 2, h => cases h; exact hcZ
    | k + 3, h => simp at h
  have hS : va_S (fun q : Nat => s.heap.size ≤ q) s.heap s.heap [] := va_S.rf
  have hP : va_P D vwCl [] s.heap := fun k q h => by simp at h
  have hD : va_D (fun q : Nat => s.heap.size ≤ q) [] := ⟨fun i j p q h => by simp at h, fun k q h => by simp at h⟩
  have hl := lv_entry ([.ref b]) (n := 8) (Nat.le_of_ble_eq_true rfl)
  rw [lg_entry_eq]
  generalize (lg_sl ([.ref b]) ++ List.replicate (8 - (lg_sl ([.ref b])).length) Slot.unset).toArray = ls at hl ⊢
  have hl : lv_has ls 8 [(0, .ref b)] := hl
  refine va_new (ci := 1) (fs := [.null, .null, .null, .null, .null, .null, .null, .null, .null, .null, .int 0, .null, .null, .null, .int 0, .int 0, .long 0, .null, .null, .null]) (C := RX9) (T := TX9) (N := 20) hx hb hts iX9 tyX9 tyX9_ok hown (hto (.classLink RL9 8 RX9) (by decide +kernel)) (hto (.instantiable RX9 20) (by decide +kernel)) (hto (.initialized RX9) (by decide +kernel)) hK hP hD hS hA rfl (fun j hj => by rcases (show j = 0 ∨ j = 1 ∨ j = 2 ∨ j = 3 ∨ j = 4 ∨ j = 5 ∨ j = 6 ∨ j = 7 ∨ j = 8 ∨ j = 9 ∨ j = 10 ∨ j = 11 ∨ j = 12 ∨ j = 13 ∨ j = 14 ∨ j = 15 ∨ j = 16 ∨ j = 17 ∨ j = 18 ∨ j = 19 by omega) with rfl | rfl | rfl | rfl | rfl | rfl | rfl | rfl | rfl | rfl | rfl | rfl | rfl | rfl | rfl | rfl | rfl | rfl | rfl | rfl <;> rfl) (Nat.le_of_ble_eq_true rfl) (Nat.le_of_ble_eq_true rfl) dL_law_0 (fun h H hP hD hS => ?_)
  have hP : va_P D vwCl ([] ++ [(h, .inr (1, [.null, .null, .null, .null, .null, .null, .null, .null, .null, .null, .int 0, .null, .null, .null, .int 0, .int 0, .long 0, .null, .null, .null]))]) H := hP
  have hD : va_D (fun q : Nat => s.heap.size ≤ q) ([] ++ [(h, .inr (1, [.null, .null, .null, .null, .null, .null, .null, .null, .null, .null, .int 0, .null, .null, .null, .int 0, .int 0, .long 0, .null, .null, .null]))]) := hD
  refine lv_dup hx hb dL_law_3 rfl ?_
  refine gk_v (wr := []) (wc := [(h, .inr (1, [.null, .null, .null, .null, .null, .null, .null, .null, .null, .null, .int 0, .null, .null, .null, .int 0, .int 0, .long 0, .null, .null, .null]))]) hP hD hS hA (va_runI (As := []) (rest := [.ref h]) C (c_X_init l D cI cL cZ h H.size) (cwI 0 hts (gGI kX_init) rfl rfl rfl (hto (.initialized RX9) (by decide +kernel)) (hto (.methodLink RL9 65 yX_init) (by decide +kernel)) (hto (.instanceMethod yX_init) (by decide +kernel)) rfl (by decide +kernel) ⟨Nat.le_of_ble_eq_true rfl, Nat.le_of_ble_eq_true rfl⟩) (g_preS (wr := []) (wc := [(h, .inr (1, [.null, .null, .null, .null, .null, .null, .null, .null, .null, .null, .int 0, .null, .null, .null, .int 0, .int 0, .long 0, .null, .null, .null]))]) hK hG hA hP hD hS) rfl rfl hl.1 rfl (lv_room (Nat.le_of_ble_eq_true rfl)) dL_law_4 ⟨Nat.le_of_ble_eq_true rfl, Nat.le_of_ble_eq_true rfl⟩) (fun a H locs _ hP hD hS => ?_)
  have hP : va_P D vwCl (XW cI cL cZ h a xS0) H := hP
  have hD : va_D (fun q : Nat => s.heap.size ≤ q) (XW cI cL cZ h a xS0) := hD
  refine lv_astore_n (lv' := [(1, .ref h), (0, .ref b)]) hx hb dL_law_7 rfl hl (by decide) rfl (fun ls hl => ?_)
  refine va_new (ci := 2) (fs := [.int 0, .int 0, .null, .null, .null, .null, .null, .null, .null, .null, .null, .null, .null, .int 0, .long 0, .int 0, .null, .null, .null, .int 0, .long 0, .long 0, .null, .null]) (C := RM9) (T := TM9) (N := 24) hx hb hts iM9 tyM9 tyM9_ok hown (hto (.classLink RL9 66 RM9) (by decide +kernel)) (hto (.instantiable RM9 24) (by decide +kernel)) (hto (.initialized RM9) (by decide +kernel)) hK hP hD hS hA rfl (fun j hj => by rcases (show j = 0 ∨ j = 1 ∨ j = 2 ∨ j = 3 ∨ j = 4 ∨ j = 5 ∨ j = 6 ∨ j = 7 ∨ j = 8 ∨ j = 9 ∨ j = 10 ∨ j = 11 ∨ j = 12 ∨ j = 13 ∨ j = 14 ∨ j = 15 ∨ j = 16 ∨ j = 17 ∨ j = 18 ∨ j = 19 ∨ j = 20 ∨ j = 21 ∨ j = 22 ∨ j = 23 by omega) with rfl | rfl | rfl | rfl | rfl | rfl | rfl | rfl | rfl | rfl | rfl | rfl | rfl | rfl | rfl | rfl | rfl | rfl | rfl | rfl | rfl | rfl | rfl | rfl <;> rfl) (Nat.le_of_ble_eq_true rfl) (Nat.le_of_ble_eq_true rfl) dL_law_8 (fun hm H hP hD hS => ?_)
  refine lv_dup hx hb dL_law_11 rfl ?_
  refine gk_v (wr := XW cI cL cZ h a xS0) (wc := [(hm, .inr (2, [.int 0, .int 0, .null, .null, .null, .null, .null, .null, .null, .null, .null, .null, .null, .int 0, .long 0, .int 0, .null, .null, .null, .int 0, .long 0, .long 0, .null, .null]))]) hP hD hS hA (va_runI (As := []) (rest := [.ref hm]) C (c_M_init l D cI cL cZ hm H.size) (cwI 0 hts (gGI kM_init) rfl rfl rfl (hto (.initialized RM9) (by decide +kernel)) (hto (.methodLink RL9 68 yM_init) (by decide +kernel)) (hto (.instanceMethod yM_init) (by decide +kernel)) rfl (by decide +kernel) ⟨Nat.le_of_ble_eq_true rfl, Nat.le_of_ble_eq_true rfl⟩) (g_preS (wr := XW cI cL cZ h a xS0) (wc := [(hm, .inr (2, [.int 0, .int 0, .null, .null, .null, .null, .null, .null, .null, .null, .null, .null, .null, .int 0, .long 0, .int 0, .null, .null, .null, .int 0, .long 0, .long 0, .null, .null]))]) hK hG hA hP hD hS) rfl rfl hl.1 rfl (lv_room (Nat.le_of_ble_eq_true rfl)) dL_law_12 ⟨Nat.le_of_ble_eq_true rfl, Nat.le_of_ble_eq_true rfl⟩) (fun am H locs _ hP hD hS => ?_)
  have hP : va_P D vwCl (XW cI cL cZ h a xS0 ++ MW cI cL cZ hm am mS0) H := hP
  have hD : va_D (fun q : Nat => s.heap.size ≤ q) (XW cI cL cZ h a xS0 ++ MW cI cL cZ hm am mS0) := hD
  refine lv_astore_n (lv' := [(2, .ref hm), (1, .ref h), (0, .ref b)]) hx hb dL_law_15 rfl hl (by decide) rfl (fun ls hl => ?_)
  refine lv_iconst (v := 1) hx hb dL_law_16 (by decide) ?_
  refine g_newa (atype := .long) (n := 1) (ty := .long) (a0 := (1, .inr (.inl (fun _ => 0)))) (N' := 1) hx hb (hto (.arrayClass .long) (by decide +kernel)) rfl (hK.2 1 _ rfl).2 hP hD hS hA rfl (by decide) (by decide) (by decide) (Nat.le_of_ble_eq_true rfl) (Nat.le_of_ble_eq_true rfl) dL_law_17 (fun o H hP hD hS => ?_)
  have hP := g_swapP (w1 := XW cI cL cZ h a xS0 ++ MW cI cL cZ hm am mS0) (w2 := [(o, .inl (cL, 1, .inr (.inl (fun _ => 0))))]) hP
  have hD := g_swapD (w1 := XW cI cL cZ h a xS0 ++ MW cI cL cZ hm am mS0) (w2 := [(o, .inl (cL, 1, .inr (.inl (fun _ => 0))))]) hD
  have hP := g_swapP (w1 := LWf cI cL cZ h a o ((fun _ => 0), xS0)) (w2 := MW cI cL cZ hm am mS0) hP
  have hD := g_swapD (w1 := LWf cI cL cZ h a o ((fun _ => 0), xS0)) (w2 := MW cI cL cZ hm am mS0) hD
  refine lv_astore_n (lv' := [(3, .ref o), (2, .ref hm), (1, .ref h), (0, .ref b)]) hx hb dL_law_19 rfl hl (by decide) rfl (fun ls hl => ?_)
  refine lv_iconst (v := 0) hx hb dL_law_20 (by decide) ?_
  refine lv_istore (lv' := [(4, .int 0), (3, .ref o), (2, .ref hm), (1, .ref h), (0, .ref b)]) hx hb dL_law_21 hl (by decide) rfl (fun ls hl => ?_)
  refine W.widen (k := 35) (n := 1107) (Nat.le_of_ble_eq_true rfl) (Nat.le_of_ble_eq_true rfl) ?_
  exact law_loop l hl9 D cI cL cZ h a o hm am C hr hlocks hX hbl hK hG n (mS0, ((fun _ => 0), xS0)) 0 35 1107 H locs ls hw (by omega) (by omega) hP hD hS (lv_sub hl [4, 3, 2, 1, 0] rfl)
