set_option maxHeartbeats 4000000 in
set_option maxRecDepth 100000 in
theorem c_P_init (l : Launch) (D : va_G) (cI cL cZ : ClassId) (h : Nat) : gMv l yP_init wsP_init ({ frames := 1, cells := 0, slots := 0, locals := 12 }) D [(cI, .int), (cL, .long), (cZ, .boolean)] [.ref h] [(h, .inr (0, [.long 0, .long 0]))] (fun _ : Unit => [(h, .inr (0, [.long 0, .long 0]))]) (fun _ => True) := by
  refine g_ofIv (cc := cP_init) (maxL := 1) (ret := none) (own := RP9) (by decide) rfl rfl (Nat.le_of_ble_eq_true rfl) ?_
  intro p e s m below meth c A H locs ls C hr hlocks hin hK hG hA hP hD hS hl
  obtain ⟨hx, hb, hml, hown, hts⟩ := id C
  have hts := fun w (h9 : w ∈ gW) => hts w (List.mem_cons_of_mem _ h9)
  have hto := fun w (h9 : w ∈ gWo) => hts w (gWo_in w h9)
  have hl : lv_has ls 1 [(0, .ref h)] := hl
  refine lv_aload_n hx hb dP_init_0 rfl (lv_at hl 0 rfl) ?_
  refine W.objInit hx hb hown (hto (.methodLink RP9 1 objectInit) (by decide +kernel)) (hto (.instanceMethod objectInit) (by decide +kernel)) (hts _ (gWc_in _ kobjinit)) rfl (by rw [hml]; exact hl.1) rfl dP_init_1 (Nat.le_of_ble_eq_true rfl) (Nat.le_of_ble_eq_true rfl) ?_
  refine W.eq (g2 := F0 m 4 ls []) rfl ?_
  exact gr_v (S := ()) hx hb hr hlocks hK hP hD hS trivial (Nat.le_of_ble_eq_true rfl) (Nat.le_of_ble_eq_true rfl) dP_init_4
