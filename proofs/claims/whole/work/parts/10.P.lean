def wp_P_set (post : XSt → Prop) (p0 : Int64) (p1 : Int64) (S : XSt) : Prop := (∀ S1 : XSt, S1 = xsup S p0 → (∀ S2 : XSt, S2 = xslo S1 p1 → (post S2)))
set_option maxHeartbeats 4000000 in
set_option maxRecDepth 100000 in
theorem c_P_set (l : Launch) (hl9 : l.stackTraces = false) (D : va_G) (cI cL cZ : ClassId) (h : Nat) (a : Nat → Nat) (post : XSt → Prop) (p0 : Int64) (p1 : Int64) (S : XSt) (hw : wp_P_set post p0 p1 S) : gMv l yP_set wsP_set ({ frames := 0, cells := 0, slots := 0, locals := 0 }) D [(cI, .int), (cL, .long), (cZ, .boolean)] [.ref (a 15), .long p0, .long p1] (XW cI cL cZ h a S) (XW cI cL cZ h a) post := by
  refine g_ofMv (cc := cP_set) (maxL := 5) (ret := none) (own := RP9) (by decide) rfl rfl (Nat.le_of_ble_eq_true rfl) ?_
  intro p e s m below meth c A H locs ls C hr hlocks hK hG hA hP hD hS hl
  obtain ⟨hx, hb, hml, hown, hts⟩ := id C
  have hts := fun w (h9 : w ∈ gW) => hts w (List.mem_cons_of_mem _ h9)
  have hto := fun w (h9 : w ∈ gWo) => hts w (gWo_in w h9)
  have hl : lv_has ls 5 [(0, .ref (a 15)), (1, .long p0), (3, .long p1)] := hl
  dsimp only [wp_P_set] at hw
  refine lv_aload_n hx hb dP_set_0 rfl (lv_at hl 0 rfl) ?_
  refine lv_lload_n hx hb dP_set_1 rfl (lv_at hl 1 rfl) ?_
  refine g_put (wf := XW cI cL cZ h a) (S' := xsup S p0) (ci := 0) (v := .long p0) (ty := .long) (C := RP9) (T := TP9) (N := 2) hx hb hts iP9 tyP9 tyP9_ok nmP9 hown hK hP hD hS 16 (XWc_16 cI cL cZ h a S) rfl 0 (by decide) (hto (.fieldLink RP9 7 "PieceTrace$Place" "upper" "J") (by decide +kernel)) (fun _ h9 => h9) rfl (by decide +kernel) rfl rfl (Nat.le_of_ble_eq_true rfl) rfl dP_set_2 (fun S1 eS1 H locs hP hD hS => ?_)
  have hw := hw S1 eS1
  refine lv_aload_n hx hb dP_set_5 rfl (lv_at hl 0 rfl) ?_
  refine lv_lload_n hx hb dP_set_6 rfl (lv_at hl 2 rfl) ?_
  refine g_put (wf := XW cI cL cZ h a) (S' := xslo S1 p1) (ci := 0) (v := .long p1) (ty := .long) (C := RP9) (T := TP9) (N := 2) hx hb hts iP9 tyP9 tyP9_ok nmP9 hown hK hP hD hS 16 (XWc_16 cI cL cZ h a S1) rfl 1 (by decide) (hto (.fieldLink RP9 13 "PieceTrace$Place" "lower" "J") (by decide +kernel)) (fun _ h9 => h9) rfl (by decide +kernel) rfl rfl (Nat.le_of_ble_eq_true rfl) rfl dP_set_7 (fun S2 eS2 H locs hP hD hS => ?_)
  have hw := hw S2 eS2
  exact gr_v hx hb hr hlocks hK hP hD hS hw (Nat.le_of_ble_eq_true rfl) (Nat.le_of_ble_eq_true rfl) dP_set_10
def wp_P_move (post : XSt → Prop) (p0 : Int64) (S : XSt) : Prop := (∀ S1 : XSt, S1 = xsup S ((xup S) + (p0 * (xlo S))) → (post S1))
set_option maxHeartbeats 4000000 in
set_option maxRecDepth 100000 in
theorem c_P_move (l : Launch) (hl9 : l.stackTraces = false) (D : va_G) (cI cL cZ : ClassId) (h : Nat) (a : Nat → Nat) (post : XSt → Prop) (p0 : Int64) (S : XSt) (hw : wp_P_move post p0 S) : gMv l yP_move wsP_move ({ frames := 0, cells := 0, slots := 0, locals := 0 }) D [(cI, .int), (cL, .long), (cZ, .boolean)] [.ref (a 15), .long p0] (XW cI cL cZ h a S) (XW cI cL cZ h a) post := by
  refine g_ofMv (cc := cP_move) (maxL := 3) (ret := none) (own := RP9) (by decide) rfl rfl (Nat.le_of_ble_eq_true rfl) ?_
  intro p e s m below meth c A H locs ls C hr hlocks hK hG hA hP hD hS hl
  obtain ⟨hx, hb, hml, hown, hts⟩ := id C
  have hts := fun w (h9 : w ∈ gW) => hts w (List.mem_cons_of_mem _ h9)
  have hto := fun w (h9 : w ∈ gWo) => hts w (gWo_in w h9)
  have hl : lv_has ls 3 [(0, .ref (a 15)), (1, .long p0)] := hl
  dsimp only [wp_P_move] at hw
  refine lv_aload_n hx hb dP_move_0 rfl (lv_at hl 0 rfl) ?_
  refine lv_dup hx hb dP_move_1 rfl ?_
  refine va_get (ci := 0) (v := .long (xup S)) (C := RP9) (T := TP9) (N := 2) hx hb hts iP9 hown hK hP 16 (XWc_16 cI cL cZ h a S) rfl 0 (by decide) (hto (.fieldLink RP9 7 "PieceTrace$Place" "upper" "J") (by decide +kernel)) (fun _ h9 => h9) rfl dP_move_2 ?_
  refine lv_lload_n hx hb dP_move_5 rfl (lv_at hl 1 rfl) ?_
  refine lv_aload_n hx hb dP_move_6 rfl (lv_at hl 0 rfl) ?_
  refine va_get (ci := 0) (v := .long (xlo S)) (C := RP9) (T := TP9) (N := 2) hx hb hts iP9 hown hK hP 16 (XWc_16 cI cL cZ h a S) rfl 1 (by decide) (hto (.fieldLink RP9 13 "PieceTrace$Place" "lower" "J") (by decide +kernel)) (fun _ h9 => h9) rfl dP_move_7 ?_
  refine lv_lmul hx hb dP_move_10 ?_
  refine lv_ladd hx hb dP_move_11 ?_
  refine g_put (wf := XW cI cL cZ h a) (S' := xsup S ((xup S) + (p0 * (xlo S)))) (ci := 0) (v := .long ((xup S) + (p0 * (xlo S)))) (ty := .long) (C := RP9) (T := TP9) (N := 2) hx hb hts iP9 tyP9 tyP9_ok nmP9 hown hK hP hD hS 16 (XWc_16 cI cL cZ h a S) rfl 0 (by decide) (hto (.fieldLink RP9 7 "PieceTrace$Place" "upper" "J") (by decide +kernel)) (fun _ h9 => h9) rfl (by decide +kernel) rfl rfl (Nat.le_of_ble_eq_true rfl) rfl dP_move_12 (fun S1 eS1 H locs hP hD hS => ?_)
  have hw := hw S1 eS1
  exact gr_v hx hb hr hlocks hK hP hD hS hw (Nat.le_of_ble_eq_true rfl) (Nat.le_of_ble_eq_true rfl) dP_move_15
def wp_P_isBelow (post : Int32 → XSt → Prop) (p0 : Int64) (S : XSt) : Prop := (((p0 * (xlo S)) ≤ (xup S) → (post 0 S)) ∧ (¬ (p0 * (xlo S)) ≤ (xup S) → (post 1 S)))
set_option maxHeartbeats 4000000 in
set_option maxRecDepth 100000 in
theorem c_P_isBelow (l : Launch) (hl9 : l.stackTraces = false) (D : va_G) (cI cL cZ : ClassId) (h : Nat) (a : Nat → Nat) (post : Int32 → XSt → Prop) (p0 : Int64) (S : XSt) (hw : wp_P_isBelow post p0 S) : gMz l yP_isBelow wsP_isBelow ({ frames := 0, cells := 0, slots := 0, locals := 0 }) D [(cI, .int), (cL, .long), (cZ, .boolean)] [.ref (a 15), .long p0] (XW cI cL cZ h a S) (XW cI cL cZ h a) post := by
  refine g_ofMz (cc := cP_isBelow) (maxL := 3) (ret := (some .boolean)) (own := RP9) (by decide) rfl rfl (Nat.le_of_ble_eq_true rfl) ?_
  intro p e s m below meth c A H locs ls C hr hlocks hK hG hA hP hD hS hl
  obtain ⟨hx, hb, hml, hown, hts⟩ := id C
  have hts := fun w (h9 : w ∈ gW) => hts w (List.mem_cons_of_mem _ h9)
  have hto := fun w (h9 : w ∈ gWo) => hts w (gWo_in w h9)
  have hl : lv_has ls 3 [(0, .ref (a 15)), (1, .long p0)] := hl
  dsimp only [wp_P_isBelow] at hw
  refine lv_aload_n hx hb dP_isBelow_0 rfl (lv_at hl 0 rfl) ?_
  refine va_get (ci := 0) (v := .long (xup S)) (C := RP9) (T := TP9) (N := 2) hx hb hts iP9 hown hK hP 16 (XWc_16 cI cL cZ h a S) rfl 0 (by decide) (hto (.fieldLink RP9 7 "PieceTrace$Place" "upper" "J") (by decide +kernel)) (fun _ h9 => h9) rfl dP_isBelow_1 ?_
  refine lv_lload_n hx hb dP_isBelow_4 rfl (lv_at hl 1 rfl) ?_
  refine lv_aload_n hx hb dP_isBelow_5 rfl (lv_at hl 0 rfl) ?_
  refine va_get (ci := 0) (v := .long (xlo S)) (C := RP9) (T := TP9) (N := 2) hx hb hts iP9 hown hK hP 16 (XWc_16 cI cL cZ h a S) rfl 1 (by decide) (hto (.fieldLink RP9 13 "PieceTrace$Place" "lower" "J") (by decide +kernel)) (fun _ h9 => h9) rfl dP_isBelow_6 ?_
  refine lv_lmul hx hb dP_isBelow_9 ?_
  refine W.lcmp hx hb dP_isBelow_10 ?_
  refine lv_if_ge (tgt := 18) hx hb dP_isBelow_11 (by decide) (fun c1 => ?_) (fun c1 => ?_)
  · have c1 : (p0 * (xlo S)) ≤ (xup S) := (lg_cmp_ge _ _).mp c1
    have hw := hw.1 c1
    refine lv_iconst (v := 0) hx hb dP_isBelow_18 (by decide) ?_
    exact gr_z hx hb hr hlocks (Or.inl rfl) hK hP hD hS hw (Nat.le_of_ble_eq_true rfl) (Nat.le_of_ble_eq_true rfl) dP_isBelow_19
  · have c1 : ¬ (p0 * (xlo S)) ≤ (xup S) := fun h9 => c1 ((lg_cmp_ge _ _).mpr h9)
    have hw := hw.2 c1
    refine lv_iconst (v := 1) hx hb dP_isBelow_14 (by decide) ?_
    refine lv_goto (tgt := 19) hx hb dP_isBelow_15 (by decide) ?_
    exact gr_z hx hb hr hlocks (Or.inr rfl) hK hP hD hS hw (Nat.le_of_ble_eq_true rfl) (Nat.le_of_ble_eq_true rfl) dP_isBelow_19
def wpL_P_commonDivisor_9 (post : Int64 → XSt → Prop) (p0 : Int64) (p1 : Int64) : Nat → XSt → Int64 → Int64 → Int32 → Prop
  | 0 => fun _ _ _ _ => False
  | n + 1 => fun S u4 u6 u8 => ((100 ≤ u8 → (post u4 S)) ∧ (¬ 100 ≤ u8 → ((u6 = 0 → (post u4 S)) ∧ (¬ u6 = 0 → (¬ u6 = 0 ∧ (∀ v9_4 : Int64, v9_4 = (u4 - u4 / u6 * u6) → (∀ v8_5 : Int32, v8_5 = u8 + 1 → (wpL_P_commonDivisor_9 post p0 p1 n S u6 v9_4 v8_5))))))))
def wp_P_commonDivisor (post : Int64 → XSt → Prop) (p0 : Int64) (p1 : Int64) (S : XSt) : Prop := (∃ n : Nat, wpL_P_commonDivisor_9 post p0 p1 n S p0 p1 0)
set_option maxHeartbeats 4000000 in
set_option maxRecDepth 100000 in
theorem c_P_commonDivisor (l : Launch) (hl9 : l.stackTraces = false) (D : va_G) (cI cL cZ : ClassId) (h : Nat) (a : Nat → Nat) (post : Int64 → XSt → Prop) (p0 : Int64) (p1 : Int64) (S : XSt) (hw : wp_P_commonDivisor post p0 p1 S) : gMl l yP_commonDivisor wsP_commonDivisor ({ frames := 0, cells := 0, slots := 0, locals := 0 }) D [(cI, .int), (cL, .long), (cZ, .boolean)] [.long p0, .long p1] (XW cI cL cZ h a S) (XW cI cL cZ h a) post := by
  refine g_ofMl (cc := cP_commonDivisor) (maxL := 11) (ret := (some .long)) (own := RP9) (by decide) rfl rfl (Nat.le_of_ble_eq_true rfl) ?_
  intro p e s m below meth c A H locs ls C hr hlocks hK hG hA hP hD hS hl
  obtain ⟨hx, hb, hml, hown, hts⟩ := id C
  have hts := fun w (h9 : w ∈ gW) => hts w (List.mem_cons_of_mem _ h9)
  have hto := fun w (h9 : w ∈ gWo) => hts w (gWo_in w h9)
  have hl : lv_has ls 11 [(0, .long p0), (2, .long p1)] := hl
  dsimp only [wp_P_commonDivisor] at hw
  refine lv_lload_n hx hb dP_commonDivisor_0 rfl (lv_at hl 0 rfl) ?_
  refine lv_lstore (lv' := [(4, .long p0), (0, .long p0), (2, .long p1)]) hx hb dP_commonDivisor_1 hl (by decide) rfl (fun ls hl => ?_)
  refine lv_lload_n hx hb dP_commonDivisor_3 rfl (lv_at hl 2 rfl) ?_
  refine lv_lstore (lv' := [(6, .long p1), (4, .long p0), (0, .long p0), (2, .long p1)]) hx hb dP_commonDivisor_4 hl (by decide) rfl (fun ls hl => ?_)
  refine lv_iconst (v := 0) hx hb dP_commonDivisor_6 (by decide) ?_
  refine lv_istore (lv' := [(8, .int 0), (6, .long p1), (4, .long p0), (0, .long p0), (2, .long p1)]) hx hb dP_commonDivisor_7 hl (by decide) rfl (fun ls hl => ?_)
  obtain ⟨n, hw⟩ := hw
  have hL : ∀ (n : Nat) (S : XSt) (u4 : Int64) (u6 : Int64) (u8 : Int32) (H : Heap) (locs : List Loc) (ls : Array Slot), wpL_P_commonDivisor_9 post p0 p1 n S u4 u6 u8 → va_P D vwCl (XW cI cL cZ h a S) H → va_D A (XW cI cL cZ h a S) → va_S A s.heap H locs → lv_has ls 11 [(4, .long u4), (6, .long u6), (8, .int u8)] → W p l e (headSpec wsP_commonDivisor { frames := 0, cells := 0, slots := 0, locals := 0 }).room s m ([.long p0, .long p1] : List Value).toArray below meth c H locs 0 0 (MQ below (gQl D [(cI, .int), (cL, .long), (cZ, .boolean)] (XW cI cL cZ h a) post A) ([.long p0, .long p1] : List Value).toArray s 0 0 A) (F0 m 9 ls []) := by
    intro n
    induction n with
    | zero => intro S u4 u6 u8 H locs ls hw; exact hw.elim
    | succ n ih =>
      intro S u4 u6 u8 H locs ls hw hP hD hS hl
      dsimp only [wpL_P_commonDivisor_9] at hw
      refine lv_iload hx hb dP_commonDivisor_9 (lv_at hl 2 rfl) ?_
      refine lv_bipush (v := 100) hx hb dP_commonDivisor_11 (by decide) ?_
      refine lv_icmp_ge (tgt := 44) hx hb dP_commonDivisor_13 (by decide) (fun c1 => ?_) (fun c1 => ?_)
      · have hw := hw.1 c1
        refine lv_lload hx hb dP_commonDivisor_44 (lv_at hl 0 rfl) ?_
        exact gr_l hx hb hr hlocks hK hP hD hS hw (Nat.le_of_ble_eq_true rfl) (Nat.le_of_ble_eq_true rfl) dP_commonDivisor_46
      · have hw := hw.2 c1
        refine lv_lload hx hb dP_commonDivisor_16 (lv_at hl 1 rfl) ?_
        refine lv_lconst (v := 0) hx hb dP_commonDivisor_18 (by decide) ?_
        refine W.lcmp hx hb dP_commonDivisor_19 ?_
        refine lv_if_eq (tgt := 44) hx hb dP_commonDivisor_20 (by decide) (fun c2 => ?_) (fun c2 => ?_)
        · have c2 : u6 = 0 := (lg_cmp_eq _ _).mp c2
          have hw := hw.1 c2
          refine lv_lload hx hb dP_commonDivisor_44 (lv_at hl 0 rfl) ?_
          exact gr_l hx hb hr hlocks hK hP hD hS hw (Nat.le_of_ble_eq_true rfl) (Nat.le_of_ble_eq_true rfl) dP_commonDivisor_46
        · have c2 : ¬ u6 = 0 := fun h9 => c2 ((lg_cmp_eq _ _).mpr h9)
          have hw := hw.2 c2
          refine lv_lload hx hb dP_commonDivisor_23 (lv_at hl 0 rfl) ?_
          refine lv_lload hx hb dP_commonDivisor_25 (lv_at hl 1 rfl) ?_
          obtain ⟨hz3, hw⟩ := hw
          refine lv_lrem hx hb dP_commonDivisor_27 hz3 ?_
          refine lv_topl (fun v9_4 ev9_4 => ?_)
          have hw := hw v9_4 ev9_4
          refine lv_lstore (lv' := [(9, .long v9_4), (4, .long u4), (6, .long u6), (8, .int u8)]) hx hb dP_commonDivisor_28 hl (by decide) rfl (fun ls hl => ?_)
          refine lv_lload hx hb dP_commonDivisor_30 (lv_at hl 2 rfl) ?_
          refine lv_lstore (lv' := [(4, .long u6), (9, .long v9_4), (6, .long u6), (8, .int u8)]) hx hb dP_commonDivisor_32 hl (by decide) rfl (fun ls hl => ?_)
          refine lv_lload hx hb dP_commonDivisor_34 (lv_at hl 1 rfl) ?_
          refine lv_lstore (lv' := [(6, .long v9_4), (4, .long u6), (9, .long v9_4), (8, .int u8)]) hx hb dP_commonDivisor_36 hl (by decide) rfl (fun ls hl => ?_)
          obtain ⟨v8_5, ev8_5⟩ : ∃ y : Int32, y = u8 + 1 := ⟨_, rfl⟩
          have hw := hw v8_5 ev8_5
          refine lv_iinc (v := v8_5) (lv' := [(8, .int v8_5), (6, .long v9_4), (4, .long u6), (9, .long v9_4)]) hx hb dP_commonDivisor_38 hl (k := 3) rfl (by rw [ev8_5]; rfl) (by decide) rfl (fun ls hl => ?_)
          refine lv_goto (tgt := 9) hx hb dP_commonDivisor_41 (by decide) ?_
          refine W.widen (k := 0) (n := 0) (Nat.le_of_ble_eq_true rfl) (Nat.le_of_ble_eq_true rfl) ?_
          exact ih S u6 v9_4 v8_5 H locs ls hw hP hD hS (lv_sub hl [2, 1, 0] rfl)
  refine W.widen (k := 0) (n := 0) (Nat.le_of_ble_eq_true rfl) (Nat.le_of_ble_eq_true rfl) ?_
  exact hL n S p0 p1 0 H locs ls hw hP hD hS (lv_sub hl [2, 1, 0] rfl)
def wp_P_stretch (post : XSt → Prop) (p0 : Int64) (p1 : Int64) (S : XSt) : Prop := (∀ S1 : XSt, S1 = xsup S ((xup S) * p0) → (∀ S2 : XSt, S2 = xslo S1 ((xlo S1) * p1) → (wp_P_commonDivisor (fun r4 S3 => ((r4 ≤ 1 → (post S3)) ∧ (¬ r4 ≤ 1 → (¬ r4 = 0 ∧ (∀ S7 : XSt, S7 = xsup S3 ((xup S3) / r4) → (¬ r4 = 0 ∧ (∀ S9 : XSt, S9 = xslo S7 ((xlo S7) / r4) → (post S9)))))))) (xup S2) (xlo S2) S2)))
set_option maxHeartbeats 4000000 in
set_option maxRecDepth 100000 in
theorem c_P_stretch (l : Launch) (hl9 : l.stackTraces = false) (D : va_G) (cI cL cZ : ClassId) (h : Nat) (a : Nat → Nat) (post : XSt → Prop) (p0 : Int64) (p1 : Int64) (S : XSt) (hw : wp_P_stretch post p0 p1 S) : gMv l yP_stretch wsP_stretch ({ frames := 1, cells := 0, slots := 0, locals := 30 }) D [(cI, .int), (cL, .long), (cZ, .boolean)] [.ref (a 15), .long p0, .long p1] (XW cI cL cZ h a S) (XW cI cL cZ h a) post := by
  refine g_ofMv (cc := cP_stretch) (maxL := 7) (ret := none) (own := RP9) (by decide) rfl rfl (Nat.le_of_ble_eq_true rfl) ?_
  intro p e s m below meth c A H locs ls C hr hlocks hK hG hA hP hD hS hl
  obtain ⟨hx, hb, hml, hown, hts⟩ := id C
  have hts := fun w (h9 : w ∈ gW) => hts w (List.mem_cons_of_mem _ h9)
  have hto := fun w (h9 : w ∈ gWo) => hts w (gWo_in w h9)
  have hl : lv_has ls 7 [(0, .ref (a 15)), (1, .long p0), (3, .long p1)] := hl
  dsimp only [wp_P_stretch] at hw
  refine lv_aload_n hx hb dP_stretch_0 rfl (lv_at hl 0 rfl) ?_
  refine lv_dup hx hb dP_stretch_1 rfl ?_
  refine va_get (ci := 0) (v := .long (xup S)) (C := RP9) (T := TP9) (N := 2) hx hb hts iP9 hown hK hP 16 (XWc_16 cI cL cZ h a S) rfl 0 (by decide) (hto (.fieldLink RP9 7 "PieceTrace$Place" "upper" "J") (by decide +kernel)) (fun _ h9 => h9) rfl dP_stretch_2 ?_
  refine lv_lload_n hx hb dP_stretch_5 rfl (lv_at hl 1 rfl) ?_
  refine lv_lmul hx hb dP_stretch_6 ?_
  refine g_put (wf := XW cI cL cZ h a) (S' := xsup S ((xup S) * p0)) (ci := 0) (v := .long ((xup S) * p0)) (ty := .long) (C := RP9) (T := TP9) (N := 2) hx hb hts iP9 tyP9 tyP9_ok nmP9 hown hK hP hD hS 16 (XWc_16 cI cL cZ h a S) rfl 0 (by decide) (hto (.fieldLink RP9 7 "PieceTrace$Place" "upper" "J") (by decide +kernel)) (fun _ h9 => h9) rfl (by decide +kernel) rfl rfl (Nat.le_of_ble_eq_true rfl) rfl dP_stretch_7 (fun S1 eS1 H locs hP hD hS => ?_)
  have hw := hw S1 eS1
  refine lv_aload_n hx hb dP_stretch_10 rfl (lv_at hl 0 rfl) ?_
  refine lv_dup hx hb dP_stretch_11 rfl ?_
  refine va_get (ci := 0) (v := .long (xlo S1)) (C := RP9) (T := TP9) (N := 2) hx hb hts iP9 hown hK hP 16 (XWc_16 cI cL cZ h a S1) rfl 1 (by decide) (hto (.fieldLink RP9 13 "PieceTrace$Place" "lower" "J") (by decide +kernel)) (fun _ h9 => h9) rfl dP_stretch_12 ?_
  refine lv_lload_n hx hb dP_stretch_15 rfl (lv_at hl 2 rfl) ?_
  refine lv_lmul hx hb dP_stretch_16 ?_
  refine g_put (wf := XW cI cL cZ h a) (S' := xslo S1 ((xlo S1) * p1)) (ci := 0) (v := .long ((xlo S1) * p1)) (ty := .long) (C := RP9) (T := TP9) (N := 2) hx hb hts iP9 tyP9 tyP9_ok nmP9 hown hK hP hD hS 16 (XWc_16 cI cL cZ h a S1) rfl 1 (by decide) (hto (.fieldLink RP9 13 "PieceTrace$Place" "lower" "J") (by decide +kernel)) (fun _ h9 => h9) rfl (by decide +kernel) rfl rfl (Nat.le_of_ble_eq_true rfl) rfl dP_stretch_17 (fun S2 eS2 H locs hP hD hS => ?_)
  have hw := hw S2 eS2
  refine lv_aload_n hx hb dP_stretch_20 rfl (lv_at hl 0 rfl) ?_
  refine va_get (ci := 0) (v := .long (xup S2)) (C := RP9) (T := TP9) (N := 2) hx hb hts iP9 hown hK hP 16 (XWc_16 cI cL cZ h a S2) rfl 0 (by decide) (hto (.fieldLink RP9 7 "PieceTrace$Place" "upper" "J") (by decide +kernel)) (fun _ h9 => h9) rfl dP_stretch_21 ?_
  refine lv_aload_n hx hb dP_stretch_24 rfl (lv_at hl 0 rfl) ?_
  refine va_get (ci := 0) (v := .long (xlo S2)) (C := RP9) (T := TP9) (N := 2) hx hb hts iP9 hown hK hP 16 (XWc_16 cI cL cZ h a S2) rfl 1 (by decide) (hto (.fieldLink RP9 13 "PieceTrace$Place" "lower" "J") (by decide +kernel)) (fun _ h9 => h9) rfl dP_stretch_25 ?_
  refine gk_l (wr := []) (wc := XW cI cL cZ h a S2) (wfc := XW cI cL cZ h a) hP hD hS hA (va_runS (As := [.long (xup S2), .long (xlo S2)]) (rest := []) C (c_P_commonDivisor l hl9 D cI cL cZ h a _ (xup S2) (xlo S2) S2 hw H.size) (va_cwS 2 hts (gGS (by decide +kernel) kP_commonDivisor) rfl rfl rfl (by decide +kernel) ⟨Nat.le_of_ble_eq_true rfl, Nat.le_of_ble_eq_true rfl⟩) (g_preS (wr := []) (wc := XW cI cL cZ h a S2) hK hG hA hP hD hS) rfl rfl hl.1 rfl (lv_room (Nat.le_of_ble_eq_true rfl)) dP_stretch_28 ⟨Nat.le_of_ble_eq_true rfl, Nat.le_of_ble_eq_true rfl⟩) (fun r4 S3 H locs hw hP hD hS => ?_)
  have hP : va_P D vwCl (XW cI cL cZ h a S3) H := hP
  have hD : va_D A (XW cI cL cZ h a S3) := hD
  refine lv_lstore (lv' := [(5, .long r4), (0, .ref (a 15)), (1, .long p0), (3, .long p1)]) hx hb dP_stretch_31 hl (by decide) rfl (fun ls hl => ?_)
  refine lv_lload hx hb dP_stretch_33 (lv_at hl 0 rfl) ?_
  refine lv_lconst (v := 1) hx hb dP_stretch_35 (by decide) ?_
  refine W.lcmp hx hb dP_stretch_36 ?_
  refine lv_if_le (tgt := 62) hx hb dP_stretch_37 (by decide) (fun c5 => ?_) (fun c5 => ?_)
  · have c5 : r4 ≤ 1 := (lg_cmp_le _ _).mp c5
    have hw := hw.1 c5
    exact gr_v hx hb hr hlocks hK hP hD hS hw (Nat.le_of_ble_eq_true rfl) (Nat.le_of_ble_eq_true rfl) dP_stretch_62
  · have c5 : ¬ r4 ≤ 1 := fun h9 => c5 ((lg_cmp_le _ _).mpr h9)
    have hw := hw.2 c5
    refine lv_aload_n hx hb dP_stretch_40 rfl (lv_at hl 1 rfl) ?_
    refine lv_dup hx hb dP_stretch_41 rfl ?_
    refine va_get (ci := 0) (v := .long (xup S3)) (C := RP9) (T := TP9) (N := 2) hx hb hts iP9 hown hK hP 16 (XWc_16 cI cL cZ h a S3) rfl 0 (by decide) (hto (.fieldLink RP9 7 "PieceTrace$Place" "upper" "J") (by decide +kernel)) (fun _ h9 => h9) rfl dP_stretch_42 ?_
    refine lv_lload hx hb dP_stretch_45 (lv_at hl 0 rfl) ?_
    obtain ⟨hz6, hw⟩ := hw
    refine lv_ldiv hx hb dP_stretch_47 hz6 ?_
    refine g_put (wf := XW cI cL cZ h a) (S' := xsup S3 ((xup S3) / r4)) (ci := 0) (v := .long ((xup S3) / r4)) (ty := .long) (C := RP9) (T := TP9) (N := 2) hx hb hts iP9 tyP9 tyP9_ok nmP9 hown hK hP hD hS 16 (XWc_16 cI cL cZ h a S3) rfl 0 (by decide) (hto (.fieldLink RP9 7 "PieceTrace$Place" "upper" "J") (by decide +kernel)) (fun _ h9 => h9) rfl (by decide +kernel) rfl rfl (Nat.le_of_ble_eq_true rfl) rfl dP_stretch_48 (fun S7 eS7 H locs hP hD hS => ?_)
    have hw := hw S7 eS7
    refine lv_aload_n hx hb dP_stretch_51 rfl (lv_at hl 1 rfl) ?_
    refine lv_dup hx hb dP_stretch_52 rfl ?_
    refine va_get (ci := 0) (v := .long (xlo S7)) (C := RP9) (T := TP9) (N := 2) hx hb hts iP9 hown hK hP 16 (XWc_16 cI cL cZ h a S7) rfl 1 (by decide) (hto (.fieldLink RP9 13 "PieceTrace$Place" "lower" "J") (by decide +kernel)) (fun _ h9 => h9) rfl dP_stretch_53 ?_
    refine lv_lload hx hb dP_stretch_56 (lv_at hl 0 rfl) ?_
    obtain ⟨hz8, hw⟩ := hw
    refine lv_ldiv hx hb dP_stretch_58 hz8 ?_
    refine g_put (wf := XW cI cL cZ h a) (S' := xslo S7 ((xlo S7) / r4)) (ci := 0) (v := .long ((xlo S7) / r4)) (ty := .long) (C := RP9) (T := TP9) (N := 2) hx hb hts iP9 tyP9 tyP9_ok nmP9 hown hK hP hD hS 16 (XWc_16 cI cL cZ h a S7) rfl 1 (by decide) (hto (.fieldLink RP9 13 "PieceTrace$Place" "lower" "J") (by decide +kernel)) (fun _ h9 => h9) rfl (by decide +kernel) rfl rfl (Nat.le_of_ble_eq_true rfl) rfl dP_stretch_59 (fun S9 eS9 H locs hP hD hS => ?_)
    have hw := hw S9 eS9
    exact gr_v hx hb hr hlocks hK hP hD hS hw (Nat.le_of_ble_eq_true rfl) (Nat.le_of_ble_eq_true rfl) dP_stretch_62
