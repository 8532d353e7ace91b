def wp_M_thrown (post : Int32 → MSt → Prop) (S : MSt) : Prop := (post (mth S) S)
set_option maxHeartbeats 4000000 in
set_option maxRecDepth 100000 in
theorem c_M_thrown (l : Launch) (hl9 : l.stackTraces = false) (D : va_G) (cI cL cZ : ClassId) (hm : Nat) (am : Nat → Nat) (post : Int32 → MSt → Prop) (S : MSt) (hw : wp_M_thrown post  S) : gMi l yM_thrown wsM_thrown ({ frames := 0, cells := 0, slots := 0, locals := 0 }) D [(cI, .int), (cL, .long), (cZ, .boolean)] [.ref hm] (MW cI cL cZ hm am S) (MW cI cL cZ hm am) post := by
  refine g_ofMi (cc := cM_thrown) (maxL := 1) (ret := (some .int)) (own := RM9) (by decide) rfl rfl (Nat.le_of_ble_eq_true rfl) ?_
  intro p e s m below meth c A H locs ls C hr hlocks hK hG hA hP hD hS hl
  obtain ⟨hx, hb, hml, hown, hts⟩ := id C
  have hts := fun w (h9 : w ∈ gW) => hts w (List.mem_cons_of_mem _ h9)
  have hto := fun w (h9 : w ∈ gWo) => hts w (gWo_in w h9)
  have hl : lv_has ls 1 [(0, .ref hm)] := hl
  dsimp only [wp_M_thrown] at hw
  refine lv_aload_n hx hb dM_thrown_0 rfl (lv_at hl 0 rfl) ?_
  refine va_get (ci := 2) (v := .int (mth S)) (C := RM9) (T := TM9) (N := 24) hx hb hts iM9 hown hK hP 0 (MWc_0 cI cL cZ hm am S) rfl 0 (by decide) (hto (.fieldLink RM9 60 "PieceTraceModel" "thrown" "I") (by decide +kernel)) (fun _ h9 => h9) rfl dM_thrown_1 ?_
  exact gr_i hx hb hr hlocks hK hP hD hS hw (Nat.le_of_ble_eq_true rfl) (Nat.le_of_ble_eq_true rfl) dM_thrown_4
def wpJ_M_throwing_50 (post : Int32 → MSt → Prop) (p0 : Int32) (p1 : Int32) (p2 : Int32) (p3 : Int32) (S : MSt) (t0 : Int32) : Prop := (post t0 S)
def wpJ_M_throwing_35 (post : Int32 → MSt → Prop) (p0 : Int32) (p1 : Int32) (p2 : Int32) (p3 : Int32) (S : MSt) (t0 : Int32) : Prop := (∀ S1 : MSt, S1 = msth S t0 → (((mth S1) ≤ 0 → (wpJ_M_throwing_50 post p0 p1 p2 p3 S1 0)) ∧ (¬ (mth S1) ≤ 0 → (wpJ_M_throwing_50 post p0 p1 p2 p3 S1 1))))
def wp_M_throwing (post : Int32 → MSt → Prop) (p0 : Int32) (p1 : Int32) (p2 : Int32) (p3 : Int32) (S : MSt) : Prop := ((p0 = 0 → ((p1 = 0 → ((p2 = 0 → ((p3 = 0 → (wpJ_M_throwing_35 post p0 p1 p2 p3 S 0)) ∧ (¬ p3 = 0 → (wpJ_M_throwing_35 post p0 p1 p2 p3 S 4)))) ∧ (¬ p2 = 0 → (wpJ_M_throwing_35 post p0 p1 p2 p3 S 3)))) ∧ (¬ p1 = 0 → (wpJ_M_throwing_35 post p0 p1 p2 p3 S 2)))) ∧ (¬ p0 = 0 → (wpJ_M_throwing_35 post p0 p1 p2 p3 S 1)))
set_option maxHeartbeats 4000000 in
set_option maxRecDepth 100000 in
theorem c_M_throwing (l : Launch) (hl9 : l.stackTraces = false) (D : va_G) (cI cL cZ : ClassId) (hm : Nat) (am : Nat → Nat) (post : Int32 → MSt → Prop) (p0 : Int32) (p1 : Int32) (p2 : Int32) (p3 : Int32) (S : MSt) (hw : wp_M_throwing post p0 p1 p2 p3 S) : gMz l yM_throwing wsM_throwing ({ frames := 0, cells := 0, slots := 0, locals := 0 }) D [(cI, .int), (cL, .long), (cZ, .boolean)] [.ref hm, .int p0, .int p1, .int p2, .int p3] (MW cI cL cZ hm am S) (MW cI cL cZ hm am) post := by
  refine g_ofMz (cc := cM_throwing) (maxL := 5) (ret := (some .boolean)) (own := RM9) (by decide) rfl rfl (Nat.le_of_ble_eq_true rfl) ?_
  intro p e s m below meth c A H locs ls C hr hlocks hK hG hA hP hD hS hl
  obtain ⟨hx, hb, hml, hown, hts⟩ := id C
  have hts := fun w (h9 : w ∈ gW) => hts w (List.mem_cons_of_mem _ h9)
  have hto := fun w (h9 : w ∈ gWo) => hts w (gWo_in w h9)
  have hl : lv_has ls 5 [(0, .ref hm), (1, .int p0), (2, .int p1), (3, .int p2), (4, .int p3)] := hl
  have hJ50 : ∀ (S : MSt) (t0 : Int32), (t0 = 0 ∨ t0 = 1) → ∀ (H : Heap) (locs : List Loc) (ls : Array Slot), wpJ_M_throwing_50 post p0 p1 p2 p3 S t0 → va_P D vwCl (MW cI cL cZ hm am S) H → va_D A (MW cI cL cZ hm am S) → va_S A s.heap H locs → lv_has ls 5 [] → W p l e (headSpec wsM_throwing { frames := 0, cells := 0, slots := 0, locals := 0 }).room s m ([.ref hm, .int p0, .int p1, .int p2, .int p3] : List Value).toArray below meth c H locs 0 0 (MQ below (gQz D [(cI, .int), (cL, .long), (cZ, .boolean)] (MW cI cL cZ hm am) post A) ([.ref hm, .int p0, .int p1, .int p2, .int p3] : List Value).toArray s 0 0 A) (F0 m 50 ls [.int t0]) := by
    intro S t0 hbt0 H locs ls hw hP hD hS hl
    dsimp only [wpJ_M_throwing_50] at hw
    exact gr_z hx hb hr hlocks hbt0 hK hP hD hS hw (Nat.le_of_ble_eq_true rfl) (Nat.le_of_ble_eq_true rfl) dM_throwing_50
  have hJ35 : ∀ (S : MSt) (t0 : Int32), ∀ (H : Heap) (locs : List Loc) (ls : Array Slot), wpJ_M_throwing_35 post p0 p1 p2 p3 S t0 → va_P D vwCl (MW cI cL cZ hm am S) H → va_D A (MW cI cL cZ hm am S) → va_S A s.heap H locs → lv_has ls 5 [(0, .ref hm)] → W p l e (headSpec wsM_throwing { frames := 0, cells := 0, slots := 0, locals := 0 }).room s m ([.ref hm, .int p0, .int p1, .int p2, .int p3] : List Value).toArray below meth c H locs 0 0 (MQ below (gQz D [(cI, .int), (cL, .long), (cZ, .boolean)] (MW cI cL cZ hm am) post A) ([.ref hm, .int p0, .int p1, .int p2, .int p3] : List Value).toArray s 0 0 A) (F0 m 35 ls [.int t0, .ref hm]) := by
    intro S t0  H locs ls hw hP hD hS hl
    dsimp only [wpJ_M_throwing_35] at hw
    refine g_put (wf := MW cI cL cZ hm am) (S' := msth S t0) (ci := 2) (v := .int t0) (ty := .int) (C := RM9) (T := TM9) (N := 24) hx hb hts iM9 tyM9 tyM9_ok nmM9 hown hK hP hD hS 0 (MWc_0 cI cL cZ hm am S) rfl 0 (by decide) (hto (.fieldLink RM9 60 "PieceTraceModel" "thrown" "I") (by decide +kernel)) (fun _ h9 => h9) rfl (by decide +kernel) rfl rfl (Nat.le_of_ble_eq_true rfl) rfl dM_throwing_35 (fun S1 eS1 H locs hP hD hS => ?_)
    have hw := hw S1 eS1
    refine lv_aload_n hx hb dM_throwing_38 rfl (lv_at hl 0 rfl) ?_
    refine va_get (ci := 2) (v := .int (mth S1)) (C := RM9) (T := TM9) (N := 24) hx hb hts iM9 hown hK hP 0 (MWc_0 cI cL cZ hm am S1) rfl 0 (by decide) (hto (.fieldLink RM9 60 "PieceTraceModel" "thrown" "I") (by decide +kernel)) (fun _ h9 => h9) rfl dM_throwing_39 ?_
    refine lv_if_le (tgt := 49) hx hb dM_throwing_42 (by decide) (fun c2 => ?_) (fun c2 => ?_)
    · have hw := hw.1 c2
      refine lv_iconst (v := 0) hx hb dM_throwing_49 (by decide) ?_
      exact hJ50 S1 0  (Or.inl rfl) H locs ls hw hP hD hS (lv_sub hl [] rfl)
    · have hw := hw.2 c2
      refine lv_iconst (v := 1) hx hb dM_throwing_45 (by decide) ?_
      refine lv_goto (tgt := 50) hx hb dM_throwing_46 (by decide) ?_
      exact hJ50 S1 1  (Or.inr rfl) H locs ls hw hP hD hS (lv_sub hl [] rfl)
  dsimp only [wp_M_throwing] at hw
  refine lv_aload_n hx hb dM_throwing_0 rfl (lv_at hl 0 rfl) ?_
  refine lv_iload_n hx hb dM_throwing_1 rfl (lv_at hl 1 rfl) ?_
  refine lv_if_eq (tgt := 9) hx hb dM_throwing_2 (by decide) (fun c3 => ?_) (fun c3 => ?_)
  · have hw := hw.1 c3
    refine lv_iload_n hx hb dM_throwing_9 rfl (lv_at hl 2 rfl) ?_
    refine lv_if_eq (tgt := 17) hx hb dM_throwing_10 (by decide) (fun c4 => ?_) (fun c4 => ?_)
    · have hw := hw.1 c4
      refine lv_iload_n hx hb dM_throwing_17 rfl (lv_at hl 3 rfl) ?_
      refine lv_if_eq (tgt := 25) hx hb dM_throwing_18 (by decide) (fun c5 => ?_) (fun c5 => ?_)
      · have hw := hw.1 c5
        refine lv_iload hx hb dM_throwing_25 (lv_at hl 4 rfl) ?_
        refine lv_if_eq (tgt := 34) hx hb dM_throwing_27 (by decide) (fun c6 => ?_) (fun c6 => ?_)
        · have hw := hw.1 c6
          refine lv_iconst (v := 0) hx hb dM_throwing_34 (by decide) ?_
          exact hJ35 S 0   H locs ls hw hP hD hS (lv_sub hl [0] rfl)
        · have hw := hw.2 c6
          refine lv_iconst (v := 4) hx hb dM_throwing_30 (by decide) ?_
          refine lv_goto (tgt := 35) hx hb dM_throwing_31 (by decide) ?_
          exact hJ35 S 4   H locs ls hw hP hD hS (lv_sub hl [0] rfl)
      · have hw := hw.2 c5
        refine lv_iconst (v := 3) hx hb dM_throwing_21 (by decide) ?_
        refine lv_goto (tgt := 35) hx hb dM_throwing_22 (by decide) ?_
        exact hJ35 S 3   H locs ls hw hP hD hS (lv_sub hl [0] rfl)
    · have hw := hw.2 c4
      refine lv_iconst (v := 2) hx hb dM_throwing_13 (by decide) ?_
      refine lv_goto (tgt := 35) hx hb dM_throwing_14 (by decide) ?_
      exact hJ35 S 2   H locs ls hw hP hD hS (lv_sub hl [0] rfl)
  · have hw := hw.2 c3
    refine lv_iconst (v := 1) hx hb dM_throwing_5 (by decide) ?_
    refine lv_goto (tgt := 35) hx hb dM_throwing_6 (by decide) ?_
    exact hJ35 S 1   H locs ls hw hP hD hS (lv_sub hl [0] rfl)
def wpJ_M_in_15 (post : Int32 → MSt → Prop) (p0 : Int32) (p1 : Int32) (p2 : Int32) (S : MSt) (t0 : Int32) : Prop := (post t0 S)
def wpJ_M_in_14 (post : Int32 → MSt → Prop) (p0 : Int32) (p1 : Int32) (p2 : Int32) (S : MSt)  : Prop := (wpJ_M_in_15 post p0 p1 p2 S 0)
def wp_M_in (post : Int32 → MSt → Prop) (p0 : Int32) (p1 : Int32) (p2 : Int32) (S : MSt) : Prop := ((p0 < p1 → (wpJ_M_in_14 post p0 p1 p2 S )) ∧ (¬ p0 < p1 → ((p2 < p0 → (wpJ_M_in_14 post p0 p1 p2 S )) ∧ (¬ p2 < p0 → (wpJ_M_in_15 post p0 p1 p2 S 1)))))
set_option maxHeartbeats 4000000 in
set_option maxRecDepth 100000 in
theorem c_M_in (l : Launch) (hl9 : l.stackTraces = false) (D : va_G) (cI cL cZ : ClassId) (hm : Nat) (am : Nat → Nat) (post : Int32 → MSt → Prop) (p0 : Int32) (p1 : Int32) (p2 : Int32) (S : MSt) (hw : wp_M_in post p0 p1 p2 S) : gMz l yM_in wsM_in ({ frames := 0, cells := 0, slots := 0, locals := 0 }) D [(cI, .int), (cL, .long), (cZ, .boolean)] [.int p0, .int p1, .int p2] (MW cI cL cZ hm am S) (MW cI cL cZ hm am) post := by
  refine g_ofMz (cc := cM_in) (maxL := 3) (ret := (some .boolean)) (own := RM9) (by decide) rfl rfl (Nat.le_of_ble_eq_true rfl) ?_
  intro p e s m below meth c A H locs ls C hr hlocks hK hG hA hP hD hS hl
  obtain ⟨hx, hb, hml, hown, hts⟩ := id C
  have hts := fun w (h9 : w ∈ gW) => hts w (List.mem_cons_of_mem _ h9)
  have hto := fun w (h9 : w ∈ gWo) => hts w (gWo_in w h9)
  have hl : lv_has ls 3 [(0, .int p0), (1, .int p1), (2, .int p2)] := hl
  have hJ15 : ∀ (S : MSt) (t0 : Int32), (t0 = 0 ∨ t0 = 1) → ∀ (H : Heap) (locs : List Loc) (ls : Array Slot), wpJ_M_in_15 post p0 p1 p2 S t0 → va_P D vwCl (MW cI cL cZ hm am S) H → va_D A (MW cI cL cZ hm am S) → va_S A s.heap H locs → lv_has ls 3 [] → W p l e (headSpec wsM_in { frames := 0, cells := 0, slots := 0, locals := 0 }).room s m ([.int p0, .int p1, .int p2] : List Value).toArray below meth c H locs 0 0 (MQ below (gQz D [(cI, .int), (cL, .long), (cZ, .boolean)] (MW cI cL cZ hm am) post A) ([.int p0, .int p1, .int p2] : List Value).toArray s 0 0 A) (F0 m 15 ls [.int t0]) := by
    intro S t0 hbt0 H locs ls hw hP hD hS hl
    dsimp only [wpJ_M_in_15] at hw
    exact gr_z hx hb hr hlocks hbt0 hK hP hD hS hw (Nat.le_of_ble_eq_true rfl) (Nat.le_of_ble_eq_true rfl) dM_in_15
  have hJ14 : ∀ (S : MSt) , ∀ (H : Heap) (locs : List Loc) (ls : Array Slot), wpJ_M_in_14 post p0 p1 p2 S  → va_P D vwCl (MW cI cL cZ hm am S) H → va_D A (MW cI cL cZ hm am S) → va_S A s.heap H locs → lv_has ls 3 [] → W p l e (headSpec wsM_in { frames := 0, cells := 0, slots := 0, locals := 0 }).room s m ([.int p0, .int p1, .int p2] : List Value).toArray below meth c H locs 0 0 (MQ below (gQz D [(cI, .int), (cL, .long), (cZ, .boolean)] (MW cI cL cZ hm am) post A) ([.int p0, .int p1, .int p2] : List Value).toArray s 0 0 A) (F0 m 14 ls []) := by
    intro S   H locs ls hw hP hD hS hl
    dsimp only [wpJ_M_in_14] at hw
    refine lv_iconst (v := 0) hx hb dM_in_14 (by decide) ?_
    exact hJ15 S 0  (Or.inl rfl) H locs ls hw hP hD hS (lv_sub hl [] rfl)
  dsimp only [wp_M_in] at hw
  refine lv_iload_n hx hb dM_in_0 rfl (lv_at hl 0 rfl) ?_
  refine lv_iload_n hx hb dM_in_1 rfl (lv_at hl 1 rfl) ?_
  refine lv_icmp_lt (tgt := 14) hx hb dM_in_2 (by decide) (fun c1 => ?_) (fun c1 => ?_)
  · have hw := hw.1 c1
    exact hJ14 S    H locs ls hw hP hD hS (lv_sub hl [] rfl)
  · have hw := hw.2 c1
    refine lv_iload_n hx hb dM_in_5 rfl (lv_at hl 0 rfl) ?_
    refine lv_iload_n hx hb dM_in_6 rfl (lv_at hl 2 rfl) ?_
    refine lv_icmp_gt (tgt := 14) hx hb dM_in_7 (by decide) (fun c2 => ?_) (fun c2 => ?_)
    · have hw := hw.1 c2
      exact hJ14 S    H locs ls hw hP hD hS (lv_sub hl [] rfl)
    · have hw := hw.2 c2
      refine lv_iconst (v := 1) hx hb dM_in_10 (by decide) ?_
      refine lv_goto (tgt := 15) hx hb dM_in_11 (by decide) ?_
      exact hJ15 S 1  (Or.inr rfl) H locs ls hw hP hD hS (lv_sub hl [] rfl)
def wp_M_isPiece (post : Int32 → MSt → Prop) (p0 : Int32) (S : MSt) : Prop := (wp_M_in (fun r2 S1 => (post r2 S1)) p0 0 ((mpc S) - 1) S)
set_option maxHeartbeats 4000000 in
set_option maxRecDepth 100000 in
theorem c_M_isPiece (l : Launch) (hl9 : l.stackTraces = false) (D : va_G) (cI cL cZ : ClassId) (hm : Nat) (am : Nat → Nat) (post : Int32 → MSt → Prop) (p0 : Int32) (S : MSt) (hw : wp_M_isPiece post p0 S) : gMz l yM_isPiece wsM_isPiece ({ frames := 1, cells := 0, slots := 0, locals := 22 }) D [(cI, .int), (cL, .long), (cZ, .boolean)] [.ref hm, .int p0] (MW cI cL cZ hm am S) (MW cI cL cZ hm am) post := by
  refine g_ofMz (cc := cM_isPiece) (maxL := 2) (ret := (some .boolean)) (own := RM9) (by decide) rfl rfl (Nat.le_of_ble_eq_true rfl) ?_
  intro p e s m below meth c A H locs ls C hr hlocks hK hG hA hP hD hS hl
  obtain ⟨hx, hb, hml, hown, hts⟩ := id C
  have hts := fun w (h9 : w ∈ gW) => hts w (List.mem_cons_of_mem _ h9)
  have hto := fun w (h9 : w ∈ gWo) => hts w (gWo_in w h9)
  have hl : lv_has ls 2 [(0, .ref hm), (1, .int p0)] := hl
  dsimp only [wp_M_isPiece] at hw
  refine lv_iload_n hx hb dM_isPiece_0 rfl (lv_at hl 1 rfl) ?_
  refine lv_iconst (v := 0) hx hb dM_isPiece_1 (by decide) ?_
  refine lv_aload_n hx hb dM_isPiece_2 rfl (lv_at hl 0 rfl) ?_
  refine va_get (ci := 2) (v := .int (mpc S)) (C := RM9) (T := TM9) (N := 24) hx hb hts iM9 hown hK hP 0 (MWc_0 cI cL cZ hm am S) rfl 1 (by decide) (hto (.fieldLink RM9 64 "PieceTraceModel" "pieces" "I") (by decide +kernel)) (fun _ h9 => h9) rfl dM_isPiece_3 ?_
  refine lv_iconst (v := 1) hx hb dM_isPiece_6 (by decide) ?_
  refine lv_isub hx hb dM_isPiece_7 ?_
  refine gk_z (wr := []) (wc := MW cI cL cZ hm am S) (wfc := MW cI cL cZ hm am) hP hD hS hA (va_runS (As := [.int p0, .int 0, .int ((mpc S) - 1)]) (rest := []) C (c_M_in l hl9 D cI cL cZ hm am _ p0 0 ((mpc S) - 1) S hw H.size) (va_cwS 3 hts (gGS (by decide +kernel) kM_in) rfl rfl rfl (by decide +kernel) ⟨Nat.le_of_ble_eq_true rfl, Nat.le_of_ble_eq_true rfl⟩) (g_preS (wr := []) (wc := MW cI cL cZ hm am S) hK hG hA hP hD hS) rfl rfl hl.1 rfl (lv_room (Nat.le_of_ble_eq_true rfl)) dM_isPiece_8 ⟨Nat.le_of_ble_eq_true rfl, Nat.le_of_ble_eq_true rfl⟩) (fun r2 S1 hbr2 H locs hw hP hD hS => ?_)
  have hP : va_P D vwCl (MW cI cL cZ hm am S1) H := hP
  have hD : va_D A (MW cI cL cZ hm am S1) := hD
  exact gr_z hx hb hr hlocks hbr2 hK hP hD hS hw (Nat.le_of_ble_eq_true rfl) (Nat.le_of_ble_eq_true rfl) dM_isPiece_11
def wpJ_M_isAtHand_31 (post : Int32 → MSt → Prop) (p0 : Int32) (S : MSt) (t0 : Int32) : Prop := (post t0 S)
def wpJ_M_isAtHand_30 (post : Int32 → MSt → Prop) (p0 : Int32) (S : MSt)  : Prop := (wpJ_M_isAtHand_31 post p0 S 0)
def wp_M_isAtHand (post : Int32 → MSt → Prop) (p0 : Int32) (S : MSt) : Prop := (wp_M_isPiece (fun r2 S1 => ((r2 = 0 → (wpJ_M_isAtHand_30 post p0 S1 )) ∧ (¬ r2 = 0 → (vp_in p0 40 ∧ (((mSt S1 p0.toNatClampNeg) = 0 → (vp_in p0 40 ∧ (((mHe S1 p0.toNatClampNeg) = 0 → (wpJ_M_isAtHand_31 post p0 S1 1)) ∧ (¬ (mHe S1 p0.toNatClampNeg) = 0 → (wpJ_M_isAtHand_30 post p0 S1 ))))) ∧ (¬ (mSt S1 p0.toNatClampNeg) = 0 → (wpJ_M_isAtHand_30 post p0 S1 ))))))) p0 S)
set_option maxHeartbeats 4000000 in
set_option maxRecDepth 100000 in
theorem c_M_isAtHand (l : Launch) (hl9 : l.stackTraces = false) (D : va_G) (cI cL cZ : ClassId) (hm : Nat) (am : Nat → Nat) (post : Int32 → MSt → Prop) (p0 : Int32) (S : MSt) (hw : wp_M_isAtHand post p0 S) : gMz l yM_isAtHand wsM_isAtHand ({ frames := 2, cells := 0, slots := 0, locals := 43 }) D [(cI, .int), (cL, .long), (cZ, .boolean)] [.ref hm, .int p0] (MW cI cL cZ hm am S) (MW cI cL cZ hm am) post := by
  refine g_ofMz (cc := cM_isAtHand) (maxL := 2) (ret := (some .boolean)) (own := RM9) (by decide) rfl rfl (Nat.le_of_ble_eq_true rfl) ?_
  intro p e s m below meth c A H locs ls C hr hlocks hK hG hA hP hD hS hl
  obtain ⟨hx, hb, hml, hown, hts⟩ := id C
  have hts := fun w (h9 : w ∈ gW) => hts w (List.mem_cons_of_mem _ h9)
  have hto := fun w (h9 : w ∈ gWo) => hts w (gWo_in w h9)
  have hl : lv_has ls 2 [(0, .ref hm), (1, .int p0)] := hl
  have hJ31 : ∀ (S : MSt) (t0 : Int32), (t0 = 0 ∨ t0 = 1) → ∀ (H : Heap) (locs : List Loc) (ls : Array Slot), wpJ_M_isAtHand_31 post p0 S t0 → va_P D vwCl (MW cI cL cZ hm am S) H → va_D A (MW cI cL cZ hm am S) → va_S A s.heap H locs → lv_has ls 2 [] → W p l e (headSpec wsM_isAtHand { frames := 2, cells := 0, slots := 0, locals := 43 }).room s m ([.ref hm, .int p0] : List Value).toArray below meth c H locs 0 0 (MQ below (gQz D [(cI, .int), (cL, .long), (cZ, .boolean)] (MW cI cL cZ hm am) post A) ([.ref hm, .int p0] : List Value).toArray s 0 0 A) (F0 m 31 ls [.int t0]) := by
    intro S t0 hbt0 H locs ls hw hP hD hS hl
    dsimp only [wpJ_M_isAtHand_31] at hw
    exact gr_z hx hb hr hlocks hbt0 hK hP hD hS hw (Nat.le_of_ble_eq_true rfl) (Nat.le_of_ble_eq_true rfl) dM_isAtHand_31
  have hJ30 : ∀ (S : MSt) , ∀ (H : Heap) (locs : List Loc) (ls : Array Slot), wpJ_M_isAtHand_30 post p0 S  → va_P D vwCl (MW cI cL cZ hm am S) H → va_D A (MW cI cL cZ hm am S) → va_S A s.heap H locs → lv_has ls 2 [] → W p l e (headSpec wsM_isAtHand { frames := 2, cells := 0, slots := 0, locals := 43 }).room s m ([.ref hm, .int p0] : List Value).toArray below meth c H locs 0 0 (MQ below (gQz D [(cI, .int), (cL, .long), (cZ, .boolean)] (MW cI cL cZ hm am) post A) ([.ref hm, .int p0] : List Value).toArray s 0 0 A) (F0 m 30 ls []) := by
    intro S   H locs ls hw hP hD hS hl
    dsimp only [wpJ_M_isAtHand_30] at hw
    refine lv_iconst (v := 0) hx hb dM_isAtHand_30 (by decide) ?_
    exact hJ31 S 0  (Or.inl rfl) H locs ls hw hP hD hS (lv_sub hl [] rfl)
  dsimp only [wp_M_isAtHand] at hw
  refine lv_aload_n hx hb dM_isAtHand_0 rfl (lv_at hl 0 rfl) ?_
  refine lv_iload_n hx hb dM_isAtHand_1 rfl (lv_at hl 1 rfl) ?_
  refine gk_z (wr := []) (wc := MW cI cL cZ hm am S) (wfc := MW cI cL cZ hm am) hP hD hS hA (va_runV (As := [.int p0]) (rest := []) C (c_M_isPiece l hl9 D cI cL cZ hm am _ p0 S hw H.size) (cwV 1 hts (gGV (by decide +kernel) kM_isPiece) rfl rfl rfl (by decide +kernel) ⟨Nat.le_of_ble_eq_true rfl, Nat.le_of_ble_eq_true rfl⟩) (g_preV (wr := []) (wc := MW cI cL cZ hm am S) (ci := 2) hK hG hA hP hD hS rfl (MWc_0 cI cL cZ hm am S) rfl) rfl rfl hl.1 rfl (lv_room (Nat.le_of_ble_eq_true rfl)) dM_isAtHand_2 ⟨Nat.le_of_ble_eq_true rfl, Nat.le_of_ble_eq_true rfl⟩) (fun r2 S1 hbr2 H locs hw hP hD hS => ?_)
  have hP : va_P D vwCl (MW cI cL cZ hm am S1) H := hP
  have hD : va_D A (MW cI cL cZ hm am S1) := hD
  refine lv_if_eq (tgt := 30) hx hb dM_isAtHand_5 (by decide) (fun c3 => ?_) (fun c3 => ?_)
  · have hw := hw.1 c3
    exact hJ30 S1    H locs ls hw hP hD hS (lv_sub hl [] rfl)
  · have hw := hw.2 c3
    refine lv_aload_n hx hb dM_isAtHand_8 rfl (lv_at hl 0 rfl) ?_
    refine va_get (ci := 2) (v := .ref (am 3)) (C := RM9) (T := TM9) (N := 24) hx hb hts iM9 hown hK hP 0 (MWc_0 cI cL cZ hm am S1) rfl 5 (by decide) (hto (.fieldLink RM9 19 "PieceTraceModel" "state" "[I") (by decide +kernel)) (fun _ h9 => h9) rfl dM_isAtHand_9 ?_
    refine lv_iload_n hx hb dM_isAtHand_12 rfl (lv_at hl 1 rfl) ?_
    obtain ⟨hi4, hw⟩ := hw
    refine va_iald (f := (mSt S1)) hx hb hK hP 4 0 (MWc_4 cI cL cZ hm am S1) rfl hi4 dM_isAtHand_13 ?_
    refine lv_if_ne (tgt := 30) hx hb dM_isAtHand_14 (by decide) (fun c5 => ?_) (fun c5 => ?_)
    · have hw := hw.2 c5
      exact hJ30 S1    H locs ls hw hP hD hS (lv_sub hl [] rfl)
    · have hw := hw.1 c5
      refine lv_aload_n hx hb dM_isAtHand_17 rfl (lv_at hl 0 rfl) ?_
      refine va_get (ci := 2) (v := .ref (am 4)) (C := RM9) (T := TM9) (N := 24) hx hb hts iM9 hown hK hP 0 (MWc_0 cI cL cZ hm am S1) rfl 6 (by decide) (hto (.fieldLink RM9 22 "PieceTraceModel" "held" "[Z") (by decide +kernel)) (fun _ h9 => h9) rfl dM_isAtHand_18 ?_
      refine lv_iload_n hx hb dM_isAtHand_21 rfl (lv_at hl 1 rfl) ?_
      obtain ⟨hi6, hw⟩ := hw
      refine va_zald (f := (mHe S1)) hx hb hK hP 5 2 (MWc_5 cI cL cZ hm am S1) rfl hi6 dM_isAtHand_22 ?_
      refine lv_if_ne (tgt := 30) hx hb dM_isAtHand_23 (by decide) (fun c7 => ?_) (fun c7 => ?_)
      · have hw := hw.2 c7
        exact hJ30 S1    H locs ls hw hP hD hS (lv_sub hl [] rfl)
      · have hw := hw.1 c7
        refine lv_iconst (v := 1) hx hb dM_isAtHand_26 (by decide) ?_
        refine lv_goto (tgt := 31) hx hb dM_isAtHand_27 (by decide) ?_
        exact hJ31 S1 1  (Or.inr rfl) H locs ls hw hP hD hS (lv_sub hl [] rfl)
def wpJ_M_add_105 (post : Int32 → MSt → Prop) (p0 : Int32) (p1 : Int32) (p2 : Int32) (p3 : Int32) (S : MSt)  : Prop := (∀ S1 : MSt, S1 = mspc S ((mpc S) + 1) → (post ((mpc S1) - 1) S1))
def wpJ_M_add_93 (post : Int32 → MSt → Prop) (p0 : Int32) (p1 : Int32) (p2 : Int32) (p3 : Int32) (S : MSt) (t0 : Int32) (t1 : Int32) : Prop := (vp_in t1 40 ∧ (∀ S3 : MSt, S3 = muRo S t1 t0 → ((p1 < 0 → (wpJ_M_add_105 post p0 p1 p2 p3 S3 )) ∧ (¬ p1 < 0 → (vp_in p1 40 ∧ (∀ S6 : MSt, S6 = muSt S3 p1 1 → (wpJ_M_add_105 post p0 p1 p2 p3 S6 )))))))
def wp_M_add (post : Int32 → MSt → Prop) (p0 : Int32) (p1 : Int32) (p2 : Int32) (p3 : Int32) (S : MSt) : Prop := (vp_in (mpc S) 40 ∧ (∀ S8 : MSt, S8 = muKi S (mpc S) p0 → (vp_in (mpc S8) 40 ∧ (∀ S10 : MSt, S10 = muWe S8 (mpc S8) p2 → (vp_in (mpc S10) 40 ∧ (∀ S12 : MSt, S12 = muLe S10 (mpc S10) p3 → (vp_in (mpc S12) 40 ∧ (∀ S14 : MSt, S14 = muSt S12 (mpc S12) 0 → (vp_in (mpc S14) 40 ∧ (∀ S16 : MSt, S16 = muHe S14 (mpc S14) 0 → (vp_in (mpc S16) 40 ∧ (∀ S18 : MSt, S18 = muOf S16 (mpc S16) p1 → (vp_in (mpc S18) 40 ∧ (∀ S20 : MSt, S20 = muOt S18 (mpc S18) (-1) → ((0 ≤ p1 → (vp_in p1 40 ∧ (wpJ_M_add_93 post p0 p1 p2 p3 S20 (mRo S20 p1.toNatClampNeg) (mpc S20)))) ∧ (¬ 0 ≤ p1 → (wpJ_M_add_93 post p0 p1 p2 p3 S20 0 (mpc S20))))))))))))))))))
set_option maxHeartbeats 4000000 in
set_option maxRecDepth 100000 in
theorem c_M_add (l : Launch) (hl9 : l.stackTraces = false) (D : va_G) (cI cL cZ : ClassId) (hm : Nat) (am : Nat → Nat) (post : Int32 → MSt → Prop) (p0 : Int32) (p1 : Int32) (p2 : Int32) (p3 : Int32) (S : MSt) (hw : wp_M_add post p0 p1 p2 p3 S) : gMi l yM_add wsM_add ({ frames := 0, cells := 0, slots := 0, locals := 0 }) D [(cI, .int), (cL, .long), (cZ, .boolean)] [.ref hm, .int p0, .int p1, .int p2, .int p3] (MW cI cL cZ hm am S) (MW cI cL cZ hm am) post := by
  refine g_ofMi (cc := cM_add) (maxL := 5) (ret := (some .int)) (own := RM9) (by decide) rfl rfl (Nat.le_of_ble_eq_true rfl) ?_
  intro p e s m below meth c A H locs ls C hr hlocks hK hG hA hP hD hS hl
  obtain ⟨hx, hb, hml, hown, hts⟩ := id C
  have hts := fun w (h9 : w ∈ gW) => hts w (List.mem_cons_of_mem _ h9)
  have hto := fun w (h9 : w ∈ gWo) => hts w (gWo_in w h9)
  have hl : lv_has ls 5 [(0, .ref hm), (1, .int p0), (2, .int p1), (3, .int p2), (4, .int p3)] := hl
  have hJ105 : ∀ (S : MSt) , ∀ (H : Heap) (locs : List Loc) (ls : Array Slot), wpJ_M_add_105 post p0 p1 p2 p3 S  → va_P D vwCl (MW cI cL cZ hm am S) H → va_D A (MW cI cL cZ hm am S) → va_S A s.heap H locs → lv_has ls 5 [(0, .ref hm)] → W p l e (headSpec wsM_add { frames := 0, cells := 0, slots := 0, locals := 0 }).room s m ([.ref hm, .int p0, .int p1, .int p2, .int p3] : List Value).toArray below meth c H locs 0 0 (MQ below (gQi D [(cI, .int), (cL, .long), (cZ, .boolean)] (MW cI cL cZ hm am) post A) ([.ref hm, .int p0, .int p1, .int p2, .int p3] : List Value).toArray s 0 0 A) (F0 m 105 ls []) := by
    intro S   H locs ls hw hP hD hS hl
    dsimp only [wpJ_M_add_105] at hw
    refine lv_aload_n hx hb dM_add_105 rfl (lv_at hl 0 rfl) ?_
    refine lv_dup hx hb dM_add_106 rfl ?_
    refine va_get (ci := 2) (v := .int (mpc S)) (C := RM9) (T := TM9) (N := 24) hx hb hts iM9 hown hK hP 0 (MWc_0 cI cL cZ hm am S) rfl 1 (by decide) (hto (.fieldLink RM9 64 "PieceTraceModel" "pieces" "I") (by decide +kernel)) (fun _ h9 => h9) rfl dM_add_107 ?_
    refine lv_iconst (v := 1) hx hb dM_add_110 (by decide) ?_
    refine lv_iadd hx hb dM_add_111 ?_
    refine g_put (wf := MW cI cL cZ hm am) (S' := mspc S ((mpc S) + 1)) (ci := 2) (v := .int ((mpc S) + 1)) (ty := .int) (C := RM9) (T := TM9) (N := 24) hx hb hts iM9 tyM9 tyM9_ok nmM9 hown hK hP hD hS 0 (MWc_0 cI cL cZ hm am S) rfl 1 (by decide) (hto (.fieldLink RM9 64 "PieceTraceModel" "pieces" "I") (by decide +kernel)) (fun _ h9 => h9) rfl (by decide +kernel) rfl rfl (Nat.le_of_ble_eq_true rfl) rfl dM_add_112 (fun S1 eS1 H locs hP hD hS => ?_)
    have hw := hw S1 eS1
    refine lv_aload_n hx hb dM_add_115 rfl (lv_at hl 0 rfl) ?_
    refine va_get (ci := 2) (v := .int (mpc S1)) (C := RM9) (T := TM9) (N := 24) hx hb hts iM9 hown hK hP 0 (MWc_0 cI cL cZ hm am S1) rfl 1 (by decide) (hto (.fieldLink RM9 64 "PieceTraceModel" "pieces" "I") (by decide +kernel)) (fun _ h9 => h9) rfl dM_add_116 ?_
    refine lv_iconst (v := 1) hx hb dM_add_119 (by decide) ?_
    refine lv_isub hx hb dM_add_120 ?_
    exact gr_i hx hb hr hlocks hK hP hD hS hw (Nat.le_of_ble_eq_true rfl) (Nat.le_of_ble_eq_true rfl) dM_add_121
  have hJ93 : ∀ (S : MSt) (t0 : Int32) (t1 : Int32), ∀ (H : Heap) (locs : List Loc) (ls : Array Slot), wpJ_M_add_93 post p0 p1 p2 p3 S t0 t1 → va_P D vwCl (MW cI cL cZ hm am S) H → va_D A (MW cI cL cZ hm am S) → va_S A s.heap H locs → lv_has ls 5 [(0, .ref hm), (2, .int p1)] → W p l e (headSpec wsM_add { frames := 0, cells := 0, slots := 0, locals := 0 }).room s m ([.ref hm, .int p0, .int p1, .int p2, .int p3] : List Value).toArray below meth c H locs 0 0 (MQ below (gQi D [(cI, .int), (cL, .long), (cZ, .boolean)] (MW cI cL cZ hm am) post A) ([.ref hm, .int p0, .int p1, .int p2, .int p3] : List Value).toArray s 0 0 A) (F0 m 93 ls [.int t0, .int t1, .ref (am 10)]) := by
    intro S t0 t1  H locs ls hw hP hD hS hl
    dsimp only [wpJ_M_add_93] at hw
    obtain ⟨hi2, hw⟩ := hw
    refine g_iast (wf := MW cI cL cZ hm am) (S' := muRo S t1 t0) hx hb hK hP hD hS 11 0 (MWc_11 cI cL cZ hm am S) rfl rfl hi2 dM_add_93 (fun S3 eS3 H locs hP hD hS => ?_)
    have hw := hw S3 eS3
    refine lv_iload_n hx hb dM_add_94 rfl (lv_at hl 1 rfl) ?_
    refine lv_if_lt (tgt := 105) hx hb dM_add_95 (by decide) (fun c4 => ?_) (fun c4 => ?_)
    · have hw := hw.1 c4
      exact hJ105 S3    H locs ls hw hP hD hS (lv_sub hl [0] rfl)
    · have hw := hw.2 c4
      refine lv_aload_n hx hb dM_add_98 rfl (lv_at hl 0 rfl) ?_
      refine va_get (ci := 2) (v := .ref (am 3)) (C := RM9) (T := TM9) (N := 24) hx hb hts iM9 hown hK hP 0 (MWc_0 cI cL cZ hm am S3) rfl 5 (by decide) (hto (.fieldLink RM9 19 "PieceTraceModel" "state" "[I") (by decide +kernel)) (fun _ h9 => h9) rfl dM_add_99 ?_
      refine lv_iload_n hx hb dM_add_102 rfl (lv_at hl 1 rfl) ?_
      refine lv_iconst (v := 1) hx hb dM_add_103 (by decide) ?_
      obtain ⟨hi5, hw⟩ := hw
      refine g_iast (wf := MW cI cL cZ hm am) (S' := muSt S3 p1 1) hx hb hK hP hD hS 4 0 (MWc_4 cI cL cZ hm am S3) rfl rfl hi5 dM_add_104 (fun S6 eS6 H locs hP hD hS => ?_)
      have hw := hw S6 eS6
      exact hJ105 S6    H locs ls hw hP hD hS (lv_sub hl [0] rfl)
  dsimp only [wp_M_add] at hw
  refine lv_aload_n hx hb dM_add_0 rfl (lv_at hl 0 rfl) ?_
  refine va_get (ci := 2) (v := .ref (am 0)) (C := RM9) (T := TM9) (N := 24) hx hb hts iM9 hown hK hP 0 (MWc_0 cI cL cZ hm am S) rfl 2 (by decide) (hto (.fieldLink RM9 7 "PieceTraceModel" "kind" "[I") (by decide +kernel)) (fun _ h9 => h9) rfl dM_add_1 ?_
  refine lv_aload_n hx hb dM_add_4 rfl (lv_at hl 0 rfl) ?_
  refine va_get (ci := 2) (v := .int (mpc S)) (C := RM9) (T := TM9) (N := 24) hx hb hts iM9 hown hK hP 0 (MWc_0 cI cL cZ hm am S) rfl 1 (by decide) (hto (.fieldLink RM9 64 "PieceTraceModel" "pieces" "I") (by decide +kernel)) (fun _ h9 => h9) rfl dM_add_5 ?_
  refine lv_iload_n hx hb dM_add_8 rfl (lv_at hl 1 rfl) ?_
  obtain ⟨hi7, hw⟩ := hw
  refine g_iast (wf := MW cI cL cZ hm am) (S' := muKi S (mpc S) p0) hx hb hK hP hD hS 1 0 (MWc_1 cI cL cZ hm am S) rfl rfl hi7 dM_add_9 (fun S8 eS8 H locs hP hD hS => ?_)
  have hw := hw S8 eS8
  refine lv_aload_n hx hb dM_add_10 rfl (lv_at hl 0 rfl) ?_
  refine va_get (ci := 2) (v := .ref (am 1)) (C := RM9) (T := TM9) (N := 24) hx hb hts iM9 hown hK hP 0 (MWc_0 cI cL cZ hm am S8) rfl 3 (by decide) (hto (.fieldLink RM9 13 "PieceTraceModel" "weight" "[I") (by decide +kernel)) (fun _ h9 => h9) rfl dM_add_11 ?_
  refine lv_aload_n hx hb dM_add_14 rfl (lv_at hl 0 rfl) ?_
  refine va_get (ci := 2) (v := .int (mpc S8)) (C := RM9) (T := TM9) (N := 24) hx hb hts iM9 hown hK hP 0 (MWc_0 cI cL cZ hm am S8) rfl 1 (by decide) (hto (.fieldLink RM9 64 "PieceTraceModel" "pieces" "I") (by decide +kernel)) (fun _ h9 => h9) rfl dM_add_15 ?_
  refine lv_iload_n hx hb dM_add_18 rfl (lv_at hl 3 rfl) ?_
  obtain ⟨hi9, hw⟩ := hw
  refine g_iast (wf := MW cI cL cZ hm am) (S' := muWe S8 (mpc S8) p2) hx hb hK hP hD hS 2 0 (MWc_2 cI cL cZ hm am S8) rfl rfl hi9 dM_add_19 (fun S10 eS10 H locs hP hD hS => ?_)
  have hw := hw S10 eS10
  refine lv_aload_n hx hb dM_add_20 rfl (lv_at hl 0 rfl) ?_
  refine va_get (ci := 2) (v := .ref (am 2)) (C := RM9) (T := TM9) (N := 24) hx hb hts iM9 hown hK hP 0 (MWc_0 cI cL cZ hm am S10) rfl 4 (by decide) (hto (.fieldLink RM9 16 "PieceTraceModel" "length" "[I") (by decide +kernel)) (fun _ h9 => h9) rfl dM_add_21 ?_
  refine lv_aload_n hx hb dM_add_24 rfl (lv_at hl 0 rfl) ?_
  refine va_get (ci := 2) (v := .int (mpc S10)) (C := RM9) (T := TM9) (N := 24) hx hb hts iM9 hown hK hP 0 (MWc_0 cI cL cZ hm am S10) rfl 1 (by decide) (hto (.fieldLink RM9 64 "PieceTraceModel" "pieces" "I") (by decide +kernel)) (fun _ h9 => h9) rfl dM_add_25 ?_
  refine lv_iload hx hb dM_add_28 (lv_at hl 4 rfl) ?_
  obtain ⟨hi11, hw⟩ := hw
  refine g_iast (wf := MW cI cL cZ hm am) (S' := muLe S10 (mpc S10) p3) hx hb hK hP hD hS 3 0 (MWc_3 cI cL cZ hm am S10) rfl rfl hi11 dM_add_30 (fun S12 eS12 H locs hP hD hS => ?_)
  have hw := hw S12 eS12
  refine lv_aload_n hx hb dM_add_31 rfl (lv_at hl 0 rfl) ?_
  refine va_get (ci := 2) (v := .ref (am 3)) (C := RM9) (T := TM9) (N := 24) hx hb hts iM9 hown hK hP 0 (MWc_0 cI cL cZ hm am S12) rfl 5 (by decide) (hto (.fieldLink RM9 19 "PieceTraceModel" "state" "[I") (by decide +kernel)) (fun _ h9 => h9) rfl dM_add_32 ?_
  refine lv_aload_n hx hb dM_add_35 rfl (lv_at hl 0 rfl) ?_
  refine va_get (ci := 2) (v := .int (mpc S12)) (C := RM9) (T := TM9) (N := 24) hx hb hts iM9 hown hK hP 0 (MWc_0 cI cL cZ hm am S12) rfl 1 (by decide) (hto (.fieldLink RM9 64 "PieceTraceModel" "pieces" "I") (by decide +kernel)) (fun _ h9 => h9) rfl dM_add_36 ?_
  refine lv_iconst (v := 0) hx hb dM_add_39 (by decide) ?_
  obtain ⟨hi13, hw⟩ := hw
  refine g_iast (wf := MW cI cL cZ hm am) (S' := muSt S12 (mpc S12) 0) hx hb hK hP hD hS 4 0 (MWc_4 cI cL cZ hm am S12) rfl rfl hi13 dM_add_40 (fun S14 eS14 H locs hP hD hS => ?_)
  have hw := hw S14 eS14
  refine lv_aload_n hx hb dM_add_41 rfl (lv_at hl 0 rfl) ?_
  refine va_get (ci := 2) (v := .ref (am 4)) (C := RM9) (T := TM9) (N := 24) hx hb hts iM9 hown hK hP 0 (MWc_0 cI cL cZ hm am S14) rfl 6 (by decide) (hto (.fieldLink RM9 22 "PieceTraceModel" "held" "[Z") (by decide +kernel)) (fun _ h9 => h9) rfl dM_add_42 ?_
  refine lv_aload_n hx hb dM_add_45 rfl (lv_at hl 0 rfl) ?_
  refine va_get (ci := 2) (v := .int (mpc S14)) (C := RM9) (T := TM9) (N := 24) hx hb hts iM9 hown hK hP 0 (MWc_0 cI cL cZ hm am S14) rfl 1 (by decide) (hto (.fieldLink RM9 64 "PieceTraceModel" "pieces" "I") (by decide +kernel)) (fun _ h9 => h9) rfl dM_add_46 ?_
  refine lv_iconst (v := 0) hx hb dM_add_49 (by decide) ?_
  obtain ⟨hi15, hw⟩ := hw
  refine g_zast (wf := MW cI cL cZ hm am) (S' := muHe S14 (mpc S14) 0) hx hb hK hP hD hS 5 2 (MWc_5 cI cL cZ hm am S14) rfl rfl hi15 dM_add_50 (fun S16 eS16 H locs hP hD hS => ?_)
  have hw := hw S16 eS16
  refine lv_aload_n hx hb dM_add_51 rfl (lv_at hl 0 rfl) ?_
  refine va_get (ci := 2) (v := .ref (am 5)) (C := RM9) (T := TM9) (N := 24) hx hb hts iM9 hown hK hP 0 (MWc_0 cI cL cZ hm am S16) rfl 7 (by decide) (hto (.fieldLink RM9 26 "PieceTraceModel" "of" "[I") (by decide +kernel)) (fun _ h9 => h9) rfl dM_add_52 ?_
  refine lv_aload_n hx hb dM_add_55 rfl (lv_at hl 0 rfl) ?_
  refine va_get (ci := 2) (v := .int (mpc S16)) (C := RM9) (T := TM9) (N := 24) hx hb hts iM9 hown hK hP 0 (MWc_0 cI cL cZ hm am S16) rfl 1 (by decide) (hto (.fieldLink RM9 64 "PieceTraceModel" "pieces" "I") (by decide +kernel)) (fun _ h9 => h9) rfl dM_add_56 ?_
  refine lv_iload_n hx hb dM_add_59 rfl (lv_at hl 2 rfl) ?_
  obtain ⟨hi17, hw⟩ := hw
  refine g_iast (wf := MW cI cL cZ hm am) (S' := muOf S16 (mpc S16) p1) hx hb hK hP hD hS 6 0 (MWc_6 cI cL cZ hm am S16) rfl rfl hi17 dM_add_60 (fun S18 eS18 H locs hP hD hS => ?_)
  have hw := hw S18 eS18
  refine lv_aload_n hx hb dM_add_61 rfl (lv_at hl 0 rfl) ?_
  refine va_get (ci := 2) (v := .ref (am 6)) (C := RM9) (T := TM9) (N := 24) hx hb hts iM9 hown hK hP 0 (MWc_0 cI cL cZ hm am S18) rfl 8 (by decide) (hto (.fieldLink RM9 29 "PieceTraceModel" "other" "[I") (by decide +kernel)) (fun _ h9 => h9) rfl dM_add_62 ?_
  refine lv_aload_n hx hb dM_add_65 rfl (lv_at hl 0 rfl) ?_
  refine va_get (ci := 2) (v := .int (mpc S18)) (C := RM9) (T := TM9) (N := 24) hx hb hts iM9 hown hK hP 0 (MWc_0 cI cL cZ hm am S18) rfl 1 (by decide) (hto (.fieldLink RM9 64 "PieceTraceModel" "pieces" "I") (by decide +kernel)) (fun _ h9 => h9) rfl dM_add_66 ?_
  refine lv_iconst (v := -1) hx hb dM_add_69 (by decide) ?_
  obtain ⟨hi19, hw⟩ := hw
  refine g_iast (wf := MW cI cL cZ hm am) (S' := muOt S18 (mpc S18) (-1)) hx hb hK hP hD hS 7 0 (MWc_7 cI cL cZ hm am S18) rfl rfl hi19 dM_add_70 (fun S20 eS20 H locs hP hD hS => ?_)
  have hw := hw S20 eS20
  refine lv_aload_n hx hb dM_add_71 rfl (lv_at hl 0 rfl) ?_
  refine va_get (ci := 2) (v := .ref (am 10)) (C := RM9) (T := TM9) (N := 24) hx hb hts iM9 hown hK hP 0 (MWc_0 cI cL cZ hm am S20) rfl 12 (by decide) (hto (.fieldLink RM9 41 "PieceTraceModel" "rolls" "[I") (by decide +kernel)) (fun _ h9 => h9) rfl dM_add_72 ?_
  refine lv_aload_n hx hb dM_add_75 rfl (lv_at hl 0 rfl) ?_
  refine va_get (ci := 2) (v := .int (mpc S20)) (C := RM9) (T := TM9) (N := 24) hx hb hts iM9 hown hK hP 0 (MWc_0 cI cL cZ hm am S20) rfl 1 (by decide) (hto (.fieldLink RM9 64 "PieceTraceModel" "pieces" "I") (by decide +kernel)) (fun _ h9 => h9) rfl dM_add_76 ?_
  refine lv_iload_n hx hb dM_add_79 rfl (lv_at hl 2 rfl) ?_
  refine lv_if_ge (tgt := 87) hx hb dM_add_80 (by decide) (fun c21 => ?_) (fun c21 => ?_)
  · have hw := hw.1 c21
    refine lv_aload_n hx hb dM_add_87 rfl (lv_at hl 0 rfl) ?_
    refine va_get (ci := 2) (v := .ref (am 10)) (C := RM9) (T := TM9) (N := 24) hx hb hts iM9 hown hK hP 0 (MWc_0 cI cL cZ hm am S20) rfl 12 (by decide) (hto (.fieldLink RM9 41 "PieceTraceModel" "rolls" "[I") (by decide +kernel)) (fun _ h9 => h9) rfl dM_add_88 ?_
    refine lv_iload_n hx hb dM_add_91 rfl (lv_at hl 2 rfl) ?_
    obtain ⟨hi22, hw⟩ := hw
    refine va_iald (f := (mRo S20)) hx hb hK hP 11 0 (MWc_11 cI cL cZ hm am S20) rfl hi22 dM_add_92 ?_
    exact hJ93 S20 (mRo S20 p1.toNatClampNeg) (mpc S20)   H locs ls hw hP hD hS (lv_sub hl [0, 2] rfl)
  · have hw := hw.2 c21
    refine lv_iconst (v := 0) hx hb dM_add_83 (by decide) ?_
    refine lv_goto (tgt := 93) hx hb dM_add_84 (by decide) ?_
    exact hJ93 S20 0 (mpc S20)   H locs ls hw hP hD hS (lv_sub hl [0, 2] rfl)
def wpB_M_lowest_10 (post : MSt → Prop) (K : MSt → Int64 → Int64 → Prop) (S : MSt) (u1 : Int64) (u3 : Int64) : Prop := ((u3 ≤ 0 → (¬ u1 = 0 ∧ (∀ S3 : MSt, S3 = msup S ((mup S) / u1) → (¬ u1 = 0 ∧ (∀ S5 : MSt, S5 = mslo S3 ((mlo S3) / u1) → (post S5)))))) ∧ (¬ u3 ≤ 0 → (¬ u3 = 0 ∧ (∀ v5_7 : Int64, v5_7 = (u1 - u1 / u3 * u3) → (K S u3 v5_7)))))
def wpL_M_lowest_10 (post : MSt → Prop) : Nat → MSt → Int64 → Int64 → Prop
  | 0 => fun _ _ _ => False
  | n + 1 => fun S u1 u3 => wpB_M_lowest_10 post  (wpL_M_lowest_10 post  n) S u1 u3
def wp_M_lowest (post : MSt → Prop) (S : MSt) : Prop := (∀ v1_8 : Int64, v1_8 = (mup S) → (∀ v3_9 : Int64, v3_9 = (mlo S) → (∃ n : Nat, wpL_M_lowest_10 post  n S v1_8 v3_9)))
set_option maxHeartbeats 4000000 in
set_option maxRecDepth 100000 in
theorem c_M_lowest (l : Launch) (hl9 : l.stackTraces = false) (D : va_G) (cI cL cZ : ClassId) (hm : Nat) (am : Nat → Nat) (post : MSt → Prop) (S : MSt) (hw : wp_M_lowest post  S) : gMv l yM_lowest wsM_lowest ({ frames := 0, cells := 0, slots := 0, locals := 0 }) D [(cI, .int), (cL, .long), (cZ, .boolean)] [.ref hm] (MW cI cL cZ hm am S) (MW cI cL cZ hm am) post := by
  refine g_ofMv (cc := cM_lowest) (maxL := 7) (ret := none) (own := RM9) (by decide) rfl rfl (Nat.le_of_ble_eq_true rfl) ?_
  intro p e s m below meth c A H locs ls C hr hlocks hK hG hA hP hD hS hl
  obtain ⟨hx, hb, hml, hown, hts⟩ := id C
  have hts := fun w (h9 : w ∈ gW) => hts w (List.mem_cons_of_mem _ h9)
  have hto := fun w (h9 : w ∈ gWo) => hts w (gWo_in w h9)
  have hl : lv_has ls 7 [(0, .ref hm)] := hl
  have hJ10 : ∀ (S : MSt) (u1 : Int64) (u3 : Int64) (H : Heap) (locs : List Loc) (ls : Array Slot), (∃ n : Nat, wpL_M_lowest_10 post  n S u1 u3) → va_P D vwCl (MW cI cL cZ hm am S) H → va_D A (MW cI cL cZ hm am S) → va_S A s.heap H locs → lv_has ls 7 [(1, .long u1), (3, .long u3), (0, .ref hm)] → W p l e (headSpec wsM_lowest { frames := 0, cells := 0, slots := 0, locals := 0 }).room s m ([.ref hm] : List Value).toArray below meth c H locs 0 0 (MQ below (gQv D [(cI, .int), (cL, .long), (cZ, .boolean)] (MW cI cL cZ hm am) post A) ([.ref hm] : List Value).toArray s 0 0 A) (F0 m 10 ls []) := by
    intro S u1 u3 H locs ls hw
    obtain ⟨n, hw⟩ := hw
    revert S u1 u3 H locs ls
    induction n with
    | zero => intro S u1 u3 H locs ls hw; exact hw.elim
    | succ n ih =>
      intro S u1 u3 H locs ls hw hP hD hS hl
      dsimp only [wpL_M_lowest_10, wpB_M_lowest_10] at hw
      refine lv_lload_n hx hb dM_lowest_10 rfl (lv_at hl 1 rfl) ?_
      refine lv_lconst (v := 0) hx hb dM_lowest_11 (by decide) ?_
      refine W.lcmp hx hb dM_lowest_12 ?_
      refine lv_if_le (tgt := 29) hx hb dM_lowest_13 (by decide) (fun c1 => ?_) (fun c1 => ?_)
      · have c1 : u3 ≤ 0 := (lg_cmp_le _ _).mp c1
        have hw := hw.1 c1
        refine lv_aload_n hx hb dM_lowest_29 rfl (lv_at hl 2 rfl) ?_
        refine lv_aload_n hx hb dM_lowest_30 rfl (lv_at hl 2 rfl) ?_
        refine va_get (ci := 2) (v := .long (mup S)) (C := RM9) (T := TM9) (N := 24) hx hb hts iM9 hown hK hP 0 (MWc_0 cI cL cZ hm am S) rfl 20 (by decide) (hto (.fieldLink RM9 99 "PieceTraceModel" "up" "J") (by decide +kernel)) (fun _ h9 => h9) rfl dM_lowest_31 ?_
        refine lv_lload_n hx hb dM_lowest_34 rfl (lv_at hl 0 rfl) ?_
        obtain ⟨hz2, hw⟩ := hw
        refine lv_ldiv hx hb dM_lowest_35 hz2 ?_
        refine g_put (wf := MW cI cL cZ hm am) (S' := msup S ((mup S) / u1)) (ci := 2) (v := .long ((mup S) / u1)) (ty := .long) (C := RM9) (T := TM9) (N := 24) hx hb hts iM9 tyM9 tyM9_ok nmM9 hown hK hP hD hS 0 (MWc_0 cI cL cZ hm am S) rfl 20 (by decide) (hto (.fieldLink RM9 99 "PieceTraceModel" "up" "J") (by decide +kernel)) (fun _ h9 => h9) rfl (by decide +kernel) rfl rfl (Nat.le_of_ble_eq_true rfl) rfl dM_lowest_36 (fun S3 eS3 H locs hP hD hS => ?_)
        have hw := hw S3 eS3
        refine lv_aload_n hx hb dM_lowest_39 rfl (lv_at hl 2 rfl) ?_
        refine lv_aload_n hx hb dM_lowest_40 rfl (lv_at hl 2 rfl) ?_
        refine va_get (ci := 2) (v := .long (mlo S3)) (C := RM9) (T := TM9) (N := 24) hx hb hts iM9 hown hK hP 0 (MWc_0 cI cL cZ hm am S3) rfl 21 (by decide) (hto (.fieldLink RM9 102 "PieceTraceModel" "low" "J") (by decide +kernel)) (fun _ h9 => h9) rfl dM_lowest_41 ?_
        refine lv_lload_n hx hb dM_lowest_44 rfl (lv_at hl 0 rfl) ?_
        obtain ⟨hz4, hw⟩ := hw
        refine lv_ldiv hx hb dM_lowest_45 hz4 ?_
        refine g_put (wf := MW cI cL cZ hm am) (S' := mslo S3 ((mlo S3) / u1)) (ci := 2) (v := .long ((mlo S3) / u1)) (ty := .long) (C := RM9) (T := TM9) (N := 24) hx hb hts iM9 tyM9 tyM9_ok nmM9 hown hK hP hD hS 0 (MWc_0 cI cL cZ hm am S3) rfl 21 (by decide) (hto (.fieldLink RM9 102 "PieceTraceModel" "low" "J") (by decide +kernel)) (fun _ h9 => h9) rfl (by decide +kernel) rfl rfl (Nat.le_of_ble_eq_true rfl) rfl dM_lowest_46 (fun S5 eS5 H locs hP hD hS => ?_)
        have hw := hw S5 eS5
        exact gr_v hx hb hr hlocks hK hP hD hS hw (Nat.le_of_ble_eq_true rfl) (Nat.le_of_ble_eq_true rfl) dM_lowest_49
      · have c1 : ¬ u3 ≤ 0 := fun h9 => c1 ((lg_cmp_le _ _).mpr h9)
        have hw := hw.2 c1
        refine lv_lload_n hx hb dM_lowest_16 rfl (lv_at hl 0 rfl) ?_
        refine lv_lload_n hx hb dM_lowest_17 rfl (lv_at hl 1 rfl) ?_
        obtain ⟨hz6, hw⟩ := hw
        refine lv_lrem hx hb dM_lowest_18 hz6 ?_
        refine lv_topl (fun v5_7 ev5_7 => ?_)
        have hw := hw v5_7 ev5_7
        refine lv_lstore (lv' := [(5, .long v5_7), (1, .long u1), (3, .long u3), (0, .ref hm)]) hx hb dM_lowest_19 hl (by decide) rfl (fun ls hl => ?_)
        refine lv_lload_n hx hb dM_lowest_21 rfl (lv_at hl 2 rfl) ?_
        refine lv_lstore_n (lv' := [(1, .long u3), (5, .long v5_7), (3, .long u3), (0, .ref hm)]) hx hb dM_lowest_22 rfl hl (by decide) rfl (fun ls hl => ?_)
        refine lv_lload hx hb dM_lowest_23 (lv_at hl 1 rfl) ?_
        refine lv_lstore_n (lv' := [(3, .long v5_7), (1, .long u3), (5, .long v5_7), (0, .ref hm)]) hx hb dM_lowest_25 rfl hl (by decide) rfl (fun ls hl => ?_)
        refine lv_goto (tgt := 10) hx hb dM_lowest_26 (by decide) ?_
        exact ih S u3 v5_7 H locs ls hw hP hD hS (lv_sub hl [1, 0, 3] rfl)
  dsimp only [wp_M_lowest] at hw
  refine lv_aload_n hx hb dM_lowest_0 rfl (lv_at hl 0 rfl) ?_
  refine va_get (ci := 2) (v := .long (mup S)) (C := RM9) (T := TM9) (N := 24) hx hb hts iM9 hown hK hP 0 (MWc_0 cI cL cZ hm am S) rfl 20 (by decide) (hto (.fieldLink RM9 99 "PieceTraceModel" "up" "J") (by decide +kernel)) (fun _ h9 => h9) rfl dM_lowest_1 ?_
  refine lv_topl (fun v1_8 ev1_8 => ?_)
  have hw := hw v1_8 ev1_8
  refine lv_lstore_n (lv' := [(1, .long v1_8), (0, .ref hm)]) hx hb dM_lowest_4 rfl hl (by decide) rfl (fun ls hl => ?_)
  refine lv_aload_n hx hb dM_lowest_5 rfl (lv_at hl 1 rfl) ?_
  refine va_get (ci := 2) (v := .long (mlo S)) (C := RM9) (T := TM9) (N := 24) hx hb hts iM9 hown hK hP 0 (MWc_0 cI cL cZ hm am S) rfl 21 (by decide) (hto (.fieldLink RM9 102 "PieceTraceModel" "low" "J") (by decide +kernel)) (fun _ h9 => h9) rfl dM_lowest_6 ?_
  refine lv_topl (fun v3_9 ev3_9 => ?_)
  have hw := hw v3_9 ev3_9
  refine lv_lstore_n (lv' := [(3, .long v3_9), (1, .long v1_8), (0, .ref hm)]) hx hb dM_lowest_9 rfl hl (by decide) rfl (fun ls hl => ?_)
  exact hJ10 S v1_8 v3_9   H locs ls hw hP hD hS (lv_sub hl [1, 0, 2] rfl)
def wpJ_M_goBack_164 (post : MSt → Prop) (p0 : Int32) (p1 : Int32) (K : MSt → Int32 → Prop) (S : MSt) (u4 : Int32) : Prop := (wp_M_lowest (fun  S1 => (K S1 u4))  S)
def wpJ_M_goBack_103 (post : MSt → Prop) (p0 : Int32) (p1 : Int32) (K : MSt → Int32 → Prop) (S : MSt) (u3 : Int32) (u4 : Int32) : Prop := (vp_in u3 40 ∧ (((mKi S u3.toNatClampNeg) = 3 → (vp_in u4 40 ∧ (((mup S) < ((mLe S u4.toNatClampNeg).toInt64 * (mlo S)) → (wpJ_M_goBack_164 post p0 p1 K S u4)) ∧ (¬ (mup S) < ((mLe S u4.toNatClampNeg).toInt64 * (mlo S)) → (vp_in u4 40 ∧ (∀ S7 : MSt, S7 = msup S ((mup S) - ((mLe S u4.toNatClampNeg).toInt64 * (mlo S))) → (vp_in u3 40 ∧ (∀ v4_9 : Int32, v4_9 = (mOt S7 u3.toNatClampNeg) → (wpJ_M_goBack_164 post p0 p1 K S7 v4_9))))))))) ∧ (¬ (mKi S u3.toNatClampNeg) = 3 → (wpJ_M_goBack_164 post p0 p1 K S u4))))
def wpJ_M_goBack_61 (post : MSt → Prop) (p0 : Int32) (p1 : Int32) (K : MSt → Int32 → Prop) (S : MSt) (u3 : Int32) (u4 : Int32) : Prop := (vp_in u3 40 ∧ (((mKi S u3.toNatClampNeg) = 4 → (vp_in u3 40 ∧ (∀ S13 : MSt, S13 = msup S ((mup S) * (mUn S u3.toNatClampNeg).toInt64) → (vp_in u3 40 ∧ (∀ S15 : MSt, S15 = mslo S13 ((mlo S13) * (mOv S13 u3.toNatClampNeg).toInt64) → (wpJ_M_goBack_103 post p0 p1 K S15 u3 u4)))))) ∧ (¬ (mKi S u3.toNatClampNeg) = 4 → (wpJ_M_goBack_103 post p0 p1 K S u3 u4))))
def wpB_M_goBack_13 (post : MSt → Prop) (p0 : Int32) (p1 : Int32) (K : MSt → Int32 → Prop) (S : MSt) (u3 : Int32) : Prop := (vp_in u3 40 ∧ (((mKi S u3.toNatClampNeg) = 0 → (wp_M_lowest (fun  S18 => (∀ S19 : MSt, S19 = msme S18 u3 → (post S19)))  S)) ∧ (¬ (mKi S u3.toNatClampNeg) = 0 → (vp_in u3 40 ∧ (∀ v4_21 : Int32, v4_21 = (mOf S u3.toNatClampNeg) → (vp_in u3 40 ∧ (((mKi S u3.toNatClampNeg) = 2 → (vp_in u3 40 ∧ (∀ S25 : MSt, S25 = msup S ((mup S) + ((mCu S u3.toNatClampNeg).toInt64 * (mlo S))) → (wpJ_M_goBack_61 post p0 p1 K S25 u3 v4_21)))) ∧ (¬ (mKi S u3.toNatClampNeg) = 2 → (wpJ_M_goBack_61 post p0 p1 K S u3 v4_21)))))))))
def wpL_M_goBack_13 (post : MSt → Prop) (p0 : Int32) (p1 : Int32) : Nat → MSt → Int32 → Prop
  | 0 => fun _ _ => False
  | n + 1 => fun S u3 => wpB_M_goBack_13 post p0 p1 (wpL_M_goBack_13 post p0 p1 n) S u3
def wp_M_goBack (post : MSt → Prop) (p0 : Int32) (p1 : Int32) (S : MSt) : Prop := (∀ S26 : MSt, S26 = msup S p1.toInt64 → (∀ S27 : MSt, S27 = mslo S26 1 → (∃ n : Nat, wpL_M_goBack_13 post p0 p1 n S27 p0)))
set_option maxHeartbeats 4000000 in
set_option maxRecDepth 100000 in
theorem c_M_goBack (l : Launch) (hl9 : l.stackTraces = false) (D : va_G) (cI cL cZ : ClassId) (hm : Nat) (am : Nat → Nat) (post : MSt → Prop) (p0 : Int32) (p1 : Int32) (S : MSt) (hw : wp_M_goBack post p0 p1 S) : gMv l yM_goBack wsM_goBack ({ frames := 1, cells := 0, slots := 0, locals := 26 }) D [(cI, .int), (cL, .long), (cZ, .boolean)] [.ref hm, .int p0, .int p1] (MW cI cL cZ hm am S) (MW cI cL cZ hm am) post := by
  refine g_ofMv (cc := cM_goBack) (maxL := 5) (ret := none) (own := RM9) (by decide) rfl rfl (Nat.le_of_ble_eq_true rfl) ?_
  intro p e s m below meth c A H locs ls C hr hlocks hK hG hA hP hD hS hl
  obtain ⟨hx, hb, hml, hown, hts⟩ := id C
  have hts := fun w (h9 : w ∈ gW) => hts w (List.mem_cons_of_mem _ h9)
  have hto := fun w (h9 : w ∈ gWo) => hts w (gWo_in w h9)
  have hl : lv_has ls 5 [(0, .ref hm), (1, .int p0), (2, .int p1)] := hl
  have hJ13 : ∀ (S : MSt) (u3 : Int32) (H : Heap) (locs : List Loc) (ls : Array Slot), (∃ n : Nat, wpL_M_goBack_13 post p0 p1 n S u3) → va_P D vwCl (MW cI cL cZ hm am S) H → va_D A (MW cI cL cZ hm am S) → va_S A s.heap H locs → lv_has ls 5 [(3, .int u3), (0, .ref hm)] → W p l e (headSpec wsM_goBack { frames := 1, cells := 0, slots := 0, locals := 26 }).room s m ([.ref hm, .int p0, .int p1] : List Value).toArray below meth c H locs 0 0 (MQ below (gQv D [(cI, .int), (cL, .long), (cZ, .boolean)] (MW cI cL cZ hm am) post A) ([.ref hm, .int p0, .int p1] : List Value).toArray s 0 0 A) (F0 m 13 ls []) := by
    intro S u3 H locs ls hw
    obtain ⟨n, hw⟩ := hw
    revert S u3 H locs ls
    induction n with
    | zero => intro S u3 H locs ls hw; exact hw.elim
    | succ n ih =>
      have hJ164 : ∀ (S : MSt) (u4 : Int32), ∀ (H : Heap) (locs : List Loc) (ls : Array Slot), wpJ_M_goBack_164 post p0 p1 (wpL_M_goBack_13 post p0 p1 n) S u4 → va_P D vwCl (MW cI cL cZ hm am S) H → va_D A (MW cI cL cZ hm am S) → va_S A s.heap H locs → lv_has ls 5 [(4, .int u4), (0, .ref hm)] → W p l e (headSpec wsM_goBack { frames := 1, cells := 0, slots := 0, locals := 26 }).room s m ([.ref hm, .int p0, .int p1] : List Value).toArray below meth c H locs 0 0 (MQ below (gQv D [(cI, .int), (cL, .long), (cZ, .boolean)] (MW cI cL cZ hm am) post A) ([.ref hm, .int p0, .int p1] : List Value).toArray s 0 0 A) (F0 m 164 ls []) := by
        intro S u4  H locs ls hw hP hD hS hl
        dsimp only [wpJ_M_goBack_164] at hw
        refine lv_aload_n hx hb dM_goBack_164 rfl (lv_at hl 1 rfl) ?_
        refine gk_v (wr := []) (wc := MW cI cL cZ hm am S) (wfc := MW cI cL cZ hm am) hP hD hS hA (va_runV (As := []) (rest := []) C (c_M_lowest l hl9 D cI cL cZ hm am _  S hw H.size) (cwV 0 hts (gGV (by decide +kernel) kM_lowest) rfl rfl rfl (by decide +kernel) ⟨Nat.le_of_ble_eq_true rfl, Nat.le_of_ble_eq_true rfl⟩) (g_preV (wr := []) (wc := MW cI cL cZ hm am S) (ci := 2) hK hG hA hP hD hS rfl (MWc_0 cI cL cZ hm am S) rfl) rfl rfl hl.1 rfl (lv_room (Nat.le_of_ble_eq_true rfl)) dM_goBack_165 ⟨Nat.le_of_ble_eq_true rfl, Nat.le_of_ble_eq_true rfl⟩) (fun  S1 H locs hw hP hD hS => ?_)
        have hP : va_P D vwCl (MW cI cL cZ hm am S1) H := hP
        have hD : va_D A (MW cI cL cZ hm am S1) := hD
        refine lv_iload hx hb dM_goBack_168 (lv_at hl 0 rfl) ?_
        refine lv_istore_n (lv' := [(3, .int u4), (4, .int u4), (0, .ref hm)]) hx hb dM_goBack_170 rfl hl (by decide) rfl (fun ls hl => ?_)
        refine lv_goto (tgt := 13) hx hb dM_goBack_171 (by decide) ?_
        exact ih S1 u4 H locs ls hw hP hD hS (lv_sub hl [0, 2] rfl)
      have hJ103 : ∀ (S : MSt) (u3 : Int32) (u4 : Int32), ∀ (H : Heap) (locs : List Loc) (ls : Array Slot), wpJ_M_goBack_103 post p0 p1 (wpL_M_goBack_13 post p0 p1 n) S u3 u4 → va_P D vwCl (MW cI cL cZ hm am S) H → va_D A (MW cI cL cZ hm am S) → va_S A s.heap H locs → lv_has ls 5 [(3, .int u3), (4, .int u4), (0, .ref hm)] → W p l e (headSpec wsM_goBack { frames := 1, cells := 0, slots := 0, locals := 26 }).room s m ([.ref hm, .int p0, .int p1] : List Value).toArray below meth c H locs 0 0 (MQ below (gQv D [(cI, .int), (cL, .long), (cZ, .boolean)] (MW cI cL cZ hm am) post A) ([.ref hm, .int p0, .int p1] : List Value).toArray s 0 0 A) (F0 m 103 ls []) := by
        intro S u3 u4  H locs ls hw hP hD hS hl
        dsimp only [wpJ_M_goBack_103] at hw
        refine lv_aload_n hx hb dM_goBack_103 rfl (lv_at hl 2 rfl) ?_
        refine va_get (ci := 2) (v := .ref (am 0)) (C := RM9) (T := TM9) (N := 24) hx hb hts iM9 hown hK hP 0 (MWc_0 cI cL cZ hm am S) rfl 2 (by decide) (hto (.fieldLink RM9 7 "PieceTraceModel" "kind" "[I") (by decide +kernel)) (fun _ h9 => h9) rfl dM_goBack_104 ?_
        refine lv_iload_n hx hb dM_goBack_107 rfl (lv_at hl 0 rfl) ?_
        obtain ⟨hi2, hw⟩ := hw
        refine va_iald (f := (mKi S)) hx hb hK hP 1 0 (MWc_1 cI cL cZ hm am S) rfl hi2 dM_goBack_108 ?_
        refine lv_iconst (v := 3) hx hb dM_goBack_109 (by decide) ?_
        refine lv_icmp_ne (tgt := 164) hx hb dM_goBack_110 (by decide) (fun c3 => ?_) (fun c3 => ?_)
        · have hw := hw.2 c3
          exact hJ164 S u4   H locs ls hw hP hD hS (lv_sub hl [1, 2] rfl)
        · have hw := hw.1 c3
          refine lv_aload_n hx hb dM_goBack_113 rfl (lv_at hl 2 rfl) ?_
          refine va_get (ci := 2) (v := .long (mup S)) (C := RM9) (T := TM9) (N := 24) hx hb hts iM9 hown hK hP 0 (MWc_0 cI cL cZ hm am S) rfl 20 (by decide) (hto (.fieldLink RM9 99 "PieceTraceModel" "up" "J") (by decide +kernel)) (fun _ h9 => h9) rfl dM_goBack_114 ?_
          refine lv_aload_n hx hb dM_goBack_117 rfl (lv_at hl 2 rfl) ?_
          refine va_get (ci := 2) (v := .ref (am 2)) (C := RM9) (T := TM9) (N := 24) hx hb hts iM9 hown hK hP 0 (MWc_0 cI cL cZ hm am S) rfl 4 (by decide) (hto (.fieldLink RM9 16 "PieceTraceModel" "length" "[I") (by decide +kernel)) (fun _ h9 => h9) rfl dM_goBack_118 ?_
          refine lv_iload hx hb dM_goBack_121 (lv_at hl 1 rfl) ?_
          obtain ⟨hi4, hw⟩ := hw
          refine va_iald (f := (mLe S)) hx hb hK hP 3 0 (MWc_3 cI cL cZ hm am S) rfl hi4 dM_goBack_123 ?_
          refine lv_i2l (v := (mLe S u4.toNatClampNeg).toInt64) hx hb dM_goBack_124 rfl ?_
          refine lv_aload_n hx hb dM_goBack_125 rfl (lv_at hl 2 rfl) ?_
          refine va_get (ci := 2) (v := .long (mlo S)) (C := RM9) (T := TM9) (N := 24) hx hb hts iM9 hown hK hP 0 (MWc_0 cI cL cZ hm am S) rfl 21 (by decide) (hto (.fieldLink RM9 102 "PieceTraceModel" "low" "J") (by decide +kernel)) (fun _ h9 => h9) rfl dM_goBack_126 ?_
          refine lv_lmul hx hb dM_goBack_129 ?_
          refine W.lcmp hx hb dM_goBack_130 ?_
          refine lv_if_lt (tgt := 164) hx hb dM_goBack_131 (by decide) (fun c5 => ?_) (fun c5 => ?_)
          · have c5 : (mup S) < ((mLe S u4.toNatClampNeg).toInt64 * (mlo S)) := (lg_cmp_lt _ _).mp c5
            have hw := hw.1 c5
            exact hJ164 S u4   H locs ls hw hP hD hS (lv_sub hl [1, 2] rfl)
          · have c5 : ¬ (mup S) < ((mLe S u4.toNatClampNeg).toInt64 * (mlo S)) := fun h9 => c5 ((lg_cmp_lt _ _).mpr h9)
            have hw := hw.2 c5
            refine lv_aload_n hx hb dM_goBack_134 rfl (lv_at hl 2 rfl) ?_
            refine lv_aload_n hx hb dM_goBack_135 rfl (lv_at hl 2 rfl) ?_
            refine va_get (ci := 2) (v := .long (mup S)) (C := RM9) (T := TM9) (N := 24) hx hb hts iM9 hown hK hP 0 (MWc_0 cI cL cZ hm am S) rfl 20 (by decide) (hto (.fieldLink RM9 99 "PieceTraceModel" "up" "J") (by decide +kernel)) (fun _ h9 => h9) rfl dM_goBack_136 ?_
            refine lv_aload_n hx hb dM_goBack_139 rfl (lv_at hl 2 rfl) ?_
            refine va_get (ci := 2) (v := .ref (am 2)) (C := RM9) (T := TM9) (N := 24) hx hb hts iM9 hown hK hP 0 (MWc_0 cI cL cZ hm am S) rfl 4 (by decide) (hto (.fieldLink RM9 16 "PieceTraceModel" "length" "[I") (by decide +kernel)) (fun _ h9 => h9) rfl dM_goBack_140 ?_
            refine lv_iload hx hb dM_goBack_143 (lv_at hl 1 rfl) ?_
            obtain ⟨hi6, hw⟩ := hw
            refine va_iald (f := (mLe S)) hx hb hK hP 3 0 (MWc_3 cI cL cZ hm am S) rfl hi6 dM_goBack_145 ?_
            refine lv_i2l (v := (mLe S u4.toNatClampNeg).toInt64) hx hb dM_goBack_146 rfl ?_
            refine lv_aload_n hx hb dM_goBack_147 rfl (lv_at hl 2 rfl) ?_
            refine va_get (ci := 2) (v := .long (mlo S)) (C := RM9) (T := TM9) (N := 24) hx hb hts iM9 hown hK hP 0 (MWc_0 cI cL cZ hm am S) rfl 21 (by decide) (hto (.fieldLink RM9 102 "PieceTraceModel" "low" "J") (by decide +kernel)) (fun _ h9 => h9) rfl dM_goBack_148 ?_
            refine lv_lmul hx hb dM_goBack_151 ?_
            refine lv_lsub hx hb dM_goBack_152 ?_
            refine g_put (wf := MW cI cL cZ hm am) (S' := msup S ((mup S) - ((mLe S u4.toNatClampNeg).toInt64 * (mlo S)))) (ci := 2) (v := .long ((mup S) - ((mLe S u4.toNatClampNeg).toInt64 * (mlo S)))) (ty := .long) (C := RM9) (T := TM9) (N := 24) hx hb hts iM9 tyM9 tyM9_ok nmM9 hown hK hP hD hS 0 (MWc_0 cI cL cZ hm am S) rfl 20 (by decide) (hto (.fieldLink RM9 99 "PieceTraceModel" "up" "J") (by decide +kernel)) (fun _ h9 => h9) rfl (by decide +kernel) rfl rfl (Nat.le_of_ble_eq_true rfl) rfl dM_goBack_153 (fun S7 eS7 H locs hP hD hS => ?_)
            have hw := hw S7 eS7
            refine lv_aload_n hx hb dM_goBack_156 rfl (lv_at hl 2 rfl) ?_
            refine va_get (ci := 2) (v := .ref (am 6)) (C := RM9) (T := TM9) (N := 24) hx hb hts iM9 hown hK hP 0 (MWc_0 cI cL cZ hm am S7) rfl 8 (by decide) (hto (.fieldLink RM9 29 "PieceTraceModel" "other" "[I") (by decide +kernel)) (fun _ h9 => h9) rfl dM_goBack_157 ?_
            refine lv_iload_n hx hb dM_goBack_160 rfl (lv_at hl 0 rfl) ?_
            obtain ⟨hi8, hw⟩ := hw
            refine va_iald (f := (mOt S7)) hx hb hK hP 7 0 (MWc_7 cI cL cZ hm am S7) rfl hi8 dM_goBack_161 ?_
            refine lv_topi (fun v4_9 ev4_9 => ?_)
            have hw := hw v4_9 ev4_9
            refine lv_istore (lv' := [(4, .int v4_9), (3, .int u3), (0, .ref hm)]) hx hb dM_goBack_162 hl (by decide) rfl (fun ls hl => ?_)
            exact hJ164 S7 v4_9   H locs ls hw hP hD hS (lv_sub hl [0, 2] rfl)
      have hJ61 : ∀ (S : MSt) (u3 : Int32) (u4 : Int32), ∀ (H : Heap) (locs : List Loc) (ls : Array Slot), wpJ_M_goBack_61 post p0 p1 (wpL_M_goBack_13 post p0 p1 n) S u3 u4 → va_P D vwCl (MW cI cL cZ hm am S) H → va_D A (MW cI cL cZ hm am S) → va_S A s.heap H locs → lv_has ls 5 [(3, .int u3), (4, .int u4), (0, .ref hm)] → W p l e (headSpec wsM_goBack { frames := 1, cells := 0, slots := 0, locals := 26 }).room s m ([.ref hm, .int p0, .int p1] : List Value).toArray below meth c H locs 0 0 (MQ below (gQv D [(cI, .int), (cL, .long), (cZ, .boolean)] (MW cI cL cZ hm am) post A) ([.ref hm, .int p0, .int p1] : List Value).toArray s 0 0 A) (F0 m 61 ls []) := by
        intro S u3 u4  H locs ls hw hP hD hS hl
        dsimp only [wpJ_M_goBack_61] at hw
        refine lv_aload_n hx hb dM_goBack_61 rfl (lv_at hl 2 rfl) ?_
        refine va_get (ci := 2) (v := .ref (am 0)) (C := RM9) (T := TM9) (N := 24) hx hb hts iM9 hown hK hP 0 (MWc_0 cI cL cZ hm am S) rfl 2 (by decide) (hto (.fieldLink RM9 7 "PieceTraceModel" "kind" "[I") (by decide +kernel)) (fun _ h9 => h9) rfl dM_goBack_62 ?_
        refine lv_iload_n hx hb dM_goBack_65 rfl (lv_at hl 0 rfl) ?_
        obtain ⟨hi10, hw⟩ := hw
        refine va_iald (f := (mKi S)) hx hb hK hP 1 0 (MWc_1 cI cL cZ hm am S) rfl hi10 dM_goBack_66 ?_
        refine lv_iconst (v := 4) hx hb dM_goBack_67 (by decide) ?_
        refine lv_icmp_ne (tgt := 103) hx hb dM_goBack_68 (by decide) (fun c11 => ?_) (fun c11 => ?_)
        · have hw := hw.2 c11
          exact hJ103 S u3 u4   H locs ls hw hP hD hS (lv_sub hl [0, 1, 2] rfl)
        · have hw := hw.1 c11
          refine lv_aload_n hx hb dM_goBack_71 rfl (lv_at hl 2 rfl) ?_
          refine lv_aload_n hx hb dM_goBack_72 rfl (lv_at hl 2 rfl) ?_
          refine va_get (ci := 2) (v := .long (mup S)) (C := RM9) (T := TM9) (N := 24) hx hb hts iM9 hown hK hP 0 (MWc_0 cI cL cZ hm am S) rfl 20 (by decide) (hto (.fieldLink RM9 99 "PieceTraceModel" "up" "J") (by decide +kernel)) (fun _ h9 => h9) rfl dM_goBack_73 ?_
          refine lv_aload_n hx hb dM_goBack_76 rfl (lv_at hl 2 rfl) ?_
          refine va_get (ci := 2) (v := .ref (am 9)) (C := RM9) (T := TM9) (N := 24) hx hb hts iM9 hown hK hP 0 (MWc_0 cI cL cZ hm am S) rfl 11 (by decide) (hto (.fieldLink RM9 38 "PieceTraceModel" "under" "[I") (by decide +kernel)) (fun _ h9 => h9) rfl dM_goBack_77 ?_
          refine lv_iload_n hx hb dM_goBack_80 rfl (lv_at hl 0 rfl) ?_
          obtain ⟨hi12, hw⟩ := hw
          refine va_iald (f := (mUn S)) hx hb hK hP 10 0 (MWc_10 cI cL cZ hm am S) rfl hi12 dM_goBack_81 ?_
          refine lv_i2l (v := (mUn S u3.toNatClampNeg).toInt64) hx hb dM_goBack_82 rfl ?_
          refine lv_lmul hx hb dM_goBack_83 ?_
          refine g_put (wf := MW cI cL cZ hm am) (S' := msup S ((mup S) * (mUn S u3.toNatClampNeg).toInt64)) (ci := 2) (v := .long ((mup S) * (mUn S u3.toNatClampNeg).toInt64)) (ty := .long) (C := RM9) (T := TM9) (N := 24) hx hb hts iM9 tyM9 tyM9_ok nmM9 hown hK hP hD hS 0 (MWc_0 cI cL cZ hm am S) rfl 20 (by decide) (hto (.fieldLink RM9 99 "PieceTraceModel" "up" "J") (by decide +kernel)) (fun _ h9 => h9) rfl (by decide +kernel) rfl rfl (Nat.le_of_ble_eq_true rfl) rfl dM_goBack_84 (fun S13 eS13 H locs hP hD hS => ?_)
          have hw := hw S13 eS13
          refine lv_aload_n hx hb dM_goBack_87 rfl (lv_at hl 2 rfl) ?_
          refine lv_aload_n hx hb dM_goBack_88 rfl (lv_at hl 2 rfl) ?_
          refine va_get (ci := 2) (v := .long (mlo S13)) (C := RM9) (T := TM9) (N := 24) hx hb hts iM9 hown hK hP 0 (MWc_0 cI cL cZ hm am S13) rfl 21 (by decide) (hto (.fieldLink RM9 102 "PieceTraceModel" "low" "J") (by decide +kernel)) (fun _ h9 => h9) rfl dM_goBack_89 ?_
          refine lv_aload_n hx hb dM_goBack_92 rfl (lv_at hl 2 rfl) ?_
          refine va_get (ci := 2) (v := .ref (am 8)) (C := RM9) (T := TM9) (N := 24) hx hb hts iM9 hown hK hP 0 (MWc_0 cI cL cZ hm am S13) rfl 10 (by decide) (hto (.fieldLink RM9 35 "PieceTraceModel" "over" "[I") (by decide +kernel)) (fun _ h9 => h9) rfl dM_goBack_93 ?_
          refine lv_iload_n hx hb dM_goBack_96 rfl (lv_at hl 0 rfl) ?_
          obtain ⟨hi14, hw⟩ := hw
          refine va_iald (f := (mOv S13)) hx hb hK hP 9 0 (MWc_9 cI cL cZ hm am S13) rfl hi14 dM_goBack_97 ?_
          refine lv_i2l (v := (mOv S13 u3.toNatClampNeg).toInt64) hx hb dM_goBack_98 rfl ?_
          refine lv_lmul hx hb dM_goBack_99 ?_
          refine g_put (wf := MW cI cL cZ hm am) (S' := mslo S13 ((mlo S13) * (mOv S13 u3.toNatClampNeg).toInt64)) (ci := 2) (v := .long ((mlo S13) * (mOv S13 u3.toNatClampNeg).toInt64)) (ty := .long) (C := RM9) (T := TM9) (N := 24) hx hb hts iM9 tyM9 tyM9_ok nmM9 hown hK hP hD hS 0 (MWc_0 cI cL cZ hm am S13) rfl 21 (by decide) (hto (.fieldLink RM9 102 "PieceTraceModel" "low" "J") (by decide +kernel)) (fun _ h9 => h9) rfl (by decide +kernel) rfl rfl (Nat.le_of_ble_eq_true rfl) rfl dM_goBack_100 (fun S15 eS15 H locs hP hD hS => ?_)
          have hw := hw S15 eS15
          exact hJ103 S15 u3 u4   H locs ls hw hP hD hS (lv_sub hl [0, 1, 2] rfl)
      intro S u3 H locs ls hw hP hD hS hl
      dsimp only [wpL_M_goBack_13, wpB_M_goBack_13] at hw
      refine lv_aload_n hx hb dM_goBack_13 rfl (lv_at hl 1 rfl) ?_
      refine va_get (ci := 2) (v := .ref (am 0)) (C := RM9) (T := TM9) (N := 24) hx hb hts iM9 hown hK hP 0 (MWc_0 cI cL cZ hm am S) rfl 2 (by decide) (hto (.fieldLink RM9 7 "PieceTraceModel" "kind" "[I") (by decide +kernel)) (fun _ h9 => h9) rfl dM_goBack_14 ?_
      refine lv_iload_n hx hb dM_goBack_17 rfl (lv_at hl 0 rfl) ?_
      obtain ⟨hi16, hw⟩ := hw
      refine va_iald (f := (mKi S)) hx hb hK hP 1 0 (MWc_1 cI cL cZ hm am S) rfl hi16 dM_goBack_18 ?_
      refine lv_if_eq (tgt := 174) hx hb dM_goBack_19 (by decide) (fun c17 => ?_) (fun c17 => ?_)
      · have hw := hw.1 c17
        refine lv_aload_n hx hb dM_goBack_174 rfl (lv_at hl 1 rfl) ?_
        refine gk_v (wr := []) (wc := MW cI cL cZ hm am S) (wfc := MW cI cL cZ hm am) hP hD hS hA (va_runV (As := []) (rest := []) C (c_M_lowest l hl9 D cI cL cZ hm am _  S hw H.size) (cwV 0 hts (gGV (by decide +kernel) kM_lowest) rfl rfl rfl (by decide +kernel) ⟨Nat.le_of_ble_eq_true rfl, Nat.le_of_ble_eq_true rfl⟩) (g_preV (wr := []) (wc := MW cI cL cZ hm am S) (ci := 2) hK hG hA hP hD hS rfl (MWc_0 cI cL cZ hm am S) rfl) rfl rfl hl.1 rfl (lv_room (Nat.le_of_ble_eq_true rfl)) dM_goBack_175 ⟨Nat.le_of_ble_eq_true rfl, Nat.le_of_ble_eq_true rfl⟩) (fun  S18 H locs hw hP hD hS => ?_)
        have hP : va_P D vwCl (MW cI cL cZ hm am S18) H := hP
        have hD : va_D A (MW cI cL cZ hm am S18) := hD
        refine lv_aload_n hx hb dM_goBack_178 rfl (lv_at hl 1 rfl) ?_
        refine lv_iload_n hx hb dM_goBack_179 rfl (lv_at hl 0 rfl) ?_
        refine g_put (wf := MW cI cL cZ hm am) (S' := msme S18 u3) (ci := 2) (v := .int u3) (ty := .int) (C := RM9) (T := TM9) (N := 24) hx hb hts iM9 tyM9 tyM9_ok nmM9 hown hK hP hD hS 0 (MWc_0 cI cL cZ hm am S18) rfl 19 (by decide) (hto (.fieldLink RM9 108 "PieceTraceModel" "melt" "I") (by decide +kernel)) (fun _ h9 => h9) rfl (by decide +kernel) rfl rfl (Nat.le_of_ble_eq_true rfl) rfl dM_goBack_180 (fun S19 eS19 H locs hP hD hS => ?_)
        have hw := hw S19 eS19
        exact gr_v hx hb hr hlocks hK hP hD hS hw (Nat.le_of_ble_eq_true rfl) (Nat.le_of_ble_eq_true rfl) dM_goBack_183
      · have hw := hw.2 c17
        refine lv_aload_n hx hb dM_goBack_22 rfl (lv_at hl 1 rfl) ?_
        refine va_get (ci := 2) (v := .ref (am 5)) (C := RM9) (T := TM9) (N := 24) hx hb hts iM9 hown hK hP 0 (MWc_0 cI cL cZ hm am S) rfl 7 (by decide) (hto (.fieldLink RM9 26 "PieceTraceModel" "of" "[I") (by decide +kernel)) (fun _ h9 => h9) rfl dM_goBack_23 ?_
        refine lv_iload_n hx hb dM_goBack_26 rfl (lv_at hl 0 rfl) ?_
        obtain ⟨hi20, hw⟩ := hw
        refine va_iald (f := (mOf S)) hx hb hK hP 6 0 (MWc_6 cI cL cZ hm am S) rfl hi20 dM_goBack_27 ?_
        refine lv_topi (fun v4_21 ev4_21 => ?_)
        have hw := hw v4_21 ev4_21
        refine lv_istore (lv' := [(4, .int v4_21), (3, .int u3), (0, .ref hm)]) hx hb dM_goBack_28 hl (by decide) rfl (fun ls hl => ?_)
        refine lv_aload_n hx hb dM_goBack_30 rfl (lv_at hl 2 rfl) ?_
        refine va_get (ci := 2) (v := .ref (am 0)) (C := RM9) (T := TM9) (N := 24) hx hb hts iM9 hown hK hP 0 (MWc_0 cI cL cZ hm am S) rfl 2 (by decide) (hto (.fieldLink RM9 7 "PieceTraceModel" "kind" "[I") (by decide +kernel)) (fun _ h9 => h9) rfl dM_goBack_31 ?_
        refine lv_iload_n hx hb dM_goBack_34 rfl (lv_at hl 1 rfl) ?_
        obtain ⟨hi22, hw⟩ := hw
        refine va_iald (f := (mKi S)) hx hb hK hP 1 0 (MWc_1 cI cL cZ hm am S) rfl hi22 dM_goBack_35 ?_
        refine lv_iconst (v := 2) hx hb dM_goBack_36 (by decide) ?_
        refine lv_icmp_ne (tgt := 61) hx hb dM_goBack_37 (by decide) (fun c23 => ?_) (fun c23 => ?_)
        · have hw := hw.2 c23
          exact hJ61 S u3 v4_21   H locs ls hw hP hD hS (lv_sub hl [1, 0, 2] rfl)
        · have hw := hw.1 c23
          refine lv_aload_n hx hb dM_goBack_40 rfl (lv_at hl 2 rfl) ?_
          refine lv_aload_n hx hb dM_goBack_41 rfl (lv_at hl 2 rfl) ?_
          refine va_get (ci := 2) (v := .long (mup S)) (C := RM9) (T := TM9) (N := 24) hx hb hts iM9 hown hK hP 0 (MWc_0 cI cL cZ hm am S) rfl 20 (by decide) (hto (.fieldLink RM9 99 "PieceTraceModel" "up" "J") (by decide +kernel)) (fun _ h9 => h9) rfl dM_goBack_42 ?_
          refine lv_aload_n hx hb dM_goBack_45 rfl (lv_at hl 2 rfl) ?_
          refine va_get (ci := 2) (v := .ref (am 7)) (C := RM9) (T := TM9) (N := 24) hx hb hts iM9 hown hK hP 0 (MWc_0 cI cL cZ hm am S) rfl 9 (by decide) (hto (.fieldLink RM9 32 "PieceTraceModel" "cutAt" "[I") (by decide +kernel)) (fun _ h9 => h9) rfl dM_goBack_46 ?_
          refine lv_iload_n hx hb dM_goBack_49 rfl (lv_at hl 1 rfl) ?_
          obtain ⟨hi24, hw⟩ := hw
          refine va_iald (f := (mCu S)) hx hb hK hP 8 0 (MWc_8 cI cL cZ hm am S) rfl hi24 dM_goBack_50 ?_
          refine lv_i2l (v := (mCu S u3.toNatClampNeg).toInt64) hx hb dM_goBack_51 rfl ?_
          refine lv_aload_n hx hb dM_goBack_52 rfl (lv_at hl 2 rfl) ?_
          refine va_get (ci := 2) (v := .long (mlo S)) (C := RM9) (T := TM9) (N := 24) hx hb hts iM9 hown hK hP 0 (MWc_0 cI cL cZ hm am S) rfl 21 (by decide) (hto (.fieldLink RM9 102 "PieceTraceModel" "low" "J") (by decide +kernel)) (fun _ h9 => h9) rfl dM_goBack_53 ?_
          refine lv_lmul hx hb dM_goBack_56 ?_
          refine lv_ladd hx hb dM_goBack_57 ?_
          refine g_put (wf := MW cI cL cZ hm am) (S' := msup S ((mup S) + ((mCu S u3.toNatClampNeg).toInt64 * (mlo S)))) (ci := 2) (v := .long ((mup S) + ((mCu S u3.toNatClampNeg).toInt64 * (mlo S)))) (ty := .long) (C := RM9) (T := TM9) (N := 24) hx hb hts iM9 tyM9 tyM9_ok nmM9 hown hK hP hD hS 0 (MWc_0 cI cL cZ hm am S) rfl 20 (by decide) (hto (.fieldLink RM9 99 "PieceTraceModel" "up" "J") (by decide +kernel)) (fun _ h9 => h9) rfl (by decide +kernel) rfl rfl (Nat.le_of_ble_eq_true rfl) rfl dM_goBack_58 (fun S25 eS25 H locs hP hD hS => ?_)
          have hw := hw S25 eS25
          exact hJ61 S25 u3 v4_21   H locs ls hw hP hD hS (lv_sub hl [1, 0, 2] rfl)
  dsimp only [wp_M_goBack] at hw
  refine lv_iload_n hx hb dM_goBack_0 rfl (lv_at hl 1 rfl) ?_
  refine lv_istore_n (lv' := [(3, .int p0), (0, .ref hm), (1, .int p0), (2, .int p1)]) hx hb dM_goBack_1 rfl hl (by decide) rfl (fun ls hl => ?_)
  refine lv_aload_n hx hb dM_goBack_2 rfl (lv_at hl 1 rfl) ?_
  refine lv_iload_n hx hb dM_goBack_3 rfl (lv_at hl 3 rfl) ?_
  refine lv_i2l (v := p1.toInt64) hx hb dM_goBack_4 rfl ?_
  refine g_put (wf := MW cI cL cZ hm am) (S' := msup S p1.toInt64) (ci := 2) (v := .long p1.toInt64) (ty := .long) (C := RM9) (T := TM9) (N := 24) hx hb hts iM9 tyM9 tyM9_ok nmM9 hown hK hP hD hS 0 (MWc_0 cI cL cZ hm am S) rfl 20 (by decide) (hto (.fieldLink RM9 99 "PieceTraceModel" "up" "J") (by decide +kernel)) (fun _ h9 => h9) rfl (by decide +kernel) rfl rfl (Nat.le_of_ble_eq_true rfl) rfl dM_goBack_5 (fun S26 eS26 H locs hP hD hS => ?_)
  have hw := hw S26 eS26
  refine lv_aload_n hx hb dM_goBack_8 rfl (lv_at hl 1 rfl) ?_
  refine lv_lconst (v := 1) hx hb dM_goBack_9 (by decide) ?_
  refine g_put (wf := MW cI cL cZ hm am) (S' := mslo S26 1) (ci := 2) (v := .long 1) (ty := .long) (C := RM9) (T := TM9) (N := 24) hx hb hts iM9 tyM9 tyM9_ok nmM9 hown hK hP hD hS 0 (MWc_0 cI cL cZ hm am S26) rfl 21 (by decide) (hto (.fieldLink RM9 102 "PieceTraceModel" "low" "J") (by decide +kernel)) (fun _ h9 => h9) rfl (by decide +kernel) rfl rfl (Nat.le_of_ble_eq_true rfl) rfl dM_goBack_10 (fun S27 eS27 H locs hP hD hS => ?_)
  have hw := hw S27 eS27
  exact hJ13 S27 p0   H locs ls hw hP hD hS (lv_sub hl [0, 1] rfl)
def wpJ_M_takes_34 (post : Int32 → MSt → Prop) (p0 : Int32) (S : MSt) (t0 : Int32) : Prop := (post t0 S)
def wp_M_takes (post : Int32 → MSt → Prop) (p0 : Int32) (S : MSt) : Prop := (vp_in p0 40 ∧ (∀ S2 : MSt, S2 = msup S (mFU S p0.toNatClampNeg) → (vp_in p0 40 ∧ (∀ S4 : MSt, S4 = mslo S2 (mFL S2 p0.toNatClampNeg) → (((mup S4) < 0 → (wpJ_M_takes_34 post p0 S4 0)) ∧ (¬ (mup S4) < 0 → (wpJ_M_takes_34 post p0 S4 1)))))))
set_option maxHeartbeats 4000000 in
set_option maxRecDepth 100000 in
theorem c_M_takes (l : Launch) (hl9 : l.stackTraces = false) (D : va_G) (cI cL cZ : ClassId) (hm : Nat) (am : Nat → Nat) (post : Int32 → MSt → Prop) (p0 : Int32) (S : MSt) (hw : wp_M_takes post p0 S) : gMz l yM_takes wsM_takes ({ frames := 0, cells := 0, slots := 0, locals := 0 }) D [(cI, .int), (cL, .long), (cZ, .boolean)] [.ref hm, .int p0] (MW cI cL cZ hm am S) (MW cI cL cZ hm am) post := by
  refine g_ofMz (cc := cM_takes) (maxL := 2) (ret := (some .boolean)) (own := RM9) (by decide) rfl rfl (Nat.le_of_ble_eq_true rfl) ?_
  intro p e s m below meth c A H locs ls C hr hlocks hK hG hA hP hD hS hl
  obtain ⟨hx, hb, hml, hown, hts⟩ := id C
  have hts := fun w (h9 : w ∈ gW) => hts w (List.mem_cons_of_mem _ h9)
  have hto := fun w (h9 : w ∈ gWo) => hts w (gWo_in w h9)
  have hl : lv_has ls 2 [(0, .ref hm), (1, .int p0)] := hl
  have hJ34 : ∀ (S : MSt) (t0 : Int32), (t0 = 0 ∨ t0 = 1) → ∀ (H : Heap) (locs : List Loc) (ls : Array Slot), wpJ_M_takes_34 post p0 S t0 → va_P D vwCl (MW cI cL cZ hm am S) H → va_D A (MW cI cL cZ hm am S) → va_S A s.heap H locs → lv_has ls 2 [] → W p l e (headSpec wsM_takes { frames := 0, cells := 0, slots := 0, locals := 0 }).room s m ([.ref hm, .int p0] : List Value).toArray below meth c H locs 0 0 (MQ below (gQz D [(cI, .int), (cL, .long), (cZ, .boolean)] (MW cI cL cZ hm am) post A) ([.ref hm, .int p0] : List Value).toArray s 0 0 A) (F0 m 34 ls [.int t0]) := by
    intro S t0 hbt0 H locs ls hw hP hD hS hl
    dsimp only [wpJ_M_takes_34] at hw
    exact gr_z hx hb hr hlocks hbt0 hK hP hD hS hw (Nat.le_of_ble_eq_true rfl) (Nat.le_of_ble_eq_true rfl) dM_takes_34
  dsimp only [wp_M_takes] at hw
  refine lv_aload_n hx hb dM_takes_0 rfl (lv_at hl 0 rfl) ?_
  refine lv_aload_n hx hb dM_takes_1 rfl (lv_at hl 0 rfl) ?_
  refine va_get (ci := 2) (v := .ref (am 14)) (C := RM9) (T := TM9) (N := 24) hx hb hts iM9 hown hK hP 0 (MWc_0 cI cL cZ hm am S) rfl 22 (by decide) (hto (.fieldLink RM9 54 "PieceTraceModel" "ups" "[J") (by decide +kernel)) (fun _ h9 => h9) rfl dM_takes_2 ?_
  refine lv_iload_n hx hb dM_takes_5 rfl (lv_at hl 1 rfl) ?_
  obtain ⟨hi1, hw⟩ := hw
  refine va_lald (f := (mFU S)) hx hb hK hP 15 1 (MWc_15 cI cL cZ hm am S) rfl hi1 dM_takes_6 ?_
  refine g_put (wf := MW cI cL cZ hm am) (S' := msup S (mFU S p0.toNatClampNeg)) (ci := 2) (v := .long (mFU S p0.toNatClampNeg)) (ty := .long) (C := RM9) (T := TM9) (N := 24) hx hb hts iM9 tyM9 tyM9_ok nmM9 hown hK hP hD hS 0 (MWc_0 cI cL cZ hm am S) rfl 20 (by decide) (hto (.fieldLink RM9 99 "PieceTraceModel" "up" "J") (by decide +kernel)) (fun _ h9 => h9) rfl (by decide +kernel) rfl rfl (Nat.le_of_ble_eq_true rfl) rfl dM_takes_7 (fun S2 eS2 H locs hP hD hS => ?_)
  have hw := hw S2 eS2
  refine lv_aload_n hx hb dM_takes_10 rfl (lv_at hl 0 rfl) ?_
  refine lv_aload_n hx hb dM_takes_11 rfl (lv_at hl 0 rfl) ?_
  refine va_get (ci := 2) (v := .ref (am 15)) (C := RM9) (T := TM9) (N := 24) hx hb hts iM9 hown hK hP 0 (MWc_0 cI cL cZ hm am S2) rfl 23 (by decide) (hto (.fieldLink RM9 57 "PieceTraceModel" "lows" "[J") (by decide +kernel)) (fun _ h9 => h9) rfl dM_takes_12 ?_
  refine lv_iload_n hx hb dM_takes_15 rfl (lv_at hl 1 rfl) ?_
  obtain ⟨hi3, hw⟩ := hw
  refine va_lald (f := (mFL S2)) hx hb hK hP 16 1 (MWc_16 cI cL cZ hm am S2) rfl hi3 dM_takes_16 ?_
  refine g_put (wf := MW cI cL cZ hm am) (S' := mslo S2 (mFL S2 p0.toNatClampNeg)) (ci := 2) (v := .long (mFL S2 p0.toNatClampNeg)) (ty := .long) (C := RM9) (T := TM9) (N := 24) hx hb hts iM9 tyM9 tyM9_ok nmM9 hown hK hP hD hS 0 (MWc_0 cI cL cZ hm am S2) rfl 21 (by decide) (hto (.fieldLink RM9 102 "PieceTraceModel" "low" "J") (by decide +kernel)) (fun _ h9 => h9) rfl (by decide +kernel) rfl rfl (Nat.le_of_ble_eq_true rfl) rfl dM_takes_17 (fun S4 eS4 H locs hP hD hS => ?_)
  have hw := hw S4 eS4
  refine lv_aload_n hx hb dM_takes_20 rfl (lv_at hl 0 rfl) ?_
  refine va_get (ci := 2) (v := .long (mup S4)) (C := RM9) (T := TM9) (N := 24) hx hb hts iM9 hown hK hP 0 (MWc_0 cI cL cZ hm am S4) rfl 20 (by decide) (hto (.fieldLink RM9 99 "PieceTraceModel" "up" "J") (by decide +kernel)) (fun _ h9 => h9) rfl dM_takes_21 ?_
  refine lv_lconst (v := 0) hx hb dM_takes_24 (by decide) ?_
  refine W.lcmp hx hb dM_takes_25 ?_
  refine lv_if_lt (tgt := 33) hx hb dM_takes_26 (by decide) (fun c5 => ?_) (fun c5 => ?_)
  · have c5 : (mup S4) < 0 := (lg_cmp_lt _ _).mp c5
    have hw := hw.1 c5
    refine lv_iconst (v := 0) hx hb dM_takes_33 (by decide) ?_
    exact hJ34 S4 0  (Or.inl rfl) H locs ls hw hP hD hS (lv_sub hl [] rfl)
  · have c5 : ¬ (mup S4) < 0 := fun h9 => c5 ((lg_cmp_lt _ _).mpr h9)
    have hw := hw.2 c5
    refine lv_iconst (v := 1) hx hb dM_takes_29 (by decide) ?_
    refine lv_goto (tgt := 34) hx hb dM_takes_30 (by decide) ?_
    exact hJ34 S4 1  (Or.inr rfl) H locs ls hw hP hD hS (lv_sub hl [] rfl)
def wpJ_M_reaches_232 (post : Int32 → MSt → Prop) (p0 : Int32) (S : MSt) (t0 : Int32) : Prop := (post t0 S)
def wpJ_M_reaches_164 (post : Int32 → MSt → Prop) (p0 : Int32) (S : MSt) (t0 : Int32) : Prop := (post t0 S)
def wpJ_M_reaches_118 (post : Int32 → MSt → Prop) (p0 : Int32) (S : MSt) (t0 : Int32) : Prop := (post t0 S)
def wp_M_reaches (post : Int32 → MSt → Prop) (p0 : Int32) (S : MSt) : Prop := (vp_in p0 40 ∧ (((mKi S p0.toNatClampNeg) = 3 → (vp_in p0 40 ∧ (wp_M_takes (fun r26 S25 => ((r26 = 0 → (vp_in p0 40 ∧ (wp_M_takes (fun r30 S29 => ((r30 = 0 → (post 0 S29)) ∧ (¬ r30 = 0 → (vp_in p0 40 ∧ (vp_in (mOf S29 p0.toNatClampNeg) 40 ∧ (∀ S34 : MSt, S34 = msup S29 ((mup S29) + ((mLe S29 (mOf S29 p0.toNatClampNeg).toNatClampNeg).toInt64 * (mlo S29))) → (post 1 S34))))))) (mOt S25 p0.toNatClampNeg) S25))) ∧ (¬ r26 = 0 → (post 1 S25)))) (mOf S p0.toNatClampNeg) S))) ∧ (¬ (mKi S p0.toNatClampNeg) = 3 → (vp_in p0 40 ∧ (wp_M_takes (fun r5 S4 => ((r5 = 0 → (post 0 S4)) ∧ (¬ r5 = 0 → (vp_in p0 40 ∧ (((mKi S4 p0.toNatClampNeg) = 1 → (vp_in p0 40 ∧ ((((mCu S4 p0.toNatClampNeg).toInt64 * (mlo S4)) ≤ (mup S4) → (wpJ_M_reaches_118 post p0 S4 0)) ∧ (¬ ((mCu S4 p0.toNatClampNeg).toInt64 * (mlo S4)) ≤ (mup S4) → (wpJ_M_reaches_118 post p0 S4 1))))) ∧ (¬ (mKi S4 p0.toNatClampNeg) = 1 → (vp_in p0 40 ∧ (((mKi S4 p0.toNatClampNeg) = 2 → (vp_in p0 40 ∧ (∀ S20 : MSt, S20 = msup S4 ((mup S4) - ((mCu S4 p0.toNatClampNeg).toInt64 * (mlo S4))) → (((mup S20) < 0 → (wpJ_M_reaches_164 post p0 S20 0)) ∧ (¬ (mup S20) < 0 → (wpJ_M_reaches_164 post p0 S20 1)))))) ∧ (¬ (mKi S4 p0.toNatClampNeg) = 2 → (vp_in p0 40 ∧ (((mKi S4 p0.toNatClampNeg) = 4 → (vp_in p0 40 ∧ (∀ S14 : MSt, S14 = msup S4 ((mup S4) * (mOv S4 p0.toNatClampNeg).toInt64) → (vp_in p0 40 ∧ (∀ S16 : MSt, S16 = mslo S14 ((mlo S14) * (mUn S14 p0.toNatClampNeg).toInt64) → (vp_in p0 40 ∧ ((((mLe S16 p0.toNatClampNeg).toInt64 * (mlo S16)) ≤ (mup S16) → (wpJ_M_reaches_232 post p0 S16 0)) ∧ (¬ ((mLe S16 p0.toNatClampNeg).toInt64 * (mlo S16)) ≤ (mup S16) → (wpJ_M_reaches_232 post p0 S16 1))))))))) ∧ (¬ (mKi S4 p0.toNatClampNeg) = 4 → (post 1 S4))))))))))))) (mOf S p0.toNatClampNeg) S)))))
set_option maxHeartbeats 4000000 in
set_option maxRecDepth 100000 in
theorem c_M_reaches (l : Launch) (hl9 : l.stackTraces = false) (D : va_G) (cI cL cZ : ClassId) (hm : Nat) (am : Nat → Nat) (post : Int32 → MSt → Prop) (p0 : Int32) (S : MSt) (hw : wp_M_reaches post p0 S) : gMz l yM_reaches wsM_reaches ({ frames := 1, cells := 0, slots := 0, locals := 21 }) D [(cI, .int), (cL, .long), (cZ, .boolean)] [.ref hm, .int p0] (MW cI cL cZ hm am S) (MW cI cL cZ hm am) post := by
  refine g_ofMz (cc := cM_reaches) (maxL := 2) (ret := (some .boolean)) (own := RM9) (by decide) rfl rfl (Nat.le_of_ble_eq_true rfl) ?_
  intro p e s m below meth c A H locs ls C hr hlocks hK hG hA hP hD hS hl
  obtain ⟨hx, hb, hml, hown, hts⟩ := id C
  have hts := fun w (h9 : w ∈ gW) => hts w (List.mem_cons_of_mem _ h9)
  have hto := fun w (h9 : w ∈ gWo) => hts w (gWo_in w h9)
  have hl : lv_has ls 2 [(0, .ref hm), (1, .int p0)] := hl
  have hJ232 : ∀ (S : MSt) (t0 : Int32), (t0 = 0 ∨ t0 = 1) → ∀ (H : Heap) (locs : List Loc) (ls : Array Slot), wpJ_M_reaches_232 post p0 S t0 → va_P D vwCl (MW cI cL cZ hm am S) H → va_D A (MW cI cL cZ hm am S) → va_S A s.heap H locs → lv_has ls 2 [] → W p l e (headSpec wsM_reaches { frames := 1, cells := 0, slots := 0, locals := 21 }).room s m ([.ref hm, .int p0] : List Value).toArray below meth c H locs 0 0 (MQ below (gQz D [(cI, .int), (cL, .long), (cZ, .boolean)] (MW cI cL cZ hm am) post A) ([.ref hm, .int p0] : List Value).toArray s 0 0 A) (F0 m 232 ls [.int t0]) := by
    intro S t0 hbt0 H locs ls hw hP hD hS hl
    dsimp only [wpJ_M_reaches_232] at hw
    exact gr_z hx hb hr hlocks hbt0 hK hP hD hS hw (Nat.le_of_ble_eq_true rfl) (Nat.le_of_ble_eq_true rfl) dM_reaches_232
  have hJ164 : ∀ (S : MSt) (t0 : Int32), (t0 = 0 ∨ t0 = 1) → ∀ (H : Heap) (locs : List Loc) (ls : Array Slot), wpJ_M_reaches_164 post p0 S t0 → va_P D vwCl (MW cI cL cZ hm am S) H → va_D A (MW cI cL cZ hm am S) → va_S A s.heap H locs → lv_has ls 2 [] → W p l e (headSpec wsM_reaches { frames := 1, cells := 0, slots := 0, locals := 21 }).room s m ([.ref hm, .int p0] : List Value).toArray below meth c H locs 0 0 (MQ below (gQz D [(cI, .int), (cL, .long), (cZ, .boolean)] (MW cI cL cZ hm am) post A) ([.ref hm, .int p0] : List Value).toArray s 0 0 A) (F0 m 164 ls [.int t0]) := by
    intro S t0 hbt0 H locs ls hw hP hD hS hl
    dsimp only [wpJ_M_reaches_164] at hw
    exact gr_z hx hb hr hlocks hbt0 hK hP hD hS hw (Nat.le_of_ble_eq_true rfl) (Nat.le_of_ble_eq_true rfl) dM_reaches_164
  have hJ118 : ∀ (S : MSt) (t0 : Int32), (t0 = 0 ∨ t0 = 1) → ∀ (H : Heap) (locs : List Loc) (ls : Array Slot), wpJ_M_reaches_118 post p0 S t0 → va_P D vwCl (MW cI cL cZ hm am S) H → va_D A (MW cI cL cZ hm am S) → va_S A s.heap H locs → lv_has ls 2 [] → W p l e (headSpec wsM_reaches { frames := 1, cells := 0, slots := 0, locals := 21 }).room s m ([.ref hm, .int p0] : List Value).toArray below meth c H locs 0 0 (MQ below (gQz D [(cI, .int), (cL, .long), (cZ, .boolean)] (MW cI cL cZ hm am) post A) ([.ref hm, .int p0] : List Value).toArray s 0 0 A) (F0 m 118 ls [.int t0]) := by
    intro S t0 hbt0 H locs ls hw hP hD hS hl
    dsimp only [wpJ_M_reaches_118] at hw
    exact gr_z hx hb hr hlocks hbt0 hK hP hD hS hw (Nat.le_of_ble_eq_true rfl) (Nat.le_of_ble_eq_true rfl) dM_reaches_118
  dsimp only [wp_M_reaches] at hw
  refine lv_aload_n hx hb dM_reaches_0 rfl (lv_at hl 0 rfl) ?_
  refine va_get (ci := 2) (v := .ref (am 0)) (C := RM9) (T := TM9) (N := 24) hx hb hts iM9 hown hK hP 0 (MWc_0 cI cL cZ hm am S) rfl 2 (by decide) (hto (.fieldLink RM9 7 "PieceTraceModel" "kind" "[I") (by decide +kernel)) (fun _ h9 => h9) rfl dM_reaches_1 ?_
  refine lv_iload_n hx hb dM_reaches_4 rfl (lv_at hl 1 rfl) ?_
  obtain ⟨hi1, hw⟩ := hw
  refine va_iald (f := (mKi S)) hx hb hK hP 1 0 (MWc_1 cI cL cZ hm am S) rfl hi1 dM_reaches_5 ?_
  refine lv_iconst (v := 3) hx hb dM_reaches_6 (by decide) ?_
  refine lv_icmp_ne (tgt := 68) hx hb dM_reaches_7 (by decide) (fun c2 => ?_) (fun c2 => ?_)
  · have hw := hw.2 c2
    refine lv_aload_n hx hb dM_reaches_68 rfl (lv_at hl 0 rfl) ?_
    refine lv_aload_n hx hb dM_reaches_69 rfl (lv_at hl 0 rfl) ?_
    refine va_get (ci := 2) (v := .ref (am 5)) (C := RM9) (T := TM9) (N := 24) hx hb hts iM9 hown hK hP 0 (MWc_0 cI cL cZ hm am S) rfl 7 (by decide) (hto (.fieldLink RM9 26 "PieceTraceModel" "of" "[I") (by decide +kernel)) (fun _ h9 => h9) rfl dM_reaches_70 ?_
    refine lv_iload_n hx hb dM_reaches_73 rfl (lv_at hl 1 rfl) ?_
    obtain ⟨hi3, hw⟩ := hw
    refine va_iald (f := (mOf S)) hx hb hK hP 6 0 (MWc_6 cI cL cZ hm am S) rfl hi3 dM_reaches_74 ?_
    refine gk_z (wr := []) (wc := MW cI cL cZ hm am S) (wfc := MW cI cL cZ hm am) hP hD hS hA (va_runV (As := [.int (mOf S p0.toNatClampNeg)]) (rest := []) C (c_M_takes l hl9 D cI cL cZ hm am _ (mOf S p0.toNatClampNeg) S hw H.size) (cwV 1 hts (gGV (by decide +kernel) kM_takes) rfl rfl rfl (by decide +kernel) ⟨Nat.le_of_ble_eq_true rfl, Nat.le_of_ble_eq_true rfl⟩) (g_preV (wr := []) (wc := MW cI cL cZ hm am S) (ci := 2) hK hG hA hP hD hS rfl (MWc_0 cI cL cZ hm am S) rfl) rfl rfl hl.1 rfl (lv_room (Nat.le_of_ble_eq_true rfl)) dM_reaches_75 ⟨Nat.le_of_ble_eq_true rfl, Nat.le_of_ble_eq_true rfl⟩) (fun r5 S4 hbr5 H locs hw hP hD hS => ?_)
    have hP : va_P D vwCl (MW cI cL cZ hm am S4) H := hP
    have hD : va_D A (MW cI cL cZ hm am S4) := hD
    refine lv_if_ne (tgt := 83) hx hb dM_reaches_78 (by decide) (fun c6 => ?_) (fun c6 => ?_)
    · have hw := hw.2 c6
      refine lv_aload_n hx hb dM_reaches_83 rfl (lv_at hl 0 rfl) ?_
      refine va_get (ci := 2) (v := .ref (am 0)) (C := RM9) (T := TM9) (N := 24) hx hb hts iM9 hown hK hP 0 (MWc_0 cI cL cZ hm am S4) rfl 2 (by decide) (hto (.fieldLink RM9 7 "PieceTraceModel" "kind" "[I") (by decide +kernel)) (fun _ h9 => h9) rfl dM_reaches_84 ?_
      refine lv_iload_n hx hb dM_reaches_87 rfl (lv_at hl 1 rfl) ?_
      obtain ⟨hi7, hw⟩ := hw
      refine va_iald (f := (mKi S4)) hx hb hK hP 1 0 (MWc_1 cI cL cZ hm am S4) rfl hi7 dM_reaches_88 ?_
      refine lv_iconst (v := 1) hx hb dM_reaches_89 (by decide) ?_
      refine lv_icmp_ne (tgt := 119) hx hb dM_reaches_90 (by decide) (fun c8 => ?_) (fun c8 => ?_)
      · have hw := hw.2 c8
        refine lv_aload_n hx hb dM_reaches_119 rfl (lv_at hl 0 rfl) ?_
        refine va_get (ci := 2) (v := .ref (am 0)) (C := RM9) (T := TM9) (N := 24) hx hb hts iM9 hown hK hP 0 (MWc_0 cI cL cZ hm am S4) rfl 2 (by decide) (hto (.fieldLink RM9 7 "PieceTraceModel" "kind" "[I") (by decide +kernel)) (fun _ h9 => h9) rfl dM_reaches_120 ?_
        refine lv_iload_n hx hb dM_reaches_123 rfl (lv_at hl 1 rfl) ?_
        obtain ⟨hi9, hw⟩ := hw
        refine va_iald (f := (mKi S4)) hx hb hK hP 1 0 (MWc_1 cI cL cZ hm am S4) rfl hi9 dM_reaches_124 ?_
        refine lv_iconst (v := 2) hx hb dM_reaches_125 (by decide) ?_
        refine lv_icmp_ne (tgt := 165) hx hb dM_reaches_126 (by decide) (fun c10 => ?_) (fun c10 => ?_)
        · have hw := hw.2 c10
          refine lv_aload_n hx hb dM_reaches_165 rfl (lv_at hl 0 rfl) ?_
          refine va_get (ci := 2) (v := .ref (am 0)) (C := RM9) (T := TM9) (N := 24) hx hb hts iM9 hown hK hP 0 (MWc_0 cI cL cZ hm am S4) rfl 2 (by decide) (hto (.fieldLink RM9 7 "PieceTraceModel" "kind" "[I") (by decide +kernel)) (fun _ h9 => h9) rfl dM_reaches_166 ?_
          refine lv_iload_n hx hb dM_reaches_169 rfl (lv_at hl 1 rfl) ?_
          obtain ⟨hi11, hw⟩ := hw
          refine va_iald (f := (mKi S4)) hx hb hK hP 1 0 (MWc_1 cI cL cZ hm am S4) rfl hi11 dM_reaches_170 ?_
          refine lv_iconst (v := 4) hx hb dM_reaches_171 (by decide) ?_
          refine lv_icmp_ne (tgt := 233) hx hb dM_reaches_172 (by decide) (fun c12 => ?_) (fun c12 => ?_)
          · have hw := hw.2 c12
            refine lv_iconst (v := 1) hx hb dM_reaches_233 (by decide) ?_
            exact gr_z hx hb hr hlocks (Or.inr rfl) hK hP hD hS hw (Nat.le_of_ble_eq_true rfl) (Nat.le_of_ble_eq_true rfl) dM_reaches_234
          · have hw := hw.1 c12
            refine lv_aload_n hx hb dM_reaches_175 rfl (lv_at hl 0 rfl) ?_
            refine lv_aload_n hx hb dM_reaches_176 rfl (lv_at hl 0 rfl) ?_
            refine va_get (ci := 2) (v := .long (mup S4)) (C := RM9) (T := TM9) (N := 24) hx hb hts iM9 hown hK hP 0 (MWc_0 cI cL cZ hm am S4) rfl 20 (by decide) (hto (.fieldLink RM9 99 "PieceTraceModel" "up" "J") (by decide +kernel)) (fun _ h9 => h9) rfl dM_reaches_177 ?_
            refine lv_aload_n hx hb dM_reaches_180 rfl (lv_at hl 0 rfl) ?_
            refine va_get (ci := 2) (v := .ref (am 8)) (C := RM9) (T := TM9) (N := 24) hx hb hts iM9 hown hK hP 0 (MWc_0 cI cL cZ hm am S4) rfl 10 (by decide) (hto (.fieldLink RM9 35 "PieceTraceModel" "over" "[I") (by decide +kernel)) (fun _ h9 => h9) rfl dM_reaches_181 ?_
            refine lv_iload_n hx hb dM_reaches_184 rfl (lv_at hl 1 rfl) ?_
            obtain ⟨hi13, hw⟩ := hw
            refine va_iald (f := (mOv S4)) hx hb hK hP 9 0 (MWc_9 cI cL cZ hm am S4) rfl hi13 dM_reaches_185 ?_
            refine lv_i2l (v := (mOv S4 p0.toNatClampNeg).toInt64) hx hb dM_reaches_186 rfl ?_
            refine lv_lmul hx hb dM_reaches_187 ?_
            refine g_put (wf := MW cI cL cZ hm am) (S' := msup S4 ((mup S4) * (mOv S4 p0.toNatClampNeg).toInt64)) (ci := 2) (v := .long ((mup S4) * (mOv S4 p0.toNatClampNeg).toInt64)) (ty := .long) (C := RM9) (T := TM9) (N := 24) hx hb hts iM9 tyM9 tyM9_ok nmM9 hown hK hP hD hS 0 (MWc_0 cI cL cZ hm am S4) rfl 20 (by decide) (hto (.fieldLink RM9 99 "PieceTraceModel" "up" "J") (by decide +kernel)) (fun _ h9 => h9) rfl (by decide +kernel) rfl rfl (Nat.le_of_ble_eq_true rfl) rfl dM_reaches_188 (fun S14 eS14 H locs hP hD hS => ?_)
            have hw := hw S14 eS14
            refine lv_aload_n hx hb dM_reaches_191 rfl (lv_at hl 0 rfl) ?_
            refine lv_aload_n hx hb dM_reaches_192 rfl (lv_at hl 0 rfl) ?_
            refine va_get (ci := 2) (v := .long (mlo S14)) (C := RM9) (T := TM9) (N := 24) hx hb hts iM9 hown hK hP 0 (MWc_0 cI cL cZ hm am S14) rfl 21 (by decide) (hto (.fieldLink RM9 102 "PieceTraceModel" "low" "J") (by decide +kernel)) (fun _ h9 => h9) rfl dM_reaches_193 ?_
            refine lv_aload_n hx hb dM_reaches_196 rfl (lv_at hl 0 rfl) ?_
            refine va_get (ci := 2) (v := .ref (am 9)) (C := RM9) (T := TM9) (N := 24) hx hb hts iM9 hown hK hP 0 (MWc_0 cI cL cZ hm am S14) rfl 11 (by decide) (hto (.fieldLink RM9 38 "PieceTraceModel" "under" "[I") (by decide +kernel)) (fun _ h9 => h9) rfl dM_reaches_197 ?_
            refine lv_iload_n hx hb dM_reaches_200 rfl (lv_at hl 1 rfl) ?_
            obtain ⟨hi15, hw⟩ := hw
            refine va_iald (f := (mUn S14)) hx hb hK hP 10 0 (MWc_10 cI cL cZ hm am S14) rfl hi15 dM_reaches_201 ?_
            refine lv_i2l (v := (mUn S14 p0.toNatClampNeg).toInt64) hx hb dM_reaches_202 rfl ?_
            refine lv_lmul hx hb dM_reaches_203 ?_
            refine g_put (wf := MW cI cL cZ hm am) (S' := mslo S14 ((mlo S14) * (mUn S14 p0.toNatClampNeg).toInt64)) (ci := 2) (v := .long ((mlo S14) * (mUn S14 p0.toNatClampNeg).toInt64)) (ty := .long) (C := RM9) (T := TM9) (N := 24) hx hb hts iM9 tyM9 tyM9_ok nmM9 hown hK hP hD hS 0 (MWc_0 cI cL cZ hm am S14) rfl 21 (by decide) (hto (.fieldLink RM9 102 "PieceTraceModel" "low" "J") (by decide +kernel)) (fun _ h9 => h9) rfl (by decide +kernel) rfl rfl (Nat.le_of_ble_eq_true rfl) rfl dM_reaches_204 (fun S16 eS16 H locs hP hD hS => ?_)
            have hw := hw S16 eS16
            refine lv_aload_n hx hb dM_reaches_207 rfl (lv_at hl 0 rfl) ?_
            refine va_get (ci := 2) (v := .long (mup S16)) (C := RM9) (T := TM9) (N := 24) hx hb hts iM9 hown hK hP 0 (MWc_0 cI cL cZ hm am S16) rfl 20 (by decide) (hto (.fieldLink RM9 99 "PieceTraceModel" "up" "J") (by decide +kernel)) (fun _ h9 => h9) rfl dM_reaches_208 ?_
            refine lv_aload_n hx hb dM_reaches_211 rfl (lv_at hl 0 rfl) ?_
            refine va_get (ci := 2) (v := .ref (am 2)) (C := RM9) (T := TM9) (N := 24) hx hb hts iM9 hown hK hP 0 (MWc_0 cI cL cZ hm am S16) rfl 4 (by decide) (hto (.fieldLink RM9 16 "PieceTraceModel" "length" "[I") (by decide +kernel)) (fun _ h9 => h9) rfl dM_reaches_212 ?_
            refine lv_iload_n hx hb dM_reaches_215 rfl (lv_at hl 1 rfl) ?_
            obtain ⟨hi17, hw⟩ := hw
            refine va_iald (f := (mLe S16)) hx hb hK hP 3 0 (MWc_3 cI cL cZ hm am S16) rfl hi17 dM_reaches_216 ?_
            refine lv_i2l (v := (mLe S16 p0.toNatClampNeg).toInt64) hx hb dM_reaches_217 rfl ?_
            refine lv_aload_n hx hb dM_reaches_218 rfl (lv_at hl 0 rfl) ?_
            refine va_get (ci := 2) (v := .long (mlo S16)) (C := RM9) (T := TM9) (N := 24) hx hb hts iM9 hown hK hP 0 (MWc_0 cI cL cZ hm am S16) rfl 21 (by decide) (hto (.fieldLink RM9 102 "PieceTraceModel" "low" "J") (by decide +kernel)) (fun _ h9 => h9) rfl dM_reaches_219 ?_
            refine lv_lmul hx hb dM_reaches_222 ?_
            refine W.lcmp hx hb dM_reaches_223 ?_
            refine lv_if_ge (tgt := 231) hx hb dM_reaches_224 (by decide) (fun c18 => ?_) (fun c18 => ?_)
            · have c18 : ((mLe S16 p0.toNatClampNeg).toInt64 * (mlo S16)) ≤ (mup S16) := (lg_cmp_ge _ _).mp c18
              have hw := hw.1 c18
              refine lv_iconst (v := 0) hx hb dM_reaches_231 (by decide) ?_
              exact hJ232 S16 0  (Or.inl rfl) H locs ls hw hP hD hS (lv_sub hl [] rfl)
            · have c18 : ¬ ((mLe S16 p0.toNatClampNeg).toInt64 * (mlo S16)) ≤ (mup S16) := fun h9 => c18 ((lg_cmp_ge _ _).mpr h9)
              have hw := hw.2 c18
              refine lv_iconst (v := 1) hx hb dM_reaches_227 (by decide) ?_
              refine lv_goto (tgt := 232) hx hb dM_reaches_228 (by decide) ?_
              exact hJ232 S16 1  (Or.inr rfl) H locs ls hw hP hD hS (lv_sub hl [] rfl)
        · have hw := hw.1 c10
          refine lv_aload_n hx hb dM_reaches_129 rfl (lv_at hl 0 rfl) ?_
          refine lv_aload_n hx hb dM_reaches_130 rfl (lv_at hl 0 rfl) ?_
          refine va_get (ci := 2) (v := .long (mup S4)) (C := RM9) (T := TM9) (N := 24) hx hb hts iM9 hown hK hP 0 (MWc_0 cI cL cZ hm am S4) rfl 20 (by decide) (hto (.fieldLink RM9 99 "PieceTraceModel" "up" "J") (by decide +kernel)) (fun _ h9 => h9) rfl dM_reaches_131 ?_
          refine lv_aload_n hx hb dM_reaches_134 rfl (lv_at hl 0 rfl) ?_
          refine va_get (ci := 2) (v := .ref (am 7)) (C := RM9) (T := TM9) (N := 24) hx hb hts iM9 hown hK hP 0 (MWc_0 cI cL cZ hm am S4) rfl 9 (by decide) (hto (.fieldLink RM9 32 "PieceTraceModel" "cutAt" "[I") (by decide +kernel)) (fun _ h9 => h9) rfl dM_reaches_135 ?_
          refine lv_iload_n hx hb dM_reaches_138 rfl (lv_at hl 1 rfl) ?_
          obtain ⟨hi19, hw⟩ := hw
          refine va_iald (f := (mCu S4)) hx hb hK hP 8 0 (MWc_8 cI cL cZ hm am S4) rfl hi19 dM_reaches_139 ?_
          refine lv_i2l (v := (mCu S4 p0.toNatClampNeg).toInt64) hx hb dM_reaches_140 rfl ?_
          refine lv_aload_n hx hb dM_reaches_141 rfl (lv_at hl 0 rfl) ?_
          refine va_get (ci := 2) (v := .long (mlo S4)) (C := RM9) (T := TM9) (N := 24) hx hb hts iM9 hown hK hP 0 (MWc_0 cI cL cZ hm am S4) rfl 21 (by decide) (hto (.fieldLink RM9 102 "PieceTraceModel" "low" "J") (by decide +kernel)) (fun _ h9 => h9) rfl dM_reaches_142 ?_
          refine lv_lmul hx hb dM_reaches_145 ?_
          refine lv_lsub hx hb dM_reaches_146 ?_
          refine g_put (wf := MW cI cL cZ hm am) (S' := msup S4 ((mup S4) - ((mCu S4 p0.toNatClampNeg).toInt64 * (mlo S4)))) (ci := 2) (v := .long ((mup S4) - ((mCu S4 p0.toNatClampNeg).toInt64 * (mlo S4)))) (ty := .long) (C := RM9) (T := TM9) (N := 24) hx hb hts iM9 tyM9 tyM9_ok nmM9 hown hK hP hD hS 0 (MWc_0 cI cL cZ hm am S4) rfl 20 (by decide) (hto (.fieldLink RM9 99 "PieceTraceModel" "up" "J") (by decide +kernel)) (fun _ h9 => h9) rfl (by decide +kernel) rfl rfl (Nat.le_of_ble_eq_true rfl) rfl dM_reaches_147 (fun S20 eS20 H locs hP hD hS => ?_)
          have hw := hw S20 eS20
          refine lv_aload_n hx hb dM_reaches_150 rfl (lv_at hl 0 rfl) ?_
          refine va_get (ci := 2) (v := .long (mup S20)) (C := RM9) (T := TM9) (N := 24) hx hb hts iM9 hown hK hP 0 (MWc_0 cI cL cZ hm am S20) rfl 20 (by decide) (hto (.fieldLink RM9 99 "PieceTraceModel" "up" "J") (by decide +kernel)) (fun _ h9 => h9) rfl dM_reaches_151 ?_
          refine lv_lconst (v := 0) hx hb dM_reaches_154 (by decide) ?_
          refine W.lcmp hx hb dM_reaches_155 ?_
          refine lv_if_lt (tgt := 163) hx hb dM_reaches_156 (by decide) (fun c21 => ?_) (fun c21 => ?_)
          · have c21 : (mup S20) < 0 := (lg_cmp_lt _ _).mp c21
            have hw := hw.1 c21
            refine lv_iconst (v := 0) hx hb dM_reaches_163 (by decide) ?_
            exact hJ164 S20 0  (Or.inl rfl) H locs ls hw hP hD hS (lv_sub hl [] rfl)
          · have c21 : ¬ (mup S20) < 0 := fun h9 => c21 ((lg_cmp_lt _ _).mpr h9)
            have hw := hw.2 c21
            refine lv_iconst (v := 1) hx hb dM_reaches_159 (by decide) ?_
            refine lv_goto (tgt := 164) hx hb dM_reaches_160 (by decide) ?_
            exact hJ164 S20 1  (Or.inr rfl) H locs ls hw hP hD hS (lv_sub hl [] rfl)
      · have hw := hw.1 c8
        refine lv_aload_n hx hb dM_reaches_93 rfl (lv_at hl 0 rfl) ?_
        refine va_get (ci := 2) (v := .long (mup S4)) (C := RM9) (T := TM9) (N := 24) hx hb hts iM9 hown hK hP 0 (MWc_0 cI cL cZ hm am S4) rfl 20 (by decide) (hto (.fieldLink RM9 99 "PieceTraceModel" "up" "J") (by decide +kernel)) (fun _ h9 => h9) rfl dM_reaches_94 ?_
        refine lv_aload_n hx hb dM_reaches_97 rfl (lv_at hl 0 rfl) ?_
        refine va_get (ci := 2) (v := .ref (am 7)) (C := RM9) (T := TM9) (N := 24) hx hb hts iM9 hown hK hP 0 (MWc_0 cI cL cZ hm am S4) rfl 9 (by decide) (hto (.fieldLink RM9 32 "PieceTraceModel" "cutAt" "[I") (by decide +kernel)) (fun _ h9 => h9) rfl dM_reaches_98 ?_
        refine lv_iload_n hx hb dM_reaches_101 rfl (lv_at hl 1 rfl) ?_
        obtain ⟨hi22, hw⟩ := hw
        refine va_iald (f := (mCu S4)) hx hb hK hP 8 0 (MWc_8 cI cL cZ hm am S4) rfl hi22 dM_reaches_102 ?_
        refine lv_i2l (v := (mCu S4 p0.toNatClampNeg).toInt64) hx hb dM_reaches_103 rfl ?_
        refine lv_aload_n hx hb dM_reaches_104 rfl (lv_at hl 0 rfl) ?_
        refine va_get (ci := 2) (v := .long (mlo S4)) (C := RM9) (T := TM9) (N := 24) hx hb hts iM9 hown hK hP 0 (MWc_0 cI cL cZ hm am S4) rfl 21 (by decide) (hto (.fieldLink RM9 102 "PieceTraceModel" "low" "J") (by decide +kernel)) (fun _ h9 => h9) rfl dM_reaches_105 ?_
        refine lv_lmul hx hb dM_reaches_108 ?_
        refine W.lcmp hx hb dM_reaches_109 ?_
        refine lv_if_ge (tgt := 117) hx hb dM_reaches_110 (by decide) (fun c23 => ?_) (fun c23 => ?_)
        · have c23 : ((mCu S4 p0.toNatClampNeg).toInt64 * (mlo S4)) ≤ (mup S4) := (lg_cmp_ge _ _).mp c23
          have hw := hw.1 c23
          refine lv_iconst (v := 0) hx hb dM_reaches_117 (by decide) ?_
          exact hJ118 S4 0  (Or.inl rfl) H locs ls hw hP hD hS (lv_sub hl [] rfl)
        · have c23 : ¬ ((mCu S4 p0.toNatClampNeg).toInt64 * (mlo S4)) ≤ (mup S4) := fun h9 => c23 ((lg_cmp_ge _ _).mpr h9)
          have hw := hw.2 c23
          refine lv_iconst (v := 1) hx hb dM_reaches_113 (by decide) ?_
          refine lv_goto (tgt := 118) hx hb dM_reaches_114 (by decide) ?_
          exact hJ118 S4 1  (Or.inr rfl) H locs ls hw hP hD hS (lv_sub hl [] rfl)
    · have hw := hw.1 c6
      refine lv_iconst (v := 0) hx hb dM_reaches_81 (by decide) ?_
      exact gr_z hx hb hr hlocks (Or.inl rfl) hK hP hD hS hw (Nat.le_of_ble_eq_true rfl) (Nat.le_of_ble_eq_true rfl) dM_reaches_82
  · have hw := hw.1 c2
    refine lv_aload_n hx hb dM_reaches_10 rfl (lv_at hl 0 rfl) ?_
    refine lv_aload_n hx hb dM_reaches_11 rfl (lv_at hl 0 rfl) ?_
    refine va_get (ci := 2) (v := .ref (am 5)) (C := RM9) (T := TM9) (N := 24) hx hb hts iM9 hown hK hP 0 (MWc_0 cI cL cZ hm am S) rfl 7 (by decide) (hto (.fieldLink RM9 26 "PieceTraceModel" "of" "[I") (by decide +kernel)) (fun _ h9 => h9) rfl dM_reaches_12 ?_
    refine lv_iload_n hx hb dM_reaches_15 rfl (lv_at hl 1 rfl) ?_
    obtain ⟨hi24, hw⟩ := hw
    refine va_iald (f := (mOf S)) hx hb hK hP 6 0 (MWc_6 cI cL cZ hm am S) rfl hi24 dM_reaches_16 ?_
    refine gk_z (wr := []) (wc := MW cI cL cZ hm am S) (wfc := MW cI cL cZ hm am) hP hD hS hA (va_runV (As := [.int (mOf S p0.toNatClampNeg)]) (rest := []) C (c_M_takes l hl9 D cI cL cZ hm am _ (mOf S p0.toNatClampNeg) S hw H.size) (cwV 1 hts (gGV (by decide +kernel) kM_takes) rfl rfl rfl (by decide +kernel) ⟨Nat.le_of_ble_eq_true rfl, Nat.le_of_ble_eq_true rfl⟩) (g_preV (wr := []) (wc := MW cI cL cZ hm am S) (ci := 2) hK hG hA hP hD hS rfl (MWc_0 cI cL cZ hm am S) rfl) rfl rfl hl.1 rfl (lv_room (Nat.le_of_ble_eq_true rfl)) dM_reaches_17 ⟨Nat.le_of_ble_eq_true rfl, Nat.le_of_ble_eq_true rfl⟩) (fun r26 S25 hbr26 H locs hw hP hD hS => ?_)
    have hP : va_P D vwCl (MW cI cL cZ hm am S25) H := hP
    have hD : va_D A (MW cI cL cZ hm am S25) := hD
    refine lv_if_eq (tgt := 25) hx hb dM_reaches_20 (by decide) (fun c27 => ?_) (fun c27 => ?_)
    · have hw := hw.1 c27
      refine lv_aload_n hx hb dM_reaches_25 rfl (lv_at hl 0 rfl) ?_
      refine lv_aload_n hx hb dM_reaches_26 rfl (lv_at hl 0 rfl) ?_
      refine va_get (ci := 2) (v := .ref (am 6)) (C := RM9) (T := TM9) (N := 24) hx hb hts iM9 hown hK hP 0 (MWc_0 cI cL cZ hm am S25) rfl 8 (by decide) (hto (.fieldLink RM9 29 "PieceTraceModel" "other" "[I") (by decide +kernel)) (fun _ h9 => h9) rfl dM_reaches_27 ?_
      refine lv_iload_n hx hb dM_reaches_30 rfl (lv_at hl 1 rfl) ?_
      obtain ⟨hi28, hw⟩ := hw
      refine va_iald (f := (mOt S25)) hx hb hK hP 7 0 (MWc_7 cI cL cZ hm am S25) rfl hi28 dM_reaches_31 ?_
      refine gk_z (wr := []) (wc := MW cI cL cZ hm am S25) (wfc := MW cI cL cZ hm am) hP hD hS hA (va_runV (As := [.int (mOt S25 p0.toNatClampNeg)]) (rest := []) C (c_M_takes l hl9 D cI cL cZ hm am _ (mOt S25 p0.toNatClampNeg) S25 hw H.size) (cwV 1 hts (gGV (by decide +kernel) kM_takes) rfl rfl rfl (by decide +kernel) ⟨Nat.le_of_ble_eq_true rfl, Nat.le_of_ble_eq_true rfl⟩) (g_preV (wr := []) (wc := MW cI cL cZ hm am S25) (ci := 2) hK hG hA hP hD hS rfl (MWc_0 cI cL cZ hm am S25) rfl) rfl rfl hl.1 rfl (lv_room (Nat.le_of_ble_eq_true rfl)) dM_reaches_32 ⟨Nat.le_of_ble_eq_true rfl, Nat.le_of_ble_eq_true rfl⟩) (fun r30 S29 hbr30 H locs hw hP hD hS => ?_)
      have hP : va_P D vwCl (MW cI cL cZ hm am S29) H := hP
      have hD : va_D A (MW cI cL cZ hm am S29) := hD
      refine lv_if_ne (tgt := 40) hx hb dM_reaches_35 (by decide) (fun c31 => ?_) (fun c31 => ?_)
      · have hw := hw.2 c31
        refine lv_aload_n hx hb dM_reaches_40 rfl (lv_at hl 0 rfl) ?_
        refine lv_aload_n hx hb dM_reaches_41 rfl (lv_at hl 0 rfl) ?_
        refine va_get (ci := 2) (v := .long (mup S29)) (C := RM9) (T := TM9) (N := 24) hx hb hts iM9 hown hK hP 0 (MWc_0 cI cL cZ hm am S29) rfl 20 (by decide) (hto (.fieldLink RM9 99 "PieceTraceModel" "up" "J") (by decide +kernel)) (fun _ h9 => h9) rfl dM_reaches_42 ?_
        refine lv_aload_n hx hb dM_reaches_45 rfl (lv_at hl 0 rfl) ?_
        refine va_get (ci := 2) (v := .ref (am 2)) (C := RM9) (T := TM9) (N := 24) hx hb hts iM9 hown hK hP 0 (MWc_0 cI cL cZ hm am S29) rfl 4 (by decide) (hto (.fieldLink RM9 16 "PieceTraceModel" "length" "[I") (by decide +kernel)) (fun _ h9 => h9) rfl dM_reaches_46 ?_
        refine lv_aload_n hx hb dM_reaches_49 rfl (lv_at hl 0 rfl) ?_
        refine va_get (ci := 2) (v := .ref (am 5)) (C := RM9) (T := TM9) (N := 24) hx hb hts iM9 hown hK hP 0 (MWc_0 cI cL cZ hm am S29) rfl 7 (by decide) (hto (.fieldLink RM9 26 "PieceTraceModel" "of" "[I") (by decide +kernel)) (fun _ h9 => h9) rfl dM_reaches_50 ?_
        refine lv_iload_n hx hb dM_reaches_53 rfl (lv_at hl 1 rfl) ?_
        obtain ⟨hi32, hw⟩ := hw
        refine va_iald (f := (mOf S29)) hx hb hK hP 6 0 (MWc_6 cI cL cZ hm am S29) rfl hi32 dM_reaches_54 ?_
        obtain ⟨hi33, hw⟩ := hw
        refine va_iald (f := (mLe S29)) hx hb hK hP 3 0 (MWc_3 cI cL cZ hm am S29) rfl hi33 dM_reaches_55 ?_
        refine lv_i2l (v := (mLe S29 (mOf S29 p0.toNatClampNeg).toNatClampNeg).toInt64) hx hb dM_reaches_56 rfl ?_
        refine lv_aload_n hx hb dM_reaches_57 rfl (lv_at hl 0 rfl) ?_
        refine va_get (ci := 2) (v := .long (mlo S29)) (C := RM9) (T := TM9) (N := 24) hx hb hts iM9 hown hK hP 0 (MWc_0 cI cL cZ hm am S29) rfl 21 (by decide) (hto (.fieldLink RM9 102 "PieceTraceModel" "low" "J") (by decide +kernel)) (fun _ h9 => h9) rfl dM_reaches_58 ?_
        refine lv_lmul hx hb dM_reaches_61 ?_
        refine lv_ladd hx hb dM_reaches_62 ?_
        refine g_put (wf := MW cI cL cZ hm am) (S' := msup S29 ((mup S29) + ((mLe S29 (mOf S29 p0.toNatClampNeg).toNatClampNeg).toInt64 * (mlo S29)))) (ci := 2) (v := .long ((mup S29) + ((mLe S29 (mOf S29 p0.toNatClampNeg).toNatClampNeg).toInt64 * (mlo S29)))) (ty := .long) (C := RM9) (T := TM9) (N := 24) hx hb hts iM9 tyM9 tyM9_ok nmM9 hown hK hP hD hS 0 (MWc_0 cI cL cZ hm am S29) rfl 20 (by decide) (hto (.fieldLink RM9 99 "PieceTraceModel" "up" "J") (by decide +kernel)) (fun _ h9 => h9) rfl (by decide +kernel) rfl rfl (Nat.le_of_ble_eq_true rfl) rfl dM_reaches_63 (fun S34 eS34 H locs hP hD hS => ?_)
        have hw := hw S34 eS34
        refine lv_iconst (v := 1) hx hb dM_reaches_66 (by decide) ?_
        exact gr_z hx hb hr hlocks (Or.inr rfl) hK hP hD hS hw (Nat.le_of_ble_eq_true rfl) (Nat.le_of_ble_eq_true rfl) dM_reaches_67
      · have hw := hw.1 c31
        refine lv_iconst (v := 0) hx hb dM_reaches_38 (by decide) ?_
        exact gr_z hx hb hr hlocks (Or.inl rfl) hK hP hD hS hw (Nat.le_of_ble_eq_true rfl) (Nat.le_of_ble_eq_true rfl) dM_reaches_39
    · have hw := hw.2 c27
      refine lv_iconst (v := 1) hx hb dM_reaches_23 (by decide) ?_
      exact gr_z hx hb hr hlocks (Or.inr rfl) hK hP hD hS hw (Nat.le_of_ble_eq_true rfl) (Nat.le_of_ble_eq_true rfl) dM_reaches_24
def wpJ_M_goForward_121 (post : MSt → Prop) (p0 : Int32) (K : MSt → Int32 → Prop) (S : MSt) (u2 : Int32) (t0 : Int64) (t1 : Int32) : Prop := (vp_in t1 40 ∧ (∀ S2 : MSt, S2 = muFL S t1 t0 → (∀ v2_3 : Int32, v2_3 = u2 + 1 → (K S2 v2_3))))
def wpJ_M_goForward_103 (post : MSt → Prop) (p0 : Int32) (K : MSt → Int32 → Prop) (S : MSt) (u2 : Int32) (u3 : Int32) (t0 : Int64) (t1 : Int32) : Prop := (vp_in t1 40 ∧ (∀ S5 : MSt, S5 = muFU S t1 t0 → ((u3 = 0 → (wpJ_M_goForward_121 post p0 K S5 u2 1 u2)) ∧ (¬ u3 = 0 → (wpJ_M_goForward_121 post p0 K S5 u2 (mlo S5) u2)))))
def wpJ_M_goForward_84 (post : MSt → Prop) (p0 : Int32) (K : MSt → Int32 → Prop) (S : MSt) (u2 : Int32) (u3 : Int32) : Prop := ((u3 = 0 → (wpJ_M_goForward_103 post p0 K S u2 u3 (-1) u2)) ∧ (¬ u3 = 0 → (wpJ_M_goForward_103 post p0 K S u2 u3 (mup S) u2)))
def wpJ_M_goForward_76 (post : MSt → Prop) (p0 : Int32) (K : MSt → Int32 → Prop) (S : MSt) (u2 : Int32) (u3 : Int32) : Prop := ((u3 = 0 → (wpJ_M_goForward_84 post p0 K S u2 u3)) ∧ (¬ u3 = 0 → (wp_M_lowest (fun  S9 => (wpJ_M_goForward_84 post p0 K S9 u2 u3))  S)))
def wpJ_M_goForward_42 (post : MSt → Prop) (p0 : Int32) (K : MSt → Int32 → Prop) (S : MSt) (u2 : Int32) (t0 : Int32) : Prop := ((t0 = 0 → (wpJ_M_goForward_76 post p0 K S u2 t0)) ∧ (¬ t0 = 0 → (vp_in u2 40 ∧ (((mKi S u2.toNatClampNeg) = 0 → (vp_in p0 10 ∧ (∀ S14 : MSt, S14 = msup S (mDU S p0.toNatClampNeg) → (vp_in p0 10 ∧ (∀ S16 : MSt, S16 = mslo S14 (mDL S14 p0.toNatClampNeg) → (wpJ_M_goForward_76 post p0 K S16 u2 t0)))))) ∧ (¬ (mKi S u2.toNatClampNeg) = 0 → (wpJ_M_goForward_76 post p0 K S u2 t0))))))
def wpB_M_goForward_2 (post : MSt → Prop) (p0 : Int32) (K : MSt → Int32 → Prop) (S : MSt) (u2 : Int32) : Prop := (((mpc S) ≤ u2 → (post S)) ∧ (¬ (mpc S) ≤ u2 → (vp_in u2 40 ∧ (((mKi S u2.toNatClampNeg) = 0 → (vp_in p0 10 ∧ (((mDM S p0.toNatClampNeg) = u2 → (wpJ_M_goForward_42 post p0 K S u2 1)) ∧ (¬ (mDM S p0.toNatClampNeg) = u2 → (wpJ_M_goForward_42 post p0 K S u2 0))))) ∧ (¬ (mKi S u2.toNatClampNeg) = 0 → (wp_M_reaches (fun r21 S20 => (wpJ_M_goForward_42 post p0 K S20 u2 r21)) u2 S))))))
def wpL_M_goForward_2 (post : MSt → Prop) (p0 : Int32) : Nat → MSt → Int32 → Prop
  | 0 => fun _ _ => False
  | n + 1 => fun S u2 => wpB_M_goForward_2 post p0 (wpL_M_goForward_2 post p0 n) S u2
def wp_M_goForward (post : MSt → Prop) (p0 : Int32) (S : MSt) : Prop := (∃ n : Nat, wpL_M_goForward_2 post p0 n S 0)
set_option maxHeartbeats 4000000 in
set_option maxRecDepth 100000 in
theorem c_M_goForward (l : Launch) (hl9 : l.stackTraces = false) (D : va_G) (cI cL cZ : ClassId) (hm : Nat) (am : Nat → Nat) (post : MSt → Prop) (p0 : Int32) (S : MSt) (hw : wp_M_goForward post p0 S) : gMv l yM_goForward wsM_goForward ({ frames := 2, cells := 0, slots := 0, locals := 42 }) D [(cI, .int), (cL, .long), (cZ, .boolean)] [.ref hm, .int p0] (MW cI cL cZ hm am S) (MW cI cL cZ hm am) post := by
  refine g_ofMv (cc := cM_goForward) (maxL := 4) (ret := none) (own := RM9) (by decide) rfl rfl (Nat.le_of_ble_eq_true rfl) ?_
  intro p e s m below meth c A H locs ls C hr hlocks hK hG hA hP hD hS hl
  obtain ⟨hx, hb, hml, hown, hts⟩ := id C
  have hts := fun w (h9 : w ∈ gW) => hts w (List.mem_cons_of_mem _ h9)
  have hto := fun w (h9 : w ∈ gWo) => hts w (gWo_in w h9)
  have hl : lv_has ls 4 [(0, .ref hm), (1, .int p0)] := hl
  have hJ2 : ∀ (S : MSt) (u2 : Int32) (H : Heap) (locs : List Loc) (ls : Array Slot), (∃ n : Nat, wpL_M_goForward_2 post p0 n S u2) → va_P D vwCl (MW cI cL cZ hm am S) H → va_D A (MW cI cL cZ hm am S) → va_S A s.heap H locs → lv_has ls 4 [(2, .int u2), (0, .ref hm), (1, .int p0)] → W p l e (headSpec wsM_goForward { frames := 2, cells := 0, slots := 0, locals := 42 }).room s m ([.ref hm, .int p0] : List Value).toArray below meth c H locs 0 0 (MQ below (gQv D [(cI, .int), (cL, .long), (cZ, .boolean)] (MW cI cL cZ hm am) post A) ([.ref hm, .int p0] : List Value).toArray s 0 0 A) (F0 m 2 ls []) := by
    intro S u2 H locs ls hw
    obtain ⟨n, hw⟩ := hw
    revert S u2 H locs ls
    induction n with
    | zero => intro S u2 H locs ls hw; exact hw.elim
    | succ n ih =>
      have hJ121 : ∀ (S : MSt) (u2 : Int32) (t0 : Int64) (t1 : Int32), ∀ (H : Heap) (locs : List Loc) (ls : Array Slot), wpJ_M_goForward_121 post p0 (wpL_M_goForward_2 post p0 n) S u2 t0 t1 → va_P D vwCl (MW cI cL cZ hm am S) H → va_D A (MW cI cL cZ hm am S) → va_S A s.heap H locs → lv_has ls 4 [(2, .int u2), (0, .ref hm), (1, .int p0)] → W p l e (headSpec wsM_goForward { frames := 2, cells := 0, slots := 0, locals := 42 }).room s m ([.ref hm, .int p0] : List Value).toArray below meth c H locs 0 0 (MQ below (gQv D [(cI, .int), (cL, .long), (cZ, .boolean)] (MW cI cL cZ hm am) post A) ([.ref hm, .int p0] : List Value).toArray s 0 0 A) (F0 m 121 ls [.long t0, .int t1, .ref (am 15)]) := by
        intro S u2 t0 t1  H locs ls hw hP hD hS hl
        dsimp only [wpJ_M_goForward_121] at hw
        obtain ⟨hi1, hw⟩ := hw
        refine g_last (wf := MW cI cL cZ hm am) (S' := muFL S t1 t0) hx hb hK hP hD hS 16 1 (MWc_16 cI cL cZ hm am S) rfl rfl hi1 dM_goForward_121 (fun S2 eS2 H locs hP hD hS => ?_)
        have hw := hw S2 eS2
        obtain ⟨v2_3, ev2_3⟩ : ∃ y : Int32, y = u2 + 1 := ⟨_, rfl⟩
        have hw := hw v2_3 ev2_3
        refine lv_iinc (v := v2_3) (lv' := [(2, .int v2_3), (0, .ref hm), (1, .int p0)]) hx hb dM_goForward_122 hl (k := 0) rfl (by rw [ev2_3]; rfl) (by decide) rfl (fun ls hl => ?_)
        refine lv_goto (tgt := 2) hx hb dM_goForward_125 (by decide) ?_
        exact ih S2 v2_3 H locs ls hw hP hD hS (lv_sub hl [0, 1, 2] rfl)
      have hJ103 : ∀ (S : MSt) (u2 : Int32) (u3 : Int32) (t0 : Int64) (t1 : Int32), (u3 = 0 ∨ u3 = 1) → ∀ (H : Heap) (locs : List Loc) (ls : Array Slot), wpJ_M_goForward_103 post p0 (wpL_M_goForward_2 post p0 n) S u2 u3 t0 t1 → va_P D vwCl (MW cI cL cZ hm am S) H → va_D A (MW cI cL cZ hm am S) → va_S A s.heap H locs → lv_has ls 4 [(2, .int u2), (3, .int u3), (0, .ref hm), (1, .int p0)] → W p l e (headSpec wsM_goForward { frames := 2, cells := 0, slots := 0, locals := 42 }).room s m ([.ref hm, .int p0] : List Value).toArray below meth c H locs 0 0 (MQ below (gQv D [(cI, .int), (cL, .long), (cZ, .boolean)] (MW cI cL cZ hm am) post A) ([.ref hm, .int p0] : List Value).toArray s 0 0 A) (F0 m 103 ls [.long t0, .int t1, .ref (am 14)]) := by
        intro S u2 u3 t0 t1 hbu3 H locs ls hw hP hD hS hl
        dsimp only [wpJ_M_goForward_103] at hw
        obtain ⟨hi4, hw⟩ := hw
        refine g_last (wf := MW cI cL cZ hm am) (S' := muFU S t1 t0) hx hb hK hP hD hS 15 1 (MWc_15 cI cL cZ hm am S) rfl rfl hi4 dM_goForward_103 (fun S5 eS5 H locs hP hD hS => ?_)
        have hw := hw S5 eS5
        refine lv_aload_n hx hb dM_goForward_104 rfl (lv_at hl 2 rfl) ?_
        refine va_get (ci := 2) (v := .ref (am 15)) (C := RM9) (T := TM9) (N := 24) hx hb hts iM9 hown hK hP 0 (MWc_0 cI cL cZ hm am S5) rfl 23 (by decide) (hto (.fieldLink RM9 57 "PieceTraceModel" "lows" "[J") (by decide +kernel)) (fun _ h9 => h9) rfl dM_goForward_105 ?_
        refine lv_iload_n hx hb dM_goForward_108 rfl (lv_at hl 0 rfl) ?_
        refine lv_iload_n hx hb dM_goForward_109 rfl (lv_at hl 1 rfl) ?_
        refine lv_if_eq (tgt := 120) hx hb dM_goForward_110 (by decide) (fun c6 => ?_) (fun c6 => ?_)
        · have hw := hw.1 c6
          refine lv_lconst (v := 1) hx hb dM_goForward_120 (by decide) ?_
          exact hJ121 S5 u2 1 u2   H locs ls hw hP hD hS (lv_sub hl [0, 2, 3] rfl)
        · have hw := hw.2 c6
          refine lv_aload_n hx hb dM_goForward_113 rfl (lv_at hl 2 rfl) ?_
          refine va_get (ci := 2) (v := .long (mlo S5)) (C := RM9) (T := TM9) (N := 24) hx hb hts iM9 hown hK hP 0 (MWc_0 cI cL cZ hm am S5) rfl 21 (by decide) (hto (.fieldLink RM9 102 "PieceTraceModel" "low" "J") (by decide +kernel)) (fun _ h9 => h9) rfl dM_goForward_114 ?_
          refine lv_goto (tgt := 121) hx hb dM_goForward_117 (by decide) ?_
          exact hJ121 S5 u2 (mlo S5) u2   H locs ls hw hP hD hS (lv_sub hl [0, 2, 3] rfl)
      have hJ84 : ∀ (S : MSt) (u2 : Int32) (u3 : Int32), (u3 = 0 ∨ u3 = 1) → ∀ (H : Heap) (locs : List Loc) (ls : Array Slot), wpJ_M_goForward_84 post p0 (wpL_M_goForward_2 post p0 n) S u2 u3 → va_P D vwCl (MW cI cL cZ hm am S) H → va_D A (MW cI cL cZ hm am S) → va_S A s.heap H locs → lv_has ls 4 [(2, .int u2), (3, .int u3), (0, .ref hm), (1, .int p0)] → W p l e (headSpec wsM_goForward { frames := 2, cells := 0, slots := 0, locals := 42 }).room s m ([.ref hm, .int p0] : List Value).toArray below meth c H locs 0 0 (MQ below (gQv D [(cI, .int), (cL, .long), (cZ, .boolean)] (MW cI cL cZ hm am) post A) ([.ref hm, .int p0] : List Value).toArray s 0 0 A) (F0 m 84 ls []) := by
        intro S u2 u3 hbu3 H locs ls hw hP hD hS hl
        dsimp only [wpJ_M_goForward_84] at hw
        refine lv_aload_n hx hb dM_goForward_84 rfl (lv_at hl 2 rfl) ?_
        refine va_get (ci := 2) (v := .ref (am 14)) (C := RM9) (T := TM9) (N := 24) hx hb hts iM9 hown hK hP 0 (MWc_0 cI cL cZ hm am S) rfl 22 (by decide) (hto (.fieldLink RM9 54 "PieceTraceModel" "ups" "[J") (by decide +kernel)) (fun _ h9 => h9) rfl dM_goForward_85 ?_
        refine lv_iload_n hx hb dM_goForward_88 rfl (lv_at hl 0 rfl) ?_
        refine lv_iload_n hx hb dM_goForward_89 rfl (lv_at hl 1 rfl) ?_
        refine lv_if_eq (tgt := 100) hx hb dM_goForward_90 (by decide) (fun c7 => ?_) (fun c7 => ?_)
        · have hw := hw.1 c7
          refine lv_ldc2 (v := (-1)) hx hb hown (hto (.constantLong RM9 124 (-1)) (by decide +kernel)) dM_goForward_100 ?_
          exact hJ103 S u2 u3 (-1) u2 hbu3  H locs ls hw hP hD hS (lv_sub hl [0, 1, 2, 3] rfl)
        · have hw := hw.2 c7
          refine lv_aload_n hx hb dM_goForward_93 rfl (lv_at hl 2 rfl) ?_
          refine va_get (ci := 2) (v := .long (mup S)) (C := RM9) (T := TM9) (N := 24) hx hb hts iM9 hown hK hP 0 (MWc_0 cI cL cZ hm am S) rfl 20 (by decide) (hto (.fieldLink RM9 99 "PieceTraceModel" "up" "J") (by decide +kernel)) (fun _ h9 => h9) rfl dM_goForward_94 ?_
          refine lv_goto (tgt := 103) hx hb dM_goForward_97 (by decide) ?_
          exact hJ103 S u2 u3 (mup S) u2 hbu3  H locs ls hw hP hD hS (lv_sub hl [0, 1, 2, 3] rfl)
      have hJ76 : ∀ (S : MSt) (u2 : Int32) (u3 : Int32), (u3 = 0 ∨ u3 = 1) → ∀ (H : Heap) (locs : List Loc) (ls : Array Slot), wpJ_M_goForward_76 post p0 (wpL_M_goForward_2 post p0 n) S u2 u3 → va_P D vwCl (MW cI cL cZ hm am S) H → va_D A (MW cI cL cZ hm am S) → va_S A s.heap H locs → lv_has ls 4 [(2, .int u2), (3, .int u3), (0, .ref hm), (1, .int p0)] → W p l e (headSpec wsM_goForward { frames := 2, cells := 0, slots := 0, locals := 42 }).room s m ([.ref hm, .int p0] : List Value).toArray below meth c H locs 0 0 (MQ below (gQv D [(cI, .int), (cL, .long), (cZ, .boolean)] (MW cI cL cZ hm am) post A) ([.ref hm, .int p0] : List Value).toArray s 0 0 A) (F0 m 76 ls []) := by
        intro S u2 u3 hbu3 H locs ls hw hP hD hS hl
        dsimp only [wpJ_M_goForward_76] at hw
        refine lv_iload_n hx hb dM_goForward_76 rfl (lv_at hl 1 rfl) ?_
        refine lv_if_eq (tgt := 84) hx hb dM_goForward_77 (by decide) (fun c8 => ?_) (fun c8 => ?_)
        · have hw := hw.1 c8
          exact hJ84 S u2 u3 hbu3  H locs ls hw hP hD hS (lv_sub hl [0, 1, 2, 3] rfl)
        · have hw := hw.2 c8
          refine lv_aload_n hx hb dM_goForward_80 rfl (lv_at hl 2 rfl) ?_
          refine gk_v (wr := []) (wc := MW cI cL cZ hm am S) (wfc := MW cI cL cZ hm am) hP hD hS hA (va_runV (As := []) (rest := []) C (c_M_lowest l hl9 D cI cL cZ hm am _  S hw H.size) (cwV 0 hts (gGV (by decide +kernel) kM_lowest) rfl rfl rfl (by decide +kernel) ⟨Nat.le_of_ble_eq_true rfl, Nat.le_of_ble_eq_true rfl⟩) (g_preV (wr := []) (wc := MW cI cL cZ hm am S) (ci := 2) hK hG hA hP hD hS rfl (MWc_0 cI cL cZ hm am S) rfl) rfl rfl hl.1 rfl (lv_room (Nat.le_of_ble_eq_true rfl)) dM_goForward_81 ⟨Nat.le_of_ble_eq_true rfl, Nat.le_of_ble_eq_true rfl⟩) (fun  S9 H locs hw hP hD hS => ?_)
          have hP : va_P D vwCl (MW cI cL cZ hm am S9) H := hP
          have hD : va_D A (MW cI cL cZ hm am S9) := hD
          exact hJ84 S9 u2 u3 hbu3  H locs ls hw hP hD hS (lv_sub hl [0, 1, 2, 3] rfl)
      have hJ42 : ∀ (S : MSt) (u2 : Int32) (t0 : Int32), (t0 = 0 ∨ t0 = 1) → ∀ (H : Heap) (locs : List Loc) (ls : Array Slot), wpJ_M_goForward_42 post p0 (wpL_M_goForward_2 post p0 n) S u2 t0 → va_P D vwCl (MW cI cL cZ hm am S) H → va_D A (MW cI cL cZ hm am S) → va_S A s.heap H locs → lv_has ls 4 [(2, .int u2), (0, .ref hm), (1, .int p0)] → W p l e (headSpec wsM_goForward { frames := 2, cells := 0, slots := 0, locals := 42 }).room s m ([.ref hm, .int p0] : List Value).toArray below meth c H locs 0 0 (MQ below (gQv D [(cI, .int), (cL, .long), (cZ, .boolean)] (MW cI cL cZ hm am) post A) ([.ref hm, .int p0] : List Value).toArray s 0 0 A) (F0 m 42 ls [.int t0]) := by
        intro S u2 t0 hbt0 H locs ls hw hP hD hS hl
        dsimp only [wpJ_M_goForward_42] at hw
        refine lv_istore_n (lv' := [(3, .int t0), (2, .int u2), (0, .ref hm), (1, .int p0)]) hx hb dM_goForward_42 rfl hl (by decide) rfl (fun ls hl => ?_)
        refine lv_iload_n hx hb dM_goForward_43 rfl (lv_at hl 0 rfl) ?_
        refine lv_if_eq (tgt := 76) hx hb dM_goForward_44 (by decide) (fun c10 => ?_) (fun c10 => ?_)
        · have hw := hw.1 c10
          exact hJ76 S u2 t0 hbt0  H locs ls hw hP hD hS (lv_sub hl [1, 0, 2, 3] rfl)
        · have hw := hw.2 c10
          refine lv_aload_n hx hb dM_goForward_47 rfl (lv_at hl 2 rfl) ?_
          refine va_get (ci := 2) (v := .ref (am 0)) (C := RM9) (T := TM9) (N := 24) hx hb hts iM9 hown hK hP 0 (MWc_0 cI cL cZ hm am S) rfl 2 (by decide) (hto (.fieldLink RM9 7 "PieceTraceModel" "kind" "[I") (by decide +kernel)) (fun _ h9 => h9) rfl dM_goForward_48 ?_
          refine lv_iload_n hx hb dM_goForward_51 rfl (lv_at hl 1 rfl) ?_
          obtain ⟨hi11, hw⟩ := hw
          refine va_iald (f := (mKi S)) hx hb hK hP 1 0 (MWc_1 cI cL cZ hm am S) rfl hi11 dM_goForward_52 ?_
          refine lv_if_ne (tgt := 76) hx hb dM_goForward_53 (by decide) (fun c12 => ?_) (fun c12 => ?_)
          · have hw := hw.2 c12
            exact hJ76 S u2 t0 hbt0  H locs ls hw hP hD hS (lv_sub hl [1, 0, 2, 3] rfl)
          · have hw := hw.1 c12
            refine lv_aload_n hx hb dM_goForward_56 rfl (lv_at hl 2 rfl) ?_
            refine lv_aload_n hx hb dM_goForward_57 rfl (lv_at hl 2 rfl) ?_
            refine va_get (ci := 2) (v := .ref (am 12)) (C := RM9) (T := TM9) (N := 24) hx hb hts iM9 hown hK hP 0 (MWc_0 cI cL cZ hm am S) rfl 17 (by decide) (hto (.fieldLink RM9 47 "PieceTraceModel" "defectUp" "[J") (by decide +kernel)) (fun _ h9 => h9) rfl dM_goForward_58 ?_
            refine lv_iload_n hx hb dM_goForward_61 rfl (lv_at hl 3 rfl) ?_
            obtain ⟨hi13, hw⟩ := hw
            refine va_lald (f := (mDU S)) hx hb hK hP 13 1 (MWc_13 cI cL cZ hm am S) rfl hi13 dM_goForward_62 ?_
            refine g_put (wf := MW cI cL cZ hm am) (S' := msup S (mDU S p0.toNatClampNeg)) (ci := 2) (v := .long (mDU S p0.toNatClampNeg)) (ty := .long) (C := RM9) (T := TM9) (N := 24) hx hb hts iM9 tyM9 tyM9_ok nmM9 hown hK hP hD hS 0 (MWc_0 cI cL cZ hm am S) rfl 20 (by decide) (hto (.fieldLink RM9 99 "PieceTraceModel" "up" "J") (by decide +kernel)) (fun _ h9 => h9) rfl (by decide +kernel) rfl rfl (Nat.le_of_ble_eq_true rfl) rfl dM_goForward_63 (fun S14 eS14 H locs hP hD hS => ?_)
            have hw := hw S14 eS14
            refine lv_aload_n hx hb dM_goForward_66 rfl (lv_at hl 2 rfl) ?_
            refine lv_aload_n hx hb dM_goForward_67 rfl (lv_at hl 2 rfl) ?_
            refine va_get (ci := 2) (v := .ref (am 13)) (C := RM9) (T := TM9) (N := 24) hx hb hts iM9 hown hK hP 0 (MWc_0 cI cL cZ hm am S14) rfl 18 (by decide) (hto (.fieldLink RM9 51 "PieceTraceModel" "defectLow" "[J") (by decide +kernel)) (fun _ h9 => h9) rfl dM_goForward_68 ?_
            refine lv_iload_n hx hb dM_goForward_71 rfl (lv_at hl 3 rfl) ?_
            obtain ⟨hi15, hw⟩ := hw
            refine va_lald (f := (mDL S14)) hx hb hK hP 14 1 (MWc_14 cI cL cZ hm am S14) rfl hi15 dM_goForward_72 ?_
            refine g_put (wf := MW cI cL cZ hm am) (S' := mslo S14 (mDL S14 p0.toNatClampNeg)) (ci := 2) (v := .long (mDL S14 p0.toNatClampNeg)) (ty := .long) (C := RM9) (T := TM9) (N := 24) hx hb hts iM9 tyM9 tyM9_ok nmM9 hown hK hP hD hS 0 (MWc_0 cI cL cZ hm am S14) rfl 21 (by decide) (hto (.fieldLink RM9 102 "PieceTraceModel" "low" "J") (by decide +kernel)) (fun _ h9 => h9) rfl (by decide +kernel) rfl rfl (Nat.le_of_ble_eq_true rfl) rfl dM_goForward_73 (fun S16 eS16 H locs hP hD hS => ?_)
            have hw := hw S16 eS16
            exact hJ76 S16 u2 t0 hbt0  H locs ls hw hP hD hS (lv_sub hl [1, 0, 2, 3] rfl)
      intro S u2 H locs ls hw hP hD hS hl
      dsimp only [wpL_M_goForward_2, wpB_M_goForward_2] at hw
      refine lv_iload_n hx hb dM_goForward_2 rfl (lv_at hl 0 rfl) ?_
      refine lv_aload_n hx hb dM_goForward_3 rfl (lv_at hl 1 rfl) ?_
      refine va_get (ci := 2) (v := .int (mpc S)) (C := RM9) (T := TM9) (N := 24) hx hb hts iM9 hown hK hP 0 (MWc_0 cI cL cZ hm am S) rfl 1 (by decide) (hto (.fieldLink RM9 64 "PieceTraceModel" "pieces" "I") (by decide +kernel)) (fun _ h9 => h9) rfl dM_goForward_4 ?_
      refine lv_icmp_ge (tgt := 128) hx hb dM_goForward_7 (by decide) (fun c17 => ?_) (fun c17 => ?_)
      · have hw := hw.1 c17
        exact gr_v hx hb hr hlocks hK hP hD hS hw (Nat.le_of_ble_eq_true rfl) (Nat.le_of_ble_eq_true rfl) dM_goForward_128
      · have hw := hw.2 c17
        refine lv_aload_n hx hb dM_goForward_10 rfl (lv_at hl 1 rfl) ?_
        refine va_get (ci := 2) (v := .ref (am 0)) (C := RM9) (T := TM9) (N := 24) hx hb hts iM9 hown hK hP 0 (MWc_0 cI cL cZ hm am S) rfl 2 (by decide) (hto (.fieldLink RM9 7 "PieceTraceModel" "kind" "[I") (by decide +kernel)) (fun _ h9 => h9) rfl dM_goForward_11 ?_
        refine lv_iload_n hx hb dM_goForward_14 rfl (lv_at hl 0 rfl) ?_
        obtain ⟨hi18, hw⟩ := hw
        refine va_iald (f := (mKi S)) hx hb hK hP 1 0 (MWc_1 cI cL cZ hm am S) rfl hi18 dM_goForward_15 ?_
        refine lv_if_ne (tgt := 37) hx hb dM_goForward_16 (by decide) (fun c19 => ?_) (fun c19 => ?_)
        · have hw := hw.2 c19
          refine lv_aload_n hx hb dM_goForward_37 rfl (lv_at hl 1 rfl) ?_
          refine lv_iload_n hx hb dM_goForward_38 rfl (lv_at hl 0 rfl) ?_
          refine gk_z (wr := []) (wc := MW cI cL cZ hm am S) (wfc := MW cI cL cZ hm am) hP hD hS hA (va_runV (As := [.int u2]) (rest := []) C (c_M_reaches l hl9 D cI cL cZ hm am _ u2 S hw H.size) (cwV 1 hts (gGV (by decide +kernel) kM_reaches) rfl rfl rfl (by decide +kernel) ⟨Nat.le_of_ble_eq_true rfl, Nat.le_of_ble_eq_true rfl⟩) (g_preV (wr := []) (wc := MW cI cL cZ hm am S) (ci := 2) hK hG hA hP hD hS rfl (MWc_0 cI cL cZ hm am S) rfl) rfl rfl hl.1 rfl (lv_room (Nat.le_of_ble_eq_true rfl)) dM_goForward_39 ⟨Nat.le_of_ble_eq_true rfl, Nat.le_of_ble_eq_true rfl⟩) (fun r21 S20 hbr21 H locs hw hP hD hS => ?_)
          have hP : va_P D vwCl (MW cI cL cZ hm am S20) H := hP
          have hD : va_D A (MW cI cL cZ hm am S20) := hD
          exact hJ42 S20 u2 r21  hbr21 H locs ls hw hP hD hS (lv_sub hl [0, 1, 2] rfl)
        · have hw := hw.1 c19
          refine lv_aload_n hx hb dM_goForward_19 rfl (lv_at hl 1 rfl) ?_
          refine va_get (ci := 2) (v := .ref (am 11)) (C := RM9) (T := TM9) (N := 24) hx hb hts iM9 hown hK hP 0 (MWc_0 cI cL cZ hm am S) rfl 16 (by decide) (hto (.fieldLink RM9 44 "PieceTraceModel" "defectMelt" "[I") (by decide +kernel)) (fun _ h9 => h9) rfl dM_goForward_20 ?_
          refine lv_iload_n hx hb dM_goForward_23 rfl (lv_at hl 2 rfl) ?_
          obtain ⟨hi22, hw⟩ := hw
          refine va_iald (f := (mDM S)) hx hb hK hP 12 0 (MWc_12 cI cL cZ hm am S) rfl hi22 dM_goForward_24 ?_
          refine lv_iload_n hx hb dM_goForward_25 rfl (lv_at hl 0 rfl) ?_
          refine lv_icmp_ne (tgt := 33) hx hb dM_goForward_26 (by decide) (fun c23 => ?_) (fun c23 => ?_)
          · have hw := hw.2 c23
            refine lv_iconst (v := 0) hx hb dM_goForward_33 (by decide) ?_
            refine lv_goto (tgt := 42) hx hb dM_goForward_34 (by decide) ?_
            exact hJ42 S u2 0  (Or.inl rfl) H locs ls hw hP hD hS (lv_sub hl [0, 1, 2] rfl)
          · have hw := hw.1 c23
            refine lv_iconst (v := 1) hx hb dM_goForward_29 (by decide) ?_
            refine lv_goto (tgt := 42) hx hb dM_goForward_30 (by decide) ?_
            exact hJ42 S u2 1  (Or.inr rfl) H locs ls hw hP hD hS (lv_sub hl [0, 1, 2] rfl)
  dsimp only [wp_M_goForward] at hw
  refine lv_iconst (v := 0) hx hb dM_goForward_0 (by decide) ?_
  refine lv_istore_n (lv' := [(2, .int 0), (0, .ref hm), (1, .int p0)]) hx hb dM_goForward_1 rfl hl (by decide) rfl (fun ls hl => ?_)
  exact hJ2 S 0   H locs ls hw hP hD hS (lv_sub hl [0, 1, 2] rfl)
def wp_M_isDefect (post : Int32 → MSt → Prop) (p0 : Int32) (S : MSt) : Prop := (wp_M_in (fun r2 S1 => (post r2 S1)) p0 0 ((mdc S) - 1) S)
set_option maxHeartbeats 4000000 in
set_option maxRecDepth 100000 in
theorem c_M_isDefect (l : Launch) (hl9 : l.stackTraces = false) (D : va_G) (cI cL cZ : ClassId) (hm : Nat) (am : Nat → Nat) (post : Int32 → MSt → Prop) (p0 : Int32) (S : MSt) (hw : wp_M_isDefect post p0 S) : gMz l yM_isDefect wsM_isDefect ({ frames := 1, cells := 0, slots := 0, locals := 22 }) D [(cI, .int), (cL, .long), (cZ, .boolean)] [.ref hm, .int p0] (MW cI cL cZ hm am S) (MW cI cL cZ hm am) post := by
  refine g_ofMz (cc := cM_isDefect) (maxL := 2) (ret := (some .boolean)) (own := RM9) (by decide) rfl rfl (Nat.le_of_ble_eq_true rfl) ?_
  intro p e s m below meth c A H locs ls C hr hlocks hK hG hA hP hD hS hl
  obtain ⟨hx, hb, hml, hown, hts⟩ := id C
  have hts := fun w (h9 : w ∈ gW) => hts w (List.mem_cons_of_mem _ h9)
  have hto := fun w (h9 : w ∈ gWo) => hts w (gWo_in w h9)
  have hl : lv_has ls 2 [(0, .ref hm), (1, .int p0)] := hl
  dsimp only [wp_M_isDefect] at hw
  refine lv_iload_n hx hb dM_isDefect_0 rfl (lv_at hl 1 rfl) ?_
  refine lv_iconst (v := 0) hx hb dM_isDefect_1 (by decide) ?_
  refine lv_aload_n hx hb dM_isDefect_2 rfl (lv_at hl 0 rfl) ?_
  refine va_get (ci := 2) (v := .int (mdc S)) (C := RM9) (T := TM9) (N := 24) hx hb hts iM9 hown hK hP 0 (MWc_0 cI cL cZ hm am S) rfl 15 (by decide) (hto (.fieldLink RM9 115 "PieceTraceModel" "defects" "I") (by decide +kernel)) (fun _ h9 => h9) rfl dM_isDefect_3 ?_
  refine lv_iconst (v := 1) hx hb dM_isDefect_6 (by decide) ?_
  refine lv_isub hx hb dM_isDefect_7 ?_
  refine gk_z (wr := []) (wc := MW cI cL cZ hm am S) (wfc := MW cI cL cZ hm am) hP hD hS hA (va_runS (As := [.int p0, .int 0, .int ((mdc S) - 1)]) (rest := []) C (c_M_in l hl9 D cI cL cZ hm am _ p0 0 ((mdc S) - 1) S hw H.size) (va_cwS 3 hts (gGS (by decide +kernel) kM_in) rfl rfl rfl (by decide +kernel) ⟨Nat.le_of_ble_eq_true rfl, Nat.le_of_ble_eq_true rfl⟩) (g_preS (wr := []) (wc := MW cI cL cZ hm am S) hK hG hA hP hD hS) rfl rfl hl.1 rfl (lv_room (Nat.le_of_ble_eq_true rfl)) dM_isDefect_8 ⟨Nat.le_of_ble_eq_true rfl, Nat.le_of_ble_eq_true rfl⟩) (fun r2 S1 hbr2 H locs hw hP hD hS => ?_)
  have hP : va_P D vwCl (MW cI cL cZ hm am S1) H := hP
  have hD : va_D A (MW cI cL cZ hm am S1) := hD
  exact gr_z hx hb hr hlocks hbr2 hK hP hD hS hw (Nat.le_of_ble_eq_true rfl) (Nat.le_of_ble_eq_true rfl) dM_isDefect_11
