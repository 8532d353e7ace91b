def wpL_L_law (xs : Nat → Int32) (L : Nat) : Nat → GSt → Int32 → Prop
  | 0 => fun _ _ => False
  | n + 1 => fun S u4 => ((((Int32.ofNat L) - 4) < u4 → True) ∧ (¬ ((Int32.ofNat L) - 4) < u4 → (vp_in u4 L ∧ (∀ k3 : Int32, k3 = ((xs u4.toNatClampNeg) &&& 15) → ((k3 = 0 → (vp_in (u4 + 1) L ∧ (vp_in (u4 + 2) L ∧ (wp_L_melt (fun r8 S7 => (vp_in (u4 + 1) L ∧ (vp_in (u4 + 2) L ∧ (wp_M_melt (fun r12 S11 => (wp_M_thrown (fun r14 S13 => ((r14 = r8 → ((r8 = 0 → (vp_in 0 1 ∧ (((gO (S13, S7) (0 : Int32).toNatClampNeg) = r12.toInt64 → (∀ v4_20 : Int32, v4_20 = u4 + 4 → (wpL_L_law xs L n (S13, S7) v4_20))) ∧ (¬ (gO (S13, S7) (0 : Int32).toNatClampNeg) = r12.toInt64 → False)))) ∧ (¬ r8 = 0 → (∀ v4_17 : Int32, v4_17 = u4 + 4 → (wpL_L_law xs L n (S13, S7) v4_17))))) ∧ (¬ r14 = r8 → False)))  S11)) (xs (u4 + 1).toNatClampNeg) (xs (u4 + 2).toNatClampNeg) S.1)))) (xs (u4 + 1).toNatClampNeg) (xs (u4 + 2).toNatClampNeg) S.2)))) ∧ (¬ k3 = 0 → ((k3 = 1 → (vp_in (u4 + 1) L ∧ (vp_in (u4 + 2) L ∧ (wp_L_cut (fun r25 S24 => (vp_in (u4 + 1) L ∧ (vp_in (u4 + 2) L ∧ (wp_M_cut (fun r29 S28 => (wp_M_thrown (fun r31 S30 => ((r31 = r25 → ((r25 = 0 → (vp_in 0 1 ∧ (((gO (S30, S24) (0 : Int32).toNatClampNeg) = r29.toInt64 → (∀ v4_37 : Int32, v4_37 = u4 + 4 → (wpL_L_law xs L n (S30, S24) v4_37))) ∧ (¬ (gO (S30, S24) (0 : Int32).toNatClampNeg) = r29.toInt64 → False)))) ∧ (¬ r25 = 0 → (∀ v4_34 : Int32, v4_34 = u4 + 4 → (wpL_L_law xs L n (S30, S24) v4_34))))) ∧ (¬ r31 = r25 → False)))  S28)) (xs (u4 + 1).toNatClampNeg) (xs (u4 + 2).toNatClampNeg) S.1)))) (xs (u4 + 1).toNatClampNeg) (xs (u4 + 2).toNatClampNeg) S.2)))) ∧ (¬ k3 = 1 → ((k3 = 2 → (vp_in (u4 + 1) L ∧ (vp_in (u4 + 2) L ∧ (wp_L_weld (fun r42 S41 => (vp_in (u4 + 1) L ∧ (vp_in (u4 + 2) L ∧ (wp_M_weld (fun r46 S45 => (wp_M_thrown (fun r48 S47 => ((r48 = r42 → ((r42 = 0 → (vp_in 0 1 ∧ (((gO (S47, S41) (0 : Int32).toNatClampNeg) = r46.toInt64 → (∀ v4_54 : Int32, v4_54 = u4 + 4 → (wpL_L_law xs L n (S47, S41) v4_54))) ∧ (¬ (gO (S47, S41) (0 : Int32).toNatClampNeg) = r46.toInt64 → False)))) ∧ (¬ r42 = 0 → (∀ v4_51 : Int32, v4_51 = u4 + 4 → (wpL_L_law xs L n (S47, S41) v4_51))))) ∧ (¬ r48 = r42 → False)))  S45)) (xs (u4 + 1).toNatClampNeg) (xs (u4 + 2).toNatClampNeg) S.1)))) (xs (u4 + 1).toNatClampNeg) (xs (u4 + 2).toNatClampNeg) S.2)))) ∧ (¬ k3 = 2 → ((k3 = 3 → (vp_in (u4 + 1) L ∧ (vp_in (u4 + 2) L ∧ (vp_in (u4 + 3) L ∧ (wp_L_roll (fun r60 S59 => (vp_in (u4 + 1) L ∧ (vp_in (u4 + 2) L ∧ (vp_in (u4 + 3) L ∧ (wp_M_roll (fun r65 S64 => (wp_M_thrown (fun r67 S66 => ((r67 = r60 → ((r60 = 0 → (vp_in 0 1 ∧ (((gO (S66, S59) (0 : Int32).toNatClampNeg) = r65.toInt64 → (∀ v4_73 : Int32, v4_73 = u4 + 4 → (wpL_L_law xs L n (S66, S59) v4_73))) ∧ (¬ (gO (S66, S59) (0 : Int32).toNatClampNeg) = r65.toInt64 → False)))) ∧ (¬ r60 = 0 → (∀ v4_70 : Int32, v4_70 = u4 + 4 → (wpL_L_law xs L n (S66, S59) v4_70))))) ∧ (¬ r67 = r60 → False)))  S64)) (xs (u4 + 1).toNatClampNeg) (xs (u4 + 2).toNatClampNeg) (xs (u4 + 3).toNatClampNeg) S.1))))) (xs (u4 + 1).toNatClampNeg) (xs (u4 + 2).toNatClampNeg) (xs (u4 + 3).toNatClampNeg) S.2))))) ∧ (¬ k3 = 3 → ((k3 = 4 → (vp_in (u4 + 1) L ∧ (vp_in (u4 + 2) L ∧ (wp_L_slit (fun r78 S77 => (vp_in (u4 + 1) L ∧ (vp_in (u4 + 2) L ∧ (wp_M_slit (fun r82 S81 => (wp_M_thrown (fun r84 S83 => ((r84 = r78 → ((r78 = 0 → (vp_in 0 1 ∧ (((gO (S83, S77) (0 : Int32).toNatClampNeg) = r82.toInt64 → (∀ v4_90 : Int32, v4_90 = u4 + 4 → (wpL_L_law xs L n (S83, S77) v4_90))) ∧ (¬ (gO (S83, S77) (0 : Int32).toNatClampNeg) = r82.toInt64 → False)))) ∧ (¬ r78 = 0 → (∀ v4_87 : Int32, v4_87 = u4 + 4 → (wpL_L_law xs L n (S83, S77) v4_87))))) ∧ (¬ r84 = r78 → False)))  S81)) (xs (u4 + 1).toNatClampNeg) (xs (u4 + 2).toNatClampNeg) S.1)))) (xs (u4 + 1).toNatClampNeg) (xs (u4 + 2).toNatClampNeg) S.2)))) ∧ (¬ k3 = 4 → ((k3 = 5 → (vp_in (u4 + 1) L ∧ (vp_in (u4 + 2) L ∧ (((xs (u4 + 2).toNatClampNeg) = 0 → (wp_L_hold (fun r96 S95 => (vp_in (u4 + 1) L ∧ (vp_in (u4 + 2) L ∧ (wp_M_hold (fun  S99 => (wp_M_thrown (fun r101 S100 => ((r101 = r96 → (∀ v4_103 : Int32, v4_103 = u4 + 4 → (wpL_L_law xs L n (S100, S95) v4_103))) ∧ (¬ r101 = r96 → False)))  S99)) (xs (u4 + 1).toNatClampNeg) 0 S.1)))) (xs (u4 + 1).toNatClampNeg) 0 S.2)) ∧ (¬ (xs (u4 + 2).toNatClampNeg) = 0 → (wp_L_hold (fun r105 S104 => (vp_in (u4 + 1) L ∧ (vp_in (u4 + 2) L ∧ (wp_M_hold (fun  S108 => (wp_M_thrown (fun r110 S109 => ((r110 = r105 → (∀ v4_112 : Int32, v4_112 = u4 + 4 → (wpL_L_law xs L n (S109, S104) v4_112))) ∧ (¬ r110 = r105 → False)))  S108)) (xs (u4 + 1).toNatClampNeg) 1 S.1)))) (xs (u4 + 1).toNatClampNeg) 1 S.2)))))) ∧ (¬ k3 = 5 → ((k3 = 6 → (vp_in (u4 + 1) L ∧ (wp_L_scrap (fun r116 S115 => (vp_in (u4 + 1) L ∧ (wp_M_scrap (fun r119 S118 => (wp_M_thrown (fun r121 S120 => ((r121 = r116 → ((r116 = 0 → (vp_in 0 1 ∧ (((gO (S120, S115) (0 : Int32).toNatClampNeg) = r119.toInt64 → (∀ v4_127 : Int32, v4_127 = u4 + 4 → (wpL_L_law xs L n (S120, S115) v4_127))) ∧ (¬ (gO (S120, S115) (0 : Int32).toNatClampNeg) = r119.toInt64 → False)))) ∧ (¬ r116 = 0 → (∀ v4_124 : Int32, v4_124 = u4 + 4 → (wpL_L_law xs L n (S120, S115) v4_124))))) ∧ (¬ r121 = r116 → False)))  S118)) (xs (u4 + 1).toNatClampNeg) S.1))) (xs (u4 + 1).toNatClampNeg) S.2))) ∧ (¬ k3 = 6 → ((k3 = 7 → (vp_in (u4 + 1) L ∧ (vp_in (u4 + 2) L ∧ (wp_L_back (fun r132 S131 => (vp_in (u4 + 1) L ∧ (vp_in (u4 + 2) L ∧ (wp_M_back (fun r136 S135 => (wp_M_thrown (fun r138 S137 => ((r138 = r132 → ((r132 = 0 → (vp_in 0 1 ∧ (((gO (S137, S131) (0 : Int32).toNatClampNeg) = r136.toInt64 → (∀ v4_144 : Int32, v4_144 = u4 + 4 → (wpL_L_law xs L n (S137, S131) v4_144))) ∧ (¬ (gO (S137, S131) (0 : Int32).toNatClampNeg) = r136.toInt64 → False)))) ∧ (¬ r132 = 0 → (∀ v4_141 : Int32, v4_141 = u4 + 4 → (wpL_L_law xs L n (S137, S131) v4_141))))) ∧ (¬ r138 = r132 → False)))  S135)) (xs (u4 + 1).toNatClampNeg) (xs (u4 + 2).toNatClampNeg) S.1)))) (xs (u4 + 1).toNatClampNeg) (xs (u4 + 2).toNatClampNeg) S.2)))) ∧ (¬ k3 = 7 → ((k3 = 8 → (vp_in (u4 + 1) L ∧ (vp_in (u4 + 2) L ∧ (wp_L_at (fun r149 S148 => (vp_in (u4 + 1) L ∧ (vp_in (u4 + 2) L ∧ (wp_M_at (fun r153 S152 => (wp_M_thrown (fun r155 S154 => ((r155 = r149 → ((r149 = 0 → (vp_in 0 1 ∧ (((gO (S154, S148) (0 : Int32).toNatClampNeg) = r153.toInt64 → (∀ v4_161 : Int32, v4_161 = u4 + 4 → (wpL_L_law xs L n (S154, S148) v4_161))) ∧ (¬ (gO (S154, S148) (0 : Int32).toNatClampNeg) = r153.toInt64 → False)))) ∧ (¬ r149 = 0 → (∀ v4_158 : Int32, v4_158 = u4 + 4 → (wpL_L_law xs L n (S154, S148) v4_158))))) ∧ (¬ r155 = r149 → False)))  S152)) (xs (u4 + 1).toNatClampNeg) (xs (u4 + 2).toNatClampNeg) S.1)))) (xs (u4 + 1).toNatClampNeg) (xs (u4 + 2).toNatClampNeg) S.2)))) ∧ (¬ k3 = 8 → ((k3 = 9 → (vp_in (u4 + 1) L ∧ (vp_in (u4 + 2) L ∧ (vp_in (u4 + 3) L ∧ (wp_L_origin (fun r167 S166 => (vp_in (u4 + 1) L ∧ (vp_in (u4 + 2) L ∧ (vp_in (u4 + 3) L ∧ (wp_M_origin (fun r172 S171 => (wp_M_thrown (fun r174 S173 => ((r174 = r167 → ((r167 = 0 → (vp_in 0 1 ∧ (((gO (S173, S166) (0 : Int32).toNatClampNeg) = r172 → (∀ v4_180 : Int32, v4_180 = u4 + 4 → (wpL_L_law xs L n (S173, S166) v4_180))) ∧ (¬ (gO (S173, S166) (0 : Int32).toNatClampNeg) = r172 → False)))) ∧ (¬ r167 = 0 → (∀ v4_177 : Int32, v4_177 = u4 + 4 → (wpL_L_law xs L n (S173, S166) v4_177))))) ∧ (¬ r174 = r167 → False)))  S171)) (xs (u4 + 1).toNatClampNeg) (xs (u4 + 2).toNatClampNeg) (xs (u4 + 3).toNatClampNeg) S.1))))) (xs (u4 + 1).toNatClampNeg) (xs (u4 + 2).toNatClampNeg) (xs (u4 + 3).toNatClampNeg) S.2))))) ∧ (¬ k3 = 9 → ((k3 = 10 → (vp_in (u4 + 1) L ∧ (vp_in (u4 + 2) L ∧ (wp_L_defect (fun r185 S184 => (vp_in (u4 + 1) L ∧ (vp_in (u4 + 2) L ∧ (wp_M_defect (fun r189 S188 => (wp_M_thrown (fun r191 S190 => ((r191 = r185 → ((r185 = 0 → (vp_in 0 1 ∧ (((gO (S190, S184) (0 : Int32).toNatClampNeg) = r189.toInt64 → (∀ v4_197 : Int32, v4_197 = u4 + 4 → (wpL_L_law xs L n (S190, S184) v4_197))) ∧ (¬ (gO (S190, S184) (0 : Int32).toNatClampNeg) = r189.toInt64 → False)))) ∧ (¬ r185 = 0 → (∀ v4_194 : Int32, v4_194 = u4 + 4 → (wpL_L_law xs L n (S190, S184) v4_194))))) ∧ (¬ r191 = r185 → False)))  S188)) (xs (u4 + 1).toNatClampNeg) (xs (u4 + 2).toNatClampNeg) S.1)))) (xs (u4 + 1).toNatClampNeg) (xs (u4 + 2).toNatClampNeg) S.2)))) ∧ (¬ k3 = 10 → ((k3 = 11 → (vp_in (u4 + 1) L ∧ (vp_in (u4 + 2) L ∧ (vp_in (u4 + 3) L ∧ (wp_L_has (fun r203 S202 => (vp_in (u4 + 1) L ∧ (vp_in (u4 + 2) L ∧ (vp_in (u4 + 3) L ∧ (wp_M_has (fun r208 S207 => (wp_M_thrown (fun r210 S209 => ((r210 = r203 → ((r203 = 0 → (vp_in 0 1 ∧ (((gO (S209, S202) (0 : Int32).toNatClampNeg) = r208 → (∀ v4_216 : Int32, v4_216 = u4 + 4 → (wpL_L_law xs L n (S209, S202) v4_216))) ∧ (¬ (gO (S209, S202) (0 : Int32).toNatClampNeg) = r208 → False)))) ∧ (¬ r203 = 0 → (∀ v4_213 : Int32, v4_213 = u4 + 4 → (wpL_L_law xs L n (S209, S202) v4_213))))) ∧ (¬ r210 = r203 → False)))  S207)) (xs (u4 + 1).toNatClampNeg) (xs (u4 + 2).toNatClampNeg) (xs (u4 + 3).toNatClampNeg) S.1))))) (xs (u4 + 1).toNatClampNeg) (xs (u4 + 2).toNatClampNeg) (xs (u4 + 3).toNatClampNeg) S.2))))) ∧ (¬ k3 = 11 → ((k3 = 12 → (vp_in (u4 + 1) L ∧ (vp_in (u4 + 2) L ∧ (wp_L_recall (fun r221 S220 => (vp_in (u4 + 1) L ∧ (vp_in (u4 + 2) L ∧ (wp_M_recall (fun r225 S224 => (wp_M_thrown (fun r227 S226 => ((r227 = r221 → ((r221 = 0 → (vp_in 0 1 ∧ (((gO (S226, S220) (0 : Int32).toNatClampNeg) = r225.toInt64 → (∀ v4_233 : Int32, v4_233 = u4 + 4 → (wpL_L_law xs L n (S226, S220) v4_233))) ∧ (¬ (gO (S226, S220) (0 : Int32).toNatClampNeg) = r225.toInt64 → False)))) ∧ (¬ r221 = 0 → (∀ v4_230 : Int32, v4_230 = u4 + 4 → (wpL_L_law xs L n (S226, S220) v4_230))))) ∧ (¬ r227 = r221 → False)))  S224)) (xs (u4 + 1).toNatClampNeg) (xs (u4 + 2).toNatClampNeg) S.1)))) (xs (u4 + 1).toNatClampNeg) (xs (u4 + 2).toNatClampNeg) S.2)))) ∧ (¬ k3 = 12 → ((k3 = 13 → (vp_in (u4 + 1) L ∧ (wp_L_told (fun r237 S236 => (vp_in (u4 + 1) L ∧ (wp_M_told (fun r240 S239 => (wp_M_thrown (fun r242 S241 => ((r242 = r237 → ((r237 = 0 → (vp_in 0 1 ∧ (((gO (S241, S236) (0 : Int32).toNatClampNeg) = r240 → (∀ v4_248 : Int32, v4_248 = u4 + 4 → (wpL_L_law xs L n (S241, S236) v4_248))) ∧ (¬ (gO (S241, S236) (0 : Int32).toNatClampNeg) = r240 → False)))) ∧ (¬ r237 = 0 → (∀ v4_245 : Int32, v4_245 = u4 + 4 → (wpL_L_law xs L n (S241, S236) v4_245))))) ∧ (¬ r242 = r237 → False)))  S239)) (xs (u4 + 1).toNatClampNeg) S.1))) (xs (u4 + 1).toNatClampNeg) S.2))) ∧ (¬ k3 = 13 → (∀ v4_249 : Int32, v4_249 = u4 + 4 → (wpL_L_law xs L n S v4_249))))))))))))))))))))))))))))))))))
set_option maxHeartbeats 8000000 in
set_option maxRecDepth 100000 in
theorem law_loop {p : Program} {e : Env} {s : State} {m : MethodId} {below : List Frame} {meth : Method} {c : Code} (l : Launch) (hl9 : l.stackTraces = false) (D : va_G) (cI cL cZ : ClassId) (h : Nat) (a : Nat → Nat) (o hm : Nat) (am : Nat → Nat) {b L : Nat} {xs : Nat → Int32} (C : CallFix p m c code 8 s #[Value.ref b] gW RL9) (hr : meth.sig.returnType = ret) (hlocks : meth.locks = false) (hX : va_X b L xs s s.heap) (hbl : b < s.heap.size) (hK : va_K D vwCl [(cI, .int), (cL, .long), (cZ, .boolean)] s) (hG : gGF (fun q : Nat => s.heap.size ≤ q) s) :
    ∀ (n : Nat) (S : GSt) (u4 : Int32) (kc ks : Nat) (H : Heap) (locs : List Loc) (ls : Array Slot), wpL_L_law xs L n S u4 → kc + n ≤ 1075 → ks + 6 * n ≤ 9395 → va_P D vwCl (GWf cI cL cZ h a o hm am S) H → va_D (fun q : Nat => s.heap.size ≤ q) (GWf cI cL cZ h a o hm am S) → va_S (fun q : Nat => s.heap.size ≤ q) s.heap H locs → lv_has ls 8 [(0, .ref b), (1, .ref h), (2, .ref hm), (3, .ref o), (4, .int u4)] → W p l e room_1 s m #[Value.ref b] below meth c H locs kc ks (lw_Z below #[Value.ref b] s) (F0 m 23 ls []) := by
  obtain ⟨hx, hb, hml, hown, hts⟩ := id C
  have hto := fun w (h9 : w ∈ gWo) => hts w (gWo_in w h9)
  have hA : ∀ q : Nat, s.heap.size ≤ q → (fun q : Nat => s.heap.size ≤ q) q := fun _ h => h
  have hbA : ¬ (fun q : Nat => s.heap.size ≤ q) b := Nat.not_le.mpr hbl
  generalize hAe : (fun q : Nat => s.heap.size ≤ q) = A at hA hbA hG ⊢
  intro n
  induction n with
  | zero => intro S u4 kc ks H locs ls hw; exact hw.elim
  | succ n ih =>
    intro S u4 kc ks H locs ls hw hkc hks hP hD hS hl
    dsimp only [wpL_L_law] at hw
    refine lv_iload hx hb dL_law_23 (lv_at hl 4 rfl) ?_
    refine lv_aload_n hx hb dL_law_25 rfl (lv_at hl 0 rfl) ?_
    refine va_slen hx hb hX hbl hbA hS dL_law_26 ?_
    refine lv_iconst (v := 4) hx hb dL_law_27 (by decide) ?_
    refine lv_isub hx hb dL_law_28 ?_
    refine lv_icmp_gt (tgt := 1071) hx hb dL_law_29 (by decide) (fun c1 => ?_) (fun c1 => ?_)
    · have hw := hw.1 c1
      refine lv_iconst (v := 1) hx hb dL_law_1071 (by decide) ?_
      refine va_forget (fun q hq => by have h9 := hS.2.2 q hq; rw [← hAe] at h9; exact h9) ?_
      refine W.widen (k := 1075) (n := 9395) (by omega) (by omega) ?_
      exact lw_ret hx hb hr hlocks dL_law_1072
    · have hw := hw.2 c1
      refine lv_aload_n hx hb dL_law_32 rfl (lv_at hl 0 rfl) ?_
      refine lv_iload hx hb dL_law_33 (lv_at hl 4 rfl) ?_
      obtain ⟨hi2, hw⟩ := hw
      refine va_sld hx hb hX hbl hbA hS hi2 dL_law_35 ?_
      refine lv_bipush (v := 15) hx hb dL_law_36 (by decide) ?_
      refine lv_iand hx hb dL_law_38 ?_
      refine lv_topi (fun k3 ek3 => ?_)
      have hw := hw k3 ek3
      by_cases c4 : k3 = 0
      · have hw := hw.1 c4
        refine lv_tableIn (off := 69) (tgt := 108) hx hb dL_law_39 (by rw [c4]; decide) (by rw [c4]; decide) (by rw [c4]; rfl) (by decide) ?_
        refine lv_aload_n hx hb dL_law_108 rfl (lv_at hl 1 rfl) ?_
        refine lv_aload_n hx hb dL_law_109 rfl (lv_at hl 0 rfl) ?_
        refine lv_iload hx hb dL_law_110 (lv_at hl 4 rfl) ?_
        refine lv_iconst (v := 1) hx hb dL_law_112 (by decide) ?_
        refine lv_iadd hx hb dL_law_113 ?_
        obtain ⟨hi5, hw⟩ := hw
        refine va_sld hx hb hX hbl hbA hS hi5 dL_law_114 ?_
        refine lv_aload_n hx hb dL_law_115 rfl (lv_at hl 0 rfl) ?_
        refine lv_iload hx hb dL_law_116 (lv_at hl 4 rfl) ?_
        refine lv_iconst (v := 2) hx hb dL_law_118 (by decide) ?_
        refine lv_iadd hx hb dL_law_119 ?_
        obtain ⟨hi6, hw⟩ := hw
        refine va_sld hx hb hX hbl hbA hS hi6 dL_law_120 ?_
        refine lv_aload_n hx hb dL_law_121 rfl (lv_at hl 3 rfl) ?_
        refine gk_i (wr := (MW cI cL cZ hm am S.1)) (wc := LWf cI cL cZ h a o S.2) (wfc := LWf cI cL cZ h a o) hP hD hS hA (vx_runSW (As := [.ref h, .int (xs (u4 + 1).toNatClampNeg), .int (xs (u4 + 2).toNatClampNeg), .ref o]) (rest := []) C (c_L_melt l hl9 D cI cL cZ h a o _ (xs (u4 + 1).toNatClampNeg) (xs (u4 + 2).toNatClampNeg) S.2 hw H.size) (vx_cwSW 4 hts (gGS (by decide +kernel) kL_melt) rfl rfl rfl (by decide +kernel) ⟨Nat.le_of_ble_eq_true rfl, Nat.le_of_ble_eq_true rfl⟩) (g_preS (wr := (MW cI cL cZ hm am S.1)) (wc := LWf cI cL cZ h a o S.2) hK hG hA hP hD hS) rfl rfl hl.1 rfl (lv_room (Nat.le_of_ble_eq_true rfl)) dL_law_122 ⟨show kc + 0 + 1 ≤ 1075 by omega, show ks + 0 + 6 ≤ 9395 by omega⟩) (fun r8 S7 H locs hw hP hD hS => ?_)
        have hP : va_P D vwCl (GWf cI cL cZ h a o hm am (S.1, S7)) H := hP
        have hD : va_D A (GWf cI cL cZ h a o hm am (S.1, S7)) := hD
        refine lv_istore (lv' := [(5, .int r8), (0, .ref b), (1, .ref h), (2, .ref hm), (3, .ref o), (4, .int u4)]) hx hb dL_law_125 hl (by decide) rfl (fun ls hl => ?_)
        refine lv_aload_n hx hb dL_law_127 rfl (lv_at hl 3 rfl) ?_
        refine lv_aload_n hx hb dL_law_128 rfl (lv_at hl 1 rfl) ?_
        refine lv_iload hx hb dL_law_129 (lv_at hl 5 rfl) ?_
        refine lv_iconst (v := 1) hx hb dL_law_131 (by decide) ?_
        refine lv_iadd hx hb dL_law_132 ?_
        obtain ⟨hi9, hw⟩ := hw
        refine va_sld hx hb hX hbl hbA hS hi9 dL_law_133 ?_
        refine lv_aload_n hx hb dL_law_134 rfl (lv_at hl 1 rfl) ?_
        refine lv_iload hx hb dL_law_135 (lv_at hl 5 rfl) ?_
        refine lv_iconst (v := 2) hx hb dL_law_137 (by decide) ?_
        refine lv_iadd hx hb dL_law_138 ?_
        obtain ⟨hi10, hw⟩ := hw
        refine va_sld hx hb hX hbl hbA hS hi10 dL_law_139 ?_
        have hP := g_swapP (w1 := (MW cI cL cZ hm am S.1)) (w2 := (LWf cI cL cZ h a o S7)) hP
        have hD := g_swapD (w1 := (MW cI cL cZ hm am S.1)) (w2 := (LWf cI cL cZ h a o S7)) hD
        refine gk_i (wr := (LWf cI cL cZ h a o S7)) (wc := MW cI cL cZ hm am S.1) (wfc := MW cI cL cZ hm am) hP hD hS hA (va_runV (As := [.int (xs (u4 + 1).toNatClampNeg), .int (xs (u4 + 2).toNatClampNeg)]) (rest := []) C (c_M_melt l hl9 D cI cL cZ hm am _ (xs (u4 + 1).toNatClampNeg) (xs (u4 + 2).toNatClampNeg) S.1 hw H.size) (cwV 2 hts (gGV (by decide +kernel) kM_melt) rfl rfl rfl (by decide +kernel) ⟨Nat.le_of_ble_eq_true rfl, Nat.le_of_ble_eq_true rfl⟩) (g_preV (wr := (LWf cI cL cZ h a o S7)) (wc := MW cI cL cZ hm am S.1) (ci := 2) hK hG hA hP hD hS rfl (MWc_0 cI cL cZ hm am S.1) rfl) rfl rfl hl.1 rfl (lv_room (Nat.le_of_ble_eq_true rfl)) dL_law_140 ⟨show kc + 1 + 0 ≤ 1075 by omega, show ks + 6 + 0 ≤ 9395 by omega⟩) (fun r12 S11 H locs hw hP hD hS => ?_)
        have hP := g_swapP (w1 := (LWf cI cL cZ h a o S7)) (w2 := (MW cI cL cZ hm am S11)) hP
        have hD := g_swapD (w1 := (LWf cI cL cZ h a o S7)) (w2 := (MW cI cL cZ hm am S11)) hD
        have hP : va_P D vwCl (GWf cI cL cZ h a o hm am (S11, S7)) H := hP
        have hD : va_D A (GWf cI cL cZ h a o hm am (S11, S7)) := hD
        refine lv_istore (lv' := [(6, .int r12), (5, .int r8), (0, .ref b), (1, .ref h), (2, .ref hm), (3, .ref o), (4, .int u4)]) hx hb dL_law_143 hl (by decide) rfl (fun ls hl => ?_)
        refine lv_aload_n hx hb dL_law_145 rfl (lv_at hl 4 rfl) ?_
        have hP := g_swapP (w1 := (MW cI cL cZ hm am S11)) (w2 := (LWf cI cL cZ h a o S7)) hP
        have hD := g_swapD (w1 := (MW cI cL cZ hm am S11)) (w2 := (LWf cI cL cZ h a o S7)) hD
        refine gk_i (wr := (LWf cI cL cZ h a o S7)) (wc := MW cI cL cZ hm am S11) (wfc := MW cI cL cZ hm am) hP hD hS hA (va_runV (As := []) (rest := []) C (c_M_thrown l hl9 D cI cL cZ hm am _  S11 hw H.size) (cwV 0 hts (gGV (by decide +kernel) kM_thrown) rfl rfl rfl (by decide +kernel) ⟨Nat.le_of_ble_eq_true rfl, Nat.le_of_ble_eq_true rfl⟩) (g_preV (wr := (LWf cI cL cZ h a o S7)) (wc := MW cI cL cZ hm am S11) (ci := 2) hK hG hA hP hD hS rfl (MWc_0 cI cL cZ hm am S11) rfl) rfl rfl hl.1 rfl (lv_room (Nat.le_of_ble_eq_true rfl)) dL_law_146 ⟨show kc + 1 + 0 ≤ 1075 by omega, show ks + 6 + 0 ≤ 9395 by omega⟩) (fun r14 S13 H locs hw hP hD hS => ?_)
        have hP := g_swapP (w1 := (LWf cI cL cZ h a o S7)) (w2 := (MW cI cL cZ hm am S13)) hP
        have hD := g_swapD (w1 := (LWf cI cL cZ h a o S7)) (w2 := (MW cI cL cZ hm am S13)) hD
        have hP : va_P D vwCl (GWf cI cL cZ h a o hm am (S13, S7)) H := hP
        have hD : va_D A (GWf cI cL cZ h a o hm am (S13, S7)) := hD
        refine lv_iload hx hb dL_law_149 (lv_at hl 1 rfl) ?_
        refine lv_icmp_eq (tgt := 156) hx hb dL_law_151 (by decide) (fun c15 => ?_) (fun c15 => ?_)
        · have hw := hw.1 c15
          refine lv_iload hx hb dL_law_156 (lv_at hl 1 rfl) ?_
          refine lv_if_ne (tgt := 173) hx hb dL_law_158 (by decide) (fun c16 => ?_) (fun c16 => ?_)
          · have hw := hw.2 c16
            refine lv_goto (tgt := 1065) hx hb dL_law_173 (by decide) ?_
            obtain ⟨v4_17, ev4_17⟩ : ∃ y : Int32, y = u4 + 4 := ⟨_, rfl⟩
            have hw := hw v4_17 ev4_17
            refine lv_iinc (v := v4_17) (lv' := [(4, .int v4_17), (6, .int r12), (5, .int r8), (0, .ref b), (1, .ref h), (2, .ref hm), (3, .ref o)]) hx hb dL_law_1065 hl (k := 6) rfl (by rw [ev4_17]; rfl) (by decide) rfl (fun ls hl => ?_)
            refine lv_goto (tgt := 23) hx hb dL_law_1068 (by decide) ?_
            refine W.widen (k := kc + 1) (n := ks + 6) (Nat.le_refl _) (Nat.le_refl _) ?_
            exact ih (S13, S7) v4_17 (kc + 1) (ks + 6) H locs ls hw (by omega) (by omega) hP hD hS (lv_sub hl [3, 4, 5, 6, 0] rfl)
          · have hw := hw.1 c16
            refine lv_aload_n hx hb dL_law_161 rfl (lv_at hl 5 rfl) ?_
            refine lv_iconst (v := 0) hx hb dL_law_162 (by decide) ?_
            obtain ⟨hi18, hw⟩ := hw
            refine va_lald (f := (gO (S13, S7))) hx hb hK hP 17 1 (GWc_17 cI cL cZ h a o hm am (S13, S7)) rfl hi18 dL_law_163 ?_
            refine lv_iload hx hb dL_law_164 (lv_at hl 0 rfl) ?_
            refine lv_i2l (v := r12.toInt64) hx hb dL_law_166 rfl ?_
            refine W.lcmp hx hb dL_law_167 ?_
            refine lv_if_eq (tgt := 173) hx hb dL_law_168 (by decide) (fun c19 => ?_) (fun c19 => ?_)
            · have c19 : (gO (S13, S7) (0 : Int32).toNatClampNeg) = r12.toInt64 := (lg_cmp_eq _ _).mp c19
              have hw := hw.1 c19
              refine lv_goto (tgt := 1065) hx hb dL_law_173 (by decide) ?_
              obtain ⟨v4_20, ev4_20⟩ : ∃ y : Int32, y = u4 + 4 := ⟨_, rfl⟩
              have hw := hw v4_20 ev4_20
              refine lv_iinc (v := v4_20) (lv' := [(4, .int v4_20), (6, .int r12), (5, .int r8), (0, .ref b), (1, .ref h), (2, .ref hm), (3, .ref o)]) hx hb dL_law_1065 hl (k := 6) rfl (by rw [ev4_20]; rfl) (by decide) rfl (fun ls hl => ?_)
              refine lv_goto (tgt := 23) hx hb dL_law_1068 (by decide) ?_
              refine W.widen (k := kc + 1) (n := ks + 6) (Nat.le_refl _) (Nat.le_refl _) ?_
              exact ih (S13, S7) v4_20 (kc + 1) (ks + 6) H locs ls hw (by omega) (by omega) hP hD hS (lv_sub hl [3, 4, 5, 6, 0] rfl)
            · have c19 : ¬ (gO (S13, S7) (0 : Int32).toNatClampNeg) = r12.toInt64 := fun h9 => c19 ((lg_cmp_eq _ _).mpr h9)
              have hw := hw.2 c19
              refine lv_iconst (v := 0) hx hb dL_law_171 (by decide) ?_
              exact hw.elim
        · have hw := hw.2 c15
          refine lv_iconst (v := 0) hx hb dL_law_154 (by decide) ?_
          exact hw.elim
      have hw := hw.2 c4
      by_cases c21 : k3 = 1
      · have hw := hw.1 c21
        refine lv_tableIn (off := 137) (tgt := 176) hx hb dL_law_39 (by rw [c21]; decide) (by rw [c21]; decide) (by rw [c21]; rfl) (by decide) ?_
        refine lv_aload_n hx hb dL_law_176 rfl (lv_at hl 1 rfl) ?_
        refine lv_aload_n hx hb dL_law_177 rfl (lv_at hl 0 rfl) ?_
        refine lv_iload hx hb dL_law_178 (lv_at hl 4 rfl) ?_
        refine lv_iconst (v := 1) hx hb dL_law_180 (by decide) ?_
        refine lv_iadd hx hb dL_law_181 ?_
        obtain ⟨hi22, hw⟩ := hw
        refine va_sld hx hb hX hbl hbA hS hi22 dL_law_182 ?_
        refine lv_aload_n hx hb dL_law_183 rfl (lv_at hl 0 rfl) ?_
        refine lv_iload hx hb dL_law_184 (lv_at hl 4 rfl) ?_
        refine lv_iconst (v := 2) hx hb dL_law_186 (by decide) ?_
        refine lv_iadd hx hb dL_law_187 ?_
        obtain ⟨hi23, hw⟩ := hw
        refine va_sld hx hb hX hbl hbA hS hi23 dL_law_188 ?_
        refine lv_aload_n hx hb dL_law_189 rfl (lv_at hl 3 rfl) ?_
        refine gk_i (wr := (MW cI cL cZ hm am S.1)) (wc := LWf cI cL cZ h a o S.2) (wfc := LWf cI cL cZ h a o) hP hD hS hA (vx_runSW (As := [.ref h, .int (xs (u4 + 1).toNatClampNeg), .int (xs (u4 + 2).toNatClampNeg), .ref o]) (rest := []) C (c_L_cut l hl9 D cI cL cZ h a o _ (xs (u4 + 1).toNatClampNeg) (xs (u4 + 2).toNatClampNeg) S.2 hw H.size) (vx_cwSW 4 hts (gGS (by decide +kernel) kL_cut) rfl rfl rfl (by decide +kernel) ⟨Nat.le_of_ble_eq_true rfl, Nat.le_of_ble_eq_true rfl⟩) (g_preS (wr := (MW cI cL cZ hm am S.1)) (wc := LWf cI cL cZ h a o S.2) hK hG hA hP hD hS) rfl rfl hl.1 rfl (lv_room (Nat.le_of_ble_eq_true rfl)) dL_law_190 ⟨show kc + 0 + 1 ≤ 1075 by omega, show ks + 0 + 6 ≤ 9395 by omega⟩) (fun r25 S24 H locs hw hP hD hS => ?_)
        have hP : va_P D vwCl (GWf cI cL cZ h a o hm am (S.1, S24)) H := hP
        have hD : va_D A (GWf cI cL cZ h a o hm am (S.1, S24)) := hD
        refine lv_istore (lv' := [(5, .int r25), (0, .ref b), (1, .ref h), (2, .ref hm), (3, .ref o), (4, .int u4)]) hx hb dL_law_193 hl (by decide) rfl (fun ls hl => ?_)
        refine lv_aload_n hx hb dL_law_195 rfl (lv_at hl 3 rfl) ?_
        refine lv_aload_n hx hb dL_law_196 rfl (lv_at hl 1 rfl) ?_
        refine lv_iload hx hb dL_law_197 (lv_at hl 5 rfl) ?_
        refine lv_iconst (v := 1) hx hb dL_law_199 (by decide) ?_
        refine lv_iadd hx hb dL_law_200 ?_
        obtain ⟨hi26, hw⟩ := hw
        refine va_sld hx hb hX hbl hbA hS hi26 dL_law_201 ?_
        refine lv_aload_n hx hb dL_law_202 rfl (lv_at hl 1 rfl) ?_
        refine lv_iload hx hb dL_law_203 (lv_at hl 5 rfl) ?_
        refine lv_iconst (v := 2) hx hb dL_law_205 (by decide) ?_
        refine lv_iadd hx hb dL_law_206 ?_
        obtain ⟨hi27, hw⟩ := hw
        refine va_sld hx hb hX hbl hbA hS hi27 dL_law_207 ?_
        have hP := g_swapP (w1 := (MW cI cL cZ hm am S.1)) (w2 := (LWf cI cL cZ h a o S24)) hP
        have hD := g_swapD (w1 := (MW cI cL cZ hm am S.1)) (w2 := (LWf cI cL cZ h a o S24)) hD
        refine gk_i (wr := (LWf cI cL cZ h a o S24)) (wc := MW cI cL cZ hm am S.1) (wfc := MW cI cL cZ hm am) hP hD hS hA (va_runV (As := [.int (xs (u4 + 1).toNatClampNeg), .int (xs (u4 + 2).toNatClampNeg)]) (rest := []) C (c_M_cut l hl9 D cI cL cZ hm am _ (xs (u4 + 1).toNatClampNeg) (xs (u4 + 2).toNatClampNeg) S.1 hw H.size) (cwV 2 hts (gGV (by decide +kernel) kM_cut) rfl rfl rfl (by decide +kernel) ⟨Nat.le_of_ble_eq_true rfl, Nat.le_of_ble_eq_true rfl⟩) (g_preV (wr := (LWf cI cL cZ h a o S24)) (wc := MW cI cL cZ hm am S.1) (ci := 2) hK hG hA hP hD hS rfl (MWc_0 cI cL cZ hm am S.1) rfl) rfl rfl hl.1 rfl (lv_room (Nat.le_of_ble_eq_true rfl)) dL_law_208 ⟨show kc + 1 + 0 ≤ 1075 by omega, show ks + 6 + 0 ≤ 9395 by omega⟩) (fun r29 S28 H locs hw hP hD hS => ?_)
        have hP := g_swapP (w1 := (LWf cI cL cZ h a o S24)) (w2 := (MW cI cL cZ hm am S28)) hP
        have hD := g_swapD (w1 := (LWf cI cL cZ h a o S24)) (w2 := (MW cI cL cZ hm am S28)) hD
        have hP : va_P D vwCl (GWf cI cL cZ h a o hm am (S28, S24)) H := hP
        have hD : va_D A (GWf cI cL cZ h a o hm am (S28, S24)) := hD
        refine lv_istore (lv' := [(6, .int r29), (5, .int r25), (0, .ref b), (1, .ref h), (2, .ref hm), (3, .ref o), (4, .int u4)]) hx hb dL_law_211 hl (by decide) rfl (fun ls hl => ?_)
        refine lv_aload_n hx hb dL_law_213 rfl (lv_at hl 4 rfl) ?_
        have hP := g_swapP (w1 := (MW cI cL cZ hm am S28)) (w2 := (LWf cI cL cZ h a o S24)) hP
        have hD := g_swapD (w1 := (MW cI cL cZ hm am S28)) (w2 := (LWf cI cL cZ h a o S24)) hD
        refine gk_i (wr := (LWf cI cL cZ h a o S24)) (wc := MW cI cL cZ hm am S28) (wfc := MW cI cL cZ hm am) hP hD hS hA (va_runV (As := []) (rest := []) C (c_M_thrown l hl9 D cI cL cZ hm am _  S28 hw H.size) (cwV 0 hts (gGV (by decide +kernel) kM_thrown) rfl rfl rfl (by decide +kernel) ⟨Nat.le_of_ble_eq_true rfl, Nat.le_of_ble_eq_true rfl⟩) (g_preV (wr := (LWf cI cL cZ h a o S24)) (wc := MW cI cL cZ hm am S28) (ci := 2) hK hG hA hP hD hS rfl (MWc_0 cI cL cZ hm am S28) rfl) rfl rfl hl.1 rfl (lv_room (Nat.le_of_ble_eq_true rfl)) dL_law_214 ⟨show kc + 1 + 0 ≤ 1075 by omega, show ks + 6 + 0 ≤ 9395 by omega⟩) (fun r31 S30 H locs hw hP hD hS => ?_)
        have hP := g_swapP (w1 := (LWf cI cL cZ h a o S24)) (w2 := (MW cI cL cZ hm am S30)) hP
        have hD := g_swapD (w1 := (LWf cI cL cZ h a o S24)) (w2 := (MW cI cL cZ hm am S30)) hD
        have hP : va_P D vwCl (GWf cI cL cZ h a o hm am (S30, S24)) H := hP
        have hD : va_D A (GWf cI cL cZ h a o hm am (S30, S24)) := hD
        refine lv_iload hx hb dL_law_217 (lv_at hl 1 rfl) ?_
        refine lv_icmp_eq (tgt := 224) hx hb dL_law_219 (by decide) (fun c32 => ?_) (fun c32 => ?_)
        · have hw := hw.1 c32
          refine lv_iload hx hb dL_law_224 (lv_at hl 1 rfl) ?_
          refine lv_if_ne (tgt := 241) hx hb dL_law_226 (by decide) (fun c33 => ?_) (fun c33 => ?_)
          · have hw := hw.2 c33
            refine lv_goto (tgt := 1065) hx hb dL_law_241 (by decide) ?_
            obtain ⟨v4_34, ev4_34⟩ : ∃ y : Int32, y = u4 + 4 := ⟨_, rfl⟩
            have hw := hw v4_34 ev4_34
            refine lv_iinc (v := v4_34) (lv' := [(4, .int v4_34), (6, .int r29), (5, .int r25), (0, .ref b), (1, .ref h), (2, .ref hm), (3, .ref o)]) hx hb dL_law_1065 hl (k := 6) rfl (by rw [ev4_34]; rfl) (by decide) rfl (fun ls hl => ?_)
            refine lv_goto (tgt := 23) hx hb dL_law_1068 (by decide) ?_
            refine W.widen (k := kc + 1) (n := ks + 6) (Nat.le_refl _) (Nat.le_refl _) ?_
            exact ih (S30, S24) v4_34 (kc + 1) (ks + 6) H locs ls hw (by omega) (by omega) hP hD hS (lv_sub hl [3, 4, 5, 6, 0] rfl)
          · have hw := hw.1 c33
            refine lv_aload_n hx hb dL_law_229 rfl (lv_at hl 5 rfl) ?_
            refine lv_iconst (v := 0) hx hb dL_law_230 (by decide) ?_
            obtain ⟨hi35, hw⟩ := hw
            refine va_lald (f := (gO (S30, S24))) hx hb hK hP 17 1 (GWc_17 cI cL cZ h a o hm am (S30, S24)) rfl hi35 dL_law_231 ?_
            refine lv_iload hx hb dL_law_232 (lv_at hl 0 rfl) ?_
            refine lv_i2l (v := r29.toInt64) hx hb dL_law_234 rfl ?_
            refine W.lcmp hx hb dL_law_235 ?_
            refine lv_if_eq (tgt := 241) hx hb dL_law_236 (by decide) (fun c36 => ?_) (fun c36 => ?_)
            · have c36 : (gO (S30, S24) (0 : Int32).toNatClampNeg) = r29.toInt64 := (lg_cmp_eq _ _).mp c36
              have hw := hw.1 c36
              refine lv_goto (tgt := 1065) hx hb dL_law_241 (by decide) ?_
              obtain ⟨v4_37, ev4_37⟩ : ∃ y : Int32, y = u4 + 4 := ⟨_, rfl⟩
              have hw := hw v4_37 ev4_37
              refine lv_iinc (v := v4_37) (lv' := [(4, .int v4_37), (6, .int r29), (5, .int r25), (0, .ref b), (1, .ref h), (2, .ref hm), (3, .ref o)]) hx hb dL_law_1065 hl (k := 6) rfl (by rw [ev4_37]; rfl) (by decide) rfl (fun ls hl => ?_)
              refine lv_goto (tgt := 23) hx hb dL_law_1068 (by decide) ?_
              refine W.widen (k := kc + 1) (n := ks + 6) (Nat.le_refl _) (Nat.le_refl _) ?_
              exact ih (S30, S24) v4_37 (kc + 1) (ks + 6) H locs ls hw (by omega) (by omega) hP hD hS (lv_sub hl [3, 4, 5, 6, 0] rfl)
            · have c36 : ¬ (gO (S30, S24) (0 : Int32).toNatClampNeg) = r29.toInt64 := fun h9 => c36 ((lg_cmp_eq _ _).mpr h9)
              have hw := hw.2 c36
              refine lv_iconst (v := 0) hx hb dL_law_239 (by decide) ?_
              exact hw.elim
        · have hw := hw.2 c32
          refine lv_iconst (v := 0) hx hb dL_law_222 (by decide) ?_
          exact hw.elim
      have hw := hw.2 c21
      by_cases c38 : k3 = 2
      · have hw := hw.1 c38
        refine lv_tableIn (off := 205) (tgt := 244) hx hb dL_law_39 (by rw [c38]; decide) (by rw [c38]; decide) (by rw [c38]; rfl) (by decide) ?_
        refine lv_aload_n hx hb dL_law_244 rfl (lv_at hl 1 rfl) ?_
        refine lv_aload_n hx hb dL_law_245 rfl (lv_at hl 0 rfl) ?_
        refine lv_iload hx hb dL_law_246 (lv_at hl 4 rfl) ?_
        refine lv_iconst (v := 1) hx hb dL_law_248 (by decide) ?_
        refine lv_iadd hx hb dL_law_249 ?_
        obtain ⟨hi39, hw⟩ := hw
        refine va_sld hx hb hX hbl hbA hS hi39 dL_law_250 ?_
        refine lv_aload_n hx hb dL_law_251 rfl (lv_at hl 0 rfl) ?_
        refine lv_iload hx hb dL_law_252 (lv_at hl 4 rfl) ?_
        refine lv_iconst (v := 2) hx hb dL_law_254 (by decide) ?_
        refine lv_iadd hx hb dL_law_255 ?_
        obtain ⟨hi40, hw⟩ := hw
        refine va_sld hx hb hX hbl hbA hS hi40 dL_law_256 ?_
        refine lv_aload_n hx hb dL_law_257 rfl (lv_at hl 3 rfl) ?_
        refine gk_i (wr := (MW cI cL cZ hm am S.1)) (wc := LWf cI cL cZ h a o S.2) (wfc := LWf cI cL cZ h a o) hP hD hS hA (vx_runSW (As := [.ref h, .int (xs (u4 + 1).toNatClampNeg), .int (xs (u4 + 2).toNatClampNeg), .ref o]) (rest := []) C (c_L_weld l hl9 D cI cL cZ h a o _ (xs (u4 + 1).toNatClampNeg) (xs (u4 + 2).toNatClampNeg) S.2 hw H.size) (vx_cwSW 4 hts (gGS (by decide +kernel) kL_weld) rfl rfl rfl (by decide +kernel) ⟨Nat.le_of_ble_eq_true rfl, Nat.le_of_ble_eq_true rfl⟩) (g_preS (wr := (MW cI cL cZ hm am S.1)) (wc := LWf cI cL cZ h a o S.2) hK hG hA hP hD hS) rfl rfl hl.1 rfl (lv_room (Nat.le_of_ble_eq_true rfl)) dL_law_258 ⟨show kc + 0 + 1 ≤ 1075 by omega, show ks + 0 + 6 ≤ 9395 by omega⟩) (fun r42 S41 H locs hw hP hD hS => ?_)
        have hP : va_P D vwCl (GWf cI cL cZ h a o hm am (S.1, S41)) H := hP
        have hD : va_D A (GWf cI cL cZ h a o hm am (S.1, S41)) := hD
        refine lv_istore (lv' := [(5, .int r42), (0, .ref b), (1, .ref h), (2, .ref hm), (3, .ref o), (4, .int u4)]) hx hb dL_law_261 hl (by decide) rfl (fun ls hl => ?_)
        refine lv_aload_n hx hb dL_law_263 rfl (lv_at hl 3 rfl) ?_
        refine lv_aload_n hx hb dL_law_264 rfl (lv_at hl 1 rfl) ?_
        refine lv_iload hx hb dL_law_265 (lv_at hl 5 rfl) ?_
        refine lv_iconst (v := 1) hx hb dL_law_267 (by decide) ?_
        refine lv_iadd hx hb dL_law_268 ?_
        obtain ⟨hi43, hw⟩ := hw
        refine va_sld hx hb hX hbl hbA hS hi43 dL_law_269 ?_
        refine lv_aload_n hx hb dL_law_270 rfl (lv_at hl 1 rfl) ?_
        refine lv_iload hx hb dL_law_271 (lv_at hl 5 rfl) ?_
        refine lv_iconst (v := 2) hx hb dL_law_273 (by decide) ?_
        refine lv_iadd hx hb dL_law_274 ?_
        obtain ⟨hi44, hw⟩ := hw
        refine va_sld hx hb hX hbl hbA hS hi44 dL_law_275 ?_
        have hP := g_swapP (w1 := (MW cI cL cZ hm am S.1)) (w2 := (LWf cI cL cZ h a o S41)) hP
        have hD := g_swapD (w1 := (MW cI cL cZ hm am S.1)) (w2 := (LWf cI cL cZ h a o S41)) hD
        refine gk_i (wr := (LWf cI cL cZ h a o S41)) (wc := MW cI cL cZ hm am S.1) (wfc := MW cI cL cZ hm am) hP hD hS hA (va_runV (As := [.int (xs (u4 + 1).toNatClampNeg), .int (xs (u4 + 2).toNatClampNeg)]) (rest := []) C (c_M_weld l hl9 D cI cL cZ hm am _ (xs (u4 + 1).toNatClampNeg) (xs (u4 + 2).toNatClampNeg) S.1 hw H.size) (cwV 2 hts (gGV (by decide +kernel) kM_weld) rfl rfl rfl (by decide +kernel) ⟨Nat.le_of_ble_eq_true rfl, Nat.le_of_ble_eq_true rfl⟩) (g_preV (wr := (LWf cI cL cZ h a o S41)) (wc := MW cI cL cZ hm am S.1) (ci := 2) hK hG hA hP hD hS rfl (MWc_0 cI cL cZ hm am S.1) rfl) rfl rfl hl.1 rfl (lv_room (Nat.le_of_ble_eq_true rfl)) dL_law_276 ⟨show kc + 1 + 0 ≤ 1075 by omega, show ks + 6 + 0 ≤ 9395 by omega⟩) (fun r46 S45 H locs hw hP hD hS => ?_)
        have hP := g_swapP (w1 := (LWf cI cL cZ h a o S41)) (w2 := (MW cI cL cZ hm am S45)) hP
        have hD := g_swapD (w1 := (LWf cI cL cZ h a o S41)) (w2 := (MW cI cL cZ hm am S45)) hD
        have hP : va_P D vwCl (GWf cI cL cZ h a o hm am (S45, S41)) H := hP
        have hD : va_D A (GWf cI cL cZ h a o hm am (S45, S41)) := hD
        refine lv_istore (lv' := [(6, .int r46), (5, .int r42), (0, .ref b), (1, .ref h), (2, .ref hm), (3, .ref o), (4, .int u4)]) hx hb dL_law_279 hl (by decide) rfl (fun ls hl => ?_)
        refine lv_aload_n hx hb dL_law_281 rfl (lv_at hl 4 rfl) ?_
        have hP := g_swapP (w1 := (MW cI cL cZ hm am S45)) (w2 := (LWf cI cL cZ h a o S41)) hP
        have hD := g_swapD (w1 := (MW cI cL cZ hm am S45)) (w2 := (LWf cI cL cZ h a o S41)) hD
        refine gk_i (wr := (LWf cI cL cZ h a o S41)) (wc := MW cI cL cZ hm am S45) (wfc := MW cI cL cZ hm am) hP hD hS hA (va_runV (As := []) (rest := []) C (c_M_thrown l hl9 D cI cL cZ hm am _  S45 hw H.size) (cwV 0 hts (gGV (by decide +kernel) kM_thrown) rfl rfl rfl (by decide +kernel) ⟨Nat.le_of_ble_eq_true rfl, Nat.le_of_ble_eq_true rfl⟩) (g_preV (wr := (LWf cI cL cZ h a o S41)) (wc := MW cI cL cZ hm am S45) (ci := 2) hK hG hA hP hD hS rfl (MWc_0 cI cL cZ hm am S45) rfl) rfl rfl hl.1 rfl (lv_room (Nat.le_of_ble_eq_true rfl)) dL_law_282 ⟨show kc + 1 + 0 ≤ 1075 by omega, show ks + 6 + 0 ≤ 9395 by omega⟩) (fun r48 S47 H locs hw hP hD hS => ?_)
        have hP := g_swapP (w1 := (LWf cI cL cZ h a o S41)) (w2 := (MW cI cL cZ hm am S47)) hP
        have hD := g_swapD (w1 := (LWf cI cL cZ h a o S41)) (w2 := (MW cI cL cZ hm am S47)) hD
        have hP : va_P D vwCl (GWf cI cL cZ h a o hm am (S47, S41)) H := hP
        have hD : va_D A (GWf cI cL cZ h a o hm am (S47, S41)) := hD
        refine lv_iload hx hb dL_law_285 (lv_at hl 1 rfl) ?_
        refine lv_icmp_eq (tgt := 292) hx hb dL_law_287 (by decide) (fun c49 => ?_) (fun c49 => ?_)
        · have hw := hw.1 c49
          refine lv_iload hx hb dL_law_292 (lv_at hl 1 rfl) ?_
          refine lv_if_ne (tgt := 309) hx hb dL_law_294 (by decide) (fun c50 => ?_) (fun c50 => ?_)
          · have hw := hw.2 c50
            refine lv_goto (tgt := 1065) hx hb dL_law_309 (by decide) ?_
            obtain ⟨v4_51, ev4_51⟩ : ∃ y : Int32, y = u4 + 4 := ⟨_, rfl⟩
            have hw := hw v4_51 ev4_51
            refine lv_iinc (v := v4_51) (lv' := [(4, .int v4_51), (6, .int r46), (5, .int r42), (0, .ref b), (1, .ref h), (2, .ref hm), (3, .ref o)]) hx hb dL_law_1065 hl (k := 6) rfl (by rw [ev4_51]; rfl) (by decide) rfl (fun ls hl => ?_)
            refine lv_goto (tgt := 23) hx hb dL_law_1068 (by decide) ?_
            refine W.widen (k := kc + 1) (n := ks + 6) (Nat.le_refl _) (Nat.le_refl _) ?_
            exact ih (S47, S41) v4_51 (kc + 1) (ks + 6) H locs ls hw (by omega) (by omega) hP hD hS (lv_sub hl [3, 4, 5, 6, 0] rfl)
          · have hw := hw.1 c50
            refine lv_aload_n hx hb dL_law_297 rfl (lv_at hl 5 rfl) ?_
            refine lv_iconst (v := 0) hx hb dL_law_298 (by decide) ?_
            obtain ⟨hi52, hw⟩ := hw
            refine va_lald (f := (gO (S47, S41))) hx hb hK hP 17 1 (GWc_17 cI cL cZ h a o hm am (S47, S41)) rfl hi52 dL_law_299 ?_
            refine lv_iload hx hb dL_law_300 (lv_at hl 0 rfl) ?_
            refine lv_i2l (v := r46.toInt64) hx hb dL_law_302 rfl ?_
            refine W.lcmp hx hb dL_law_303 ?_
            refine lv_if_eq (tgt := 309) hx hb dL_law_304 (by decide) (fun c53 => ?_) (fun c53 => ?_)
            · have c53 : (gO (S47, S41) (0 : Int32).toNatClampNeg) = r46.toInt64 := (lg_cmp_eq _ _).mp c53
              have hw := hw.1 c53
              refine lv_goto (tgt := 1065) hx hb dL_law_309 (by decide) ?_
              obtain ⟨v4_54, ev4_54⟩ : ∃ y : Int32, y = u4 + 4 := ⟨_, rfl⟩
              have hw := hw v4_54 ev4_54
              refine lv_iinc (v := v4_54) (lv' := [(4, .int v4_54), (6, .int r46), (5, .int r42), (0, .ref b), (1, .ref h), (2, .ref hm), (3, .ref o)]) hx hb dL_law_1065 hl (k := 6) rfl (by rw [ev4_54]; rfl) (by decide) rfl (fun ls hl => ?_)
              refine lv_goto (tgt := 23) hx hb dL_law_1068 (by decide) ?_
              refine W.widen (k := kc + 1) (n := ks + 6) (Nat.le_refl _) (Nat.le_refl _) ?_
              exact ih (S47, S41) v4_54 (kc + 1) (ks + 6) H locs ls hw (by omega) (by omega) hP hD hS (lv_sub hl [3, 4, 5, 6, 0] rfl)
            · have c53 : ¬ (gO (S47, S41) (0 : Int32).toNatClampNeg) = r46.toInt64 := fun h9 => c53 ((lg_cmp_eq _ _).mpr h9)
              have hw := hw.2 c53
              refine lv_iconst (v := 0) hx hb dL_law_307 (by decide) ?_
              exact hw.elim
        · have hw := hw.2 c49
          refine lv_iconst (v := 0) hx hb dL_law_290 (by decide) ?_
          exact hw.elim
      have hw := hw.2 c38
      by_cases c55 : k3 = 3
      · have hw := hw.1 c55
        refine lv_tableIn (off := 273) (tgt := 312) hx hb dL_law_39 (by rw [c55]; decide) (by rw [c55]; decide) (by rw [c55]; rfl) (by decide) ?_
        refine lv_aload_n hx hb dL_law_312 rfl (lv_at hl 1 rfl) ?_
        refine lv_aload_n hx hb dL_law_313 rfl (lv_at hl 0 rfl) ?_
        refine lv_iload hx hb dL_law_314 (lv_at hl 4 rfl) ?_
        refine lv_iconst (v := 1) hx hb dL_law_316 (by decide) ?_
        refine lv_iadd hx hb dL_law_317 ?_
        obtain ⟨hi56, hw⟩ := hw
        refine va_sld hx hb hX hbl hbA hS hi56 dL_law_318 ?_
        refine lv_aload_n hx hb dL_law_319 rfl (lv_at hl 0 rfl) ?_
        refine lv_iload hx hb dL_law_320 (lv_at hl 4 rfl) ?_
        refine lv_iconst (v := 2) hx hb dL_law_322 (by decide) ?_
        refine lv_iadd hx hb dL_law_323 ?_
        obtain ⟨hi57, hw⟩ := hw
        refine va_sld hx hb hX hbl hbA hS hi57 dL_law_324 ?_
        refine lv_aload_n hx hb dL_law_325 rfl (lv_at hl 0 rfl) ?_
        refine lv_iload hx hb dL_law_326 (lv_at hl 4 rfl) ?_
        refine lv_iconst (v := 3) hx hb dL_law_328 (by decide) ?_
        refine lv_iadd hx hb dL_law_329 ?_
        obtain ⟨hi58, hw⟩ := hw
        refine va_sld hx hb hX hbl hbA hS hi58 dL_law_330 ?_
        refine lv_aload_n hx hb dL_law_331 rfl (lv_at hl 3 rfl) ?_
        refine gk_i (wr := (MW cI cL cZ hm am S.1)) (wc := LWf cI cL cZ h a o S.2) (wfc := LWf cI cL cZ h a o) hP hD hS hA (vx_runSW (As := [.ref h, .int (xs (u4 + 1).toNatClampNeg), .int (xs (u4 + 2).toNatClampNeg), .int (xs (u4 + 3).toNatClampNeg), .ref o]) (rest := []) C (c_L_roll l hl9 D cI cL cZ h a o _ (xs (u4 + 1).toNatClampNeg) (xs (u4 + 2).toNatClampNeg) (xs (u4 + 3).toNatClampNeg) S.2 hw H.size) (vx_cwSW 5 hts (gGS (by decide +kernel) kL_roll) rfl rfl rfl (by decide +kernel) ⟨Nat.le_of_ble_eq_true rfl, Nat.le_of_ble_eq_true rfl⟩) (g_preS (wr := (MW cI cL cZ hm am S.1)) (wc := LWf cI cL cZ h a o S.2) hK hG hA hP hD hS) rfl rfl hl.1 rfl (lv_room (Nat.le_of_ble_eq_true rfl)) dL_law_332 ⟨show kc + 0 + 1 ≤ 1075 by omega, show ks + 0 + 6 ≤ 9395 by omega⟩) (fun r60 S59 H locs hw hP hD hS => ?_)
        have hP : va_P D vwCl (GWf cI cL cZ h a o hm am (S.1, S59)) H := hP
        have hD : va_D A (GWf cI cL cZ h a o hm am (S.1, S59)) := hD
        refine lv_istore (lv' := [(5, .int r60), (0, .ref b), (1, .ref h), (2, .ref hm), (3, .ref o), (4, .int u4)]) hx hb dL_law_335 hl (by decide) rfl (fun ls hl => ?_)
        refine lv_aload_n hx hb dL_law_337 rfl (lv_at hl 3 rfl) ?_
        refine lv_aload_n hx hb dL_law_338 rfl (lv_at hl 1 rfl) ?_
        refine lv_iload hx hb dL_law_339 (lv_at hl 5 rfl) ?_
        refine lv_iconst (v := 1) hx hb dL_law_341 (by decide) ?_
        refine lv_iadd hx hb dL_law_342 ?_
        obtain ⟨hi61, hw⟩ := hw
        refine va_sld hx hb hX hbl hbA hS hi61 dL_law_343 ?_
        refine lv_aload_n hx hb dL_law_344 rfl (lv_at hl 1 rfl) ?_
        refine lv_iload hx hb dL_law_345 (lv_at hl 5 rfl) ?_
        refine lv_iconst (v := 2) hx hb dL_law_347 (by decide) ?_
        refine lv_iadd hx hb dL_law_348 ?_
        obtain ⟨hi62, hw⟩ := hw
        refine va_sld hx hb hX hbl hbA hS hi62 dL_law_349 ?_
        refine lv_aload_n hx hb dL_law_350 rfl (lv_at hl 1 rfl) ?_
        refine lv_iload hx hb dL_law_351 (lv_at hl 5 rfl) ?_
        refine lv_iconst (v := 3) hx hb dL_law_353 (by decide) ?_
        refine lv_iadd hx hb dL_law_354 ?_
        obtain ⟨hi63, hw⟩ := hw
        refine va_sld hx hb hX hbl hbA hS hi63 dL_law_355 ?_
        have hP := g_swapP (w1 := (MW cI cL cZ hm am S.1)) (w2 := (LWf cI cL cZ h a o S59)) hP
        have hD := g_swapD (w1 := (MW cI cL cZ hm am S.1)) (w2 := (LWf cI cL cZ h a o S59)) hD
        refine gk_i (wr := (LWf cI cL cZ h a o S59)) (wc := MW cI cL cZ hm am S.1) (wfc := MW cI cL cZ hm am) hP hD hS hA (va_runV (As := [.int (xs (u4 + 1).toNatClampNeg), .int (xs (u4 + 2).toNatClampNeg), .int (xs (u4 + 3).toNatClampNeg)]) (rest := []) C (c_M_roll l hl9 D cI cL cZ hm am _ (xs (u4 + 1).toNatClampNeg) (xs (u4 + 2).toNatClampNeg) (xs (u4 + 3).toNatClampNeg) S.1 hw H.size) (cwV 3 hts (gGV (by decide +kernel) kM_roll) rfl rfl rfl (by decide +kernel) ⟨Nat.le_of_ble_eq_true rfl, Nat.le_of_ble_eq_true rfl⟩) (g_preV (wr := (LWf cI cL cZ h a o S59)) (wc := MW cI cL cZ hm am S.1) (ci := 2) hK hG hA hP hD hS rfl (MWc_0 cI cL cZ hm am S.1) rfl) rfl rfl hl.1 rfl (lv_room (Nat.le_of_ble_eq_true rfl)) dL_law_356 ⟨show kc + 1 + 0 ≤ 1075 by omega, show ks + 6 + 0 ≤ 9395 by omega⟩) (fun r65 S64 H locs hw hP hD hS => ?_)
        have hP := g_swapP (w1 := (LWf cI cL cZ h a o S59)) (w2 := (MW cI cL cZ hm am S64)) hP
        have hD := g_swapD (w1 := (LWf cI cL cZ h a o S59)) (w2 := (MW cI cL cZ hm am S64)) hD
        have hP : va_P D vwCl (GWf cI cL cZ h a o hm am (S64, S59)) H := hP
        have hD : va_D A (GWf cI cL cZ h a o hm am (S64, S59)) := hD
        refine lv_istore (lv' := [(6, .int r65), (5, .int r60), (0, .ref b), (1, .ref h), (2, .ref hm), (3, .ref o), (4, .int u4)]) hx hb dL_law_359 hl (by decide) rfl (fun ls hl => ?_)
        refine lv_aload_n hx hb dL_law_361 rfl (lv_at hl 4 rfl) ?_
        have hP := g_swapP (w1 := (MW cI cL cZ hm am S64)) (w2 := (LWf cI cL cZ h a o S59)) hP
        have hD := g_swapD (w1 := (MW cI cL cZ hm am S64)) (w2 := (LWf cI cL cZ h a o S59)) hD
        refine gk_i (wr := (LWf cI cL cZ h a o S59)) (wc := MW cI cL cZ hm am S64) (wfc := MW cI cL cZ hm am) hP hD hS hA (va_runV (As := []) (rest := []) C (c_M_thrown l hl9 D cI cL cZ hm am _  S64 hw H.size) (cwV 0 hts (gGV (by decide +kernel) kM_thrown) rfl rfl rfl (by decide +kernel) ⟨Nat.le_of_ble_eq_true rfl, Nat.le_of_ble_eq_true rfl⟩) (g_preV (wr := (LWf cI cL cZ h a o S59)) (wc := MW cI cL cZ hm am S64) (ci := 2) hK hG hA hP hD hS rfl (MWc_0 cI cL cZ hm am S64) rfl) rfl rfl hl.1 rfl (lv_room (Nat.le_of_ble_eq_true rfl)) dL_law_362 ⟨show kc + 1 + 0 ≤ 1075 by omega, show ks + 6 + 0 ≤ 9395 by omega⟩) (fun r67 S66 H locs hw hP hD hS => ?_)
        have hP := g_swapP (w1 := (LWf cI cL cZ h a o S59)) (w2 := (MW cI cL cZ hm am S66)) hP
        have hD := g_swapD (w1 := (LWf cI cL cZ h a o S59)) (w2 := (MW cI cL cZ hm am S66)) hD
        have hP : va_P D vwCl (GWf cI cL cZ h a o hm am (S66, S59)) H := hP
        have hD : va_D A (GWf cI cL cZ h a o hm am (S66, S59)) := hD
        refine lv_iload hx hb dL_law_365 (lv_at hl 1 rfl) ?_
        refine lv_icmp_eq (tgt := 372) hx hb dL_law_367 (by decide) (fun c68 => ?_) (fun c68 => ?_)
        · have hw := hw.1 c68
          refine lv_iload hx hb dL_law_372 (lv_at hl 1 rfl) ?_
          refine lv_if_ne (tgt := 389) hx hb dL_law_374 (by decide) (fun c69 => ?_) (fun c69 => ?_)
          · have hw := hw.2 c69
            refine lv_goto (tgt := 1065) hx hb dL_law_389 (by decide) ?_
            obtain ⟨v4_70, ev4_70⟩ : ∃ y : Int32, y = u4 + 4 := ⟨_, rfl⟩
            have hw := hw v4_70 ev4_70
            refine lv_iinc (v := v4_70) (lv' := [(4, .int v4_70), (6, .int r65), (5, .int r60), (0, .ref b), (1, .ref h), (2, .ref hm), (3, .ref o)]) hx hb dL_law_1065 hl (k := 6) rfl (by rw [ev4_70]; rfl) (by decide) rfl (fun ls hl => ?_)
            refine lv_goto (tgt := 23) hx hb dL_law_1068 (by decide) ?_
            refine W.widen (k := kc + 1) (n := ks + 6) (Nat.le_refl _) (Nat.le_refl _) ?_
            exact ih (S66, S59) v4_70 (kc + 1) (ks + 6) H locs ls hw (by omega) (by omega) hP hD hS (lv_sub hl [3, 4, 5, 6, 0] rfl)
          · have hw := hw.1 c69
            refine lv_aload_n hx hb dL_law_377 rfl (lv_at hl 5 rfl) ?_
            refine lv_iconst (v := 0) hx hb dL_law_378 (by decide) ?_
            obtain ⟨hi71, hw⟩ := hw
            refine va_lald (f := (gO (S66, S59))) hx hb hK hP 17 1 (GWc_17 cI cL cZ h a o hm am (S66, S59)) rfl hi71 dL_law_379 ?_
            refine lv_iload hx hb dL_law_380 (lv_at hl 0 rfl) ?_
            refine lv_i2l (v := r65.toInt64) hx hb dL_law_382 rfl ?_
            refine W.lcmp hx hb dL_law_383 ?_
            refine lv_if_eq (tgt := 389) hx hb dL_law_384 (by decide) (fun c72 => ?_) (fun c72 => ?_)
            · have c72 : (gO (S66, S59) (0 : Int32).toNatClampNeg) = r65.toInt64 := (lg_cmp_eq _ _).mp c72
              have hw := hw.1 c72
              refine lv_goto (tgt := 1065) hx hb dL_law_389 (by decide) ?_
              obtain ⟨v4_73, ev4_73⟩ : ∃ y : Int32, y = u4 + 4 := ⟨_, rfl⟩
              have hw := hw v4_73 ev4_73
              refine lv_iinc (v := v4_73) (lv' := [(4, .int v4_73), (6, .int r65), (5, .int r60), (0, .ref b), (1, .ref h), (2, .ref hm), (3, .ref o)]) hx hb dL_law_1065 hl (k := 6) rfl (by rw [ev4_73]; rfl) (by decide) rfl (fun ls hl => ?_)
              refine lv_goto (tgt := 23) hx hb dL_law_1068 (by decide) ?_
              refine W.widen (k := kc + 1) (n := ks + 6) (Nat.le_refl _) (Nat.le_refl _) ?_
              exact ih (S66, S59) v4_73 (kc + 1) (ks + 6) H locs ls hw (by omega) (by omega) hP hD hS (lv_sub hl [3, 4, 5, 6, 0] rfl)
            · have c72 : ¬ (gO (S66, S59) (0 : Int32).toNatClampNeg) = r65.toInt64 := fun h9 => c72 ((lg_cmp_eq _ _).mpr h9)
              have hw := hw.2 c72
              refine lv_iconst (v := 0) hx hb dL_law_387 (by decide) ?_
              exact hw.elim
        · have hw := hw.2 c68
          refine lv_iconst (v := 0) hx hb dL_law_370 (by decide) ?_
          exact hw.elim
      have hw := hw.2 c55
      by_cases c74 : k3 = 4
      · have hw := hw.1 c74
        refine lv_tableIn (off := 353) (tgt := 392) hx hb dL_law_39 (by rw [c74]; decide) (by rw [c74]; decide) (by rw [c74]; rfl) (by decide) ?_
        refine lv_aload_n hx hb dL_law_392 rfl (lv_at hl 1 rfl) ?_
        refine lv_aload_n hx hb dL_law_393 rfl (lv_at hl 0 rfl) ?_
        refine lv_iload hx hb dL_law_394 (lv_at hl 4 rfl) ?_
        refine lv_iconst (v := 1) hx hb dL_law_396 (by decide) ?_
        refine lv_iadd hx hb dL_law_397 ?_
        obtain ⟨hi75, hw⟩ := hw
        refine va_sld hx hb hX hbl hbA hS hi75 dL_law_398 ?_
        refine lv_aload_n hx hb dL_law_399 rfl (lv_at hl 0 rfl) ?_
        refine lv_iload hx hb dL_law_400 (lv_at hl 4 rfl) ?_
        refine lv_iconst (v := 2) hx hb dL_law_402 (by decide) ?_
        refine lv_iadd hx hb dL_law_403 ?_
        obtain ⟨hi76, hw⟩ := hw
        refine va_sld hx hb hX hbl hbA hS hi76 dL_law_404 ?_
        refine lv_aload_n hx hb dL_law_405 rfl (lv_at hl 3 rfl) ?_
        refine gk_i (wr := (MW cI cL cZ hm am S.1)) (wc := LWf cI cL cZ h a o S.2) (wfc := LWf cI cL cZ h a o) hP hD hS hA (vx_runSW (As := [.ref h, .int (xs (u4 + 1).toNatClampNeg), .int (xs (u4 + 2).toNatClampNeg), .ref o]) (rest := []) C (c_L_slit l hl9 D cI cL cZ h a o _ (xs (u4 + 1).toNatClampNeg) (xs (u4 + 2).toNatClampNeg) S.2 hw H.size) (vx_cwSW 4 hts (gGS (by decide +kernel) kL_slit) rfl rfl rfl (by decide +kernel) ⟨Nat.le_of_ble_eq_true rfl, Nat.le_of_ble_eq_true rfl⟩) (g_preS (wr := (MW cI cL cZ hm am S.1)) (wc := LWf cI cL cZ h a o S.2) hK hG hA hP hD hS) rfl rfl hl.1 rfl (lv_room (Nat.le_of_ble_eq_true rfl)) dL_law_406 ⟨show kc + 0 + 1 ≤ 1075 by omega, show ks + 0 + 6 ≤ 9395 by omega⟩) (fun r78 S77 H locs hw hP hD hS => ?_)
        have hP : va_P D vwCl (GWf cI cL cZ h a o hm am (S.1, S77)) H := hP
        have hD : va_D A (GWf cI cL cZ h a o hm am (S.1, S77)) := hD
        refine lv_istore (lv' := [(5, .int r78), (0, .ref b), (1, .ref h), (2, .ref hm), (3, .ref o), (4, .int u4)]) hx hb dL_law_409 hl (by decide) rfl (fun ls hl => ?_)
        refine lv_aload_n hx hb dL_law_411 rfl (lv_at hl 3 rfl) ?_
        refine lv_aload_n hx hb dL_law_412 rfl (lv_at hl 1 rfl) ?_
        refine lv_iload hx hb dL_law_413 (lv_at hl 5 rfl) ?_
        refine lv_iconst (v := 1) hx hb dL_law_415 (by decide) ?_
        refine lv_iadd hx hb dL_law_416 ?_
        obtain ⟨hi79, hw⟩ := hw
        refine va_sld hx hb hX hbl hbA hS hi79 dL_law_417 ?_
        refine lv_aload_n hx hb dL_law_418 rfl (lv_at hl 1 rfl) ?_
        refine lv_iload hx hb dL_law_419 (lv_at hl 5 rfl) ?_
        refine lv_iconst (v := 2) hx hb dL_law_421 (by decide) ?_
        refine lv_iadd hx hb dL_law_422 ?_
        obtain ⟨hi80, hw⟩ := hw
        refine va_sld hx hb hX hbl hbA hS hi80 dL_law_423 ?_
        have hP := g_swapP (w1 := (MW cI cL cZ hm am S.1)) (w2 := (LWf cI cL cZ h a o S77)) hP
        have hD := g_swapD (w1 := (MW cI cL cZ hm am S.1)) (w2 := (LWf cI cL cZ h a o S77)) hD
        refine gk_i (wr := (LWf cI cL cZ h a o S77)) (wc := MW cI cL cZ hm am S.1) (wfc := MW cI cL cZ hm am) hP hD hS hA (va_runV (As := [.int (xs (u4 + 1).toNatClampNeg), .int (xs (u4 + 2).toNatClampNeg)]) (rest := []) C (c_M_slit l hl9 D cI cL cZ hm am _ (xs (u4 + 1).toNatClampNeg) (xs (u4 + 2).toNatClampNeg) S.1 hw H.size) (cwV 2 hts (gGV (by decide +kernel) kM_slit) rfl rfl rfl (by decide +kernel) ⟨Nat.le_of_ble_eq_true rfl, Nat.le_of_ble_eq_true rfl⟩) (g_preV (wr := (LWf cI cL cZ h a o S77)) (wc := MW cI cL cZ hm am S.1) (ci := 2) hK hG hA hP hD hS rfl (MWc_0 cI cL cZ hm am S.1) rfl) rfl rfl hl.1 rfl (lv_room (Nat.le_of_ble_eq_true rfl)) dL_law_424 ⟨show kc + 1 + 0 ≤ 1075 by omega, show ks + 6 + 0 ≤ 9395 by omega⟩) (fun r82 S81 H locs hw hP hD hS => ?_)
        have hP := g_swapP (w1 := (LWf cI cL cZ h a o S77)) (w2 := (MW cI cL cZ hm am S81)) hP
        have hD := g_swapD (w1 := (LWf cI cL cZ h a o S77)) (w2 := (MW cI cL cZ hm am S81)) hD
        have hP : va_P D vwCl (GWf cI cL cZ h a o hm am (S81, S77)) H := hP
        have hD : va_D A (GWf cI cL cZ h a o hm am (S81, S77)) := hD
        refine lv_istore (lv' := [(6, .int r82), (5, .int r78), (0, .ref b), (1, .ref h), (2, .ref hm), (3, .ref o), (4, .int u4)]) hx hb dL_law_427 hl (by decide) rfl (fun ls hl => ?_)
        refine lv_aload_n hx hb dL_law_429 rfl (lv_at hl 4 rfl) ?_
        have hP := g_swapP (w1 := (MW cI cL cZ hm am S81)) (w2 := (LWf cI cL cZ h a o S77)) hP
        have hD := g_swapD (w1 := (MW cI cL cZ hm am S81)) (w2 := (LWf cI cL cZ h a o S77)) hD
        refine gk_i (wr := (LWf cI cL cZ h a o S77)) (wc := MW cI cL cZ hm am S81) (wfc := MW cI cL cZ hm am) hP hD hS hA (va_runV (As := []) (rest := []) C (c_M_thrown l hl9 D cI cL cZ hm am _  S81 hw H.size) (cwV 0 hts (gGV (by decide +kernel) kM_thrown) rfl rfl rfl (by decide +kernel) ⟨Nat.le_of_ble_eq_true rfl, Nat.le_of_ble_eq_true rfl⟩) (g_preV (wr := (LWf cI cL cZ h a o S77)) (wc := MW cI cL cZ hm am S81) (ci := 2) hK hG hA hP hD hS rfl (MWc_0 cI cL cZ hm am S81) rfl) rfl rfl hl.1 rfl (lv_room (Nat.le_of_ble_eq_true rfl)) dL_law_430 ⟨show kc + 1 + 0 ≤ 1075 by omega, show ks + 6 + 0 ≤ 9395 by omega⟩) (fun r84 S83 H locs hw hP hD hS => ?_)
        have hP := g_swapP (w1 := (LWf cI cL cZ h a o S77)) (w2 := (MW cI cL cZ hm am S83)) hP
        have hD := g_swapD (w1 := (LWf cI cL cZ h a o S77)) (w2 := (MW cI cL cZ hm am S83)) hD
        have hP : va_P D vwCl (GWf cI cL cZ h a o hm am (S83, S77)) H := hP
        have hD : va_D A (GWf cI cL cZ h a o hm am (S83, S77)) := hD
        refine lv_iload hx hb dL_law_433 (lv_at hl 1 rfl) ?_
        refine lv_icmp_eq (tgt := 440) hx hb dL_law_435 (by decide) (fun c85 => ?_) (fun c85 => ?_)
        · have hw := hw.1 c85
          refine lv_iload hx hb dL_law_440 (lv_at hl 1 rfl) ?_
          refine lv_if_ne (tgt := 457) hx hb dL_law_442 (by decide) (fun c86 => ?_) (fun c86 => ?_)
          · have hw := hw.2 c86
            refine lv_goto (tgt := 1065) hx hb dL_law_457 (by decide) ?_
            obtain ⟨v4_87, ev4_87⟩ : ∃ y : Int32, y = u4 + 4 := ⟨_, rfl⟩
            have hw := hw v4_87 ev4_87
            refine lv_iinc (v := v4_87) (lv' := [(4, .int v4_87), (6, .int r82), (5, .int r78), (0, .ref b), (1, .ref h), (2, .ref hm), (3, .ref o)]) hx hb dL_law_1065 hl (k := 6) rfl (by rw [ev4_87]; rfl) (by decide) rfl (fun ls hl => ?_)
            refine lv_goto (tgt := 23) hx hb dL_law_1068 (by decide) ?_
            refine W.widen (k := kc + 1) (n := ks + 6) (Nat.le_refl _) (Nat.le_refl _) ?_
            exact ih (S83, S77) v4_87 (kc + 1) (ks + 6) H locs ls hw (by omega) (by omega) hP hD hS (lv_sub hl [3, 4, 5, 6, 0] rfl)
          · have hw := hw.1 c86
            refine lv_aload_n hx hb dL_law_445 rfl (lv_at hl 5 rfl) ?_
            refine lv_iconst (v := 0) hx hb dL_law_446 (by decide) ?_
            obtain ⟨hi88, hw⟩ := hw
            refine va_lald (f := (gO (S83, S77))) hx hb hK hP 17 1 (GWc_17 cI cL cZ h a o hm am (S83, S77)) rfl hi88 dL_law_447 ?_
            refine lv_iload hx hb dL_law_448 (lv_at hl 0 rfl) ?_
            refine lv_i2l (v := r82.toInt64) hx hb dL_law_450 rfl ?_
            refine W.lcmp hx hb dL_law_451 ?_
            refine lv_if_eq (tgt := 457) hx hb dL_law_452 (by decide) (fun c89 => ?_) (fun c89 => ?_)
            · have c89 : (gO (S83, S77) (0 : Int32).toNatClampNeg) = r82.toInt64 := (lg_cmp_eq _ _).mp c89
              have hw := hw.1 c89
              refine lv_goto (tgt := 1065) hx hb dL_law_457 (by decide) ?_
              obtain ⟨v4_90, ev4_90⟩ : ∃ y : Int32, y = u4 + 4 := ⟨_, rfl⟩
              have hw := hw v4_90 ev4_90
              refine lv_iinc (v := v4_90) (lv' := [(4, .int v4_90), (6, .int r82), (5, .int r78), (0, .ref b), (1, .ref h), (2, .ref hm), (3, .ref o)]) hx hb dL_law_1065 hl (k := 6) rfl (by rw [ev4_90]; rfl) (by decide) rfl (fun ls hl => ?_)
              refine lv_goto (tgt := 23) hx hb dL_law_1068 (by decide) ?_
              refine W.widen (k := kc + 1) (n := ks + 6) (Nat.le_refl _) (Nat.le_refl _) ?_
              exact ih (S83, S77) v4_90 (kc + 1) (ks + 6) H locs ls hw (by omega) (by omega) hP hD hS (lv_sub hl [3, 4, 5, 6, 0] rfl)
            · have c89 : ¬ (gO (S83, S77) (0 : Int32).toNatClampNeg) = r82.toInt64 := fun h9 => c89 ((lg_cmp_eq _ _).mpr h9)
              have hw := hw.2 c89
              refine lv_iconst (v := 0) hx hb dL_law_455 (by decide) ?_
              exact hw.elim
        · have hw := hw.2 c85
          refine lv_iconst (v := 0) hx hb dL_law_438 (by decide) ?_
          exact hw.elim
      have hw := hw.2 c74
      by_cases c91 : k3 = 5
      · have hw := hw.1 c91
        refine lv_tableIn (off := 421) (tgt := 460) hx hb dL_law_39 (by rw [c91]; decide) (by rw [c91]; decide) (by rw [c91]; rfl) (by decide) ?_
        refine lv_aload_n hx hb dL_law_460 rfl (lv_at hl 1 rfl) ?_
        refine lv_aload_n hx hb dL_law_461 rfl (lv_at hl 0 rfl) ?_
        refine lv_iload hx hb dL_law_462 (lv_at hl 4 rfl) ?_
        refine lv_iconst (v := 1) hx hb dL_law_464 (by decide) ?_
        refine lv_iadd hx hb dL_law_465 ?_
        obtain ⟨hi92, hw⟩ := hw
        refine va_sld hx hb hX hbl hbA hS hi92 dL_law_466 ?_
        refine lv_aload_n hx hb dL_law_467 rfl (lv_at hl 0 rfl) ?_
        refine lv_iload hx hb dL_law_468 (lv_at hl 4 rfl) ?_
        refine lv_iconst (v := 2) hx hb dL_law_470 (by decide) ?_
        refine lv_iadd hx hb dL_law_471 ?_
        obtain ⟨hi93, hw⟩ := hw
        refine va_sld hx hb hX hbl hbA hS hi93 dL_law_472 ?_
        refine lv_if_eq (tgt := 480) hx hb dL_law_473 (by decide) (fun c94 => ?_) (fun c94 => ?_)
        · have hw := hw.1 c94
          refine lv_iconst (v := 0) hx hb dL_law_480 (by decide) ?_
          refine gk_i (wr := (MW cI cL cZ hm am S.1)) (wc := LWf cI cL cZ h a o S.2) (wfc := LWf cI cL cZ h a o) hP hD hS hA (vx_runSW (As := [.ref h, .int (xs (u4 + 1).toNatClampNeg), .int 0]) (rest := []) C (c_L_hold l hl9 D cI cL cZ h a o _ (xs (u4 + 1).toNatClampNeg) 0 S.2 hw H.size) (vx_cwSW 3 hts (gGS (by decide +kernel) kL_hold) rfl rfl rfl (by decide +kernel) ⟨Nat.le_of_ble_eq_true rfl, Nat.le_of_ble_eq_true rfl⟩) (g_preS (wr := (MW cI cL cZ hm am S.1)) (wc := LWf cI cL cZ h a o S.2) hK hG hA hP hD hS) rfl rfl hl.1 rfl (lv_room (Nat.le_of_ble_eq_true rfl)) dL_law_481 ⟨show kc + 0 + 1 ≤ 1075 by omega, show ks + 0 + 6 ≤ 9395 by omega⟩) (fun r96 S95 H locs hw hP hD hS => ?_)
          have hP : va_P D vwCl (GWf cI cL cZ h a o hm am (S.1, S95)) H := hP
          have hD : va_D A (GWf cI cL cZ h a o hm am (S.1, S95)) := hD
          refine lv_istore (lv' := [(5, .int r96), (0, .ref b), (1, .ref h), (2, .ref hm), (3, .ref o), (4, .int u4)]) hx hb dL_law_484 hl (by decide) rfl (fun ls hl => ?_)
          refine lv_aload_n hx hb dL_law_486 rfl (lv_at hl 3 rfl) ?_
          refine lv_aload_n hx hb dL_law_487 rfl (lv_at hl 1 rfl) ?_
          refine lv_iload hx hb dL_law_488 (lv_at hl 5 rfl) ?_
          refine lv_iconst (v := 1) hx hb dL_law_490 (by decide) ?_
          refine lv_iadd hx hb dL_law_491 ?_
          obtain ⟨hi97, hw⟩ := hw
          refine va_sld hx hb hX hbl hbA hS hi97 dL_law_492 ?_
          refine lv_aload_n hx hb dL_law_493 rfl (lv_at hl 1 rfl) ?_
          refine lv_iload hx hb dL_law_494 (lv_at hl 5 rfl) ?_
          refine lv_iconst (v := 2) hx hb dL_law_496 (by decide) ?_
          refine lv_iadd hx hb dL_law_497 ?_
          obtain ⟨hi98, hw⟩ := hw
          refine va_sld hx hb hX hbl hbA hS hi98 dL_law_498 ?_
          refine lv_if_eq (tgt := 506) hx hb dL_law_499 (by decide) (fun _ => ?_) (fun c9 => absurd c94 c9)
          refine lv_iconst (v := 0) hx hb dL_law_506 (by decide) ?_
          have hP := g_swapP (w1 := (MW cI cL cZ hm am S.1)) (w2 := (LWf cI cL cZ h a o S95)) hP
          have hD := g_swapD (w1 := (MW cI cL cZ hm am S.1)) (w2 := (LWf cI cL cZ h a o S95)) hD
          refine gk_v (wr := (LWf cI cL cZ h a o S95)) (wc := MW cI cL cZ hm am S.1) (wfc := MW cI cL cZ hm am) hP hD hS hA (va_runV (As := [.int (xs (u4 + 1).toNatClampNeg), .int 0]) (rest := []) C (c_M_hold l hl9 D cI cL cZ hm am _ (xs (u4 + 1).toNatClampNeg) 0 S.1 hw H.size) (cwV 2 hts (gGV (by decide +kernel) kM_hold) rfl rfl rfl (by decide +kernel) ⟨Nat.le_of_ble_eq_true rfl, Nat.le_of_ble_eq_true rfl⟩) (g_preV (wr := (LWf cI cL cZ h a o S95)) (wc := MW cI cL cZ hm am S.1) (ci := 2) hK hG hA hP hD hS rfl (MWc_0 cI cL cZ hm am S.1) rfl) rfl rfl hl.1 rfl (lv_room (Nat.le_of_ble_eq_true rfl)) dL_law_507 ⟨show kc + 1 + 0 ≤ 1075 by omega, show ks + 6 + 0 ≤ 9395 by omega⟩) (fun  S99 H locs hw hP hD hS => ?_)
          have hP := g_swapP (w1 := (LWf cI cL cZ h a o S95)) (w2 := (MW cI cL cZ hm am S99)) hP
          have hD := g_swapD (w1 := (LWf cI cL cZ h a o S95)) (w2 := (MW cI cL cZ hm am S99)) hD
          have hP : va_P D vwCl (GWf cI cL cZ h a o hm am (S99, S95)) H := hP
          have hD : va_D A (GWf cI cL cZ h a o hm am (S99, S95)) := hD
          refine lv_aload_n hx hb dL_law_510 rfl (lv_at hl 3 rfl) ?_
          have hP := g_swapP (w1 := (MW cI cL cZ hm am S99)) (w2 := (LWf cI cL cZ h a o S95)) hP
          have hD := g_swapD (w1 := (MW cI cL cZ hm am S99)) (w2 := (LWf cI cL cZ h a o S95)) hD
          refine gk_i (wr := (LWf cI cL cZ h a o S95)) (wc := MW cI cL cZ hm am S99) (wfc := MW cI cL cZ hm am) hP hD hS hA (va_runV (As := []) (rest := []) C (c_M_thrown l hl9 D cI cL cZ hm am _  S99 hw H.size) (cwV 0 hts (gGV (by decide +kernel) kM_thrown) rfl rfl rfl (by decide +kernel) ⟨Nat.le_of_ble_eq_true rfl, Nat.le_of_ble_eq_true rfl⟩) (g_preV (wr := (LWf cI cL cZ h a o S95)) (wc := MW cI cL cZ hm am S99) (ci := 2) hK hG hA hP hD hS rfl (MWc_0 cI cL cZ hm am S99) rfl) rfl rfl hl.1 rfl (lv_room (Nat.le_of_ble_eq_true rfl)) dL_law_511 ⟨show kc + 1 + 0 ≤ 1075 by omega, show ks + 6 + 0 ≤ 9395 by omega⟩) (fun r101 S100 H locs hw hP hD hS => ?_)
          have hP := g_swapP (w1 := (LWf cI cL cZ h a o S95)) (w2 := (MW cI cL cZ hm am S100)) hP
          have hD := g_swapD (w1 := (LWf cI cL cZ h a o S95)) (w2 := (MW cI cL cZ hm am S100)) hD
          have hP : va_P D vwCl (GWf cI cL cZ h a o hm am (S100, S95)) H := hP
          have hD : va_D A (GWf cI cL cZ h a o hm am (S100, S95)) := hD
          refine lv_iload hx hb dL_law_514 (lv_at hl 0 rfl) ?_
          refine lv_icmp_eq (tgt := 521) hx hb dL_law_516 (by decide) (fun c102 => ?_) (fun c102 => ?_)
          · have hw := hw.1 c102
            refine lv_goto (tgt := 1065) hx hb dL_law_521 (by decide) ?_
            obtain ⟨v4_103, ev4_103⟩ : ∃ y : Int32, y = u4 + 4 := ⟨_, rfl⟩
            have hw := hw v4_103 ev4_103
            refine lv_iinc (v := v4_103) (lv' := [(4, .int v4_103), (5, .int r96), (0, .ref b), (1, .ref h), (2, .ref hm), (3, .ref o)]) hx hb dL_law_1065 hl (k := 5) rfl (by rw [ev4_103]; rfl) (by decide) rfl (fun ls hl => ?_)
            refine lv_goto (tgt := 23) hx hb dL_law_1068 (by decide) ?_
            refine W.widen (k := kc + 1) (n := ks + 6) (Nat.le_refl _) (Nat.le_refl _) ?_
            exact ih (S100, S95) v4_103 (kc + 1) (ks + 6) H locs ls hw (by omega) (by omega) hP hD hS (lv_sub hl [2, 3, 4, 5, 0] rfl)
          · have hw := hw.2 c102
            refine lv_iconst (v := 0) hx hb dL_law_519 (by decide) ?_
            exact hw.elim
        · have hw := hw.2 c94
          refine lv_iconst (v := 1) hx hb dL_law_476 (by decide) ?_
          refine lv_goto (tgt := 481) hx hb dL_law_477 (by decide) ?_
          refine gk_i (wr := (MW cI cL cZ hm am S.1)) (wc := LWf cI cL cZ h a o S.2) (wfc := LWf cI cL cZ h a o) hP hD hS hA (vx_runSW (As := [.ref h, .int (xs (u4 + 1).toNatClampNeg), .int 1]) (rest := []) C (c_L_hold l hl9 D cI cL cZ h a o _ (xs (u4 + 1).toNatClampNeg) 1 S.2 hw H.size) (vx_cwSW 3 hts (gGS (by decide +kernel) kL_hold) rfl rfl rfl (by decide +kernel) ⟨Nat.le_of_ble_eq_true rfl, Nat.le_of_ble_eq_true rfl⟩) (g_preS (wr := (MW cI cL cZ hm am S.1)) (wc := LWf cI cL cZ h a o S.2) hK hG hA hP hD hS) rfl rfl hl.1 rfl (lv_room (Nat.le_of_ble_eq_true rfl)) dL_law_481 ⟨show kc + 0 + 1 ≤ 1075 by omega, show ks + 0 + 6 ≤ 9395 by omega⟩) (fun r105 S104 H locs hw hP hD hS => ?_)
          have hP : va_P D vwCl (GWf cI cL cZ h a o hm am (S.1, S104)) H := hP
          have hD : va_D A (GWf cI cL cZ h a o hm am (S.1, S104)) := hD
          refine lv_istore (lv' := [(5, .int r105), (0, .ref b), (1, .ref h), (2, .ref hm), (3, .ref o), (4, .int u4)]) hx hb dL_law_484 hl (by decide) rfl (fun ls hl => ?_)
          refine lv_aload_n hx hb dL_law_486 rfl (lv_at hl 3 rfl) ?_
          refine lv_aload_n hx hb dL_law_487 rfl (lv_at hl 1 rfl) ?_
          refine lv_iload hx hb dL_law_488 (lv_at hl 5 rfl) ?_
          refine lv_iconst (v := 1) hx hb dL_law_490 (by decide) ?_
          refine lv_iadd hx hb dL_law_491 ?_
          obtain ⟨hi106, hw⟩ := hw
          refine va_sld hx hb hX hbl hbA hS hi106 dL_law_492 ?_
          refine lv_aload_n hx hb dL_law_493 rfl (lv_at hl 1 rfl) ?_
          refine lv_iload hx hb dL_law_494 (lv_at hl 5 rfl) ?_
          refine lv_iconst (v := 2) hx hb dL_law_496 (by decide) ?_
          refine lv_iadd hx hb dL_law_497 ?_
          obtain ⟨hi107, hw⟩ := hw
          refine va_sld hx hb hX hbl hbA hS hi107 dL_law_498 ?_
          refine lv_if_eq (tgt := 506) hx hb dL_law_499 (by decide) (fun c9 => absurd c9 c94) (fun _ => ?_)
          refine lv_iconst (v := 1) hx hb dL_law_502 (by decide) ?_
          refine lv_goto (tgt := 507) hx hb dL_law_503 (by decide) ?_
          have hP := g_swapP (w1 := (MW cI cL cZ hm am S.1)) (w2 := (LWf cI cL cZ h a o S104)) hP
          have hD := g_swapD (w1 := (MW cI cL cZ hm am S.1)) (w2 := (LWf cI cL cZ h a o S104)) hD
          refine gk_v (wr := (LWf cI cL cZ h a o S104)) (wc := MW cI cL cZ hm am S.1) (wfc := MW cI cL cZ hm am) hP hD hS hA (va_runV (As := [.int (xs (u4 + 1).toNatClampNeg), .int 1]) (rest := []) C (c_M_hold l hl9 D cI cL cZ hm am _ (xs (u4 + 1).toNatClampNeg) 1 S.1 hw H.size) (cwV 2 hts (gGV (by decide +kernel) kM_hold) rfl rfl rfl (by decide +kernel) ⟨Nat.le_of_ble_eq_true rfl, Nat.le_of_ble_eq_true rfl⟩) (g_preV (wr := (LWf cI cL cZ h a o S104)) (wc := MW cI cL cZ hm am S.1) (ci := 2) hK hG hA hP hD hS rfl (MWc_0 cI cL cZ hm am S.1) rfl) rfl rfl hl.1 rfl (lv_room (Nat.le_of_ble_eq_true rfl)) dL_law_507 ⟨show kc + 1 + 0 ≤ 1075 by omega, show ks + 6 + 0 ≤ 9395 by omega⟩) (fun  S108 H locs hw hP hD hS => ?_)
          have hP := g_swapP (w1 := (LWf cI cL cZ h a o S104)) (w2 := (MW cI cL cZ hm am S108)) hP
          have hD := g_swapD (w1 := (LWf cI cL cZ h a o S104)) (w2 := (MW cI cL cZ hm am S108)) hD
          have hP : va_P D vwCl (GWf cI cL cZ h a o hm am (S108, S104)) H := hP
          have hD : va_D A (GWf cI cL cZ h a o hm am (S108, S104)) := hD
          refine lv_aload_n hx hb dL_law_510 rfl (lv_at hl 3 rfl) ?_
          have hP := g_swapP (w1 := (MW cI cL cZ hm am S108)) (w2 := (LWf cI cL cZ h a o S104)) hP
          have hD := g_swapD (w1 := (MW cI cL cZ hm am S108)) (w2 := (LWf cI cL cZ h a o S104)) hD
          refine gk_i (wr := (LWf cI cL cZ h a o S104)) (wc := MW cI cL cZ hm am S108) (wfc := MW cI cL cZ hm am) hP hD hS hA (va_runV (As := []) (rest := []) C (c_M_thrown l hl9 D cI cL cZ hm am _  S108 hw H.size) (cwV 0 hts (gGV (by decide +kernel) kM_thrown) rfl rfl rfl (by decide +kernel) ⟨Nat.le_of_ble_eq_true rfl, Nat.le_of_ble_eq_true rfl⟩) (g_preV (wr := (LWf cI cL cZ h a o S104)) (wc := MW cI cL cZ hm am S108) (ci := 2) hK hG hA hP hD hS rfl (MWc_0 cI cL cZ hm am S108) rfl) rfl rfl hl.1 rfl (lv_room (Nat.le_of_ble_eq_true rfl)) dL_law_511 ⟨show kc + 1 + 0 ≤ 1075 by omega, show ks + 6 + 0 ≤ 9395 by omega⟩) (fun r110 S109 H locs hw hP hD hS => ?_)
          have hP := g_swapP (w1 := (LWf cI cL cZ h a o S104)) (w2 := (MW cI cL cZ hm am S109)) hP
          have hD := g_swapD (w1 := (LWf cI cL cZ h a o S104)) (w2 := (MW cI cL cZ hm am S109)) hD
          have hP : va_P D vwCl (GWf cI cL cZ h a o hm am (S109, S104)) H := hP
          have hD : va_D A (GWf cI cL cZ h a o hm am (S109, S104)) := hD
          refine lv_iload hx hb dL_law_514 (lv_at hl 0 rfl) ?_
          refine lv_icmp_eq (tgt := 521) hx hb dL_law_516 (by decide) (fun c111 => ?_) (fun c111 => ?_)
          · have hw := hw.1 c111
            refine lv_goto (tgt := 1065) hx hb dL_law_521 (by decide) ?_
            obtain ⟨v4_112, ev4_112⟩ : ∃ y : Int32, y = u4 + 4 := ⟨_, rfl⟩
            have hw := hw v4_112 ev4_112
            refine lv_iinc (v := v4_112) (lv' := [(4, .int v4_112), (5, .int r105), (0, .ref b), (1, .ref h), (2, .ref hm), (3, .ref o)]) hx hb dL_law_1065 hl (k := 5) rfl (by rw [ev4_112]; rfl) (by decide) rfl (fun ls hl => ?_)
            refine lv_goto (tgt := 23) hx hb dL_law_1068 (by decide) ?_
            refine W.widen (k := kc + 1) (n := ks + 6) (Nat.le_refl _) (Nat.le_refl _) ?_
            exact ih (S109, S104) v4_112 (kc + 1) (ks + 6) H locs ls hw (by omega) (by omega) hP hD hS (lv_sub hl [2, 3, 4, 5, 0] rfl)
          · have hw := hw.2 c111
            refine lv_iconst (v := 0) hx hb dL_law_519 (by decide) ?_
            exact hw.elim
      have hw := hw.2 c91
      by_cases c113 : k3 = 6
      · have hw := hw.1 c113
        refine lv_tableIn (off := 485) (tgt := 524) hx hb dL_law_39 (by rw [c113]; decide) (by rw [c113]; decide) (by rw [c113]; rfl) (by decide) ?_
        refine lv_aload_n hx hb dL_law_524 rfl (lv_at hl 1 rfl) ?_
        refine lv_aload_n hx hb dL_law_525 rfl (lv_at hl 0 rfl) ?_
        refine lv_iload hx hb dL_law_526 (lv_at hl 4 rfl) ?_
        refine lv_iconst (v := 1) hx hb dL_law_528 (by decide) ?_
        refine lv_iadd hx hb dL_law_529 ?_
        obtain ⟨hi114, hw⟩ := hw
        refine va_sld hx hb hX hbl hbA hS hi114 dL_law_530 ?_
        refine lv_aload_n hx hb dL_law_531 rfl (lv_at hl 3 rfl) ?_
        refine gk_i (wr := (MW cI cL cZ hm am S.1)) (wc := LWf cI cL cZ h a o S.2) (wfc := LWf cI cL cZ h a o) hP hD hS hA (vx_runSW (As := [.ref h, .int (xs (u4 + 1).toNatClampNeg), .ref o]) (rest := []) C (c_L_scrap l hl9 D cI cL cZ h a o _ (xs (u4 + 1).toNatClampNeg) S.2 hw H.size) (vx_cwSW 3 hts (gGS (by decide +kernel) kL_scrap) rfl rfl rfl (by decide +kernel) ⟨Nat.le_of_ble_eq_true rfl, Nat.le_of_ble_eq_true rfl⟩) (g_preS (wr := (MW cI cL cZ hm am S.1)) (wc := LWf cI cL cZ h a o S.2) hK hG hA hP hD hS) rfl rfl hl.1 rfl (lv_room (Nat.le_of_ble_eq_true rfl)) dL_law_532 ⟨show kc + 0 + 1 ≤ 1075 by omega, show ks + 0 + 6 ≤ 9395 by omega⟩) (fun r116 S115 H locs hw hP hD hS => ?_)
        have hP : va_P D vwCl (GWf cI cL cZ h a o hm am (S.1, S115)) H := hP
        have hD : va_D A (GWf cI cL cZ h a o hm am (S.1, S115)) := hD
        refine lv_istore (lv' := [(5, .int r116), (0, .ref b), (1, .ref h), (2, .ref hm), (3, .ref o), (4, .int u4)]) hx hb dL_law_535 hl (by decide) rfl (fun ls hl => ?_)
        refine lv_aload_n hx hb dL_law_537 rfl (lv_at hl 3 rfl) ?_
        refine lv_aload_n hx hb dL_law_538 rfl (lv_at hl 1 rfl) ?_
        refine lv_iload hx hb dL_law_539 (lv_at hl 5 rfl) ?_
        refine lv_iconst (v := 1) hx hb dL_law_541 (by decide) ?_
        refine lv_iadd hx hb dL_law_542 ?_
        obtain ⟨hi117, hw⟩ := hw
        refine va_sld hx hb hX hbl hbA hS hi117 dL_law_543 ?_
        have hP := g_swapP (w1 := (MW cI cL cZ hm am S.1)) (w2 := (LWf cI cL cZ h a o S115)) hP
        have hD := g_swapD (w1 := (MW cI cL cZ hm am S.1)) (w2 := (LWf cI cL cZ h a o S115)) hD
        refine gk_i (wr := (LWf cI cL cZ h a o S115)) (wc := MW cI cL cZ hm am S.1) (wfc := MW cI cL cZ hm am) hP hD hS hA (va_runV (As := [.int (xs (u4 + 1).toNatClampNeg)]) (rest := []) C (c_M_scrap l hl9 D cI cL cZ hm am _ (xs (u4 + 1).toNatClampNeg) S.1 hw H.size) (cwV 1 hts (gGV (by decide +kernel) kM_scrap) rfl rfl rfl (by decide +kernel) ⟨Nat.le_of_ble_eq_true rfl, Nat.le_of_ble_eq_true rfl⟩) (g_preV (wr := (LWf cI cL cZ h a o S115)) (wc := MW cI cL cZ hm am S.1) (ci := 2) hK hG hA hP hD hS rfl (MWc_0 cI cL cZ hm am S.1) rfl) rfl rfl hl.1 rfl (lv_room (Nat.le_of_ble_eq_true rfl)) dL_law_544 ⟨show kc + 1 + 0 ≤ 1075 by omega, show ks + 6 + 0 ≤ 9395 by omega⟩) (fun r119 S118 H locs hw hP hD hS => ?_)
        have hP := g_swapP (w1 := (LWf cI cL cZ h a o S115)) (w2 := (MW cI cL cZ hm am S118)) hP
        have hD := g_swapD (w1 := (LWf cI cL cZ h a o S115)) (w2 := (MW cI cL cZ hm am S118)) hD
        have hP : va_P D vwCl (GWf cI cL cZ h a o hm am (S118, S115)) H := hP
        have hD : va_D A (GWf cI cL cZ h a o hm am (S118, S115)) := hD
        refine lv_istore (lv' := [(6, .int r119), (5, .int r116), (0, .ref b), (1, .ref h), (2, .ref hm), (3, .ref o), (4, .int u4)]) hx hb dL_law_547 hl (by decide) rfl (fun ls hl => ?_)
        refine lv_aload_n hx hb dL_law_549 rfl (lv_at hl 4 rfl) ?_
        have hP := g_swapP (w1 := (MW cI cL cZ hm am S118)) (w2 := (LWf cI cL cZ h a o S115)) hP
        have hD := g_swapD (w1 := (MW cI cL cZ hm am S118)) (w2 := (LWf cI cL cZ h a o S115)) hD
        refine gk_i (wr := (LWf cI cL cZ h a o S115)) (wc := MW cI cL cZ hm am S118) (wfc := MW cI cL cZ hm am) hP hD hS hA (va_runV (As := []) (rest := []) C (c_M_thrown l hl9 D cI cL cZ hm am _  S118 hw H.size) (cwV 0 hts (gGV (by decide +kernel) kM_thrown) rfl rfl rfl (by decide +kernel) ⟨Nat.le_of_ble_eq_true rfl, Nat.le_of_ble_eq_true rfl⟩) (g_preV (wr := (LWf cI cL cZ h a o S115)) (wc := MW cI cL cZ hm am S118) (ci := 2) hK hG hA hP hD hS rfl (MWc_0 cI cL cZ hm am S118) rfl) rfl rfl hl.1 rfl (lv_room (Nat.le_of_ble_eq_true rfl)) dL_law_550 ⟨show kc + 1 + 0 ≤ 1075 by omega, show ks + 6 + 0 ≤ 9395 by omega⟩) (fun r121 S120 H locs hw hP hD hS => ?_)
        have hP := g_swapP (w1 := (LWf cI cL cZ h a o S115)) (w2 := (MW cI cL cZ hm am S120)) hP
        have hD := g_swapD (w1 := (LWf cI cL cZ h a o S115)) (w2 := (MW cI cL cZ hm am S120)) hD
        have hP : va_P D vwCl (GWf cI cL cZ h a o hm am (S120, S115)) H := hP
        have hD : va_D A (GWf cI cL cZ h a o hm am (S120, S115)) := hD
        refine lv_iload hx hb dL_law_553 (lv_at hl 1 rfl) ?_
        refine lv_icmp_eq (tgt := 560) hx hb dL_law_555 (by decide) (fun c122 => ?_) (fun c122 => ?_)
        · have hw := hw.1 c122
          refine lv_iload hx hb dL_law_560 (lv_at hl 1 rfl) ?_
          refine lv_if_ne (tgt := 577) hx hb dL_law_562 (by decide) (fun c123 => ?_) (fun c123 => ?_)
          · have hw := hw.2 c123
            refine lv_goto (tgt := 1065) hx hb dL_law_577 (by decide) ?_
            obtain ⟨v4_124, ev4_124⟩ : ∃ y : Int32, y = u4 + 4 := ⟨_, rfl⟩
            have hw := hw v4_124 ev4_124
            refine lv_iinc (v := v4_124) (lv' := [(4, .int v4_124), (6, .int r119), (5, .int r116), (0, .ref b), (1, .ref h), (2, .ref hm), (3, .ref o)]) hx hb dL_law_1065 hl (k := 6) rfl (by rw [ev4_124]; rfl) (by decide) rfl (fun ls hl => ?_)
            refine lv_goto (tgt := 23) hx hb dL_law_1068 (by decide) ?_
            refine W.widen (k := kc + 1) (n := ks + 6) (Nat.le_refl _) (Nat.le_refl _) ?_
            exact ih (S120, S115) v4_124 (kc + 1) (ks + 6) H locs ls hw (by omega) (by omega) hP hD hS (lv_sub hl [3, 4, 5, 6, 0] rfl)
          · have hw := hw.1 c123
            refine lv_aload_n hx hb dL_law_565 rfl (lv_at hl 5 rfl) ?_
            refine lv_iconst (v := 0) hx hb dL_law_566 (by decide) ?_
            obtain ⟨hi125, hw⟩ := hw
            refine va_lald (f := (gO (S120, S115))) hx hb hK hP 17 1 (GWc_17 cI cL cZ h a o hm am (S120, S115)) rfl hi125 dL_law_567 ?_
            refine lv_iload hx hb dL_law_568 (lv_at hl 0 rfl) ?_
            refine lv_i2l (v := r119.toInt64) hx hb dL_law_570 rfl ?_
            refine W.lcmp hx hb dL_law_571 ?_
            refine lv_if_eq (tgt := 577) hx hb dL_law_572 (by decide) (fun c126 => ?_) (fun c126 => ?_)
            · have c126 : (gO (S120, S115) (0 : Int32).toNatClampNeg) = r119.toInt64 := (lg_cmp_eq _ _).mp c126
              have hw := hw.1 c126
              refine lv_goto (tgt := 1065) hx hb dL_law_577 (by decide) ?_
              obtain ⟨v4_127, ev4_127⟩ : ∃ y : Int32, y = u4 + 4 := ⟨_, rfl⟩
              have hw := hw v4_127 ev4_127
              refine lv_iinc (v := v4_127) (lv' := [(4, .int v4_127), (6, .int r119), (5, .int r116), (0, .ref b), (1, .ref h), (2, .ref hm), (3, .ref o)]) hx hb dL_law_1065 hl (k := 6) rfl (by rw [ev4_127]; rfl) (by decide) rfl (fun ls hl => ?_)
              refine lv_goto (tgt := 23) hx hb dL_law_1068 (by decide) ?_
              refine W.widen (k := kc + 1) (n := ks + 6) (Nat.le_refl _) (Nat.le_refl _) ?_
              exact ih (S120, S115) v4_127 (kc + 1) (ks + 6) H locs ls hw (by omega) (by omega) hP hD hS (lv_sub hl [3, 4, 5, 6, 0] rfl)
            · have c126 : ¬ (gO (S120, S115) (0 : Int32).toNatClampNeg) = r119.toInt64 := fun h9 => c126 ((lg_cmp_eq _ _).mpr h9)
              have hw := hw.2 c126
              refine lv_iconst (v := 0) hx hb dL_law_575 (by decide) ?_
              exact hw.elim
        · have hw := hw.2 c122
          refine lv_iconst (v := 0) hx hb dL_law_558 (by decide) ?_
          exact hw.elim
      have hw := hw.2 c113
      by_cases c128 : k3 = 7
      · have hw := hw.1 c128
        refine lv_tableIn (off := 541) (tgt := 580) hx hb dL_law_39 (by rw [c128]; decide) (by rw [c128]; decide) (by rw [c128]; rfl) (by decide) ?_
        refine lv_aload_n hx hb dL_law_580 rfl (lv_at hl 1 rfl) ?_
        refine lv_aload_n hx hb dL_law_581 rfl (lv_at hl 0 rfl) ?_
        refine lv_iload hx hb dL_law_582 (lv_at hl 4 rfl) ?_
        refine lv_iconst (v := 1) hx hb dL_law_584 (by decide) ?_
        refine lv_iadd hx hb dL_law_585 ?_
        obtain ⟨hi129, hw⟩ := hw
        refine va_sld hx hb hX hbl hbA hS hi129 dL_law_586 ?_
        refine lv_aload_n hx hb dL_law_587 rfl (lv_at hl 0 rfl) ?_
        refine lv_iload hx hb dL_law_588 (lv_at hl 4 rfl) ?_
        refine lv_iconst (v := 2) hx hb dL_law_590 (by decide) ?_
        refine lv_iadd hx hb dL_law_591 ?_
        obtain ⟨hi130, hw⟩ := hw
        refine va_sld hx hb hX hbl hbA hS hi130 dL_law_592 ?_
        refine lv_aload_n hx hb dL_law_593 rfl (lv_at hl 3 rfl) ?_
        refine gk_i (wr := (MW cI cL cZ hm am S.1)) (wc := LWf cI cL cZ h a o S.2) (wfc := LWf cI cL cZ h a o) hP hD hS hA (vx_runSW (As := [.ref h, .int (xs (u4 + 1).toNatClampNeg), .int (xs (u4 + 2).toNatClampNeg), .ref o]) (rest := []) C (c_L_back l hl9 D cI cL cZ h a o _ (xs (u4 + 1).toNatClampNeg) (xs (u4 + 2).toNatClampNeg) S.2 hw H.size) (vx_cwSW 4 hts (gGS (by decide +kernel) kL_back) rfl rfl rfl (by decide +kernel) ⟨Nat.le_of_ble_eq_true rfl, Nat.le_of_ble_eq_true rfl⟩) (g_preS (wr := (MW cI cL cZ hm am S.1)) (wc := LWf cI cL cZ h a o S.2) hK hG hA hP hD hS) rfl rfl hl.1 rfl (lv_room (Nat.le_of_ble_eq_true rfl)) dL_law_594 ⟨show kc + 0 + 1 ≤ 1075 by omega, show ks + 0 + 6 ≤ 9395 by omega⟩) (fun r132 S131 H locs hw hP hD hS => ?_)
        have hP : va_P D vwCl (GWf cI cL cZ h a o hm am (S.1, S131)) H := hP
        have hD : va_D A (GWf cI cL cZ h a o hm am (S.1, S131)) := hD
        refine lv_istore (lv' := [(5, .int r132), (0, .ref b), (1, .ref h), (2, .ref hm), (3, .ref o), (4, .int u4)]) hx hb dL_law_597 hl (by decide) rfl (fun ls hl => ?_)
        refine lv_aload_n hx hb dL_law_599 rfl (lv_at hl 3 rfl) ?_
        refine lv_aload_n hx hb dL_law_600 rfl (lv_at hl 1 rfl) ?_
        refine lv_iload hx hb dL_law_601 (lv_at hl 5 rfl) ?_
        refine lv_iconst (v := 1) hx hb dL_law_603 (by decide) ?_
        refine lv_iadd hx hb dL_law_604 ?_
        obtain ⟨hi133, hw⟩ := hw
        refine va_sld hx hb hX hbl hbA hS hi133 dL_law_605 ?_
        refine lv_aload_n hx hb dL_law_606 rfl (lv_at hl 1 rfl) ?_
        refine lv_iload hx hb dL_law_607 (lv_at hl 5 rfl) ?_
        refine lv_iconst (v := 2) hx hb dL_law_609 (by decide) ?_
        refine lv_iadd hx hb dL_law_610 ?_
        obtain ⟨hi134, hw⟩ := hw
        refine va_sld hx hb hX hbl hbA hS hi134 dL_law_611 ?_
        have hP := g_swapP (w1 := (MW cI cL cZ hm am S.1)) (w2 := (LWf cI cL cZ h a o S131)) hP
        have hD := g_swapD (w1 := (MW cI cL cZ hm am S.1)) (w2 := (LWf cI cL cZ h a o S131)) hD
        refine gk_i (wr := (LWf cI cL cZ h a o S131)) (wc := MW cI cL cZ hm am S.1) (wfc := MW cI cL cZ hm am) hP hD hS hA (va_runV (As := [.int (xs (u4 + 1).toNatClampNeg), .int (xs (u4 + 2).toNatClampNeg)]) (rest := []) C (c_M_back l hl9 D cI cL cZ hm am _ (xs (u4 + 1).toNatClampNeg) (xs (u4 + 2).toNatClampNeg) S.1 hw H.size) (cwV 2 hts (gGV (by decide +kernel) kM_back) rfl rfl rfl (by decide +kernel) ⟨Nat.le_of_ble_eq_true rfl, Nat.le_of_ble_eq_true rfl⟩) (g_preV (wr := (LWf cI cL cZ h a o S131)) (wc := MW cI cL cZ hm am S.1) (ci := 2) hK hG hA hP hD hS rfl (MWc_0 cI cL cZ hm am S.1) rfl) rfl rfl hl.1 rfl (lv_room (Nat.le_of_ble_eq_true rfl)) dL_law_612 ⟨show kc + 1 + 0 ≤ 1075 by omega, show ks + 6 + 0 ≤ 9395 by omega⟩) (fun r136 S135 H locs hw hP hD hS => ?_)
        have hP := g_swapP (w1 := (LWf cI cL cZ h a o S131)) (w2 := (MW cI cL cZ hm am S135)) hP
        have hD := g_swapD (w1 := (LWf cI cL cZ h a o S131)) (w2 := (MW cI cL cZ hm am S135)) hD
        have hP : va_P D vwCl (GWf cI cL cZ h a o hm am (S135, S131)) H := hP
        have hD : va_D A (GWf cI cL cZ h a o hm am (S135, S131)) := hD
        refine lv_istore (lv' := [(6, .int r136), (5, .int r132), (0, .ref b), (1, .ref h), (2, .ref hm), (3, .ref o), (4, .int u4)]) hx hb dL_law_615 hl (by decide) rfl (fun ls hl => ?_)
        refine lv_aload_n hx hb dL_law_617 rfl (lv_at hl 4 rfl) ?_
        have hP := g_swapP (w1 := (MW cI cL cZ hm am S135)) (w2 := (LWf cI cL cZ h a o S131)) hP
        have hD := g_swapD (w1 := (MW cI cL cZ hm am S135)) (w2 := (LWf cI cL cZ h a o S131)) hD
        refine gk_i (wr := (LWf cI cL cZ h a o S131)) (wc := MW cI cL cZ hm am S135) (wfc := MW cI cL cZ hm am) hP hD hS hA (va_runV (As := []) (rest := []) C (c_M_thrown l hl9 D cI cL cZ hm am _  S135 hw H.size) (cwV 0 hts (gGV (by decide +kernel) kM_thrown) rfl rfl rfl (by decide +kernel) ⟨Nat.le_of_ble_eq_true rfl, Nat.le_of_ble_eq_true rfl⟩) (g_preV (wr := (LWf cI cL cZ h a o S131)) (wc := MW cI cL cZ hm am S135) (ci := 2) hK hG hA hP hD hS rfl (MWc_0 cI cL cZ hm am S135) rfl) rfl rfl hl.1 rfl (lv_room (Nat.le_of_ble_eq_true rfl)) dL_law_618 ⟨show kc + 1 + 0 ≤ 1075 by omega, show ks + 6 + 0 ≤ 9395 by omega⟩) (fun r138 S137 H locs hw hP hD hS => ?_)
        have hP := g_swapP (w1 := (LWf cI cL cZ h a o S131)) (w2 := (MW cI cL cZ hm am S137)) hP
        have hD := g_swapD (w1 := (LWf cI cL cZ h a o S131)) (w2 := (MW cI cL cZ hm am S137)) hD
        have hP : va_P D vwCl (GWf cI cL cZ h a o hm am (S137, S131)) H := hP
        have hD : va_D A (GWf cI cL cZ h a o hm am (S137, S131)) := hD
        refine lv_iload hx hb dL_law_621 (lv_at hl 1 rfl) ?_
        refine lv_icmp_eq (tgt := 628) hx hb dL_law_623 (by decide) (fun c139 => ?_) (fun c139 => ?_)
        · have hw := hw.1 c139
          refine lv_iload hx hb dL_law_628 (lv_at hl 1 rfl) ?_
          refine lv_if_ne (tgt := 645) hx hb dL_law_630 (by decide) (fun c140 => ?_) (fun c140 => ?_)
          · have hw := hw.2 c140
            refine lv_goto (tgt := 1065) hx hb dL_law_645 (by decide) ?_
            obtain ⟨v4_141, ev4_141⟩ : ∃ y : Int32, y = u4 + 4 := ⟨_, rfl⟩
            have hw := hw v4_141 ev4_141
            refine lv_iinc (v := v4_141) (lv' := [(4, .int v4_141), (6, .int r136), (5, .int r132), (0, .ref b), (1, .ref h), (2, .ref hm), (3, .ref o)]) hx hb dL_law_1065 hl (k := 6) rfl (by rw [ev4_141]; rfl) (by decide) rfl (fun ls hl => ?_)
            refine lv_goto (tgt := 23) hx hb dL_law_1068 (by decide) ?_
            refine W.widen (k := kc + 1) (n := ks + 6) (Nat.le_refl _) (Nat.le_refl _) ?_
            exact ih (S137, S131) v4_141 (kc + 1) (ks + 6) H locs ls hw (by omega) (by omega) hP hD hS (lv_sub hl [3, 4, 5, 6, 0] rfl)
          · have hw := hw.1 c140
            refine lv_aload_n hx hb dL_law_633 rfl (lv_at hl 5 rfl) ?_
            refine lv_iconst (v := 0) hx hb dL_law_634 (by decide) ?_
            obtain ⟨hi142, hw⟩ := hw
            refine va_lald (f := (gO (S137, S131))) hx hb hK hP 17 1 (GWc_17 cI cL cZ h a o hm am (S137, S131)) rfl hi142 dL_law_635 ?_
            refine lv_iload hx hb dL_law_636 (lv_at hl 0 rfl) ?_
            refine lv_i2l (v := r136.toInt64) hx hb dL_law_638 rfl ?_
            refine W.lcmp hx hb dL_law_639 ?_
            refine lv_if_eq (tgt := 645) hx hb dL_law_640 (by decide) (fun c143 => ?_) (fun c143 => ?_)
            · have c143 : (gO (S137, S131) (0 : Int32).toNatClampNeg) = r136.toInt64 := (lg_cmp_eq _ _).mp c143
              have hw := hw.1 c143
              refine lv_goto (tgt := 1065) hx hb dL_law_645 (by decide) ?_
              obtain ⟨v4_144, ev4_144⟩ : ∃ y : Int32, y = u4 + 4 := ⟨_, rfl⟩
              have hw := hw v4_144 ev4_144
              refine lv_iinc (v := v4_144) (lv' := [(4, .int v4_144), (6, .int r136), (5, .int r132), (0, .ref b), (1, .ref h), (2, .ref hm), (3, .ref o)]) hx hb dL_law_1065 hl (k := 6) rfl (by rw [ev4_144]; rfl) (by decide) rfl (fun ls hl => ?_)
              refine lv_goto (tgt := 23) hx hb dL_law_1068 (by decide) ?_
              refine W.widen (k := kc + 1) (n := ks + 6) (Nat.le_refl _) (Nat.le_refl _) ?_
              exact ih (S137, S131) v4_144 (kc + 1) (ks + 6) H locs ls hw (by omega) (by omega) hP hD hS (lv_sub hl [3, 4, 5, 6, 0] rfl)
            · have c143 : ¬ (gO (S137, S131) (0 : Int32).toNatClampNeg) = r136.toInt64 := fun h9 => c143 ((lg_cmp_eq _ _).mpr h9)
              have hw := hw.2 c143
              refine lv_iconst (v := 0) hx hb dL_law_643 (by decide) ?_
              exact hw.elim
        · have hw := hw.2 c139
          refine lv_iconst (v := 0) hx hb dL_law_626 (by decide) ?_
          exact hw.elim
      have hw := hw.2 c128
      by_cases c145 : k3 = 8
      · have hw := hw.1 c145
        refine lv_tableIn (off := 609) (tgt := 648) hx hb dL_law_39 (by rw [c145]; decide) (by rw [c145]; decide) (by rw [c145]; rfl) (by decide) ?_
        refine lv_aload_n hx hb dL_law_648 rfl (lv_at hl 1 rfl) ?_
        refine lv_aload_n hx hb dL_law_649 rfl (lv_at hl 0 rfl) ?_
        refine lv_iload hx hb dL_law_650 (lv_at hl 4 rfl) ?_
        refine lv_iconst (v := 1) hx hb dL_law_652 (by decide) ?_
        refine lv_iadd hx hb dL_law_653 ?_
        obtain ⟨hi146, hw⟩ := hw
        refine va_sld hx hb hX hbl hbA hS hi146 dL_law_654 ?_
        refine lv_aload_n hx hb dL_law_655 rfl (lv_at hl 0 rfl) ?_
        refine lv_iload hx hb dL_law_656 (lv_at hl 4 rfl) ?_
        refine lv_iconst (v := 2) hx hb dL_law_658 (by decide) ?_
        refine lv_iadd hx hb dL_law_659 ?_
        obtain ⟨hi147, hw⟩ := hw
        refine va_sld hx hb hX hbl hbA hS hi147 dL_law_660 ?_
        refine lv_aload_n hx hb dL_law_661 rfl (lv_at hl 3 rfl) ?_
        refine gk_i (wr := (MW cI cL cZ hm am S.1)) (wc := LWf cI cL cZ h a o S.2) (wfc := LWf cI cL cZ h a o) hP hD hS hA (vx_runSW (As := [.ref h, .int (xs (u4 + 1).toNatClampNeg), .int (xs (u4 + 2).toNatClampNeg), .ref o]) (rest := []) C (c_L_at l hl9 D cI cL cZ h a o _ (xs (u4 + 1).toNatClampNeg) (xs (u4 + 2).toNatClampNeg) S.2 hw H.size) (vx_cwSW 4 hts (gGS (by decide +kernel) kL_at) rfl rfl rfl (by decide +kernel) ⟨Nat.le_of_ble_eq_true rfl, Nat.le_of_ble_eq_true rfl⟩) (g_preS (wr := (MW cI cL cZ hm am S.1)) (wc := LWf cI cL cZ h a o S.2) hK hG hA hP hD hS) rfl rfl hl.1 rfl (lv_room (Nat.le_of_ble_eq_true rfl)) dL_law_662 ⟨show kc + 0 + 1 ≤ 1075 by omega, show ks + 0 + 6 ≤ 9395 by omega⟩) (fun r149 S148 H locs hw hP hD hS => ?_)
        have hP : va_P D vwCl (GWf cI cL cZ h a o hm am (S.1, S148)) H := hP
        have hD : va_D A (GWf cI cL cZ h a o hm am (S.1, S148)) := hD
        refine lv_istore (lv' := [(5, .int r149), (0, .ref b), (1, .ref h), (2, .ref hm), (3, .ref o), (4, .int u4)]) hx hb dL_law_665 hl (by decide) rfl (fun ls hl => ?_)
        refine lv_aload_n hx hb dL_law_667 rfl (lv_at hl 3 rfl) ?_
        refine lv_aload_n hx hb dL_law_668 rfl (lv_at hl 1 rfl) ?_
        refine lv_iload hx hb dL_law_669 (lv_at hl 5 rfl) ?_
        refine lv_iconst (v := 1) hx hb dL_law_671 (by decide) ?_
        refine lv_iadd hx hb dL_law_672 ?_
        obtain ⟨hi150, hw⟩ := hw
        refine va_sld hx hb hX hbl hbA hS hi150 dL_law_673 ?_
        refine lv_aload_n hx hb dL_law_674 rfl (lv_at hl 1 rfl) ?_
        refine lv_iload hx hb dL_law_675 (lv_at hl 5 rfl) ?_
        refine lv_iconst (v := 2) hx hb dL_law_677 (by decide) ?_
        refine lv_iadd hx hb dL_law_678 ?_
        obtain ⟨hi151, hw⟩ := hw
        refine va_sld hx hb hX hbl hbA hS hi151 dL_law_679 ?_
        have hP := g_swapP (w1 := (MW cI cL cZ hm am S.1)) (w2 := (LWf cI cL cZ h a o S148)) hP
        have hD := g_swapD (w1 := (MW cI cL cZ hm am S.1)) (w2 := (LWf cI cL cZ h a o S148)) hD
        refine gk_i (wr := (LWf cI cL cZ h a o S148)) (wc := MW cI cL cZ hm am S.1) (wfc := MW cI cL cZ hm am) hP hD hS hA (va_runV (As := [.int (xs (u4 + 1).toNatClampNeg), .int (xs (u4 + 2).toNatClampNeg)]) (rest := []) C (c_M_at l hl9 D cI cL cZ hm am _ (xs (u4 + 1).toNatClampNeg) (xs (u4 + 2).toNatClampNeg) S.1 hw H.size) (cwV 2 hts (gGV (by decide +kernel) kM_at) rfl rfl rfl (by decide +kernel) ⟨Nat.le_of_ble_eq_true rfl, Nat.le_of_ble_eq_true rfl⟩) (g_preV (wr := (LWf cI cL cZ h a o S148)) (wc := MW cI cL cZ hm am S.1) (ci := 2) hK hG hA hP hD hS rfl (MWc_0 cI cL cZ hm am S.1) rfl) rfl rfl hl.1 rfl (lv_room (Nat.le_of_ble_eq_true rfl)) dL_law_680 ⟨show kc + 1 + 0 ≤ 1075 by omega, show ks + 6 + 0 ≤ 9395 by omega⟩) (fun r153 S152 H locs hw hP hD hS => ?_)
        have hP := g_swapP (w1 := (LWf cI cL cZ h a o S148)) (w2 := (MW cI cL cZ hm am S152)) hP
        have hD := g_swapD (w1 := (LWf cI cL cZ h a o S148)) (w2 := (MW cI cL cZ hm am S152)) hD
        have hP : va_P D vwCl (GWf cI cL cZ h a o hm am (S152, S148)) H := hP
        have hD : va_D A (GWf cI cL cZ h a o hm am (S152, S148)) := hD
        refine lv_istore (lv' := [(6, .int r153), (5, .int r149), (0, .ref b), (1, .ref h), (2, .ref hm), (3, .ref o), (4, .int u4)]) hx hb dL_law_683 hl (by decide) rfl (fun ls hl => ?_)
        refine lv_aload_n hx hb dL_law_685 rfl (lv_at hl 4 rfl) ?_
        have hP := g_swapP (w1 := (MW cI cL cZ hm am S152)) (w2 := (LWf cI cL cZ h a o S148)) hP
        have hD := g_swapD (w1 := (MW cI cL cZ hm am S152)) (w2 := (LWf cI cL cZ h a o S148)) hD
        refine gk_i (wr := (LWf cI cL cZ h a o S148)) (wc := MW cI cL cZ hm am S152) (wfc := MW cI cL cZ hm am) hP hD hS hA (va_runV (As := []) (rest := []) C (c_M_thrown l hl9 D cI cL cZ hm am _  S152 hw H.size) (cwV 0 hts (gGV (by decide +kernel) kM_thrown) rfl rfl rfl (by decide +kernel) ⟨Nat.le_of_ble_eq_true rfl, Nat.le_of_ble_eq_true rfl⟩) (g_preV (wr := (LWf cI cL cZ h a o S148)) (wc := MW cI cL cZ hm am S152) (ci := 2) hK hG hA hP hD hS rfl (MWc_0 cI cL cZ hm am S152) rfl) rfl rfl hl.1 rfl (lv_room (Nat.le_of_ble_eq_true rfl)) dL_law_686 ⟨show kc + 1 + 0 ≤ 1075 by omega, show ks + 6 + 0 ≤ 9395 by omega⟩) (fun r155 S154 H locs hw hP hD hS => ?_)
        have hP := g_swapP (w1 := (LWf cI cL cZ h a o S148)) (w2 := (MW cI cL cZ hm am S154)) hP
        have hD := g_swapD (w1 := (LWf cI cL cZ h a o S148)) (w2 := (MW cI cL cZ hm am S154)) hD
        have hP : va_P D vwCl (GWf cI cL cZ h a o hm am (S154, S148)) H := hP
        have hD : va_D A (GWf cI cL cZ h a o hm am (S154, S148)) := hD
        refine lv_iload hx hb dL_law_689 (lv_at hl 1 rfl) ?_
        refine lv_icmp_eq (tgt := 696) hx hb dL_law_691 (by decide) (fun c156 => ?_) (fun c156 => ?_)
        · have hw := hw.1 c156
          refine lv_iload hx hb dL_law_696 (lv_at hl 1 rfl) ?_
          refine lv_if_ne (tgt := 713) hx hb dL_law_698 (by decide) (fun c157 => ?_) (fun c157 => ?_)
          · have hw := hw.2 c157
            refine lv_goto (tgt := 1065) hx hb dL_law_713 (by decide) ?_
            obtain ⟨v4_158, ev4_158⟩ : ∃ y : Int32, y = u4 + 4 := ⟨_, rfl⟩
            have hw := hw v4_158 ev4_158
            refine lv_iinc (v := v4_158) (lv' := [(4, .int v4_158), (6, .int r153), (5, .int r149), (0, .ref b), (1, .ref h), (2, .ref hm), (3, .ref o)]) hx hb dL_law_1065 hl (k := 6) rfl (by rw [ev4_158]; rfl) (by decide) rfl (fun ls hl => ?_)
            refine lv_goto (tgt := 23) hx hb dL_law_1068 (by decide) ?_
            refine W.widen (k := kc + 1) (n := ks + 6) (Nat.le_refl _) (Nat.le_refl _) ?_
            exact ih (S154, S148) v4_158 (kc + 1) (ks + 6) H locs ls hw (by omega) (by omega) hP hD hS (lv_sub hl [3, 4, 5, 6, 0] rfl)
          · have hw := hw.1 c157
            refine lv_aload_n hx hb dL_law_701 rfl (lv_at hl 5 rfl) ?_
            refine lv_iconst (v := 0) hx hb dL_law_702 (by decide) ?_
            obtain ⟨hi159, hw⟩ := hw
            refine va_lald (f := (gO (S154, S148))) hx hb hK hP 17 1 (GWc_17 cI cL cZ h a o hm am (S154, S148)) rfl hi159 dL_law_703 ?_
            refine lv_iload hx hb dL_law_704 (lv_at hl 0 rfl) ?_
            refine lv_i2l (v := r153.toInt64) hx hb dL_law_706 rfl ?_
            refine W.lcmp hx hb dL_law_707 ?_
            refine lv_if_eq (tgt := 713) hx hb dL_law_708 (by decide) (fun c160 => ?_) (fun c160 => ?_)
            · have c160 : (gO (S154, S148) (0 : Int32).toNatClampNeg) = r153.toInt64 := (lg_cmp_eq _ _).mp c160
              have hw := hw.1 c160
              refine lv_goto (tgt := 1065) hx hb dL_law_713 (by decide) ?_
              obtain ⟨v4_161, ev4_161⟩ : ∃ y : Int32, y = u4 + 4 := ⟨_, rfl⟩
              have hw := hw v4_161 ev4_161
              refine lv_iinc (v := v4_161) (lv' := [(4, .int v4_161), (6, .int r153), (5, .int r149), (0, .ref b), (1, .ref h), (2, .ref hm), (3, .ref o)]) hx hb dL_law_1065 hl (k := 6) rfl (by rw [ev4_161]; rfl) (by decide) rfl (fun ls hl => ?_)
              refine lv_goto (tgt := 23) hx hb dL_law_1068 (by decide) ?_
              refine W.widen (k := kc + 1) (n := ks + 6) (Nat.le_refl _) (Nat.le_refl _) ?_
              exact ih (S154, S148) v4_161 (kc + 1) (ks + 6) H locs ls hw (by omega) (by omega) hP hD hS (lv_sub hl [3, 4, 5, 6, 0] rfl)
            · have c160 : ¬ (gO (S154, S148) (0 : Int32).toNatClampNeg) = r153.toInt64 := fun h9 => c160 ((lg_cmp_eq _ _).mpr h9)
              have hw := hw.2 c160
              refine lv_iconst (v := 0) hx hb dL_law_711 (by decide) ?_
              exact hw.elim
        · have hw := hw.2 c156
          refine lv_iconst (v := 0) hx hb dL_law_694 (by decide) ?_
          exact hw.elim
      have hw := hw.2 c145
      by_cases c162 : k3 = 9
      · have hw := hw.1 c162
        refine lv_tableIn (off := 677) (tgt := 716) hx hb dL_law_39 (by rw [c162]; decide) (by rw [c162]; decide) (by rw [c162]; rfl) (by decide) ?_
        refine lv_aload_n hx hb dL_law_716 rfl (lv_at hl 1 rfl) ?_
        refine lv_aload_n hx hb dL_law_717 rfl (lv_at hl 0 rfl) ?_
        refine lv_iload hx hb dL_law_718 (lv_at hl 4 rfl) ?_
        refine lv_iconst (v := 1) hx hb dL_law_720 (by decide) ?_
        refine lv_iadd hx hb dL_law_721 ?_
        obtain ⟨hi163, hw⟩ := hw
        refine va_sld hx hb hX hbl hbA hS hi163 dL_law_722 ?_
        refine lv_aload_n hx hb dL_law_723 rfl (lv_at hl 0 rfl) ?_
        refine lv_iload hx hb dL_law_724 (lv_at hl 4 rfl) ?_
        refine lv_iconst (v := 2) hx hb dL_law_726 (by decide) ?_
        refine lv_iadd hx hb dL_law_727 ?_
        obtain ⟨hi164, hw⟩ := hw
        refine va_sld hx hb hX hbl hbA hS hi164 dL_law_728 ?_
        refine lv_aload_n hx hb dL_law_729 rfl (lv_at hl 0 rfl) ?_
        refine lv_iload hx hb dL_law_730 (lv_at hl 4 rfl) ?_
        refine lv_iconst (v := 3) hx hb dL_law_732 (by decide) ?_
        refine lv_iadd hx hb dL_law_733 ?_
        obtain ⟨hi165, hw⟩ := hw
        refine va_sld hx hb hX hbl hbA hS hi165 dL_law_734 ?_
        refine lv_aload_n hx hb dL_law_735 rfl (lv_at hl 3 rfl) ?_
        refine gk_i (wr := (MW cI cL cZ hm am S.1)) (wc := LWf cI cL cZ h a o S.2) (wfc := LWf cI cL cZ h a o) hP hD hS hA (vx_runSW (As := [.ref h, .int (xs (u4 + 1).toNatClampNeg), .int (xs (u4 + 2).toNatClampNeg), .int (xs (u4 + 3).toNatClampNeg), .ref o]) (rest := []) C (c_L_origin l hl9 D cI cL cZ h a o _ (xs (u4 + 1).toNatClampNeg) (xs (u4 + 2).toNatClampNeg) (xs (u4 + 3).toNatClampNeg) S.2 hw H.size) (vx_cwSW 5 hts (gGS (by decide +kernel) kL_origin) rfl rfl rfl (by decide +kernel) ⟨Nat.le_of_ble_eq_true rfl, Nat.le_of_ble_eq_true rfl⟩) (g_preS (wr := (MW cI cL cZ hm am S.1)) (wc := LWf cI cL cZ h a o S.2) hK hG hA hP hD hS) rfl rfl hl.1 rfl (lv_room (Nat.le_of_ble_eq_true rfl)) dL_law_736 ⟨show kc + 0 + 1 ≤ 1075 by omega, show ks + 0 + 6 ≤ 9395 by omega⟩) (fun r167 S166 H locs hw hP hD hS => ?_)
        have hP : va_P D vwCl (GWf cI cL cZ h a o hm am (S.1, S166)) H := hP
        have hD : va_D A (GWf cI cL cZ h a o hm am (S.1, S166)) := hD
        refine lv_istore (lv' := [(5, .int r167), (0, .ref b), (1, .ref h), (2, .ref hm), (3, .ref o), (4, .int u4)]) hx hb dL_law_739 hl (by decide) rfl (fun ls hl => ?_)
        refine lv_aload_n hx hb dL_law_741 rfl (lv_at hl 3 rfl) ?_
        refine lv_aload_n hx hb dL_law_742 rfl (lv_at hl 1 rfl) ?_
        refine lv_iload hx hb dL_law_743 (lv_at hl 5 rfl) ?_
        refine lv_iconst (v := 1) hx hb dL_law_745 (by decide) ?_
        refine lv_iadd hx hb dL_law_746 ?_
        obtain ⟨hi168, hw⟩ := hw
        refine va_sld hx hb hX hbl hbA hS hi168 dL_law_747 ?_
        refine lv_aload_n hx hb dL_law_748 rfl (lv_at hl 1 rfl) ?_
        refine lv_iload hx hb dL_law_749 (lv_at hl 5 rfl) ?_
        refine lv_iconst (v := 2) hx hb dL_law_751 (by decide) ?_
        refine lv_iadd hx hb dL_law_752 ?_
        obtain ⟨hi169, hw⟩ := hw
        refine va_sld hx hb hX hbl hbA hS hi169 dL_law_753 ?_
        refine lv_aload_n hx hb dL_law_754 rfl (lv_at hl 1 rfl) ?_
        refine lv_iload hx hb dL_law_755 (lv_at hl 5 rfl) ?_
        refine lv_iconst (v := 3) hx hb dL_law_757 (by decide) ?_
        refine lv_iadd hx hb dL_law_758 ?_
        obtain ⟨hi170, hw⟩ := hw
        refine va_sld hx hb hX hbl hbA hS hi170 dL_law_759 ?_
        have hP := g_swapP (w1 := (MW cI cL cZ hm am S.1)) (w2 := (LWf cI cL cZ h a o S166)) hP
        have hD := g_swapD (w1 := (MW cI cL cZ hm am S.1)) (w2 := (LWf cI cL cZ h a o S166)) hD
        refine gk_l (wr := (LWf cI cL cZ h a o S166)) (wc := MW cI cL cZ hm am S.1) (wfc := MW cI cL cZ hm am) hP hD hS hA (va_runV (As := [.int (xs (u4 + 1).toNatClampNeg), .int (xs (u4 + 2).toNatClampNeg), .int (xs (u4 + 3).toNatClampNeg)]) (rest := []) C (c_M_origin l hl9 D cI cL cZ hm am _ (xs (u4 + 1).toNatClampNeg) (xs (u4 + 2).toNatClampNeg) (xs (u4 + 3).toNatClampNeg) S.1 hw H.size) (cwV 3 hts (gGV (by decide +kernel) kM_origin) rfl rfl rfl (by decide +kernel) ⟨Nat.le_of_ble_eq_true rfl, Nat.le_of_ble_eq_true rfl⟩) (g_preV (wr := (LWf cI cL cZ h a o S166)) (wc := MW cI cL cZ hm am S.1) (ci := 2) hK hG hA hP hD hS rfl (MWc_0 cI cL cZ hm am S.1) rfl) rfl rfl hl.1 rfl (lv_room (Nat.le_of_ble_eq_true rfl)) dL_law_760 ⟨show kc + 1 + 0 ≤ 1075 by omega, show ks + 6 + 0 ≤ 9395 by omega⟩) (fun r172 S171 H locs hw hP hD hS => ?_)
        have hP := g_swapP (w1 := (LWf cI cL cZ h a o S166)) (w2 := (MW cI cL cZ hm am S171)) hP
        have hD := g_swapD (w1 := (LWf cI cL cZ h a o S166)) (w2 := (MW cI cL cZ hm am S171)) hD
        have hP : va_P D vwCl (GWf cI cL cZ h a o hm am (S171, S166)) H := hP
        have hD : va_D A (GWf cI cL cZ h a o hm am (S171, S166)) := hD
        refine lv_lstore (lv' := [(6, .long r172), (5, .int r167), (0, .ref b), (1, .ref h), (2, .ref hm), (3, .ref o), (4, .int u4)]) hx hb dL_law_763 hl (by decide) rfl (fun ls hl => ?_)
        refine lv_aload_n hx hb dL_law_765 rfl (lv_at hl 4 rfl) ?_
        have hP := g_swapP (w1 := (MW cI cL cZ hm am S171)) (w2 := (LWf cI cL cZ h a o S166)) hP
        have hD := g_swapD (w1 := (MW cI cL cZ hm am S171)) (w2 := (LWf cI cL cZ h a o S166)) hD
        refine gk_i (wr := (LWf cI cL cZ h a o S166)) (wc := MW cI cL cZ hm am S171) (wfc := MW cI cL cZ hm am) hP hD hS hA (va_runV (As := []) (rest := []) C (c_M_thrown l hl9 D cI cL cZ hm am _  S171 hw H.size) (cwV 0 hts (gGV (by decide +kernel) kM_thrown) rfl rfl rfl (by decide +kernel) ⟨Nat.le_of_ble_eq_true rfl, Nat.le_of_ble_eq_true rfl⟩) (g_preV (wr := (LWf cI cL cZ h a o S166)) (wc := MW cI cL cZ hm am S171) (ci := 2) hK hG hA hP hD hS rfl (MWc_0 cI cL cZ hm am S171) rfl) rfl rfl hl.1 rfl (lv_room (Nat.le_of_ble_eq_true rfl)) dL_law_766 ⟨show kc + 1 + 0 ≤ 1075 by omega, show ks + 6 + 0 ≤ 9395 by omega⟩) (fun r174 S173 H locs hw hP hD hS => ?_)
        have hP := g_swapP (w1 := (LWf cI cL cZ h a o S166)) (w2 := (MW cI cL cZ hm am S173)) hP
        have hD := g_swapD (w1 := (LWf cI cL cZ h a o S166)) (w2 := (MW cI cL cZ hm am S173)) hD
        have hP : va_P D vwCl (GWf cI cL cZ h a o hm am (S173, S166)) H := hP
        have hD : va_D A (GWf cI cL cZ h a o hm am (S173, S166)) := hD
        refine lv_iload hx hb dL_law_769 (lv_at hl 1 rfl) ?_
        refine lv_icmp_eq (tgt := 776) hx hb dL_law_771 (by decide) (fun c175 => ?_) (fun c175 => ?_)
        · have hw := hw.1 c175
          refine lv_iload hx hb dL_law_776 (lv_at hl 1 rfl) ?_
          refine lv_if_ne (tgt := 792) hx hb dL_law_778 (by decide) (fun c176 => ?_) (fun c176 => ?_)
          · have hw := hw.2 c176
            refine lv_goto (tgt := 1065) hx hb dL_law_792 (by decide) ?_
            obtain ⟨v4_177, ev4_177⟩ : ∃ y : Int32, y = u4 + 4 := ⟨_, rfl⟩
            have hw := hw v4_177 ev4_177
            refine lv_iinc (v := v4_177) (lv' := [(4, .int v4_177), (6, .long r172), (5, .int r167), (0, .ref b), (1, .ref h), (2, .ref hm), (3, .ref o)]) hx hb dL_law_1065 hl (k := 6) rfl (by rw [ev4_177]; rfl) (by decide) rfl (fun ls hl => ?_)
            refine lv_goto (tgt := 23) hx hb dL_law_1068 (by decide) ?_
            refine W.widen (k := kc + 1) (n := ks + 6) (Nat.le_refl _) (Nat.le_refl _) ?_
            exact ih (S173, S166) v4_177 (kc + 1) (ks + 6) H locs ls hw (by omega) (by omega) hP hD hS (lv_sub hl [3, 4, 5, 6, 0] rfl)
          · have hw := hw.1 c176
            refine lv_aload_n hx hb dL_law_781 rfl (lv_at hl 5 rfl) ?_
            refine lv_iconst (v := 0) hx hb dL_law_782 (by decide) ?_
            obtain ⟨hi178, hw⟩ := hw
            refine va_lald (f := (gO (S173, S166))) hx hb hK hP 17 1 (GWc_17 cI cL cZ h a o hm am (S173, S166)) rfl hi178 dL_law_783 ?_
            refine lv_lload hx hb dL_law_784 (lv_at hl 0 rfl) ?_
            refine W.lcmp hx hb dL_law_786 ?_
            refine lv_if_eq (tgt := 792) hx hb dL_law_787 (by decide) (fun c179 => ?_) (fun c179 => ?_)
            · have c179 : (gO (S173, S166) (0 : Int32).toNatClampNeg) = r172 := (lg_cmp_eq _ _).mp c179
              have hw := hw.1 c179
              refine lv_goto (tgt := 1065) hx hb dL_law_792 (by decide) ?_
              obtain ⟨v4_180, ev4_180⟩ : ∃ y : Int32, y = u4 + 4 := ⟨_, rfl⟩
              have hw := hw v4_180 ev4_180
              refine lv_iinc (v := v4_180) (lv' := [(4, .int v4_180), (6, .long r172), (5, .int r167), (0, .ref b), (1, .ref h), (2, .ref hm), (3, .ref o)]) hx hb dL_law_1065 hl (k := 6) rfl (by rw [ev4_180]; rfl) (by decide) rfl (fun ls hl => ?_)
              refine lv_goto (tgt := 23) hx hb dL_law_1068 (by decide) ?_
              refine W.widen (k := kc + 1) (n := ks + 6) (Nat.le_refl _) (Nat.le_refl _) ?_
              exact ih (S173, S166) v4_180 (kc + 1) (ks + 6) H locs ls hw (by omega) (by omega) hP hD hS (lv_sub hl [3, 4, 5, 6, 0] rfl)
            · have c179 : ¬ (gO (S173, S166) (0 : Int32).toNatClampNeg) = r172 := fun h9 => c179 ((lg_cmp_eq _ _).mpr h9)
              have hw := hw.2 c179
              refine lv_iconst (v := 0) hx hb dL_law_790 (by decide) ?_
              exact hw.elim
        · have hw := hw.2 c175
          refine lv_iconst (v := 0) hx hb dL_law_774 (by decide) ?_
          exact hw.elim
      have hw := hw.2 c162
      by_cases c181 : k3 = 10
      · have hw := hw.1 c181
        refine lv_tableIn (off := 756) (tgt := 795) hx hb dL_law_39 (by rw [c181]; decide) (by rw [c181]; decide) (by rw [c181]; rfl) (by decide) ?_
        refine lv_aload_n hx hb dL_law_795 rfl (lv_at hl 1 rfl) ?_
        refine lv_aload_n hx hb dL_law_796 rfl (lv_at hl 0 rfl) ?_
        refine lv_iload hx hb dL_law_797 (lv_at hl 4 rfl) ?_
        refine lv_iconst (v := 1) hx hb dL_law_799 (by decide) ?_
        refine lv_iadd hx hb dL_law_800 ?_
        obtain ⟨hi182, hw⟩ := hw
        refine va_sld hx hb hX hbl hbA hS hi182 dL_law_801 ?_
        refine lv_aload_n hx hb dL_law_802 rfl (lv_at hl 0 rfl) ?_
        refine lv_iload hx hb dL_law_803 (lv_at hl 4 rfl) ?_
        refine lv_iconst (v := 2) hx hb dL_law_805 (by decide) ?_
        refine lv_iadd hx hb dL_law_806 ?_
        obtain ⟨hi183, hw⟩ := hw
        refine va_sld hx hb hX hbl hbA hS hi183 dL_law_807 ?_
        refine lv_aload_n hx hb dL_law_808 rfl (lv_at hl 3 rfl) ?_
        refine gk_i (wr := (MW cI cL cZ hm am S.1)) (wc := LWf cI cL cZ h a o S.2) (wfc := LWf cI cL cZ h a o) hP hD hS hA (vx_runSW (As := [.ref h, .int (xs (u4 + 1).toNatClampNeg), .int (xs (u4 + 2).toNatClampNeg), .ref o]) (rest := []) C (c_L_defect l hl9 D cI cL cZ h a o _ (xs (u4 + 1).toNatClampNeg) (xs (u4 + 2).toNatClampNeg) S.2 hw H.size) (vx_cwSW 4 hts (gGS (by decide +kernel) kL_defect) rfl rfl rfl (by decide +kernel) ⟨Nat.le_of_ble_eq_true rfl, Nat.le_of_ble_eq_true rfl⟩) (g_preS (wr := (MW cI cL cZ hm am S.1)) (wc := LWf cI cL cZ h a o S.2) hK hG hA hP hD hS) rfl rfl hl.1 rfl (lv_room (Nat.le_of_ble_eq_true rfl)) dL_law_809 ⟨show kc + 0 + 1 ≤ 1075 by omega, show ks + 0 + 6 ≤ 9395 by omega⟩) (fun r185 S184 H locs hw hP hD hS => ?_)
        have hP : va_P D vwCl (GWf cI cL cZ h a o hm am (S.1, S184)) H := hP
        have hD : va_D A (GWf cI cL cZ h a o hm am (S.1, S184)) := hD
        refine lv_istore (lv' := [(5, .int r185), (0, .ref b), (1, .ref h), (2, .ref hm), (3, .ref o), (4, .int u4)]) hx hb dL_law_812 hl (by decide) rfl (fun ls hl => ?_)
        refine lv_aload_n hx hb dL_law_814 rfl (lv_at hl 3 rfl) ?_
        refine lv_aload_n hx hb dL_law_815 rfl (lv_at hl 1 rfl) ?_
        refine lv_iload hx hb dL_law_816 (lv_at hl 5 rfl) ?_
        refine lv_iconst (v := 1) hx hb dL_law_818 (by decide) ?_
        refine lv_iadd hx hb dL_law_819 ?_
        obtain ⟨hi186, hw⟩ := hw
        refine va_sld hx hb hX hbl hbA hS hi186 dL_law_820 ?_
        refine lv_aload_n hx hb dL_law_821 rfl (lv_at hl 1 rfl) ?_
        refine lv_iload hx hb dL_law_822 (lv_at hl 5 rfl) ?_
        refine lv_iconst (v := 2) hx hb dL_law_824 (by decide) ?_
        refine lv_iadd hx hb dL_law_825 ?_
        obtain ⟨hi187, hw⟩ := hw
        refine va_sld hx hb hX hbl hbA hS hi187 dL_law_826 ?_
        have hP := g_swapP (w1 := (MW cI cL cZ hm am S.1)) (w2 := (LWf cI cL cZ h a o S184)) hP
        have hD := g_swapD (w1 := (MW cI cL cZ hm am S.1)) (w2 := (LWf cI cL cZ h a o S184)) hD
        refine gk_i (wr := (LWf cI cL cZ h a o S184)) (wc := MW cI cL cZ hm am S.1) (wfc := MW cI cL cZ hm am) hP hD hS hA (va_runV (As := [.int (xs (u4 + 1).toNatClampNeg), .int (xs (u4 + 2).toNatClampNeg)]) (rest := []) C (c_M_defect l hl9 D cI cL cZ hm am _ (xs (u4 + 1).toNatClampNeg) (xs (u4 + 2).toNatClampNeg) S.1 hw H.size) (cwV 2 hts (gGV (by decide +kernel) kM_defect) rfl rfl rfl (by decide +kernel) ⟨Nat.le_of_ble_eq_true rfl, Nat.le_of_ble_eq_true rfl⟩) (g_preV (wr := (LWf cI cL cZ h a o S184)) (wc := MW cI cL cZ hm am S.1) (ci := 2) hK hG hA hP hD hS rfl (MWc_0 cI cL cZ hm am S.1) rfl) rfl rfl hl.1 rfl (lv_room (Nat.le_of_ble_eq_true rfl)) dL_law_827 ⟨show kc + 1 + 0 ≤ 1075 by omega, show ks + 6 + 0 ≤ 9395 by omega⟩) (fun r189 S188 H locs hw hP hD hS => ?_)
        have hP := g_swapP (w1 := (LWf cI cL cZ h a o S184)) (w2 := (MW cI cL cZ hm am S188)) hP
        have hD := g_swapD (w1 := (LWf cI cL cZ h a o S184)) (w2 := (MW cI cL cZ hm am S188)) hD
        have hP : va_P D vwCl (GWf cI cL cZ h a o hm am (S188, S184)) H := hP
        have hD : va_D A (GWf cI cL cZ h a o hm am (S188, S184)) := hD
        refine lv_istore (lv' := [(6, .int r189), (5, .int r185), (0, .ref b), (1, .ref h), (2, .ref hm), (3, .ref o), (4, .int u4)]) hx hb dL_law_830 hl (by decide) rfl (fun ls hl => ?_)
        refine lv_aload_n hx hb dL_law_832 rfl (lv_at hl 4 rfl) ?_
        have hP := g_swapP (w1 := (MW cI cL cZ hm am S188)) (w2 := (LWf cI cL cZ h a o S184)) hP
        have hD := g_swapD (w1 := (MW cI cL cZ hm am S188)) (w2 := (LWf cI cL cZ h a o S184)) hD
        refine gk_i (wr := (LWf cI cL cZ h a o S184)) (wc := MW cI cL cZ hm am S188) (wfc := MW cI cL cZ hm am) hP hD hS hA (va_runV (As := []) (rest := []) C (c_M_thrown l hl9 D cI cL cZ hm am _  S188 hw H.size) (cwV 0 hts (gGV (by decide +kernel) kM_thrown) rfl rfl rfl (by decide +kernel) ⟨Nat.le_of_ble_eq_true rfl, Nat.le_of_ble_eq_true rfl⟩) (g_preV (wr := (LWf cI cL cZ h a o S184)) (wc := MW cI cL cZ hm am S188) (ci := 2) hK hG hA hP hD hS rfl (MWc_0 cI cL cZ hm am S188) rfl) rfl rfl hl.1 rfl (lv_room (Nat.le_of_ble_eq_true rfl)) dL_law_833 ⟨show kc + 1 + 0 ≤ 1075 by omega, show ks + 6 + 0 ≤ 9395 by omega⟩) (fun r191 S190 H locs hw hP hD hS => ?_)
        have hP := g_swapP (w1 := (LWf cI cL cZ h a o S184)) (w2 := (MW cI cL cZ hm am S190)) hP
        have hD := g_swapD (w1 := (LWf cI cL cZ h a o S184)) (w2 := (MW cI cL cZ hm am S190)) hD
        have hP : va_P D vwCl (GWf cI cL cZ h a o hm am (S190, S184)) H := hP
        have hD : va_D A (GWf cI cL cZ h a o hm am (S190, S184)) := hD
        refine lv_iload hx hb dL_law_836 (lv_at hl 1 rfl) ?_
        refine lv_icmp_eq (tgt := 843) hx hb dL_law_838 (by decide) (fun c192 => ?_) (fun c192 => ?_)
        · have hw := hw.1 c192
          refine lv_iload hx hb dL_law_843 (lv_at hl 1 rfl) ?_
          refine lv_if_ne (tgt := 860) hx hb dL_law_845 (by decide) (fun c193 => ?_) (fun c193 => ?_)
          · have hw := hw.2 c193
            refine lv_goto (tgt := 1065) hx hb dL_law_860 (by decide) ?_
            obtain ⟨v4_194, ev4_194⟩ : ∃ y : Int32, y = u4 + 4 := ⟨_, rfl⟩
            have hw := hw v4_194 ev4_194
            refine lv_iinc (v := v4_194) (lv' := [(4, .int v4_194), (6, .int r189), (5, .int r185), (0, .ref b), (1, .ref h), (2, .ref hm), (3, .ref o)]) hx hb dL_law_1065 hl (k := 6) rfl (by rw [ev4_194]; rfl) (by decide) rfl (fun ls hl => ?_)
            refine lv_goto (tgt := 23) hx hb dL_law_1068 (by decide) ?_
            refine W.widen (k := kc + 1) (n := ks + 6) (Nat.le_refl _) (Nat.le_refl _) ?_
            exact ih (S190, S184) v4_194 (kc + 1) (ks + 6) H locs ls hw (by omega) (by omega) hP hD hS (lv_sub hl [3, 4, 5, 6, 0] rfl)
          · have hw := hw.1 c193
            refine lv_aload_n hx hb dL_law_848 rfl (lv_at hl 5 rfl) ?_
            refine lv_iconst (v := 0) hx hb dL_law_849 (by decide) ?_
            obtain ⟨hi195, hw⟩ := hw
            refine va_lald (f := (gO (S190, S184))) hx hb hK hP 17 1 (GWc_17 cI cL cZ h a o hm am (S190, S184)) rfl hi195 dL_law_850 ?_
            refine lv_iload hx hb dL_law_851 (lv_at hl 0 rfl) ?_
            refine lv_i2l (v := r189.toInt64) hx hb dL_law_853 rfl ?_
            refine W.lcmp hx hb dL_law_854 ?_
            refine lv_if_eq (tgt := 860) hx hb dL_law_855 (by decide) (fun c196 => ?_) (fun c196 => ?_)
            · have c196 : (gO (S190, S184) (0 : Int32).toNatClampNeg) = r189.toInt64 := (lg_cmp_eq _ _).mp c196
              have hw := hw.1 c196
              refine lv_goto (tgt := 1065) hx hb dL_law_860 (by decide) ?_
              obtain ⟨v4_197, ev4_197⟩ : ∃ y : Int32, y = u4 + 4 := ⟨_, rfl⟩
              have hw := hw v4_197 ev4_197
              refine lv_iinc (v := v4_197) (lv' := [(4, .int v4_197), (6, .int r189), (5, .int r185), (0, .ref b), (1, .ref h), (2, .ref hm), (3, .ref o)]) hx hb dL_law_1065 hl (k := 6) rfl (by rw [ev4_197]; rfl) (by decide) rfl (fun ls hl => ?_)
              refine lv_goto (tgt := 23) hx hb dL_law_1068 (by decide) ?_
              refine W.widen (k := kc + 1) (n := ks + 6) (Nat.le_refl _) (Nat.le_refl _) ?_
              exact ih (S190, S184) v4_197 (kc + 1) (ks + 6) H locs ls hw (by omega) (by omega) hP hD hS (lv_sub hl [3, 4, 5, 6, 0] rfl)
            · have c196 : ¬ (gO (S190, S184) (0 : Int32).toNatClampNeg) = r189.toInt64 := fun h9 => c196 ((lg_cmp_eq _ _).mpr h9)
              have hw := hw.2 c196
              refine lv_iconst (v := 0) hx hb dL_law_858 (by decide) ?_
              exact hw.elim
        · have hw := hw.2 c192
          refine lv_iconst (v := 0) hx hb dL_law_841 (by decide) ?_
          exact hw.elim
      have hw := hw.2 c181
      by_cases c198 : k3 = 11
      · have hw := hw.1 c198
        refine lv_tableIn (off := 824) (tgt := 863) hx hb dL_law_39 (by rw [c198]; decide) (by rw [c198]; decide) (by rw [c198]; rfl) (by decide) ?_
        refine lv_aload_n hx hb dL_law_863 rfl (lv_at hl 1 rfl) ?_
        refine lv_aload_n hx hb dL_law_864 rfl (lv_at hl 0 rfl) ?_
        refine lv_iload hx hb dL_law_865 (lv_at hl 4 rfl) ?_
        refine lv_iconst (v := 1) hx hb dL_law_867 (by decide) ?_
        refine lv_iadd hx hb dL_law_868 ?_
        obtain ⟨hi199, hw⟩ := hw
        refine va_sld hx hb hX hbl hbA hS hi199 dL_law_869 ?_
        refine lv_aload_n hx hb dL_law_870 rfl (lv_at hl 0 rfl) ?_
        refine lv_iload hx hb dL_law_871 (lv_at hl 4 rfl) ?_
        refine lv_iconst (v := 2) hx hb dL_law_873 (by decide) ?_
        refine lv_iadd hx hb dL_law_874 ?_
        obtain ⟨hi200, hw⟩ := hw
        refine va_sld hx hb hX hbl hbA hS hi200 dL_law_875 ?_
        refine lv_aload_n hx hb dL_law_876 rfl (lv_at hl 0 rfl) ?_
        refine lv_iload hx hb dL_law_877 (lv_at hl 4 rfl) ?_
        refine lv_iconst (v := 3) hx hb dL_law_879 (by decide) ?_
        refine lv_iadd hx hb dL_law_880 ?_
        obtain ⟨hi201, hw⟩ := hw
        refine va_sld hx hb hX hbl hbA hS hi201 dL_law_881 ?_
        refine lv_aload_n hx hb dL_law_882 rfl (lv_at hl 3 rfl) ?_
        refine gk_i (wr := (MW cI cL cZ hm am S.1)) (wc := LWf cI cL cZ h a o S.2) (wfc := LWf cI cL cZ h a o) hP hD hS hA (vx_runSW (As := [.ref h, .int (xs (u4 + 1).toNatClampNeg), .int (xs (u4 + 2).toNatClampNeg), .int (xs (u4 + 3).toNatClampNeg), .ref o]) (rest := []) C (c_L_has l hl9 D cI cL cZ h a o _ (xs (u4 + 1).toNatClampNeg) (xs (u4 + 2).toNatClampNeg) (xs (u4 + 3).toNatClampNeg) S.2 hw H.size) (vx_cwSW 5 hts (gGS (by decide +kernel) kL_has) rfl rfl rfl (by decide +kernel) ⟨Nat.le_of_ble_eq_true rfl, Nat.le_of_ble_eq_true rfl⟩) (g_preS (wr := (MW cI cL cZ hm am S.1)) (wc := LWf cI cL cZ h a o S.2) hK hG hA hP hD hS) rfl rfl hl.1 rfl (lv_room (Nat.le_of_ble_eq_true rfl)) dL_law_883 ⟨show kc + 0 + 1 ≤ 1075 by omega, show ks + 0 + 6 ≤ 9395 by omega⟩) (fun r203 S202 H locs hw hP hD hS => ?_)
        have hP : va_P D vwCl (GWf cI cL cZ h a o hm am (S.1, S202)) H := hP
        have hD : va_D A (GWf cI cL cZ h a o hm am (S.1, S202)) := hD
        refine lv_istore (lv' := [(5, .int r203), (0, .ref b), (1, .ref h), (2, .ref hm), (3, .ref o), (4, .int u4)]) hx hb dL_law_886 hl (by decide) rfl (fun ls hl => ?_)
        refine lv_aload_n hx hb dL_law_888 rfl (lv_at hl 3 rfl) ?_
        refine lv_aload_n hx hb dL_law_889 rfl (lv_at hl 1 rfl) ?_
        refine lv_iload hx hb dL_law_890 (lv_at hl 5 rfl) ?_
        refine lv_iconst (v := 1) hx hb dL_law_892 (by decide) ?_
        refine lv_iadd hx hb dL_law_893 ?_
        obtain ⟨hi204, hw⟩ := hw
        refine va_sld hx hb hX hbl hbA hS hi204 dL_law_894 ?_
        refine lv_aload_n hx hb dL_law_895 rfl (lv_at hl 1 rfl) ?_
        refine lv_iload hx hb dL_law_896 (lv_at hl 5 rfl) ?_
        refine lv_iconst (v := 2) hx hb dL_law_898 (by decide) ?_
        refine lv_iadd hx hb dL_law_899 ?_
        obtain ⟨hi205, hw⟩ := hw
        refine va_sld hx hb hX hbl hbA hS hi205 dL_law_900 ?_
        refine lv_aload_n hx hb dL_law_901 rfl (lv_at hl 1 rfl) ?_
        refine lv_iload hx hb dL_law_902 (lv_at hl 5 rfl) ?_
        refine lv_iconst (v := 3) hx hb dL_law_904 (by decide) ?_
        refine lv_iadd hx hb dL_law_905 ?_
        obtain ⟨hi206, hw⟩ := hw
        refine va_sld hx hb hX hbl hbA hS hi206 dL_law_906 ?_
        have hP := g_swapP (w1 := (MW cI cL cZ hm am S.1)) (w2 := (LWf cI cL cZ h a o S202)) hP
        have hD := g_swapD (w1 := (MW cI cL cZ hm am S.1)) (w2 := (LWf cI cL cZ h a o S202)) hD
        refine gk_l (wr := (LWf cI cL cZ h a o S202)) (wc := MW cI cL cZ hm am S.1) (wfc := MW cI cL cZ hm am) hP hD hS hA (va_runV (As := [.int (xs (u4 + 1).toNatClampNeg), .int (xs (u4 + 2).toNatClampNeg), .int (xs (u4 + 3).toNatClampNeg)]) (rest := []) C (c_M_has l hl9 D cI cL cZ hm am _ (xs (u4 + 1).toNatClampNeg) (xs (u4 + 2).toNatClampNeg) (xs (u4 + 3).toNatClampNeg) S.1 hw H.size) (cwV 3 hts (gGV (by decide +kernel) kM_has) rfl rfl rfl (by decide +kernel) ⟨Nat.le_of_ble_eq_true rfl, Nat.le_of_ble_eq_true rfl⟩) (g_preV (wr := (LWf cI cL cZ h a o S202)) (wc := MW cI cL cZ hm am S.1) (ci := 2) hK hG hA hP hD hS rfl (MWc_0 cI cL cZ hm am S.1) rfl) rfl rfl hl.1 rfl (lv_room (Nat.le_of_ble_eq_true rfl)) dL_law_907 ⟨show kc + 1 + 0 ≤ 1075 by omega, show ks + 6 + 0 ≤ 9395 by omega⟩) (fun r208 S207 H locs hw hP hD hS => ?_)
        have hP := g_swapP (w1 := (LWf cI cL cZ h a o S202)) (w2 := (MW cI cL cZ hm am S207)) hP
        have hD := g_swapD (w1 := (LWf cI cL cZ h a o S202)) (w2 := (MW cI cL cZ hm am S207)) hD
        have hP : va_P D vwCl (GWf cI cL cZ h a o hm am (S207, S202)) H := hP
        have hD : va_D A (GWf cI cL cZ h a o hm am (S207, S202)) := hD
        refine lv_lstore (lv' := [(6, .long r208), (5, .int r203), (0, .ref b), (1, .ref h), (2, .ref hm), (3, .ref o), (4, .int u4)]) hx hb dL_law_910 hl (by decide) rfl (fun ls hl => ?_)
        refine lv_aload_n hx hb dL_law_912 rfl (lv_at hl 4 rfl) ?_
        have hP := g_swapP (w1 := (MW cI cL cZ hm am S207)) (w2 := (LWf cI cL cZ h a o S202)) hP
        have hD := g_swapD (w1 := (MW cI cL cZ hm am S207)) (w2 := (LWf cI cL cZ h a o S202)) hD
        refine gk_i (wr := (LWf cI cL cZ h a o S202)) (wc := MW cI cL cZ hm am S207) (wfc := MW cI cL cZ hm am) hP hD hS hA (va_runV (As := []) (rest := []) C (c_M_thrown l hl9 D cI cL cZ hm am _  S207 hw H.size) (cwV 0 hts (gGV (by decide +kernel) kM_thrown) rfl rfl rfl (by decide +kernel) ⟨Nat.le_of_ble_eq_true rfl, Nat.le_of_ble_eq_true rfl⟩) (g_preV (wr := (LWf cI cL cZ h a o S202)) (wc := MW cI cL cZ hm am S207) (ci := 2) hK hG hA hP hD hS rfl (MWc_0 cI cL cZ hm am S207) rfl) rfl rfl hl.1 rfl (lv_room (Nat.le_of_ble_eq_true rfl)) dL_law_913 ⟨show kc + 1 + 0 ≤ 1075 by omega, show ks + 6 + 0 ≤ 9395 by omega⟩) (fun r210 S209 H locs hw hP hD hS => ?_)
        have hP := g_swapP (w1 := (LWf cI cL cZ h a o S202)) (w2 := (MW cI cL cZ hm am S209)) hP
        have hD := g_swapD (w1 := (LWf cI cL cZ h a o S202)) (w2 := (MW cI cL cZ hm am S209)) hD
        have hP : va_P D vwCl (GWf cI cL cZ h a o hm am (S209, S202)) H := hP
        have hD : va_D A (GWf cI cL cZ h a o hm am (S209, S202)) := hD
        refine lv_iload hx hb dL_law_916 (lv_at hl 1 rfl) ?_
        refine lv_icmp_eq (tgt := 923) hx hb dL_law_918 (by decide) (fun c211 => ?_) (fun c211 => ?_)
        · have hw := hw.1 c211
          refine lv_iload hx hb dL_law_923 (lv_at hl 1 rfl) ?_
          refine lv_if_ne (tgt := 939) hx hb dL_law_925 (by decide) (fun c212 => ?_) (fun c212 => ?_)
          · have hw := hw.2 c212
            refine lv_goto (tgt := 1065) hx hb dL_law_939 (by decide) ?_
            obtain ⟨v4_213, ev4_213⟩ : ∃ y : Int32, y = u4 + 4 := ⟨_, rfl⟩
            have hw := hw v4_213 ev4_213
            refine lv_iinc (v := v4_213) (lv' := [(4, .int v4_213), (6, .long r208), (5, .int r203), (0, .ref b), (1, .ref h), (2, .ref hm), (3, .ref o)]) hx hb dL_law_1065 hl (k := 6) rfl (by rw [ev4_213]; rfl) (by decide) rfl (fun ls hl => ?_)
            refine lv_goto (tgt := 23) hx hb dL_law_1068 (by decide) ?_
            refine W.widen (k := kc + 1) (n := ks + 6) (Nat.le_refl _) (Nat.le_refl _) ?_
            exact ih (S209, S202) v4_213 (kc + 1) (ks + 6) H locs ls hw (by omega) (by omega) hP hD hS (lv_sub hl [3, 4, 5, 6, 0] rfl)
          · have hw := hw.1 c212
            refine lv_aload_n hx hb dL_law_928 rfl (lv_at hl 5 rfl) ?_
            refine lv_iconst (v := 0) hx hb dL_law_929 (by decide) ?_
            obtain ⟨hi214, hw⟩ := hw
            refine va_lald (f := (gO (S209, S202))) hx hb hK hP 17 1 (GWc_17 cI cL cZ h a o hm am (S209, S202)) rfl hi214 dL_law_930 ?_
            refine lv_lload hx hb dL_law_931 (lv_at hl 0 rfl) ?_
            refine W.lcmp hx hb dL_law_933 ?_
            refine lv_if_eq (tgt := 939) hx hb dL_law_934 (by decide) (fun c215 => ?_) (fun c215 => ?_)
            · have c215 : (gO (S209, S202) (0 : Int32).toNatClampNeg) = r208 := (lg_cmp_eq _ _).mp c215
              have hw := hw.1 c215
              refine lv_goto (tgt := 1065) hx hb dL_law_939 (by decide) ?_
              obtain ⟨v4_216, ev4_216⟩ : ∃ y : Int32, y = u4 + 4 := ⟨_, rfl⟩
              have hw := hw v4_216 ev4_216
              refine lv_iinc (v := v4_216) (lv' := [(4, .int v4_216), (6, .long r208), (5, .int r203), (0, .ref b), (1, .ref h), (2, .ref hm), (3, .ref o)]) hx hb dL_law_1065 hl (k := 6) rfl (by rw [ev4_216]; rfl) (by decide) rfl (fun ls hl => ?_)
              refine lv_goto (tgt := 23) hx hb dL_law_1068 (by decide) ?_
              refine W.widen (k := kc + 1) (n := ks + 6) (Nat.le_refl _) (Nat.le_refl _) ?_
              exact ih (S209, S202) v4_216 (kc + 1) (ks + 6) H locs ls hw (by omega) (by omega) hP hD hS (lv_sub hl [3, 4, 5, 6, 0] rfl)
            · have c215 : ¬ (gO (S209, S202) (0 : Int32).toNatClampNeg) = r208 := fun h9 => c215 ((lg_cmp_eq _ _).mpr h9)
              have hw := hw.2 c215
              refine lv_iconst (v := 0) hx hb dL_law_937 (by decide) ?_
              exact hw.elim
        · have hw := hw.2 c211
          refine lv_iconst (v := 0) hx hb dL_law_921 (by decide) ?_
          exact hw.elim
      have hw := hw.2 c198
      by_cases c217 : k3 = 12
      · have hw := hw.1 c217
        refine lv_tableIn (off := 903) (tgt := 942) hx hb dL_law_39 (by rw [c217]; decide) (by rw [c217]; decide) (by rw [c217]; rfl) (by decide) ?_
        refine lv_aload_n hx hb dL_law_942 rfl (lv_at hl 1 rfl) ?_
        refine lv_aload_n hx hb dL_law_943 rfl (lv_at hl 0 rfl) ?_
        refine lv_iload hx hb dL_law_944 (lv_at hl 4 rfl) ?_
        refine lv_iconst (v := 1) hx hb dL_law_946 (by decide) ?_
        refine lv_iadd hx hb dL_law_947 ?_
        obtain ⟨hi218, hw⟩ := hw
        refine va_sld hx hb hX hbl hbA hS hi218 dL_law_948 ?_
        refine lv_aload_n hx hb dL_law_949 rfl (lv_at hl 0 rfl) ?_
        refine lv_iload hx hb dL_law_950 (lv_at hl 4 rfl) ?_
        refine lv_iconst (v := 2) hx hb dL_law_952 (by decide) ?_
        refine lv_iadd hx hb dL_law_953 ?_
        obtain ⟨hi219, hw⟩ := hw
        refine va_sld hx hb hX hbl hbA hS hi219 dL_law_954 ?_
        refine lv_aload_n hx hb dL_law_955 rfl (lv_at hl 3 rfl) ?_
        refine gk_i (wr := (MW cI cL cZ hm am S.1)) (wc := LWf cI cL cZ h a o S.2) (wfc := LWf cI cL cZ h a o) hP hD hS hA (vx_runSW (As := [.ref h, .int (xs (u4 + 1).toNatClampNeg), .int (xs (u4 + 2).toNatClampNeg), .ref o]) (rest := []) C (c_L_recall l hl9 D cI cL cZ h a o _ (xs (u4 + 1).toNatClampNeg) (xs (u4 + 2).toNatClampNeg) S.2 hw H.size) (vx_cwSW 4 hts (gGS (by decide +kernel) kL_recall) rfl rfl rfl (by decide +kernel) ⟨Nat.le_of_ble_eq_true rfl, Nat.le_of_ble_eq_true rfl⟩) (g_preS (wr := (MW cI cL cZ hm am S.1)) (wc := LWf cI cL cZ h a o S.2) hK hG hA hP hD hS) rfl rfl hl.1 rfl (lv_room (Nat.le_of_ble_eq_true rfl)) dL_law_956 ⟨show kc + 0 + 1 ≤ 1075 by omega, show ks + 0 + 6 ≤ 9395 by omega⟩) (fun r221 S220 H locs hw hP hD hS => ?_)
        have hP : va_P D vwCl (GWf cI cL cZ h a o hm am (S.1, S220)) H := hP
        have hD : va_D A (GWf cI cL cZ h a o hm am (S.1, S220)) := hD
        refine lv_istore (lv' := [(5, .int r221), (0, .ref b), (1, .ref h), (2, .ref hm), (3, .ref o), (4, .int u4)]) hx hb dL_law_959 hl (by decide) rfl (fun ls hl => ?_)
        refine lv_aload_n hx hb dL_law_961 rfl (lv_at hl 3 rfl) ?_
        refine lv_aload_n hx hb dL_law_962 rfl (lv_at hl 1 rfl) ?_
        refine lv_iload hx hb dL_law_963 (lv_at hl 5 rfl) ?_
        refine lv_iconst (v := 1) hx hb dL_law_965 (by decide) ?_
        refine lv_iadd hx hb dL_law_966 ?_
        obtain ⟨hi222, hw⟩ := hw
        refine va_sld hx hb hX hbl hbA hS hi222 dL_law_967 ?_
        refine lv_aload_n hx hb dL_law_968 rfl (lv_at hl 1 rfl) ?_
        refine lv_iload hx hb dL_law_969 (lv_at hl 5 rfl) ?_
        refine lv_iconst (v := 2) hx hb dL_law_971 (by decide) ?_
        refine lv_iadd hx hb dL_law_972 ?_
        obtain ⟨hi223, hw⟩ := hw
        refine va_sld hx hb hX hbl hbA hS hi223 dL_law_973 ?_
        have hP := g_swapP (w1 := (MW cI cL cZ hm am S.1)) (w2 := (LWf cI cL cZ h a o S220)) hP
        have hD := g_swapD (w1 := (MW cI cL cZ hm am S.1)) (w2 := (LWf cI cL cZ h a o S220)) hD
        refine gk_i (wr := (LWf cI cL cZ h a o S220)) (wc := MW cI cL cZ hm am S.1) (wfc := MW cI cL cZ hm am) hP hD hS hA (va_runV (As := [.int (xs (u4 + 1).toNatClampNeg), .int (xs (u4 + 2).toNatClampNeg)]) (rest := []) C (c_M_recall l hl9 D cI cL cZ hm am _ (xs (u4 + 1).toNatClampNeg) (xs (u4 + 2).toNatClampNeg) S.1 hw H.size) (cwV 2 hts (gGV (by decide +kernel) kM_recall) rfl rfl rfl (by decide +kernel) ⟨Nat.le_of_ble_eq_true rfl, Nat.le_of_ble_eq_true rfl⟩) (g_preV (wr := (LWf cI cL cZ h a o S220)) (wc := MW cI cL cZ hm am S.1) (ci := 2) hK hG hA hP hD hS rfl (MWc_0 cI cL cZ hm am S.1) rfl) rfl rfl hl.1 rfl (lv_room (Nat.le_of_ble_eq_true rfl)) dL_law_974 ⟨show kc + 1 + 0 ≤ 1075 by omega, show ks + 6 + 0 ≤ 9395 by omega⟩) (fun r225 S224 H locs hw hP hD hS => ?_)
        have hP := g_swapP (w1 := (LWf cI cL cZ h a o S220)) (w2 := (MW cI cL cZ hm am S224)) hP
        have hD := g_swapD (w1 := (LWf cI cL cZ h a o S220)) (w2 := (MW cI cL cZ hm am S224)) hD
        have hP : va_P D vwCl (GWf cI cL cZ h a o hm am (S224, S220)) H := hP
        have hD : va_D A (GWf cI cL cZ h a o hm am (S224, S220)) := hD
        refine lv_istore (lv' := [(6, .int r225), (5, .int r221), (0, .ref b), (1, .ref h), (2, .ref hm), (3, .ref o), (4, .int u4)]) hx hb dL_law_977 hl (by decide) rfl (fun ls hl => ?_)
        refine lv_aload_n hx hb dL_law_979 rfl (lv_at hl 4 rfl) ?_
        have hP := g_swapP (w1 := (MW cI cL cZ hm am S224)) (w2 := (LWf cI cL cZ h a o S220)) hP
        have hD := g_swapD (w1 := (MW cI cL cZ hm am S224)) (w2 := (LWf cI cL cZ h a o S220)) hD
        refine gk_i (wr := (LWf cI cL cZ h a o S220)) (wc := MW cI cL cZ hm am S224) (wfc := MW cI cL cZ hm am) hP hD hS hA (va_runV (As := []) (rest := []) C (c_M_thrown l hl9 D cI cL cZ hm am _  S224 hw H.size) (cwV 0 hts (gGV (by decide +kernel) kM_thrown) rfl rfl rfl (by decide +kernel) ⟨Nat.le_of_ble_eq_true rfl, Nat.le_of_ble_eq_true rfl⟩) (g_preV (wr := (LWf cI cL cZ h a o S220)) (wc := MW cI cL cZ hm am S224) (ci := 2) hK hG hA hP hD hS rfl (MWc_0 cI cL cZ hm am S224) rfl) rfl rfl hl.1 rfl (lv_room (Nat.le_of_ble_eq_true rfl)) dL_law_980 ⟨show kc + 1 + 0 ≤ 1075 by omega, show ks + 6 + 0 ≤ 9395 by omega⟩) (fun r227 S226 H locs hw hP hD hS => ?_)
        have hP := g_swapP (w1 := (LWf cI cL cZ h a o S220)) (w2 := (MW cI cL cZ hm am S226)) hP
        have hD := g_swapD (w1 := (LWf cI cL cZ h a o S220)) (w2 := (MW cI cL cZ hm am S226)) hD
        have hP : va_P D vwCl (GWf cI cL cZ h a o hm am (S226, S220)) H := hP
        have hD : va_D A (GWf cI cL cZ h a o hm am (S226, S220)) := hD
        refine lv_iload hx hb dL_law_983 (lv_at hl 1 rfl) ?_
        refine lv_icmp_eq (tgt := 990) hx hb dL_law_985 (by decide) (fun c228 => ?_) (fun c228 => ?_)
        · have hw := hw.1 c228
          refine lv_iload hx hb dL_law_990 (lv_at hl 1 rfl) ?_
          refine lv_if_ne (tgt := 1007) hx hb dL_law_992 (by decide) (fun c229 => ?_) (fun c229 => ?_)
          · have hw := hw.2 c229
            refine lv_goto (tgt := 1065) hx hb dL_law_1007 (by decide) ?_
            obtain ⟨v4_230, ev4_230⟩ : ∃ y : Int32, y = u4 + 4 := ⟨_, rfl⟩
            have hw := hw v4_230 ev4_230
            refine lv_iinc (v := v4_230) (lv' := [(4, .int v4_230), (6, .int r225), (5, .int r221), (0, .ref b), (1, .ref h), (2, .ref hm), (3, .ref o)]) hx hb dL_law_1065 hl (k := 6) rfl (by rw [ev4_230]; rfl) (by decide) rfl (fun ls hl => ?_)
            refine lv_goto (tgt := 23) hx hb dL_law_1068 (by decide) ?_
            refine W.widen (k := kc + 1) (n := ks + 6) (Nat.le_refl _) (Nat.le_refl _) ?_
            exact ih (S226, S220) v4_230 (kc + 1) (ks + 6) H locs ls hw (by omega) (by omega) hP hD hS (lv_sub hl [3, 4, 5, 6, 0] rfl)
          · have hw := hw.1 c229
            refine lv_aload_n hx hb dL_law_995 rfl (lv_at hl 5 rfl) ?_
            refine lv_iconst (v := 0) hx hb dL_law_996 (by decide) ?_
            obtain ⟨hi231, hw⟩ := hw
            refine va_lald (f := (gO (S226, S220))) hx hb hK hP 17 1 (GWc_17 cI cL cZ h a o hm am (S226, S220)) rfl hi231 dL_law_997 ?_
            refine lv_iload hx hb dL_law_998 (lv_at hl 0 rfl) ?_
            refine lv_i2l (v := r225.toInt64) hx hb dL_law_1000 rfl ?_
            refine W.lcmp hx hb dL_law_1001 ?_
            refine lv_if_eq (tgt := 1007) hx hb dL_law_1002 (by decide) (fun c232 => ?_) (fun c232 => ?_)
            · have c232 : (gO (S226, S220) (0 : Int32).toNatClampNeg) = r225.toInt64 := (lg_cmp_eq _ _).mp c232
              have hw := hw.1 c232
              refine lv_goto (tgt := 1065) hx hb dL_law_1007 (by decide) ?_
              obtain ⟨v4_233, ev4_233⟩ : ∃ y : Int32, y = u4 + 4 := ⟨_, rfl⟩
              have hw := hw v4_233 ev4_233
              refine lv_iinc (v := v4_233) (lv' := [(4, .int v4_233), (6, .int r225), (5, .int r221), (0, .ref b), (1, .ref h), (2, .ref hm), (3, .ref o)]) hx hb dL_law_1065 hl (k := 6) rfl (by rw [ev4_233]; rfl) (by decide) rfl (fun ls hl => ?_)
              refine lv_goto (tgt := 23) hx hb dL_law_1068 (by decide) ?_
              refine W.widen (k := kc + 1) (n := ks + 6) (Nat.le_refl _) (Nat.le_refl _) ?_
              exact ih (S226, S220) v4_233 (kc + 1) (ks + 6) H locs ls hw (by omega) (by omega) hP hD hS (lv_sub hl [3, 4, 5, 6, 0] rfl)
            · have c232 : ¬ (gO (S226, S220) (0 : Int32).toNatClampNeg) = r225.toInt64 := fun h9 => c232 ((lg_cmp_eq _ _).mpr h9)
              have hw := hw.2 c232
              refine lv_iconst (v := 0) hx hb dL_law_1005 (by decide) ?_
              exact hw.elim
        · have hw := hw.2 c228
          refine lv_iconst (v := 0) hx hb dL_law_988 (by decide) ?_
          exact hw.elim
      have hw := hw.2 c217
      by_cases c234 : k3 = 13
      · have hw := hw.1 c234
        refine lv_tableIn (off := 971) (tgt := 1010) hx hb dL_law_39 (by rw [c234]; decide) (by rw [c234]; decide) (by rw [c234]; rfl) (by decide) ?_
        refine lv_aload_n hx hb dL_law_1010 rfl (lv_at hl 1 rfl) ?_
        refine lv_aload_n hx hb dL_law_1011 rfl (lv_at hl 0 rfl) ?_
        refine lv_iload hx hb dL_law_1012 (lv_at hl 4 rfl) ?_
        refine lv_iconst (v := 1) hx hb dL_law_1014 (by decide) ?_
        refine lv_iadd hx hb dL_law_1015 ?_
        obtain ⟨hi235, hw⟩ := hw
        refine va_sld hx hb hX hbl hbA hS hi235 dL_law_1016 ?_
        refine lv_aload_n hx hb dL_law_1017 rfl (lv_at hl 3 rfl) ?_
        refine gk_i (wr := (MW cI cL cZ hm am S.1)) (wc := LWf cI cL cZ h a o S.2) (wfc := LWf cI cL cZ h a o) hP hD hS hA (vx_runSW (As := [.ref h, .int (xs (u4 + 1).toNatClampNeg), .ref o]) (rest := []) C (c_L_told l hl9 D cI cL cZ h a o _ (xs (u4 + 1).toNatClampNeg) S.2 hw H.size) (vx_cwSW 3 hts (gGS (by decide +kernel) kL_told) rfl rfl rfl (by decide +kernel) ⟨Nat.le_of_ble_eq_true rfl, Nat.le_of_ble_eq_true rfl⟩) (g_preS (wr := (MW cI cL cZ hm am S.1)) (wc := LWf cI cL cZ h a o S.2) hK hG hA hP hD hS) rfl rfl hl.1 rfl (lv_room (Nat.le_of_ble_eq_true rfl)) dL_law_1018 ⟨show kc + 0 + 1 ≤ 1075 by omega, show ks + 0 + 6 ≤ 9395 by omega⟩) (fun r237 S236 H locs hw hP hD hS => ?_)
        have hP : va_P D vwCl (GWf cI cL cZ h a o hm am (S.1, S236)) H := hP
        have hD : va_D A (GWf cI cL cZ h a o hm am (S.1, S236)) := hD
        refine lv_istore (lv' := [(5, .int r237), (0, .ref b), (1, .ref h), (2, .ref hm), (3, .ref o), (4, .int u4)]) hx hb dL_law_1021 hl (by decide) rfl (fun ls hl => ?_)
        refine lv_aload_n hx hb dL_law_1023 rfl (lv_at hl 3 rfl) ?_
        refine lv_aload_n hx hb dL_law_1024 rfl (lv_at hl 1 rfl) ?_
        refine lv_iload hx hb dL_law_1025 (lv_at hl 5 rfl) ?_
        refine lv_iconst (v := 1) hx hb dL_law_1027 (by decide) ?_
        refine lv_iadd hx hb dL_law_1028 ?_
        obtain ⟨hi238, hw⟩ := hw
        refine va_sld hx hb hX hbl hbA hS hi238 dL_law_1029 ?_
        have hP := g_swapP (w1 := (MW cI cL cZ hm am S.1)) (w2 := (LWf cI cL cZ h a o S236)) hP
        have hD := g_swapD (w1 := (MW cI cL cZ hm am S.1)) (w2 := (LWf cI cL cZ h a o S236)) hD
        refine gk_l (wr := (LWf cI cL cZ h a o S236)) (wc := MW cI cL cZ hm am S.1) (wfc := MW cI cL cZ hm am) hP hD hS hA (va_runV (As := [.int (xs (u4 + 1).toNatClampNeg)]) (rest := []) C (c_M_told l hl9 D cI cL cZ hm am _ (xs (u4 + 1).toNatClampNeg) S.1 hw H.size) (cwV 1 hts (gGV (by decide +kernel) kM_told) rfl rfl rfl (by decide +kernel) ⟨Nat.le_of_ble_eq_true rfl, Nat.le_of_ble_eq_true rfl⟩) (g_preV (wr := (LWf cI cL cZ h a o S236)) (wc := MW cI cL cZ hm am S.1) (ci := 2) hK hG hA hP hD hS rfl (MWc_0 cI cL cZ hm am S.1) rfl) rfl rfl hl.1 rfl (lv_room (Nat.le_of_ble_eq_true rfl)) dL_law_1030 ⟨show kc + 1 + 0 ≤ 1075 by omega, show ks + 6 + 0 ≤ 9395 by omega⟩) (fun r240 S239 H locs hw hP hD hS => ?_)
        have hP := g_swapP (w1 := (LWf cI cL cZ h a o S236)) (w2 := (MW cI cL cZ hm am S239)) hP
        have hD := g_swapD (w1 := (LWf cI cL cZ h a o S236)) (w2 := (MW cI cL cZ hm am S239)) hD
        have hP : va_P D vwCl (GWf cI cL cZ h a o hm am (S239, S236)) H := hP
        have hD : va_D A (GWf cI cL cZ h a o hm am (S239, S236)) := hD
        refine lv_lstore (lv' := [(6, .long r240), (5, .int r237), (0, .ref b), (1, .ref h), (2, .ref hm), (3, .ref o), (4, .int u4)]) hx hb dL_law_1033 hl (by decide) rfl (fun ls hl => ?_)
        refine lv_aload_n hx hb dL_law_1035 rfl (lv_at hl 4 rfl) ?_
        have hP := g_swapP (w1 := (MW cI cL cZ hm am S239)) (w2 := (LWf cI cL cZ h a o S236)) hP
        have hD := g_swapD (w1 := (MW cI cL cZ hm am S239)) (w2 := (LWf cI cL cZ h a o S236)) hD
        refine gk_i (wr := (LWf cI cL cZ h a o S236)) (wc := MW cI cL cZ hm am S239) (wfc := MW cI cL cZ hm am) hP hD hS hA (va_runV (As := []) (rest := []) C (c_M_thrown l hl9 D cI cL cZ hm am _  S239 hw H.size) (cwV 0 hts (gGV (by decide +kernel) kM_thrown) rfl rfl rfl (by decide +kernel) ⟨Nat.le_of_ble_eq_true rfl, Nat.le_of_ble_eq_true rfl⟩) (g_preV (wr := (LWf cI cL cZ h a o S236)) (wc := MW cI cL cZ hm am S239) (ci := 2) hK hG hA hP hD hS rfl (MWc_0 cI cL cZ hm am S239) rfl) rfl rfl hl.1 rfl (lv_room (Nat.le_of_ble_eq_true rfl)) dL_law_1036 ⟨show kc + 1 + 0 ≤ 1075 by omega, show ks + 6 + 0 ≤ 9395 by omega⟩) (fun r242 S241 H locs hw hP hD hS => ?_)
        have hP := g_swapP (w1 := (LWf cI cL cZ h a o S236)) (w2 := (MW cI cL cZ hm am S241)) hP
        have hD := g_swapD (w1 := (LWf cI cL cZ h a o S236)) (w2 := (MW cI cL cZ hm am S241)) hD
        have hP : va_P D vwCl (GWf cI cL cZ h a o hm am (S241, S236)) H := hP
        have hD : va_D A (GWf cI cL cZ h a o hm am (S241, S236)) := hD
        refine lv_iload hx hb dL_law_1039 (lv_at hl 1 rfl) ?_
        refine lv_icmp_eq (tgt := 1046) hx hb dL_law_1041 (by decide) (fun c243 => ?_) (fun c243 => ?_)
        · have hw := hw.1 c243
          refine lv_iload hx hb dL_law_1046 (lv_at hl 1 rfl) ?_
          refine lv_if_ne (tgt := 1062) hx hb dL_law_1048 (by decide) (fun c244 => ?_) (fun c244 => ?_)
          · have hw := hw.2 c244
            refine lv_goto (tgt := 1065) hx hb dL_law_1062 (by decide) ?_
            obtain ⟨v4_245, ev4_245⟩ : ∃ y : Int32, y = u4 + 4 := ⟨_, rfl⟩
            have hw := hw v4_245 ev4_245
            refine lv_iinc (v := v4_245) (lv' := [(4, .int v4_245), (6, .long r240), (5, .int r237), (0, .ref b), (1, .ref h), (2, .ref hm), (3, .ref o)]) hx hb dL_law_1065 hl (k := 6) rfl (by rw [ev4_245]; rfl) (by decide) rfl (fun ls hl => ?_)
            refine lv_goto (tgt := 23) hx hb dL_law_1068 (by decide) ?_
            refine W.widen (k := kc + 1) (n := ks + 6) (Nat.le_refl _) (Nat.le_refl _) ?_
            exact ih (S241, S236) v4_245 (kc + 1) (ks + 6) H locs ls hw (by omega) (by omega) hP hD hS (lv_sub hl [3, 4, 5, 6, 0] rfl)
          · have hw := hw.1 c244
            refine lv_aload_n hx hb dL_law_1051 rfl (lv_at hl 5 rfl) ?_
            refine lv_iconst (v := 0) hx hb dL_law_1052 (by decide) ?_
            obtain ⟨hi246, hw⟩ := hw
            refine va_lald (f := (gO (S241, S236))) hx hb hK hP 17 1 (GWc_17 cI cL cZ h a o hm am (S241, S236)) rfl hi246 dL_law_1053 ?_
            refine lv_lload hx hb dL_law_1054 (lv_at hl 0 rfl) ?_
            refine W.lcmp hx hb dL_law_1056 ?_
            refine lv_if_eq (tgt := 1062) hx hb dL_law_1057 (by decide) (fun c247 => ?_) (fun c247 => ?_)
            · have c247 : (gO (S241, S236) (0 : Int32).toNatClampNeg) = r240 := (lg_cmp_eq _ _).mp c247
              have hw := hw.1 c247
              refine lv_goto (tgt := 1065) hx hb dL_law_1062 (by decide) ?_
              obtain ⟨v4_248, ev4_248⟩ : ∃ y : Int32, y = u4 + 4 := ⟨_, rfl⟩
              have hw := hw v4_248 ev4_248
              refine lv_iinc (v := v4_248) (lv' := [(4, .int v4_248), (6, .long r240), (5, .int r237), (0, .ref b), (1, .ref h), (2, .ref hm), (3, .ref o)]) hx hb dL_law_1065 hl (k := 6) rfl (by rw [ev4_248]; rfl) (by decide) rfl (fun ls hl => ?_)
              refine lv_goto (tgt := 23) hx hb dL_law_1068 (by decide) ?_
              refine W.widen (k := kc + 1) (n := ks + 6) (Nat.le_refl _) (Nat.le_refl _) ?_
              exact ih (S241, S236) v4_248 (kc + 1) (ks + 6) H locs ls hw (by omega) (by omega) hP hD hS (lv_sub hl [3, 4, 5, 6, 0] rfl)
            · have c247 : ¬ (gO (S241, S236) (0 : Int32).toNatClampNeg) = r240 := fun h9 => c247 ((lg_cmp_eq _ _).mpr h9)
              have hw := hw.2 c247
              refine lv_iconst (v := 0) hx hb dL_law_1060 (by decide) ?_
              exact hw.elim
        · have hw := hw.2 c243
          refine lv_iconst (v := 0) hx hb dL_law_1044 (by decide) ?_
          exact hw.elim
      have hw := hw.2 c234
      have nc4 := lv_neT (a := 0) c4 (by decide)
      have nc21 := lv_neT (a := 1) c21 (by decide)
      have nc38 := lv_neT (a := 2) c38 (by decide)
      have nc55 := lv_neT (a := 3) c55 (by decide)
      have nc74 := lv_neT (a := 4) c74 (by decide)
      have nc91 := lv_neT (a := 5) c91 (by decide)
      have nc113 := lv_neT (a := 6) c113 (by decide)
      have nc128 := lv_neT (a := 7) c128 (by decide)
      have nc145 := lv_neT (a := 8) c145 (by decide)
      have nc162 := lv_neT (a := 9) c162 (by decide)
      have nc181 := lv_neT (a := 10) c181 (by decide)
      have nc198 := lv_neT (a := 11) c198 (by decide)
      have nc217 := lv_neT (a := 12) c217 (by decide)
      have nc234 := lv_neT (a := 13) c234 (by decide)
      refine lv_tableOut (tgt := 1065) hx hb dL_law_39 (by omega) (by decide) ?_
      obtain ⟨v4_249, ev4_249⟩ : ∃ y : Int32, y = u4 + 4 := ⟨_, rfl⟩
      have hw := hw v4_249 ev4_249
      refine lv_iinc (v := v4_249) (lv' := [(4, .int v4_249), (0, .ref b), (1, .ref h), (2, .ref hm), (3, .ref o)]) hx hb dL_law_1065 hl (k := 4) rfl (by rw [ev4_249]; rfl) (by decide) rfl (fun ls hl => ?_)
      refine lv_goto (tgt := 23) hx hb dL_law_1068 (by decide) ?_
      refine W.widen (k := kc + 1) (n := ks + 6) (by omega) (by omega) ?_
      exact ih S v4_249 (kc + 1) (ks + 6) H locs ls hw (by omega) (by omega) hP hD hS (lv_sub hl [1, 2, 3, 4, 0] rfl)
