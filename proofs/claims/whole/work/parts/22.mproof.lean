theorem d_Model_comesOut_0 : decode b_Model_comesOut 0 = .ok (.aload_n 0, 1) := by decide +kernel
theorem d_Model_comesOut_1 : decode b_Model_comesOut 1 = .ok (.getfield 275, 3) := by decide +kernel
theorem d_Model_comesOut_4 : decode b_Model_comesOut 4 = .ok (.ifCond .le 104, 3) := by decide +kernel
theorem d_Model_comesOut_7 : decode b_Model_comesOut 7 = .ok (.aload_n 0, 1) := by decide +kernel
theorem d_Model_comesOut_8 : decode b_Model_comesOut 8 = .ok (.getfield 98, 3) := by decide +kernel
theorem d_Model_comesOut_11 : decode b_Model_comesOut 11 = .ok (.aload_n 0, 1) := by decide +kernel
theorem d_Model_comesOut_12 : decode b_Model_comesOut 12 = .ok (.getfield 275, 3) := by decide +kernel
theorem d_Model_comesOut_15 : decode b_Model_comesOut 15 = .ok (.iconst 1, 1) := by decide +kernel
theorem d_Model_comesOut_16 : decode b_Model_comesOut 16 = .ok (.isub, 1) := by decide +kernel
theorem d_Model_comesOut_17 : decode b_Model_comesOut 17 = .ok (.iaload, 1) := by decide +kernel
theorem d_Model_comesOut_18 : decode b_Model_comesOut 18 = .ok (.bipush 13, 2) := by decide +kernel
theorem d_Model_comesOut_20 : decode b_Model_comesOut 20 = .ok (.if_icmp .eq 39, 3) := by decide +kernel
theorem d_Model_comesOut_23 : decode b_Model_comesOut 23 = .ok (.iload_n 1, 1) := by decide +kernel
theorem d_Model_comesOut_24 : decode b_Model_comesOut 24 = .ok (.ifCond .ne 84, 3) := by decide +kernel
theorem d_Model_comesOut_27 : decode b_Model_comesOut 27 = .ok (.aload_n 0, 1) := by decide +kernel
theorem d_Model_comesOut_28 : decode b_Model_comesOut 28 = .ok (.getfield 98, 3) := by decide +kernel
theorem d_Model_comesOut_31 : decode b_Model_comesOut 31 = .ok (.aload_n 0, 1) := by decide +kernel
theorem d_Model_comesOut_32 : decode b_Model_comesOut 32 = .ok (.getfield 275, 3) := by decide +kernel
theorem d_Model_comesOut_35 : decode b_Model_comesOut 35 = .ok (.iconst 1, 1) := by decide +kernel
theorem d_Model_comesOut_36 : decode b_Model_comesOut 36 = .ok (.isub, 1) := by decide +kernel
theorem d_Model_comesOut_37 : decode b_Model_comesOut 37 = .ok (.iaload, 1) := by decide +kernel
theorem d_Model_comesOut_38 : decode b_Model_comesOut 38 = .ok (.bipush 11, 2) := by decide +kernel
theorem d_Model_comesOut_40 : decode b_Model_comesOut 40 = .ok (.if_icmp .eq 19, 3) := by decide +kernel
theorem d_Model_comesOut_43 : decode b_Model_comesOut 43 = .ok (.aload_n 0, 1) := by decide +kernel
theorem d_Model_comesOut_44 : decode b_Model_comesOut 44 = .ok (.getfield 98, 3) := by decide +kernel
theorem d_Model_comesOut_47 : decode b_Model_comesOut 47 = .ok (.aload_n 0, 1) := by decide +kernel
theorem d_Model_comesOut_48 : decode b_Model_comesOut 48 = .ok (.getfield 275, 3) := by decide +kernel
theorem d_Model_comesOut_51 : decode b_Model_comesOut 51 = .ok (.iconst 1, 1) := by decide +kernel
theorem d_Model_comesOut_52 : decode b_Model_comesOut 52 = .ok (.isub, 1) := by decide +kernel
theorem d_Model_comesOut_53 : decode b_Model_comesOut 53 = .ok (.iaload, 1) := by decide +kernel
theorem d_Model_comesOut_54 : decode b_Model_comesOut 54 = .ok (.bipush 12, 2) := by decide +kernel
theorem d_Model_comesOut_56 : decode b_Model_comesOut 56 = .ok (.if_icmp .ne 52, 3) := by decide +kernel
theorem d_Model_comesOut_59 : decode b_Model_comesOut 59 = .ok (.aload_n 0, 1) := by decide +kernel
theorem d_Model_comesOut_60 : decode b_Model_comesOut 60 = .ok (.dup, 1) := by decide +kernel
theorem d_Model_comesOut_61 : decode b_Model_comesOut 61 = .ok (.getfield 275, 3) := by decide +kernel
theorem d_Model_comesOut_64 : decode b_Model_comesOut 64 = .ok (.iconst 1, 1) := by decide +kernel
theorem d_Model_comesOut_65 : decode b_Model_comesOut 65 = .ok (.isub, 1) := by decide +kernel
theorem d_Model_comesOut_66 : decode b_Model_comesOut 66 = .ok (.putfield 275, 3) := by decide +kernel
theorem d_Model_comesOut_69 : decode b_Model_comesOut 69 = .ok (.aload_n 0, 1) := by decide +kernel
theorem d_Model_comesOut_70 : decode b_Model_comesOut 70 = .ok (.getfield 98, 3) := by decide +kernel
theorem d_Model_comesOut_73 : decode b_Model_comesOut 73 = .ok (.aload_n 0, 1) := by decide +kernel
theorem d_Model_comesOut_74 : decode b_Model_comesOut 74 = .ok (.getfield 275, 3) := by decide +kernel
theorem d_Model_comesOut_77 : decode b_Model_comesOut 77 = .ok (.iaload, 1) := by decide +kernel
theorem d_Model_comesOut_78 : decode b_Model_comesOut 78 = .ok (.istore_n 2, 1) := by decide +kernel
theorem d_Model_comesOut_79 : decode b_Model_comesOut 79 = .ok (.aload_n 0, 1) := by decide +kernel
theorem d_Model_comesOut_80 : decode b_Model_comesOut 80 = .ok (.iload_n 2, 1) := by decide +kernel
theorem d_Model_comesOut_81 : decode b_Model_comesOut 81 = .ok (.bipush 11, 2) := by decide +kernel
theorem d_Model_comesOut_83 : decode b_Model_comesOut 83 = .ok (.if_icmp .ne 7, 3) := by decide +kernel
theorem d_Model_comesOut_86 : decode b_Model_comesOut 86 = .ok (.iconst 3, 1) := by decide +kernel
theorem d_Model_comesOut_87 : decode b_Model_comesOut 87 = .ok (.goto 14, 3) := by decide +kernel
theorem d_Model_comesOut_90 : decode b_Model_comesOut 90 = .ok (.iload_n 2, 1) := by decide +kernel
theorem d_Model_comesOut_91 : decode b_Model_comesOut 91 = .ok (.bipush 12, 2) := by decide +kernel
theorem d_Model_comesOut_93 : decode b_Model_comesOut 93 = .ok (.if_icmp .ne 7, 3) := by decide +kernel
theorem d_Model_comesOut_96 : decode b_Model_comesOut 96 = .ok (.iconst 4, 1) := by decide +kernel
theorem d_Model_comesOut_97 : decode b_Model_comesOut 97 = .ok (.goto 4, 3) := by decide +kernel
theorem d_Model_comesOut_100 : decode b_Model_comesOut 100 = .ok (.iconst 5, 1) := by decide +kernel
theorem d_Model_comesOut_101 : decode b_Model_comesOut 101 = .ok (.iconst 0, 1) := by decide +kernel
theorem d_Model_comesOut_102 : decode b_Model_comesOut 102 = .ok (.invokevirtual 272, 3) := by decide +kernel
theorem d_Model_comesOut_105 : decode b_Model_comesOut 105 = .ok (.goto (-105), 3) := by decide +kernel
theorem d_Model_comesOut_108 : decode b_Model_comesOut 108 = .ok (.return_, 1) := by decide +kernel
set_option maxHeartbeats 4000000 in
set_option maxRecDepth 100000 in
theorem c_Model_comesOut (l : Launch) {S : St} {x1 : Int32} {S' : St} (h : f_Model_comesOut S x1 = some S') : MV mw l y_Model_comesOut b_Model_comesOut 3 none 1 22 0 0 (fun ad => [.ref (ad 0 0), .int x1]) aT aE S S' := by
  refine MV_of "LawfulLotsModel" rfl (by decide) (fun _ => Nat.le_of_ble_eq_true rfl) ?_
  intro p e s m args below meth c D ar ad A Q ls hP F hK hA hw hl hQ
  have hl : lv_has ls 3 [(0, .ref (ad 0 0)), (1, .int x1)] := hl
  obtain ⟨X_0, eX_0⟩ : ∃ X : St → Prop, X = (fun q => ∀ (H : Heap) (locs : List Loc) (pc : Nat) (ls : Array Slot), decode b_Model_comesOut pc = .ok (.return_, 1) → Bw mw D ar A s.heap H locs ad q → W p l e (RM 1 22) s m args below meth c H locs 0 0 Q (F0 m pc ls [])) := ⟨_, rfl⟩
  have key : ∀ (H : Heap) (locs : List Loc), Bw mw D ar A s.heap H locs ad S → ∀ o, f_Model_comesOut S x1 = some o → X_0 o → W p l e (RM 1 22) s m args below meth c H locs 0 0 Q (F0 m 0 ls []) := by
    intro H locs hw o h ho
    unfold f_Model_comesOut at h
    have J_108 : ∀ (S : St) (H : Heap) (locs : List Loc) (ls : Array Slot), Bw mw D ar A s.heap H locs ad S → lv_has ls 3 [] → ∀ o, Model_comesOut_j108 S = some o → X_0 o → W p l e (RM 1 22) s m args below meth c H locs 0 0 Q (F0 m 108 ls []) := by
      intro S H locs ls hw hl o h ho
      unfold Model_comesOut_j108 at h
      cases h
      have ho : X_0 _ := ho
      rw [eX_0] at ho
      exact ho H locs _ ls d_Model_comesOut_108 hw
    obtain ⟨S_16, hc_17, h⟩ := bd_ex h
    obtain ⟨X_0, eX_0⟩ : ∃ X : St → Prop, X = (fun q => ∀ (H : Heap) (locs : List Loc) (ls : Array Slot), Bw mw D ar A s.heap H locs ad q → lv_has ls 3 [] → W p l e (RM 1 22) s m args below meth c H locs 0 0 Q (F0 m 108 ls [])) := ⟨_, rfl⟩
    have hX_0 : X_0 S_16 := by
      rw [eX_0]
      intro H locs ls hw hl
      exact J_108 S_16 H locs ls hw (lv_sub hl [] rfl) o h ho
    obtain ⟨P_0, eP_0⟩ : ∃ P : St → Prop, P = (fun q => ∀ (H : Heap) (locs : List Loc) (ls : Array Slot), Bw mw D ar A s.heap H locs ad q → lv_has ls 3 [(0, .ref (ad 0 0)), (1, .int x1)] → W p l e (RM 1 22) s m args below meth c H locs 0 0 Q (F0 m 0 ls [])) := ⟨_, rfl⟩
    have hL_0 : P_0 S := by
      refine wh_gp (P := P_0) (X := X_0) hc_17 hX_0 ?_
      clear h
      intro S o h ho
      have h : Model_comesOut_l0 x1 S = some o := h
      unfold Model_comesOut_l0 at h
      rw [eP_0]
      intro H locs ls hw hl
      have J_101_l0 : ∀ (S : St) (t1 : Int32) (H : Heap) (locs : List Loc) (ls : Array Slot), Bw mw D ar A s.heap H locs ad S → lv_has ls 3 [(0, .ref (ad 0 0)), (1, .int x1)] → ∀ o, Model_comesOut_j101_l0 S x1 t1 = some o → (Sum.elim P_0 X_0) o → W p l e (RM 1 22) s m args below meth c H locs 0 0 Q (F0 m 101 ls [.int t1, .ref (ad 0 0)]) := by
        intro S t1 H locs ls hw hl o h ho
        unfold Model_comesOut_j101_l0 at h
        refine lv_iconst (v := 0) F.1 F.2.1 d_Model_comesOut_101 (by decide) ?_
        obtain ⟨S_15, hc_14, h⟩ := bd_ex h
        refine cV_v F hA rfl hK hw (c_Model_emit l hc_14) trivial rfl (good_V lk_1287 lk_1289 ls_71 lk_10 lk_1290) (mr_0 hK hw) hd_Model_emit ⟨Nat.le_of_ble_eq_true rfl, Nat.le_of_ble_eq_true rfl⟩ rfl hl.1 rfl (Nat.le_of_ble_eq_true rfl) d_Model_comesOut_102 ⟨(Nat.zero_le _), (Nat.zero_le _)⟩ (fun H locs hw => ?_)
        refine lv_goto (tgt := 0) F.1 F.2.1 d_Model_comesOut_105 (by decide) ?_
        cases h
        have ho : P_0 _ := ho
        rw [eP_0] at ho
        exact ho H locs ls hw (lv_sub hl [0, 1] rfl)
      have J_59_l0 : ∀ (S : St) (H : Heap) (locs : List Loc) (ls : Array Slot), Bw mw D ar A s.heap H locs ad S → lv_has ls 3 [(0, .ref (ad 0 0)), (1, .int x1)] → ∀ o, Model_comesOut_j59_l0 S x1 = some o → (Sum.elim P_0 X_0) o → W p l e (RM 1 22) s m args below meth c H locs 0 0 Q (F0 m 59 ls []) := by
        intro S H locs ls hw hl o h ho
        unfold Model_comesOut_j59_l0 at h
        refine lv_aload_n F.1 F.2.1 d_Model_comesOut_59 rfl (lv_at hl 0 rfl) ?_
        refine lv_dup F.1 F.2.1 d_Model_comesOut_60 rfl ?_
        refine mg_0_43 F hK hw lk_1054 d_Model_comesOut_61 ?_
        refine lv_iconst (v := 1) F.1 F.2.1 d_Model_comesOut_64 (by decide) ?_
        refine lv_isub F.1 F.2.1 d_Model_comesOut_65 ?_
        obtain ⟨S_9, eS_9, h⟩ := nm_ex h
        refine mp_0_43 F hK hw lk_1054 d_Model_comesOut_66 eS_9 (fun H locs hw => ?_)
        refine lv_aload_n F.1 F.2.1 d_Model_comesOut_69 rfl (lv_at hl 0 rfl) ?_
        refine mg_0_42 F hK hw lk_1053 d_Model_comesOut_70 ?_
        refine lv_aload_n F.1 F.2.1 d_Model_comesOut_73 rfl (lv_at hl 0 rfl) ?_
        refine mg_0_43 F hK hw lk_1054 d_Model_comesOut_74 ?_
        obtain ⟨hi_10, h⟩ := gd_ex h
        refine ml_0_42 F hK hw hi_10 d_Model_comesOut_77 ?_
        obtain ⟨x2_11, ex2_11, h⟩ := nm_ex h
        refine lv_nm ex2_11 ?_
        refine lv_istore_n (lv' := [(2, .int x2_11), (0, .ref (ad 0 0)), (1, .int x1)]) F.1 F.2.1 d_Model_comesOut_78 rfl hl (by decide) rfl (fun ls hl => ?_)
        refine lv_aload_n F.1 F.2.1 d_Model_comesOut_79 rfl (lv_at hl 1 rfl) ?_
        refine lv_iload_n F.1 F.2.1 d_Model_comesOut_80 rfl (lv_at hl 0 rfl) ?_
        refine lv_bipush (v := 11) F.1 F.2.1 d_Model_comesOut_81 (by decide) ?_
        refine lv_icmp_ne (tgt := 90) F.1 F.2.1 d_Model_comesOut_83 (by decide) (fun c_12 => ?_) (fun c_12 => ?_)
        · replace h := iq c_12 h
          refine lv_iload_n F.1 F.2.1 d_Model_comesOut_90 rfl (lv_at hl 0 rfl) ?_
          refine lv_bipush (v := 12) F.1 F.2.1 d_Model_comesOut_91 (by decide) ?_
          refine lv_icmp_ne (tgt := 100) F.1 F.2.1 d_Model_comesOut_93 (by decide) (fun c_13 => ?_) (fun c_13 => ?_)
          · replace h := iq c_13 h
            refine lv_iconst (v := 5) F.1 F.2.1 d_Model_comesOut_100 (by decide) ?_
            exact J_101_l0 S_9 (5 : Int32) H locs ls hw (lv_sub hl [1, 2] rfl) o h ho
          · replace h := ip c_13 h
            refine lv_iconst (v := 4) F.1 F.2.1 d_Model_comesOut_96 (by decide) ?_
            refine lv_goto (tgt := 101) F.1 F.2.1 d_Model_comesOut_97 (by decide) ?_
            exact J_101_l0 S_9 (4 : Int32) H locs ls hw (lv_sub hl [1, 2] rfl) o h ho
        · replace h := ip c_12 h
          refine lv_iconst (v := 3) F.1 F.2.1 d_Model_comesOut_86 (by decide) ?_
          refine lv_goto (tgt := 101) F.1 F.2.1 d_Model_comesOut_87 (by decide) ?_
          exact J_101_l0 S_9 (3 : Int32) H locs ls hw (lv_sub hl [1, 2] rfl) o h ho
      refine lv_aload_n F.1 F.2.1 d_Model_comesOut_0 rfl (lv_at hl 0 rfl) ?_
      refine mg_0_43 F hK hw lk_1054 d_Model_comesOut_1 ?_
      refine lv_if_le (tgt := 108) F.1 F.2.1 d_Model_comesOut_4 (by decide) (fun c_1 => ?_) (fun c_1 => ?_)
      · replace h := ip c_1 h
        cases h
        have ho : X_0 _ := ho
        rw [eX_0] at ho
        exact ho H locs ls hw (lv_sub hl [] rfl)
      · replace h := iq c_1 h
        refine lv_aload_n F.1 F.2.1 d_Model_comesOut_7 rfl (lv_at hl 0 rfl) ?_
        refine mg_0_42 F hK hw lk_1053 d_Model_comesOut_8 ?_
        refine lv_aload_n F.1 F.2.1 d_Model_comesOut_11 rfl (lv_at hl 0 rfl) ?_
        refine mg_0_43 F hK hw lk_1054 d_Model_comesOut_12 ?_
        refine lv_iconst (v := 1) F.1 F.2.1 d_Model_comesOut_15 (by decide) ?_
        refine lv_isub F.1 F.2.1 d_Model_comesOut_16 ?_
        obtain ⟨hi_2, h⟩ := gd_ex h
        refine ml_0_42 F hK hw hi_2 d_Model_comesOut_17 ?_
        refine lv_bipush (v := 13) F.1 F.2.1 d_Model_comesOut_18 (by decide) ?_
        refine lv_icmp_eq (tgt := 59) F.1 F.2.1 d_Model_comesOut_20 (by decide) (fun c_3 => ?_) (fun c_3 => ?_)
        · replace h := ip c_3 h
          exact J_59_l0 S H locs ls hw (lv_sub hl [0, 1] rfl) o h ho
        · replace h := iq c_3 h
          refine lv_iload_n F.1 F.2.1 d_Model_comesOut_23 rfl (lv_at hl 1 rfl) ?_
          refine lv_if_ne (tgt := 108) F.1 F.2.1 d_Model_comesOut_24 (by decide) (fun c_4 => ?_) (fun c_4 => ?_)
          · replace h := iq c_4 h
            cases h
            have ho : X_0 _ := ho
            rw [eX_0] at ho
            exact ho H locs ls hw (lv_sub hl [] rfl)
          · replace h := ip c_4 h
            refine lv_aload_n F.1 F.2.1 d_Model_comesOut_27 rfl (lv_at hl 0 rfl) ?_
            refine mg_0_42 F hK hw lk_1053 d_Model_comesOut_28 ?_
            refine lv_aload_n F.1 F.2.1 d_Model_comesOut_31 rfl (lv_at hl 0 rfl) ?_
            refine mg_0_43 F hK hw lk_1054 d_Model_comesOut_32 ?_
            refine lv_iconst (v := 1) F.1 F.2.1 d_Model_comesOut_35 (by decide) ?_
            refine lv_isub F.1 F.2.1 d_Model_comesOut_36 ?_
            obtain ⟨hi_5, h⟩ := gd_ex h
            refine ml_0_42 F hK hw hi_5 d_Model_comesOut_37 ?_
            refine lv_bipush (v := 11) F.1 F.2.1 d_Model_comesOut_38 (by decide) ?_
            refine lv_icmp_eq (tgt := 59) F.1 F.2.1 d_Model_comesOut_40 (by decide) (fun c_6 => ?_) (fun c_6 => ?_)
            · replace h := ip c_6 h
              exact J_59_l0 S H locs ls hw (lv_sub hl [0, 1] rfl) o h ho
            · replace h := iq c_6 h
              refine lv_aload_n F.1 F.2.1 d_Model_comesOut_43 rfl (lv_at hl 0 rfl) ?_
              refine mg_0_42 F hK hw lk_1053 d_Model_comesOut_44 ?_
              refine lv_aload_n F.1 F.2.1 d_Model_comesOut_47 rfl (lv_at hl 0 rfl) ?_
              refine mg_0_43 F hK hw lk_1054 d_Model_comesOut_48 ?_
              refine lv_iconst (v := 1) F.1 F.2.1 d_Model_comesOut_51 (by decide) ?_
              refine lv_isub F.1 F.2.1 d_Model_comesOut_52 ?_
              obtain ⟨hi_7, h⟩ := gd_ex h
              refine ml_0_42 F hK hw hi_7 d_Model_comesOut_53 ?_
              refine lv_bipush (v := 12) F.1 F.2.1 d_Model_comesOut_54 (by decide) ?_
              refine lv_icmp_ne (tgt := 108) F.1 F.2.1 d_Model_comesOut_56 (by decide) (fun c_8 => ?_) (fun c_8 => ?_)
              · replace h := iq c_8 h
                cases h
                have ho : X_0 _ := ho
                rw [eX_0] at ho
                exact ho H locs ls hw (lv_sub hl [] rfl)
              · replace h := ip c_8 h
                exact J_59_l0 S H locs ls hw (lv_sub hl [0, 1] rfl) o h ho
    rw [eP_0] at hL_0
    exact hL_0 H locs ls hw (lv_sub hl [0, 1] rfl)
  exact key _ _ hw _ h (by rw [eX_0]; exact fun H locs pc ls hd hw => hQ H locs pc ls ad rfl hd hw)
theorem d_Model_expression_0 : decode b_Model_expression 0 = .ok (.aload_n 0, 1) := by decide +kernel
theorem d_Model_expression_1 : decode b_Model_expression 1 = .ok (.iconst 0, 1) := by decide +kernel
theorem d_Model_expression_2 : decode b_Model_expression 2 = .ok (.putfield 275, 3) := by decide +kernel
theorem d_Model_expression_5 : decode b_Model_expression 5 = .ok (.aload_n 0, 1) := by decide +kernel
theorem d_Model_expression_6 : decode b_Model_expression 6 = .ok (.getfield 225, 3) := by decide +kernel
theorem d_Model_expression_9 : decode b_Model_expression 9 = .ok (.istore_n 1, 1) := by decide +kernel
theorem d_Model_expression_10 : decode b_Model_expression 10 = .ok (.iconst 1, 1) := by decide +kernel
theorem d_Model_expression_11 : decode b_Model_expression 11 = .ok (.istore_n 2, 1) := by decide +kernel
theorem d_Model_expression_12 : decode b_Model_expression 12 = .ok (.iload_n 2, 1) := by decide +kernel
theorem d_Model_expression_13 : decode b_Model_expression 13 = .ok (.ifCond .eq 240, 3) := by decide +kernel
theorem d_Model_expression_16 : decode b_Model_expression 16 = .ok (.aload_n 0, 1) := by decide +kernel
theorem d_Model_expression_17 : decode b_Model_expression 17 = .ok (.getfield 198, 3) := by decide +kernel
theorem d_Model_expression_20 : decode b_Model_expression 20 = .ok (.ifCond .ne 233, 3) := by decide +kernel
theorem d_Model_expression_23 : decode b_Model_expression 23 = .ok (.aload_n 0, 1) := by decide +kernel
theorem d_Model_expression_24 : decode b_Model_expression 24 = .ok (.bipush 9, 2) := by decide +kernel
theorem d_Model_expression_26 : decode b_Model_expression 26 = .ok (.invokevirtual 216, 3) := by decide +kernel
theorem d_Model_expression_29 : decode b_Model_expression 29 = .ok (.ifCond .eq 55, 3) := by decide +kernel
theorem d_Model_expression_32 : decode b_Model_expression 32 = .ok (.aload_n 0, 1) := by decide +kernel
theorem d_Model_expression_33 : decode b_Model_expression 33 = .ok (.getfield 225, 3) := by decide +kernel
theorem d_Model_expression_36 : decode b_Model_expression 36 = .ok (.bipush 6, 2) := by decide +kernel
theorem d_Model_expression_38 : decode b_Model_expression 38 = .ok (.if_icmp .ne 8, 3) := by decide +kernel
theorem d_Model_expression_41 : decode b_Model_expression 41 = .ok (.aload_n 0, 1) := by decide +kernel
theorem d_Model_expression_42 : decode b_Model_expression 42 = .ok (.iconst 2, 1) := by decide +kernel
theorem d_Model_expression_43 : decode b_Model_expression 43 = .ok (.invokevirtual 213, 3) := by decide +kernel
theorem d_Model_expression_46 : decode b_Model_expression 46 = .ok (.aload_n 0, 1) := by decide +kernel
theorem d_Model_expression_47 : decode b_Model_expression 47 = .ok (.dup, 1) := by decide +kernel
theorem d_Model_expression_48 : decode b_Model_expression 48 = .ok (.getfield 225, 3) := by decide +kernel
theorem d_Model_expression_51 : decode b_Model_expression 51 = .ok (.iconst 1, 1) := by decide +kernel
theorem d_Model_expression_52 : decode b_Model_expression 52 = .ok (.iadd, 1) := by decide +kernel
theorem d_Model_expression_53 : decode b_Model_expression 53 = .ok (.putfield 225, 3) := by decide +kernel
theorem d_Model_expression_56 : decode b_Model_expression 56 = .ok (.aload_n 0, 1) := by decide +kernel
theorem d_Model_expression_57 : decode b_Model_expression 57 = .ok (.invokevirtual 219, 3) := by decide +kernel
theorem d_Model_expression_60 : decode b_Model_expression 60 = .ok (.aload_n 0, 1) := by decide +kernel
theorem d_Model_expression_61 : decode b_Model_expression 61 = .ok (.getfield 98, 3) := by decide +kernel
theorem d_Model_expression_64 : decode b_Model_expression 64 = .ok (.aload_n 0, 1) := by decide +kernel
theorem d_Model_expression_65 : decode b_Model_expression 65 = .ok (.getfield 275, 3) := by decide +kernel
theorem d_Model_expression_68 : decode b_Model_expression 68 = .ok (.bipush 9, 2) := by decide +kernel
theorem d_Model_expression_70 : decode b_Model_expression 70 = .ok (.iastore, 1) := by decide +kernel
theorem d_Model_expression_71 : decode b_Model_expression 71 = .ok (.aload_n 0, 1) := by decide +kernel
theorem d_Model_expression_72 : decode b_Model_expression 72 = .ok (.dup, 1) := by decide +kernel
theorem d_Model_expression_73 : decode b_Model_expression 73 = .ok (.getfield 275, 3) := by decide +kernel
theorem d_Model_expression_76 : decode b_Model_expression 76 = .ok (.iconst 1, 1) := by decide +kernel
theorem d_Model_expression_77 : decode b_Model_expression 77 = .ok (.iadd, 1) := by decide +kernel
theorem d_Model_expression_78 : decode b_Model_expression 78 = .ok (.putfield 275, 3) := by decide +kernel
theorem d_Model_expression_81 : decode b_Model_expression 81 = .ok (.goto (-58), 3) := by decide +kernel
theorem d_Model_expression_84 : decode b_Model_expression 84 = .ok (.aload_n 0, 1) := by decide +kernel
theorem d_Model_expression_85 : decode b_Model_expression 85 = .ok (.invokevirtual 278, 3) := by decide +kernel
theorem d_Model_expression_88 : decode b_Model_expression 88 = .ok (.aload_n 0, 1) := by decide +kernel
theorem d_Model_expression_89 : decode b_Model_expression 89 = .ok (.getfield 198, 3) := by decide +kernel
theorem d_Model_expression_92 : decode b_Model_expression 92 = .ok (.ifCond .le 4, 3) := by decide +kernel
theorem d_Model_expression_95 : decode b_Model_expression 95 = .ok (.return_, 1) := by decide +kernel
theorem d_Model_expression_96 : decode b_Model_expression 96 = .ok (.aload_n 0, 1) := by decide +kernel
theorem d_Model_expression_97 : decode b_Model_expression 97 = .ok (.bipush 10, 2) := by decide +kernel
theorem d_Model_expression_99 : decode b_Model_expression 99 = .ok (.invokevirtual 216, 3) := by decide +kernel
theorem d_Model_expression_102 : decode b_Model_expression 102 = .ok (.ifCond .eq 43, 3) := by decide +kernel
theorem d_Model_expression_105 : decode b_Model_expression 105 = .ok (.aload_n 0, 1) := by decide +kernel
theorem d_Model_expression_106 : decode b_Model_expression 106 = .ok (.getfield 225, 3) := by decide +kernel
theorem d_Model_expression_109 : decode b_Model_expression 109 = .ok (.iload_n 1, 1) := by decide +kernel
theorem d_Model_expression_110 : decode b_Model_expression 110 = .ok (.if_icmp .le 35, 3) := by decide +kernel
theorem d_Model_expression_113 : decode b_Model_expression 113 = .ok (.aload_n 0, 1) := by decide +kernel
theorem d_Model_expression_114 : decode b_Model_expression 114 = .ok (.iconst 0, 1) := by decide +kernel
theorem d_Model_expression_115 : decode b_Model_expression 115 = .ok (.invokevirtual 281, 3) := by decide +kernel
theorem d_Model_expression_118 : decode b_Model_expression 118 = .ok (.aload_n 0, 1) := by decide +kernel
theorem d_Model_expression_119 : decode b_Model_expression 119 = .ok (.dup, 1) := by decide +kernel
theorem d_Model_expression_120 : decode b_Model_expression 120 = .ok (.getfield 275, 3) := by decide +kernel
theorem d_Model_expression_123 : decode b_Model_expression 123 = .ok (.iconst 1, 1) := by decide +kernel
theorem d_Model_expression_124 : decode b_Model_expression 124 = .ok (.isub, 1) := by decide +kernel
theorem d_Model_expression_125 : decode b_Model_expression 125 = .ok (.putfield 275, 3) := by decide +kernel
theorem d_Model_expression_128 : decode b_Model_expression 128 = .ok (.aload_n 0, 1) := by decide +kernel
theorem d_Model_expression_129 : decode b_Model_expression 129 = .ok (.dup, 1) := by decide +kernel
theorem d_Model_expression_130 : decode b_Model_expression 130 = .ok (.getfield 225, 3) := by decide +kernel
theorem d_Model_expression_133 : decode b_Model_expression 133 = .ok (.iconst 1, 1) := by decide +kernel
theorem d_Model_expression_134 : decode b_Model_expression 134 = .ok (.isub, 1) := by decide +kernel
theorem d_Model_expression_135 : decode b_Model_expression 135 = .ok (.putfield 225, 3) := by decide +kernel
theorem d_Model_expression_138 : decode b_Model_expression 138 = .ok (.aload_n 0, 1) := by decide +kernel
theorem d_Model_expression_139 : decode b_Model_expression 139 = .ok (.invokevirtual 219, 3) := by decide +kernel
theorem d_Model_expression_142 : decode b_Model_expression 142 = .ok (.goto (-46), 3) := by decide +kernel
theorem d_Model_expression_145 : decode b_Model_expression 145 = .ok (.aload_n 0, 1) := by decide +kernel
theorem d_Model_expression_146 : decode b_Model_expression 146 = .ok (.bipush 11, 2) := by decide +kernel
theorem d_Model_expression_148 : decode b_Model_expression 148 = .ok (.invokevirtual 216, 3) := by decide +kernel
theorem d_Model_expression_151 : decode b_Model_expression 151 = .ok (.ifCond .ne 21, 3) := by decide +kernel
theorem d_Model_expression_154 : decode b_Model_expression 154 = .ok (.aload_n 0, 1) := by decide +kernel
theorem d_Model_expression_155 : decode b_Model_expression 155 = .ok (.bipush 12, 2) := by decide +kernel
theorem d_Model_expression_157 : decode b_Model_expression 157 = .ok (.invokevirtual 216, 3) := by decide +kernel
theorem d_Model_expression_160 : decode b_Model_expression 160 = .ok (.ifCond .ne 12, 3) := by decide +kernel
theorem d_Model_expression_163 : decode b_Model_expression 163 = .ok (.aload_n 0, 1) := by decide +kernel
theorem d_Model_expression_164 : decode b_Model_expression 164 = .ok (.bipush 13, 2) := by decide +kernel
theorem d_Model_expression_166 : decode b_Model_expression 166 = .ok (.invokevirtual 216, 3) := by decide +kernel
theorem d_Model_expression_169 : decode b_Model_expression 169 = .ok (.ifCond .eq 7, 3) := by decide +kernel
theorem d_Model_expression_172 : decode b_Model_expression 172 = .ok (.iconst 1, 1) := by decide +kernel
theorem d_Model_expression_173 : decode b_Model_expression 173 = .ok (.goto 4, 3) := by decide +kernel
theorem d_Model_expression_176 : decode b_Model_expression 176 = .ok (.iconst 0, 1) := by decide +kernel
theorem d_Model_expression_177 : decode b_Model_expression 177 = .ok (.istore_n 2, 1) := by decide +kernel
theorem d_Model_expression_178 : decode b_Model_expression 178 = .ok (.iload_n 2, 1) := by decide +kernel
theorem d_Model_expression_179 : decode b_Model_expression 179 = .ok (.ifCond .ne 22, 3) := by decide +kernel
theorem d_Model_expression_182 : decode b_Model_expression 182 = .ok (.aload_n 0, 1) := by decide +kernel
theorem d_Model_expression_183 : decode b_Model_expression 183 = .ok (.getfield 225, 3) := by decide +kernel
theorem d_Model_expression_186 : decode b_Model_expression 186 = .ok (.iload_n 1, 1) := by decide +kernel
theorem d_Model_expression_187 : decode b_Model_expression 187 = .ok (.if_icmp .le 8, 3) := by decide +kernel
theorem d_Model_expression_190 : decode b_Model_expression 190 = .ok (.aload_n 0, 1) := by decide +kernel
theorem d_Model_expression_191 : decode b_Model_expression 191 = .ok (.iconst 1, 1) := by decide +kernel
theorem d_Model_expression_192 : decode b_Model_expression 192 = .ok (.invokevirtual 213, 3) := by decide +kernel
theorem d_Model_expression_195 : decode b_Model_expression 195 = .ok (.aload_n 0, 1) := by decide +kernel
theorem d_Model_expression_196 : decode b_Model_expression 196 = .ok (.iconst 0, 1) := by decide +kernel
theorem d_Model_expression_197 : decode b_Model_expression 197 = .ok (.invokevirtual 281, 3) := by decide +kernel
theorem d_Model_expression_200 : decode b_Model_expression 200 = .ok (.return_, 1) := by decide +kernel
theorem d_Model_expression_201 : decode b_Model_expression 201 = .ok (.aload_n 0, 1) := by decide +kernel
theorem d_Model_expression_202 : decode b_Model_expression 202 = .ok (.getfield 20, 3) := by decide +kernel
theorem d_Model_expression_205 : decode b_Model_expression 205 = .ok (.aload_n 0, 1) := by decide +kernel
theorem d_Model_expression_206 : decode b_Model_expression 206 = .ok (.getfield 201, 3) := by decide +kernel
theorem d_Model_expression_209 : decode b_Model_expression 209 = .ok (.iaload, 1) := by decide +kernel
theorem d_Model_expression_210 : decode b_Model_expression 210 = .ok (.istore_n 3, 1) := by decide +kernel
theorem d_Model_expression_211 : decode b_Model_expression 211 = .ok (.aload_n 0, 1) := by decide +kernel
theorem d_Model_expression_212 : decode b_Model_expression 212 = .ok (.iload_n 3, 1) := by decide +kernel
theorem d_Model_expression_213 : decode b_Model_expression 213 = .ok (.bipush 13, 2) := by decide +kernel
theorem d_Model_expression_215 : decode b_Model_expression 215 = .ok (.if_icmp .ne 7, 3) := by decide +kernel
theorem d_Model_expression_218 : decode b_Model_expression 218 = .ok (.iconst 1, 1) := by decide +kernel
theorem d_Model_expression_219 : decode b_Model_expression 219 = .ok (.goto 4, 3) := by decide +kernel
theorem d_Model_expression_222 : decode b_Model_expression 222 = .ok (.iconst 0, 1) := by decide +kernel
theorem d_Model_expression_223 : decode b_Model_expression 223 = .ok (.invokevirtual 281, 3) := by decide +kernel
theorem d_Model_expression_226 : decode b_Model_expression 226 = .ok (.aload_n 0, 1) := by decide +kernel
theorem d_Model_expression_227 : decode b_Model_expression 227 = .ok (.getfield 98, 3) := by decide +kernel
theorem d_Model_expression_230 : decode b_Model_expression 230 = .ok (.aload_n 0, 1) := by decide +kernel
theorem d_Model_expression_231 : decode b_Model_expression 231 = .ok (.getfield 275, 3) := by decide +kernel
theorem d_Model_expression_234 : decode b_Model_expression 234 = .ok (.iload_n 3, 1) := by decide +kernel
theorem d_Model_expression_235 : decode b_Model_expression 235 = .ok (.iastore, 1) := by decide +kernel
theorem d_Model_expression_236 : decode b_Model_expression 236 = .ok (.aload_n 0, 1) := by decide +kernel
theorem d_Model_expression_237 : decode b_Model_expression 237 = .ok (.dup, 1) := by decide +kernel
theorem d_Model_expression_238 : decode b_Model_expression 238 = .ok (.getfield 275, 3) := by decide +kernel
theorem d_Model_expression_241 : decode b_Model_expression 241 = .ok (.iconst 1, 1) := by decide +kernel
theorem d_Model_expression_242 : decode b_Model_expression 242 = .ok (.iadd, 1) := by decide +kernel
theorem d_Model_expression_243 : decode b_Model_expression 243 = .ok (.putfield 275, 3) := by decide +kernel
theorem d_Model_expression_246 : decode b_Model_expression 246 = .ok (.aload_n 0, 1) := by decide +kernel
theorem d_Model_expression_247 : decode b_Model_expression 247 = .ok (.invokevirtual 219, 3) := by decide +kernel
theorem d_Model_expression_250 : decode b_Model_expression 250 = .ok (.goto (-238), 3) := by decide +kernel
theorem d_Model_expression_253 : decode b_Model_expression 253 = .ok (.return_, 1) := by decide +kernel
set_option maxHeartbeats 4000000 in
set_option maxRecDepth 100000 in
theorem c_Model_expression (l : Launch) {S : St} {S' : St} (h : f_Model_expression S = some S') : MV mw l y_Model_expression b_Model_expression 4 none 4 84 0 0 (fun ad => [.ref (ad 0 0)]) aT aE S S' := by
  refine MV_of "LawfulLotsModel" rfl (by decide) (fun _ => Nat.le_of_ble_eq_true rfl) ?_
  intro p e s m args below meth c D ar ad A Q ls hP F hK hA hw hl hQ
  have hl : lv_has ls 4 [(0, .ref (ad 0 0))] := hl
  obtain ⟨X_0, eX_0⟩ : ∃ X : St → Prop, X = (fun q => ∀ (H : Heap) (locs : List Loc) (pc : Nat) (ls : Array Slot), decode b_Model_expression pc = .ok (.return_, 1) → Bw mw D ar A s.heap H locs ad q → W p l e (RM 4 84) s m args below meth c H locs 0 0 Q (F0 m pc ls [])) := ⟨_, rfl⟩
  have key : ∀ (H : Heap) (locs : List Loc), Bw mw D ar A s.heap H locs ad S → ∀ o, f_Model_expression S = some o → X_0 o → W p l e (RM 4 84) s m args below meth c H locs 0 0 Q (F0 m 0 ls []) := by
    intro H locs hw o h ho
    unfold f_Model_expression at h
    refine lv_aload_n F.1 F.2.1 d_Model_expression_0 rfl (lv_at hl 0 rfl) ?_
    refine lv_iconst (v := 0) F.1 F.2.1 d_Model_expression_1 (by decide) ?_
    obtain ⟨S_1, eS_1, h⟩ := nm_ex h
    refine mp_0_43 F hK hw lk_1054 d_Model_expression_2 eS_1 (fun H locs hw => ?_)
    refine lv_aload_n F.1 F.2.1 d_Model_expression_5 rfl (lv_at hl 0 rfl) ?_
    refine mg_0_12 F hK hw lk_1023 d_Model_expression_6 ?_
    obtain ⟨x1_2, ex1_2, h⟩ := nm_ex h
    refine lv_nm ex1_2 ?_
    refine lv_istore_n (lv' := [(1, .int x1_2), (0, .ref (ad 0 0))]) F.1 F.2.1 d_Model_expression_9 rfl hl (by decide) rfl (fun ls hl => ?_)
    refine lv_iconst (v := 1) F.1 F.2.1 d_Model_expression_10 (by decide) ?_
    refine lv_istore_n (lv' := [(2, .int (1 : Int32)), (1, .int x1_2), (0, .ref (ad 0 0))]) F.1 F.2.1 d_Model_expression_11 rfl hl (by decide) rfl (fun ls hl => ?_)
    obtain ⟨P_12, eP_12⟩ : ∃ P : (St × Int32) → Prop, P = (fun q => ∀ (H : Heap) (locs : List Loc) (ls : Array Slot), Bw mw D ar A s.heap H locs ad q.1 → lv_has ls 4 [(0, .ref (ad 0 0)), (1, .int x1_2), (2, .int q.2)] → W p l e (RM 4 84) s m args below meth c H locs 0 0 Q (F0 m 12 ls [])) := ⟨_, rfl⟩
    have hL_12 : P_12 (S_1, (1 : Int32)) := by
      refine wh_gp (P := P_12) (X := X_0) h ho ?_
      clear h ho
      intro q o h ho
      obtain ⟨S, x2⟩ := q
      have h : Model_expression_l12 x1_2 S x2 = some o := h
      unfold Model_expression_l12 at h
      rw [eP_12]
      intro H locs ls hw hl
      have J_253_l12 : ∀ (S : St) (H : Heap) (locs : List Loc) (ls : Array Slot), Bw mw D ar A s.heap H locs ad S → lv_has ls 4 [] → ∀ o, Model_expression_j253_l12 S = some o → (Sum.elim P_12 X_0) o → W p l e (RM 4 84) s m args below meth c H locs 0 0 Q (F0 m 253 ls []) := by
        intro S H locs ls hw hl o h ho
        unfold Model_expression_j253_l12 at h
        cases h
        have ho : X_0 _ := ho
        rw [eX_0] at ho
        exact ho H locs _ ls d_Model_expression_253 hw
      have J_223_l12 : ∀ (S : St) (x2 : Int32) (x3 : Int32) (t1 : Int32) (H : Heap) (locs : List Loc) (ls : Array Slot), Bw mw D ar A s.heap H locs ad S → lv_has ls 4 [(0, .ref (ad 0 0)), (1, .int x1_2), (2, .int x2), (3, .int x3)] → ∀ o, Model_expression_j223_l12 S x1_2 x2 x3 t1 = some o → (Sum.elim P_12 X_0) o → W p l e (RM 4 84) s m args below meth c H locs 0 0 Q (F0 m 223 ls [.int t1, .ref (ad 0 0)]) := by
        intro S x2 x3 t1 H locs ls hw hl o h ho
        unfold Model_expression_j223_l12 at h
        obtain ⟨S_53, hc_52, h⟩ := bd_ex h
        refine cV_v F hA rfl hK hw (c_Model_comesOut l hc_52) trivial rfl (good_V lk_1295 lk_1297 ls_73 lk_10 lk_1298) (mr_0 hK hw) hd_Model_comesOut ⟨Nat.le_of_ble_eq_true rfl, Nat.le_of_ble_eq_true rfl⟩ rfl hl.1 rfl (Nat.le_of_ble_eq_true rfl) d_Model_expression_223 ⟨(Nat.zero_le _), (Nat.zero_le _)⟩ (fun H locs hw => ?_)
        refine lv_aload_n F.1 F.2.1 d_Model_expression_226 rfl (lv_at hl 0 rfl) ?_
        refine mg_0_42 F hK hw lk_1053 d_Model_expression_227 ?_
        refine lv_aload_n F.1 F.2.1 d_Model_expression_230 rfl (lv_at hl 0 rfl) ?_
        refine mg_0_43 F hK hw lk_1054 d_Model_expression_231 ?_
        refine lv_iload_n F.1 F.2.1 d_Model_expression_234 rfl (lv_at hl 3 rfl) ?_
        obtain ⟨hi_54, h⟩ := gd_ex h
        obtain ⟨S_55, eS_55, h⟩ := nm_ex h
        refine ms_0_42 F hK hw hi_54 d_Model_expression_235 eS_55 (fun H locs hw => ?_)
        refine lv_aload_n F.1 F.2.1 d_Model_expression_236 rfl (lv_at hl 0 rfl) ?_
        refine lv_dup F.1 F.2.1 d_Model_expression_237 rfl ?_
        refine mg_0_43 F hK hw lk_1054 d_Model_expression_238 ?_
        refine lv_iconst (v := 1) F.1 F.2.1 d_Model_expression_241 (by decide) ?_
        refine lv_iadd F.1 F.2.1 d_Model_expression_242 ?_
        obtain ⟨S_56, eS_56, h⟩ := nm_ex h
        refine mp_0_43 F hK hw lk_1054 d_Model_expression_243 eS_56 (fun H locs hw => ?_)
        refine lv_aload_n F.1 F.2.1 d_Model_expression_246 rfl (lv_at hl 0 rfl) ?_
        obtain ⟨S_58, hc_57, h⟩ := bd_ex h
        refine cV_v F hA rfl hK hw (c_Model_next l hc_57) trivial rfl (good_V lk_1265 lk_1267 ls_66 lk_10 lk_1268) (mr_0 hK hw) hd_Model_next ⟨Nat.le_of_ble_eq_true rfl, Nat.le_of_ble_eq_true rfl⟩ rfl hl.1 rfl (Nat.le_of_ble_eq_true rfl) d_Model_expression_247 ⟨(Nat.zero_le _), (Nat.zero_le _)⟩ (fun H locs hw => ?_)
        refine lv_goto (tgt := 12) F.1 F.2.1 d_Model_expression_250 (by decide) ?_
        cases h
        have ho : P_12 _ := ho
        rw [eP_12] at ho
        exact ho H locs ls hw (lv_sub hl [0, 1, 2] rfl)
      have J_195_l12 : ∀ (S : St) (H : Heap) (locs : List Loc) (ls : Array Slot), Bw mw D ar A s.heap H locs ad S → lv_has ls 4 [(0, .ref (ad 0 0))] → ∀ o, Model_expression_j195_l12 S = some o → (Sum.elim P_12 X_0) o → W p l e (RM 4 84) s m args below meth c H locs 0 0 Q (F0 m 195 ls []) := by
        intro S H locs ls hw hl o h ho
        unfold Model_expression_j195_l12 at h
        refine lv_aload_n F.1 F.2.1 d_Model_expression_195 rfl (lv_at hl 0 rfl) ?_
        refine lv_iconst (v := 0) F.1 F.2.1 d_Model_expression_196 (by decide) ?_
        obtain ⟨S_51, hc_50, h⟩ := bd_ex h
        refine cV_v F hA rfl hK hw (c_Model_comesOut l hc_50) trivial rfl (good_V lk_1295 lk_1297 ls_73 lk_10 lk_1298) (mr_0 hK hw) hd_Model_comesOut ⟨Nat.le_of_ble_eq_true rfl, Nat.le_of_ble_eq_true rfl⟩ rfl hl.1 rfl (Nat.le_of_ble_eq_true rfl) d_Model_expression_197 ⟨(Nat.zero_le _), (Nat.zero_le _)⟩ (fun H locs hw => ?_)
        cases h
        have ho : X_0 _ := ho
        rw [eX_0] at ho
        exact ho H locs _ ls d_Model_expression_200 hw
      have J_177_l12 : ∀ (S : St) (t0 : Int32) (H : Heap) (locs : List Loc) (ls : Array Slot), Bw mw D ar A s.heap H locs ad S → lv_has ls 4 [(0, .ref (ad 0 0)), (1, .int x1_2)] → ∀ o, Model_expression_j177_l12 S x1_2 t0 = some o → (Sum.elim P_12 X_0) o → W p l e (RM 4 84) s m args below meth c H locs 0 0 Q (F0 m 177 ls [.int t0]) := by
        intro S t0 H locs ls hw hl o h ho
        unfold Model_expression_j177_l12 at h
        refine lv_istore_n (lv' := [(2, .int t0), (0, .ref (ad 0 0)), (1, .int x1_2)]) F.1 F.2.1 d_Model_expression_177 rfl hl (by decide) rfl (fun ls hl => ?_)
        refine lv_iload_n F.1 F.2.1 d_Model_expression_178 rfl (lv_at hl 0 rfl) ?_
        refine lv_if_ne (tgt := 201) F.1 F.2.1 d_Model_expression_179 (by decide) (fun c_43 => ?_) (fun c_43 => ?_)
        · replace h := iq c_43 h
          refine lv_aload_n F.1 F.2.1 d_Model_expression_201 rfl (lv_at hl 1 rfl) ?_
          refine mg_0_5 F hK hw lk_1016 d_Model_expression_202 ?_
          refine lv_aload_n F.1 F.2.1 d_Model_expression_205 rfl (lv_at hl 1 rfl) ?_
          refine mg_0_11 F hK hw lk_1022 d_Model_expression_206 ?_
          obtain ⟨hi_44, h⟩ := gd_ex h
          refine ml_0_5 F hK hw hi_44 d_Model_expression_209 ?_
          obtain ⟨x3_45, ex3_45, h⟩ := nm_ex h
          refine lv_nm ex3_45 ?_
          refine lv_istore_n (lv' := [(3, .int x3_45), (2, .int t0), (0, .ref (ad 0 0)), (1, .int x1_2)]) F.1 F.2.1 d_Model_expression_210 rfl hl (by decide) rfl (fun ls hl => ?_)
          refine lv_aload_n F.1 F.2.1 d_Model_expression_211 rfl (lv_at hl 2 rfl) ?_
          refine lv_iload_n F.1 F.2.1 d_Model_expression_212 rfl (lv_at hl 0 rfl) ?_
          refine lv_bipush (v := 13) F.1 F.2.1 d_Model_expression_213 (by decide) ?_
          refine lv_icmp_ne (tgt := 222) F.1 F.2.1 d_Model_expression_215 (by decide) (fun c_46 => ?_) (fun c_46 => ?_)
          · replace h := iq c_46 h
            refine lv_iconst (v := 0) F.1 F.2.1 d_Model_expression_222 (by decide) ?_
            exact J_223_l12 S t0 x3_45 (0 : Int32) H locs ls hw (lv_sub hl [2, 3, 1, 0] rfl) o h ho
          · replace h := ip c_46 h
            refine lv_iconst (v := 1) F.1 F.2.1 d_Model_expression_218 (by decide) ?_
            refine lv_goto (tgt := 223) F.1 F.2.1 d_Model_expression_219 (by decide) ?_
            exact J_223_l12 S t0 x3_45 (1 : Int32) H locs ls hw (lv_sub hl [2, 3, 1, 0] rfl) o h ho
        · replace h := ip c_43 h
          refine lv_aload_n F.1 F.2.1 d_Model_expression_182 rfl (lv_at hl 1 rfl) ?_
          refine mg_0_12 F hK hw lk_1023 d_Model_expression_183 ?_
          refine lv_iload_n F.1 F.2.1 d_Model_expression_186 rfl (lv_at hl 2 rfl) ?_
          refine lv_icmp_le (tgt := 195) F.1 F.2.1 d_Model_expression_187 (by decide) (fun c_47 => ?_) (fun c_47 => ?_)
          · replace h := ip c_47 h
            exact J_195_l12 S H locs ls hw (lv_sub hl [1] rfl) o h ho
          · replace h := iq c_47 h
            refine lv_aload_n F.1 F.2.1 d_Model_expression_190 rfl (lv_at hl 1 rfl) ?_
            refine lv_iconst (v := 1) F.1 F.2.1 d_Model_expression_191 (by decide) ?_
            obtain ⟨S_49, hc_48, h⟩ := bd_ex h
            refine cV_v F hA rfl hK hw (c_Model_fail l hc_48) trivial rfl (good_V lk_1261 lk_1263 ls_65 lk_10 lk_1264) (mr_0 hK hw) hd_Model_fail ⟨Nat.le_of_ble_eq_true rfl, Nat.le_of_ble_eq_true rfl⟩ rfl hl.1 rfl (Nat.le_of_ble_eq_true rfl) d_Model_expression_192 ⟨(Nat.zero_le _), (Nat.zero_le _)⟩ (fun H locs hw => ?_)
            exact J_195_l12 S_49 H locs ls hw (lv_sub hl [1] rfl) o h ho
      have J_172_l12 : ∀ (S : St) (H : Heap) (locs : List Loc) (ls : Array Slot), Bw mw D ar A s.heap H locs ad S → lv_has ls 4 [(0, .ref (ad 0 0)), (1, .int x1_2)] → ∀ o, Model_expression_j172_l12 S x1_2 = some o → (Sum.elim P_12 X_0) o → W p l e (RM 4 84) s m args below meth c H locs 0 0 Q (F0 m 172 ls []) := by
        intro S H locs ls hw hl o h ho
        unfold Model_expression_j172_l12 at h
        refine lv_iconst (v := 1) F.1 F.2.1 d_Model_expression_172 (by decide) ?_
        refine lv_goto (tgt := 177) F.1 F.2.1 d_Model_expression_173 (by decide) ?_
        exact J_177_l12 S (1 : Int32) H locs ls hw (lv_sub hl [0, 1] rfl) o h ho
      have J_145_l12 : ∀ (S : St) (H : Heap) (locs : List Loc) (ls : Array Slot), Bw mw D ar A s.heap H locs ad S → lv_has ls 4 [(0, .ref (ad 0 0)), (1, .int x1_2)] → ∀ o, Model_expression_j145_l12 S x1_2 = some o → (Sum.elim P_12 X_0) o → W p l e (RM 4 84) s m args below meth c H locs 0 0 Q (F0 m 145 ls []) := by
        intro S H locs ls hw hl o h ho
        unfold Model_expression_j145_l12 at h
        refine lv_aload_n F.1 F.2.1 d_Model_expression_145 rfl (lv_at hl 0 rfl) ?_
        refine lv_bipush (v := 11) F.1 F.2.1 d_Model_expression_146 (by decide) ?_
        obtain ⟨v_35, hc_34, h⟩ := bd_ex h
        refine cV_i F hA rfl hK hw (c_Model_is l hc_34) trivial rfl (good_V lk_1249 lk_1251 ls_62 lk_10 lk_1252) (mr_0 hK hw) hd_Model_is ⟨Nat.le_of_ble_eq_true rfl, Nat.le_of_ble_eq_true rfl⟩ rfl hl.1 rfl (Nat.le_of_ble_eq_true rfl) d_Model_expression_148 ⟨(Nat.zero_le _), (Nat.zero_le _)⟩ (fun H locs hw => ?_)
        refine lv_if_ne (tgt := 172) F.1 F.2.1 d_Model_expression_151 (by decide) (fun c_36 => ?_) (fun c_36 => ?_)
        · replace h := iq c_36 h
          exact J_172_l12 S H locs ls hw (lv_sub hl [0, 1] rfl) o h ho
        · replace h := ip c_36 h
          refine lv_aload_n F.1 F.2.1 d_Model_expression_154 rfl (lv_at hl 0 rfl) ?_
          refine lv_bipush (v := 12) F.1 F.2.1 d_Model_expression_155 (by decide) ?_
          obtain ⟨v_38, hc_37, h⟩ := bd_ex h
          refine cV_i F hA rfl hK hw (c_Model_is l hc_37) trivial rfl (good_V lk_1249 lk_1251 ls_62 lk_10 lk_1252) (mr_0 hK hw) hd_Model_is ⟨Nat.le_of_ble_eq_true rfl, Nat.le_of_ble_eq_true rfl⟩ rfl hl.1 rfl (Nat.le_of_ble_eq_true rfl) d_Model_expression_157 ⟨(Nat.zero_le _), (Nat.zero_le _)⟩ (fun H locs hw => ?_)
          refine lv_if_ne (tgt := 172) F.1 F.2.1 d_Model_expression_160 (by decide) (fun c_39 => ?_) (fun c_39 => ?_)
          · replace h := iq c_39 h
            exact J_172_l12 S H locs ls hw (lv_sub hl [0, 1] rfl) o h ho
          · replace h := ip c_39 h
            refine lv_aload_n F.1 F.2.1 d_Model_expression_163 rfl (lv_at hl 0 rfl) ?_
            refine lv_bipush (v := 13) F.1 F.2.1 d_Model_expression_164 (by decide) ?_
            obtain ⟨v_41, hc_40, h⟩ := bd_ex h
            refine cV_i F hA rfl hK hw (c_Model_is l hc_40) trivial rfl (good_V lk_1249 lk_1251 ls_62 lk_10 lk_1252) (mr_0 hK hw) hd_Model_is ⟨Nat.le_of_ble_eq_true rfl, Nat.le_of_ble_eq_true rfl⟩ rfl hl.1 rfl (Nat.le_of_ble_eq_true rfl) d_Model_expression_166 ⟨(Nat.zero_le _), (Nat.zero_le _)⟩ (fun H locs hw => ?_)
            refine lv_if_eq (tgt := 176) F.1 F.2.1 d_Model_expression_169 (by decide) (fun c_42 => ?_) (fun c_42 => ?_)
            · replace h := ip c_42 h
              refine lv_iconst (v := 0) F.1 F.2.1 d_Model_expression_176 (by decide) ?_
              exact J_177_l12 S (0 : Int32) H locs ls hw (lv_sub hl [0, 1] rfl) o h ho
            · replace h := iq c_42 h
              exact J_172_l12 S H locs ls hw (lv_sub hl [0, 1] rfl) o h ho
      refine lv_iload_n F.1 F.2.1 d_Model_expression_12 rfl (lv_at hl 2 rfl) ?_
      refine lv_if_eq (tgt := 253) F.1 F.2.1 d_Model_expression_13 (by decide) (fun c_3 => ?_) (fun c_3 => ?_)
      · replace h := ip c_3 h
        exact J_253_l12 S H locs ls hw (lv_sub hl [] rfl) o h ho
      · replace h := iq c_3 h
        refine lv_aload_n F.1 F.2.1 d_Model_expression_16 rfl (lv_at hl 0 rfl) ?_
        refine mg_0_13 F hK hw lk_1024 d_Model_expression_17 ?_
        refine lv_if_ne (tgt := 253) F.1 F.2.1 d_Model_expression_20 (by decide) (fun c_4 => ?_) (fun c_4 => ?_)
        · replace h := iq c_4 h
          exact J_253_l12 S H locs ls hw (lv_sub hl [] rfl) o h ho
        · replace h := ip c_4 h
          obtain ⟨S_17, hc_18, h⟩ := bd_ex h
          obtain ⟨X_23, eX_23⟩ : ∃ X : St → Prop, X = (fun q => ∀ (H : Heap) (locs : List Loc) (ls : Array Slot), Bw mw D ar A s.heap H locs ad q → lv_has ls 4 [(0, .ref (ad 0 0)), (1, .int x1_2)] → W p l e (RM 4 84) s m args below meth c H locs 0 0 Q (F0 m 84 ls [])) := ⟨_, rfl⟩
          have hX_23 : X_23 S_17 := by
            rw [eX_23]
            intro H locs ls hw hl
            refine lv_aload_n F.1 F.2.1 d_Model_expression_84 rfl (lv_at hl 0 rfl) ?_
            obtain ⟨S_20, hc_19, h⟩ := bd_ex h
            refine cV_v F hA rfl hK hw (c_Model_unit l hc_19) trivial rfl (good_V lk_1283 lk_1285 ls_70 lk_10 lk_1286) (mr_0 hK hw) hd_Model_unit ⟨Nat.le_of_ble_eq_true rfl, Nat.le_of_ble_eq_true rfl⟩ rfl hl.1 rfl (Nat.le_of_ble_eq_true rfl) d_Model_expression_85 ⟨(Nat.zero_le _), (Nat.zero_le _)⟩ (fun H locs hw => ?_)
            refine lv_aload_n F.1 F.2.1 d_Model_expression_88 rfl (lv_at hl 0 rfl) ?_
            refine mg_0_13 F hK hw lk_1024 d_Model_expression_89 ?_
            refine lv_if_le (tgt := 96) F.1 F.2.1 d_Model_expression_92 (by decide) (fun c_21 => ?_) (fun c_21 => ?_)
            · replace h := ip c_21 h
              obtain ⟨S_32, hc_33, h⟩ := bd_ex h
              obtain ⟨X_96, eX_96⟩ : ∃ X : St → Prop, X = (fun q => ∀ (H : Heap) (locs : List Loc) (ls : Array Slot), Bw mw D ar A s.heap H locs ad q → lv_has ls 4 [(0, .ref (ad 0 0)), (1, .int x1_2)] → W p l e (RM 4 84) s m args below meth c H locs 0 0 Q (F0 m 145 ls [])) := ⟨_, rfl⟩
              have hX_96 : X_96 S_32 := by
                rw [eX_96]
                intro H locs ls hw hl
                exact J_145_l12 S_32 H locs ls hw (lv_sub hl [0, 1] rfl) o h ho
              obtain ⟨P_96, eP_96⟩ : ∃ P : St → Prop, P = (fun q => ∀ (H : Heap) (locs : List Loc) (ls : Array Slot), Bw mw D ar A s.heap H locs ad q → lv_has ls 4 [(0, .ref (ad 0 0)), (1, .int x1_2)] → W p l e (RM 4 84) s m args below meth c H locs 0 0 Q (F0 m 96 ls [])) := ⟨_, rfl⟩
              have hL_96 : P_96 S_20 := by
                refine wh_gp (P := P_96) (X := X_96) hc_33 hX_96 ?_
                clear h
                intro S o h ho
                have h : Model_expression_l96 x1_2 S = some o := h
                unfold Model_expression_l96 at h
                rw [eP_96]
                intro H locs ls hw hl
                refine lv_aload_n F.1 F.2.1 d_Model_expression_96 rfl (lv_at hl 0 rfl) ?_
                refine lv_bipush (v := 10) F.1 F.2.1 d_Model_expression_97 (by decide) ?_
                obtain ⟨v_23, hc_22, h⟩ := bd_ex h
                refine cV_i F hA rfl hK hw (c_Model_is l hc_22) trivial rfl (good_V lk_1249 lk_1251 ls_62 lk_10 lk_1252) (mr_0 hK hw) hd_Model_is ⟨Nat.le_of_ble_eq_true rfl, Nat.le_of_ble_eq_true rfl⟩ rfl hl.1 rfl (Nat.le_of_ble_eq_true rfl) d_Model_expression_99 ⟨(Nat.zero_le _), (Nat.zero_le _)⟩ (fun H locs hw => ?_)
                refine lv_if_eq (tgt := 145) F.1 F.2.1 d_Model_expression_102 (by decide) (fun c_24 => ?_) (fun c_24 => ?_)
                · replace h := ip c_24 h
                  cases h
                  have ho : X_96 _ := ho
                  rw [eX_96] at ho
                  exact ho H locs ls hw (lv_sub hl [0, 1] rfl)
                · replace h := iq c_24 h
                  refine lv_aload_n F.1 F.2.1 d_Model_expression_105 rfl (lv_at hl 0 rfl) ?_
                  refine mg_0_12 F hK hw lk_1023 d_Model_expression_106 ?_
                  refine lv_iload_n F.1 F.2.1 d_Model_expression_109 rfl (lv_at hl 1 rfl) ?_
                  refine lv_icmp_le (tgt := 145) F.1 F.2.1 d_Model_expression_110 (by decide) (fun c_25 => ?_) (fun c_25 => ?_)
                  · replace h := ip c_25 h
                    cases h
                    have ho : X_96 _ := ho
                    rw [eX_96] at ho
                    exact ho H locs ls hw (lv_sub hl [0, 1] rfl)
                  · replace h := iq c_25 h
                    refine lv_aload_n F.1 F.2.1 d_Model_expression_113 rfl (lv_at hl 0 rfl) ?_
                    refine lv_iconst (v := 0) F.1 F.2.1 d_Model_expression_114 (by decide) ?_
                    obtain ⟨S_27, hc_26, h⟩ := bd_ex h
                    refine cV_v F hA rfl hK hw (c_Model_comesOut l hc_26) trivial rfl (good_V lk_1295 lk_1297 ls_73 lk_10 lk_1298) (mr_0 hK hw) hd_Model_comesOut ⟨Nat.le_of_ble_eq_true rfl, Nat.le_of_ble_eq_true rfl⟩ rfl hl.1 rfl (Nat.le_of_ble_eq_true rfl) d_Model_expression_115 ⟨(Nat.zero_le _), (Nat.zero_le _)⟩ (fun H locs hw => ?_)
                    refine lv_aload_n F.1 F.2.1 d_Model_expression_118 rfl (lv_at hl 0 rfl) ?_
                    refine lv_dup F.1 F.2.1 d_Model_expression_119 rfl ?_
                    refine mg_0_43 F hK hw lk_1054 d_Model_expression_120 ?_
                    refine lv_iconst (v := 1) F.1 F.2.1 d_Model_expression_123 (by decide) ?_
                    refine lv_isub F.1 F.2.1 d_Model_expression_124 ?_
                    obtain ⟨S_28, eS_28, h⟩ := nm_ex h
                    refine mp_0_43 F hK hw lk_1054 d_Model_expression_125 eS_28 (fun H locs hw => ?_)
                    refine lv_aload_n F.1 F.2.1 d_Model_expression_128 rfl (lv_at hl 0 rfl) ?_
                    refine lv_dup F.1 F.2.1 d_Model_expression_129 rfl ?_
                    refine mg_0_12 F hK hw lk_1023 d_Model_expression_130 ?_
                    refine lv_iconst (v := 1) F.1 F.2.1 d_Model_expression_133 (by decide) ?_
                    refine lv_isub F.1 F.2.1 d_Model_expression_134 ?_
                    obtain ⟨S_29, eS_29, h⟩ := nm_ex h
                    refine mp_0_12 F hK hw lk_1023 d_Model_expression_135 eS_29 (fun H locs hw => ?_)
                    refine lv_aload_n F.1 F.2.1 d_Model_expression_138 rfl (lv_at hl 0 rfl) ?_
                    obtain ⟨S_31, hc_30, h⟩ := bd_ex h
                    refine cV_v F hA rfl hK hw (c_Model_next l hc_30) trivial rfl (good_V lk_1265 lk_1267 ls_66 lk_10 lk_1268) (mr_0 hK hw) hd_Model_next ⟨Nat.le_of_ble_eq_true rfl, Nat.le_of_ble_eq_true rfl⟩ rfl hl.1 rfl (Nat.le_of_ble_eq_true rfl) d_Model_expression_139 ⟨(Nat.zero_le _), (Nat.zero_le _)⟩ (fun H locs hw => ?_)
                    refine lv_goto (tgt := 96) F.1 F.2.1 d_Model_expression_142 (by decide) ?_
                    cases h
                    have ho : P_96 _ := ho
                    rw [eP_96] at ho
                    exact ho H locs ls hw (lv_sub hl [0, 1] rfl)
              rw [eP_96] at hL_96
              exact hL_96 H locs ls hw (lv_sub hl [0, 1] rfl)
            · replace h := iq c_21 h
              cases h
              have ho : X_0 _ := ho
              rw [eX_0] at ho
              exact ho H locs _ ls d_Model_expression_95 hw
          obtain ⟨P_23, eP_23⟩ : ∃ P : St → Prop, P = (fun q => ∀ (H : Heap) (locs : List Loc) (ls : Array Slot), Bw mw D ar A s.heap H locs ad q → lv_has ls 4 [(0, .ref (ad 0 0)), (1, .int x1_2)] → W p l e (RM 4 84) s m args below meth c H locs 0 0 Q (F0 m 23 ls [])) := ⟨_, rfl⟩
          have hL_23 : P_23 S := by
            refine wh_gp (P := P_23) (X := X_23) hc_18 hX_23 ?_
            clear h
            intro S o h ho
            have h : Model_expression_l23 x1_2 S = some o := h
            unfold Model_expression_l23 at h
            rw [eP_23]
            intro H locs ls hw hl
            have J_46_l23 : ∀ (S : St) (H : Heap) (locs : List Loc) (ls : Array Slot), Bw mw D ar A s.heap H locs ad S → lv_has ls 4 [(0, .ref (ad 0 0)), (1, .int x1_2)] → ∀ o, Model_expression_j46_l23 S x1_2 = some o → (Sum.elim P_23 X_23) o → W p l e (RM 4 84) s m args below meth c H locs 0 0 Q (F0 m 46 ls []) := by
              intro S H locs ls hw hl o h ho
              unfold Model_expression_j46_l23 at h
              refine lv_aload_n F.1 F.2.1 d_Model_expression_46 rfl (lv_at hl 0 rfl) ?_
              refine lv_dup F.1 F.2.1 d_Model_expression_47 rfl ?_
              refine mg_0_12 F hK hw lk_1023 d_Model_expression_48 ?_
              refine lv_iconst (v := 1) F.1 F.2.1 d_Model_expression_51 (by decide) ?_
              refine lv_iadd F.1 F.2.1 d_Model_expression_52 ?_
              obtain ⟨S_11, eS_11, h⟩ := nm_ex h
              refine mp_0_12 F hK hw lk_1023 d_Model_expression_53 eS_11 (fun H locs hw => ?_)
              refine lv_aload_n F.1 F.2.1 d_Model_expression_56 rfl (lv_at hl 0 rfl) ?_
              obtain ⟨S_13, hc_12, h⟩ := bd_ex h
              refine cV_v F hA rfl hK hw (c_Model_next l hc_12) trivial rfl (good_V lk_1265 lk_1267 ls_66 lk_10 lk_1268) (mr_0 hK hw) hd_Model_next ⟨Nat.le_of_ble_eq_true rfl, Nat.le_of_ble_eq_true rfl⟩ rfl hl.1 rfl (Nat.le_of_ble_eq_true rfl) d_Model_expression_57 ⟨(Nat.zero_le _), (Nat.zero_le _)⟩ (fun H locs hw => ?_)
              refine lv_aload_n F.1 F.2.1 d_Model_expression_60 rfl (lv_at hl 0 rfl) ?_
              refine mg_0_42 F hK hw lk_1053 d_Model_expression_61 ?_
              refine lv_aload_n F.1 F.2.1 d_Model_expression_64 rfl (lv_at hl 0 rfl) ?_
              refine mg_0_43 F hK hw lk_1054 d_Model_expression_65 ?_
              refine lv_bipush (v := 9) F.1 F.2.1 d_Model_expression_68 (by decide) ?_
              obtain ⟨hi_14, h⟩ := gd_ex h
              obtain ⟨S_15, eS_15, h⟩ := nm_ex h
              refine ms_0_42 F hK hw hi_14 d_Model_expression_70 eS_15 (fun H locs hw => ?_)
              refine lv_aload_n F.1 F.2.1 d_Model_expression_71 rfl (lv_at hl 0 rfl) ?_
              refine lv_dup F.1 F.2.1 d_Model_expression_72 rfl ?_
              refine mg_0_43 F hK hw lk_1054 d_Model_expression_73 ?_
              refine lv_iconst (v := 1) F.1 F.2.1 d_Model_expression_76 (by decide) ?_
              refine lv_iadd F.1 F.2.1 d_Model_expression_77 ?_
              obtain ⟨S_16, eS_16, h⟩ := nm_ex h
              refine mp_0_43 F hK hw lk_1054 d_Model_expression_78 eS_16 (fun H locs hw => ?_)
              refine lv_goto (tgt := 23) F.1 F.2.1 d_Model_expression_81 (by decide) ?_
              cases h
              have ho : P_23 _ := ho
              rw [eP_23] at ho
              exact ho H locs ls hw (lv_sub hl [0, 1] rfl)
            refine lv_aload_n F.1 F.2.1 d_Model_expression_23 rfl (lv_at hl 0 rfl) ?_
            refine lv_bipush (v := 9) F.1 F.2.1 d_Model_expression_24 (by decide) ?_
            obtain ⟨v_6, hc_5, h⟩ := bd_ex h
            refine cV_i F hA rfl hK hw (c_Model_is l hc_5) trivial rfl (good_V lk_1249 lk_1251 ls_62 lk_10 lk_1252) (mr_0 hK hw) hd_Model_is ⟨Nat.le_of_ble_eq_true rfl, Nat.le_of_ble_eq_true rfl⟩ rfl hl.1 rfl (Nat.le_of_ble_eq_true rfl) d_Model_expression_26 ⟨(Nat.zero_le _), (Nat.zero_le _)⟩ (fun H locs hw => ?_)
            refine lv_if_eq (tgt := 84) F.1 F.2.1 d_Model_expression_29 (by decide) (fun c_7 => ?_) (fun c_7 => ?_)
            · replace h := ip c_7 h
              cases h
              have ho : X_23 _ := ho
              rw [eX_23] at ho
              exact ho H locs ls hw (lv_sub hl [0, 1] rfl)
            · replace h := iq c_7 h
              refine lv_aload_n F.1 F.2.1 d_Model_expression_32 rfl (lv_at hl 0 rfl) ?_
              refine mg_0_12 F hK hw lk_1023 d_Model_expression_33 ?_
              refine lv_bipush (v := 6) F.1 F.2.1 d_Model_expression_36 (by decide) ?_
              refine lv_icmp_ne (tgt := 46) F.1 F.2.1 d_Model_expression_38 (by decide) (fun c_8 => ?_) (fun c_8 => ?_)
              · replace h := iq c_8 h
                exact J_46_l23 S H locs ls hw (lv_sub hl [0, 1] rfl) o h ho
              · replace h := ip c_8 h
                refine lv_aload_n F.1 F.2.1 d_Model_expression_41 rfl (lv_at hl 0 rfl) ?_
                refine lv_iconst (v := 2) F.1 F.2.1 d_Model_expression_42 (by decide) ?_
                obtain ⟨S_10, hc_9, h⟩ := bd_ex h
                refine cV_v F hA rfl hK hw (c_Model_fail l hc_9) trivial rfl (good_V lk_1261 lk_1263 ls_65 lk_10 lk_1264) (mr_0 hK hw) hd_Model_fail ⟨Nat.le_of_ble_eq_true rfl, Nat.le_of_ble_eq_true rfl⟩ rfl hl.1 rfl (Nat.le_of_ble_eq_true rfl) d_Model_expression_43 ⟨(Nat.zero_le _), (Nat.zero_le _)⟩ (fun H locs hw => ?_)
                exact J_46_l23 S_10 H locs ls hw (lv_sub hl [0, 1] rfl) o h ho
          rw [eP_23] at hL_23
          exact hL_23 H locs ls hw (lv_sub hl [0, 1] rfl)
    rw [eP_12] at hL_12
    exact hL_12 H locs ls hw (lv_sub hl [2, 1, 0] rfl)
  exact key _ _ hw _ h (by rw [eX_0]; exact fun H locs pc ls hd hw => hQ H locs pc ls ad rfl hd hw)
theorem d_Model_literal_0 : decode b_Model_literal 0 = .ok (.iconst 0, 1) := by decide +kernel
theorem d_Model_literal_1 : decode b_Model_literal 1 = .ok (.istore_n 2, 1) := by decide +kernel
theorem d_Model_literal_2 : decode b_Model_literal 2 = .ok (.aload_n 0, 1) := by decide +kernel
theorem d_Model_literal_3 : decode b_Model_literal 3 = .ok (.bipush 31, 2) := by decide +kernel
theorem d_Model_literal_5 : decode b_Model_literal 5 = .ok (.invokevirtual 216, 3) := by decide +kernel
theorem d_Model_literal_8 : decode b_Model_literal 8 = .ok (.ifCond .eq 20, 3) := by decide +kernel
theorem d_Model_literal_11 : decode b_Model_literal 11 = .ok (.iload_n 2, 1) := by decide +kernel
theorem d_Model_literal_12 : decode b_Model_literal 12 = .ok (.ifCond .ne 7, 3) := by decide +kernel
theorem d_Model_literal_15 : decode b_Model_literal 15 = .ok (.iconst 1, 1) := by decide +kernel
theorem d_Model_literal_16 : decode b_Model_literal 16 = .ok (.goto 4, 3) := by decide +kernel
theorem d_Model_literal_19 : decode b_Model_literal 19 = .ok (.iconst 0, 1) := by decide +kernel
theorem d_Model_literal_20 : decode b_Model_literal 20 = .ok (.istore_n 2, 1) := by decide +kernel
theorem d_Model_literal_21 : decode b_Model_literal 21 = .ok (.aload_n 0, 1) := by decide +kernel
theorem d_Model_literal_22 : decode b_Model_literal 22 = .ok (.invokevirtual 219, 3) := by decide +kernel
theorem d_Model_literal_25 : decode b_Model_literal 25 = .ok (.goto (-23), 3) := by decide +kernel
theorem d_Model_literal_28 : decode b_Model_literal 28 = .ok (.aload_n 0, 1) := by decide +kernel
theorem d_Model_literal_29 : decode b_Model_literal 29 = .ok (.getfield 238, 3) := by decide +kernel
theorem d_Model_literal_32 : decode b_Model_literal 32 = .ok (.istore_n 3, 1) := by decide +kernel
theorem d_Model_literal_33 : decode b_Model_literal 33 = .ok (.aload_n 0, 1) := by decide +kernel
theorem d_Model_literal_34 : decode b_Model_literal 34 = .ok (.invokevirtual 257, 3) := by decide +kernel
theorem d_Model_literal_37 : decode b_Model_literal 37 = .ok (.aload_n 0, 1) := by decide +kernel
theorem d_Model_literal_38 : decode b_Model_literal 38 = .ok (.getfield 198, 3) := by decide +kernel
theorem d_Model_literal_41 : decode b_Model_literal 41 = .ok (.ifCond .le 7, 3) := by decide +kernel
theorem d_Model_literal_44 : decode b_Model_literal 44 = .ok (.iconst 0, 1) := by decide +kernel
theorem d_Model_literal_45 : decode b_Model_literal 45 = .ok (.goto 14, 3) := by decide +kernel
theorem d_Model_literal_48 : decode b_Model_literal 48 = .ok (.aload_n 0, 1) := by decide +kernel
theorem d_Model_literal_49 : decode b_Model_literal 49 = .ok (.getfield 20, 3) := by decide +kernel
theorem d_Model_literal_52 : decode b_Model_literal 52 = .ok (.aload_n 0, 1) := by decide +kernel
theorem d_Model_literal_53 : decode b_Model_literal 53 = .ok (.getfield 201, 3) := by decide +kernel
theorem d_Model_literal_56 : decode b_Model_literal 56 = .ok (.iaload, 1) := by decide +kernel
theorem d_Model_literal_57 : decode b_Model_literal 57 = .ok (.iconst 4, 1) := by decide +kernel
theorem d_Model_literal_58 : decode b_Model_literal 58 = .ok (.isub, 1) := by decide +kernel
theorem d_Model_literal_59 : decode b_Model_literal 59 = .ok (.istore 4, 2) := by decide +kernel
theorem d_Model_literal_61 : decode b_Model_literal 61 = .ok (.aload_n 0, 1) := by decide +kernel
theorem d_Model_literal_62 : decode b_Model_literal 62 = .ok (.getfield 198, 3) := by decide +kernel
theorem d_Model_literal_65 : decode b_Model_literal 65 = .ok (.ifCond .ne 19, 3) := by decide +kernel
theorem d_Model_literal_68 : decode b_Model_literal 68 = .ok (.iload 4, 2) := by decide +kernel
theorem d_Model_literal_70 : decode b_Model_literal 70 = .ok (.ifCond .lt 9, 3) := by decide +kernel
theorem d_Model_literal_73 : decode b_Model_literal 73 = .ok (.iload 4, 2) := by decide +kernel
theorem d_Model_literal_75 : decode b_Model_literal 75 = .ok (.iconst 3, 1) := by decide +kernel
theorem d_Model_literal_76 : decode b_Model_literal 76 = .ok (.if_icmp .le 8, 3) := by decide +kernel
theorem d_Model_literal_79 : decode b_Model_literal 79 = .ok (.aload_n 0, 1) := by decide +kernel
theorem d_Model_literal_80 : decode b_Model_literal 80 = .ok (.iconst 1, 1) := by decide +kernel
theorem d_Model_literal_81 : decode b_Model_literal 81 = .ok (.invokevirtual 213, 3) := by decide +kernel
theorem d_Model_literal_84 : decode b_Model_literal 84 = .ok (.aload_n 0, 1) := by decide +kernel
theorem d_Model_literal_85 : decode b_Model_literal 85 = .ok (.invokevirtual 219, 3) := by decide +kernel
theorem d_Model_literal_88 : decode b_Model_literal 88 = .ok (.aload_n 0, 1) := by decide +kernel
theorem d_Model_literal_89 : decode b_Model_literal 89 = .ok (.getfield 238, 3) := by decide +kernel
theorem d_Model_literal_92 : decode b_Model_literal 92 = .ok (.istore 5, 2) := by decide +kernel
theorem d_Model_literal_94 : decode b_Model_literal 94 = .ok (.aload_n 0, 1) := by decide +kernel
theorem d_Model_literal_95 : decode b_Model_literal 95 = .ok (.invokevirtual 257, 3) := by decide +kernel
theorem d_Model_literal_98 : decode b_Model_literal 98 = .ok (.aload_n 0, 1) := by decide +kernel
theorem d_Model_literal_99 : decode b_Model_literal 99 = .ok (.getfield 198, 3) := by decide +kernel
theorem d_Model_literal_102 : decode b_Model_literal 102 = .ok (.ifCond .le 4, 3) := by decide +kernel
theorem d_Model_literal_105 : decode b_Model_literal 105 = .ok (.return_, 1) := by decide +kernel
theorem d_Model_literal_106 : decode b_Model_literal 106 = .ok (.sipush 200, 3) := by decide +kernel
theorem d_Model_literal_109 : decode b_Model_literal 109 = .ok (.aload_n 0, 1) := by decide +kernel
theorem d_Model_literal_110 : decode b_Model_literal 110 = .ok (.getfield 231, 3) := by decide +kernel
theorem d_Model_literal_113 : decode b_Model_literal 113 = .ok (.imul, 1) := by decide +kernel
theorem d_Model_literal_114 : decode b_Model_literal 114 = .ok (.aload_n 0, 1) := by decide +kernel
theorem d_Model_literal_115 : decode b_Model_literal 115 = .ok (.getfield 70, 3) := by decide +kernel
theorem d_Model_literal_118 : decode b_Model_literal 118 = .ok (.aload_n 0, 1) := by decide +kernel
theorem d_Model_literal_119 : decode b_Model_literal 119 = .ok (.getfield 231, 3) := by decide +kernel
theorem d_Model_literal_122 : decode b_Model_literal 122 = .ok (.iaload, 1) := by decide +kernel
theorem d_Model_literal_123 : decode b_Model_literal 123 = .ok (.iadd, 1) := by decide +kernel
theorem d_Model_literal_124 : decode b_Model_literal 124 = .ok (.istore 6, 2) := by decide +kernel
theorem d_Model_literal_126 : decode b_Model_literal 126 = .ok (.aload_n 0, 1) := by decide +kernel
theorem d_Model_literal_127 : decode b_Model_literal 127 = .ok (.getfield 73, 3) := by decide +kernel
theorem d_Model_literal_130 : decode b_Model_literal 130 = .ok (.iload 6, 2) := by decide +kernel
theorem d_Model_literal_132 : decode b_Model_literal 132 = .ok (.iload 4, 2) := by decide +kernel
theorem d_Model_literal_134 : decode b_Model_literal 134 = .ok (.iastore, 1) := by decide +kernel
theorem d_Model_literal_135 : decode b_Model_literal 135 = .ok (.aload_n 0, 1) := by decide +kernel
theorem d_Model_literal_136 : decode b_Model_literal 136 = .ok (.getfield 76, 3) := by decide +kernel
theorem d_Model_literal_139 : decode b_Model_literal 139 = .ok (.iload 6, 2) := by decide +kernel
theorem d_Model_literal_141 : decode b_Model_literal 141 = .ok (.iload_n 2, 1) := by decide +kernel
theorem d_Model_literal_142 : decode b_Model_literal 142 = .ok (.bastore, 1) := by decide +kernel
theorem d_Model_literal_143 : decode b_Model_literal 143 = .ok (.aload_n 0, 1) := by decide +kernel
theorem d_Model_literal_144 : decode b_Model_literal 144 = .ok (.getfield 80, 3) := by decide +kernel
theorem d_Model_literal_147 : decode b_Model_literal 147 = .ok (.iload 6, 2) := by decide +kernel
theorem d_Model_literal_149 : decode b_Model_literal 149 = .ok (.iload_n 1, 1) := by decide +kernel
theorem d_Model_literal_150 : decode b_Model_literal 150 = .ok (.bastore, 1) := by decide +kernel
theorem d_Model_literal_151 : decode b_Model_literal 151 = .ok (.aload_n 0, 1) := by decide +kernel
theorem d_Model_literal_152 : decode b_Model_literal 152 = .ok (.getfield 83, 3) := by decide +kernel
theorem d_Model_literal_155 : decode b_Model_literal 155 = .ok (.iload 6, 2) := by decide +kernel
theorem d_Model_literal_157 : decode b_Model_literal 157 = .ok (.iload_n 3, 1) := by decide +kernel
theorem d_Model_literal_158 : decode b_Model_literal 158 = .ok (.iastore, 1) := by decide +kernel
theorem d_Model_literal_159 : decode b_Model_literal 159 = .ok (.aload_n 0, 1) := by decide +kernel
theorem d_Model_literal_160 : decode b_Model_literal 160 = .ok (.getfield 86, 3) := by decide +kernel
theorem d_Model_literal_163 : decode b_Model_literal 163 = .ok (.iload 6, 2) := by decide +kernel
theorem d_Model_literal_165 : decode b_Model_literal 165 = .ok (.iload 5, 2) := by decide +kernel
theorem d_Model_literal_167 : decode b_Model_literal 167 = .ok (.iastore, 1) := by decide +kernel
theorem d_Model_literal_168 : decode b_Model_literal 168 = .ok (.aload_n 0, 1) := by decide +kernel
theorem d_Model_literal_169 : decode b_Model_literal 169 = .ok (.getfield 89, 3) := by decide +kernel
theorem d_Model_literal_172 : decode b_Model_literal 172 = .ok (.iload 6, 2) := by decide +kernel
theorem d_Model_literal_174 : decode b_Model_literal 174 = .ok (.aload_n 0, 1) := by decide +kernel
theorem d_Model_literal_175 : decode b_Model_literal 175 = .ok (.getfield 238, 3) := by decide +kernel
theorem d_Model_literal_178 : decode b_Model_literal 178 = .ok (.iastore, 1) := by decide +kernel
theorem d_Model_literal_179 : decode b_Model_literal 179 = .ok (.aload_n 0, 1) := by decide +kernel
theorem d_Model_literal_180 : decode b_Model_literal 180 = .ok (.getfield 70, 3) := by decide +kernel
theorem d_Model_literal_183 : decode b_Model_literal 183 = .ok (.aload_n 0, 1) := by decide +kernel
theorem d_Model_literal_184 : decode b_Model_literal 184 = .ok (.getfield 231, 3) := by decide +kernel
theorem d_Model_literal_187 : decode b_Model_literal 187 = .ok (.dup2, 1) := by decide +kernel
theorem d_Model_literal_188 : decode b_Model_literal 188 = .ok (.iaload, 1) := by decide +kernel
theorem d_Model_literal_189 : decode b_Model_literal 189 = .ok (.iconst 1, 1) := by decide +kernel
theorem d_Model_literal_190 : decode b_Model_literal 190 = .ok (.iadd, 1) := by decide +kernel
theorem d_Model_literal_191 : decode b_Model_literal 191 = .ok (.iastore, 1) := by decide +kernel
theorem d_Model_literal_192 : decode b_Model_literal 192 = .ok (.return_, 1) := by decide +kernel
set_option maxHeartbeats 4000000 in
set_option maxRecDepth 100000 in
theorem c_Model_literal (l : Launch) {S : St} {x1 : Int32} {S' : St} (h : f_Model_literal S x1 = some S') : MV mw l y_Model_literal b_Model_literal 7 none 5 107 0 0 (fun ad => [.ref (ad 0 0), .int x1]) aT aE S S' := by
  refine MV_of "LawfulLotsModel" rfl (by decide) (fun _ => Nat.le_of_ble_eq_true rfl) ?_
  intro p e s m args below meth c D ar ad A Q ls hP F hK hA hw hl hQ
  have hl : lv_has ls 7 [(0, .ref (ad 0 0)), (1, .int x1)] := hl
  obtain ⟨X_0, eX_0⟩ : ∃ X : St → Prop, X = (fun q => ∀ (H : Heap) (locs : List Loc) (pc : Nat) (ls : Array Slot), decode b_Model_literal pc = .ok (.return_, 1) → Bw mw D ar A s.heap H locs ad q → W p l e (RM 5 107) s m args below meth c H locs 0 0 Q (F0 m pc ls [])) := ⟨_, rfl⟩
  have key : ∀ (H : Heap) (locs : List Loc), Bw mw D ar A s.heap H locs ad S → ∀ o, f_Model_literal S x1 = some o → X_0 o → W p l e (RM 5 107) s m args below meth c H locs 0 0 Q (F0 m 0 ls []) := by
    intro H locs hw o h ho
    unfold f_Model_literal at h
    have J_84 : ∀ (S : St) (x2 : Int32) (x3 : Int32) (x4 : Int32) (H : Heap) (locs : List Loc) (ls : Array Slot), Bw mw D ar A s.heap H locs ad S → lv_has ls 7 [(0, .ref (ad 0 0)), (1, .int x1), (2, .int x2), (3, .int x3), (4, .int x4)] → ∀ o, Model_literal_j84 S x1 x2 x3 x4 = some o → X_0 o → W p l e (RM 5 107) s m args below meth c H locs 0 0 Q (F0 m 84 ls []) := by
      intro S x2 x3 x4 H locs ls hw hl o h ho
      unfold Model_literal_j84 at h
      refine lv_aload_n F.1 F.2.1 d_Model_literal_84 rfl (lv_at hl 0 rfl) ?_
      obtain ⟨S_21, hc_20, h⟩ := bd_ex h
      refine cV_v F hA rfl hK hw (c_Model_next l hc_20) trivial rfl (good_V lk_1265 lk_1267 ls_66 lk_10 lk_1268) (mr_0 hK hw) hd_Model_next ⟨Nat.le_of_ble_eq_true rfl, Nat.le_of_ble_eq_true rfl⟩ rfl hl.1 rfl (Nat.le_of_ble_eq_true rfl) d_Model_literal_85 ⟨(Nat.zero_le _), (Nat.zero_le _)⟩ (fun H locs hw => ?_)
      refine lv_aload_n F.1 F.2.1 d_Model_literal_88 rfl (lv_at hl 0 rfl) ?_
      refine mg_0_38 F hK hw lk_1049 d_Model_literal_89 ?_
      obtain ⟨x5_22, ex5_22, h⟩ := nm_ex h
      refine lv_nm ex5_22 ?_
      refine lv_istore (lv' := [(5, .int x5_22), (0, .ref (ad 0 0)), (1, .int x1), (2, .int x2), (3, .int x3), (4, .int x4)]) F.1 F.2.1 d_Model_literal_92 hl (by decide) rfl (fun ls hl => ?_)
      refine lv_aload_n F.1 F.2.1 d_Model_literal_94 rfl (lv_at hl 1 rfl) ?_
      obtain ⟨S_24, hc_23, h⟩ := bd_ex h
      refine cV_v F hA rfl hK hw (c_Model_expression l hc_23) trivial rfl (good_V lk_1279 lk_1281 ls_69 lk_10 lk_1282) (mr_0 hK hw) hd_Model_expression ⟨Nat.le_of_ble_eq_true rfl, Nat.le_of_ble_eq_true rfl⟩ rfl hl.1 rfl (Nat.le_of_ble_eq_true rfl) d_Model_literal_95 ⟨(Nat.zero_le _), (Nat.zero_le _)⟩ (fun H locs hw => ?_)
      refine lv_aload_n F.1 F.2.1 d_Model_literal_98 rfl (lv_at hl 1 rfl) ?_
      refine mg_0_13 F hK hw lk_1024 d_Model_literal_99 ?_
      refine lv_if_le (tgt := 106) F.1 F.2.1 d_Model_literal_102 (by decide) (fun c_25 => ?_) (fun c_25 => ?_)
      · replace h := ip c_25 h
        refine lv_sipush (v := 200) F.1 F.2.1 d_Model_literal_106 (by decide) ?_
        refine lv_aload_n F.1 F.2.1 d_Model_literal_109 rfl (lv_at hl 1 rfl) ?_
        refine mg_0_19 F hK hw lk_1030 d_Model_literal_110 ?_
        refine lv_imul F.1 F.2.1 d_Model_literal_113 ?_
        refine lv_aload_n F.1 F.2.1 d_Model_literal_114 rfl (lv_at hl 1 rfl) ?_
        refine mg_0_31 F hK hw lk_1042 d_Model_literal_115 ?_
        refine lv_aload_n F.1 F.2.1 d_Model_literal_118 rfl (lv_at hl 1 rfl) ?_
        refine mg_0_19 F hK hw lk_1030 d_Model_literal_119 ?_
        obtain ⟨hi_26, h⟩ := gd_ex h
        refine ml_0_31 F hK hw hi_26 d_Model_literal_122 ?_
        refine lv_iadd F.1 F.2.1 d_Model_literal_123 ?_
        obtain ⟨x6_27, ex6_27, h⟩ := nm_ex h
        refine lv_nm ex6_27 ?_
        refine lv_istore (lv' := [(6, .int x6_27), (5, .int x5_22), (0, .ref (ad 0 0)), (1, .int x1), (2, .int x2), (3, .int x3), (4, .int x4)]) F.1 F.2.1 d_Model_literal_124 hl (by decide) rfl (fun ls hl => ?_)
        refine lv_aload_n F.1 F.2.1 d_Model_literal_126 rfl (lv_at hl 2 rfl) ?_
        refine mg_0_32 F hK hw lk_1043 d_Model_literal_127 ?_
        refine lv_iload F.1 F.2.1 d_Model_literal_130 (lv_at hl 0 rfl) ?_
        refine lv_iload F.1 F.2.1 d_Model_literal_132 (lv_at hl 6 rfl) ?_
        obtain ⟨hi_28, h⟩ := gd_ex h
        obtain ⟨S_29, eS_29, h⟩ := nm_ex h
        refine ms_0_32 F hK hw hi_28 d_Model_literal_134 eS_29 (fun H locs hw => ?_)
        refine lv_aload_n F.1 F.2.1 d_Model_literal_135 rfl (lv_at hl 2 rfl) ?_
        refine mg_0_33 F hK hw lk_1044 d_Model_literal_136 ?_
        refine lv_iload F.1 F.2.1 d_Model_literal_139 (lv_at hl 0 rfl) ?_
        refine lv_iload_n F.1 F.2.1 d_Model_literal_141 rfl (lv_at hl 4 rfl) ?_
        obtain ⟨hi_30, h⟩ := gd_ex h
        obtain ⟨S_31, eS_31, h⟩ := nm_ex h
        refine ms_0_33 F hK hw hi_30 d_Model_literal_142 eS_31 (fun H locs hw => ?_)
        refine lv_aload_n F.1 F.2.1 d_Model_literal_143 rfl (lv_at hl 2 rfl) ?_
        refine mg_0_34 F hK hw lk_1045 d_Model_literal_144 ?_
        refine lv_iload F.1 F.2.1 d_Model_literal_147 (lv_at hl 0 rfl) ?_
        refine lv_iload_n F.1 F.2.1 d_Model_literal_149 rfl (lv_at hl 3 rfl) ?_
        obtain ⟨hi_32, h⟩ := gd_ex h
        obtain ⟨S_33, eS_33, h⟩ := nm_ex h
        refine ms_0_34 F hK hw hi_32 d_Model_literal_150 eS_33 (fun H locs hw => ?_)
        refine lv_aload_n F.1 F.2.1 d_Model_literal_151 rfl (lv_at hl 2 rfl) ?_
        refine mg_0_35 F hK hw lk_1046 d_Model_literal_152 ?_
        refine lv_iload F.1 F.2.1 d_Model_literal_155 (lv_at hl 0 rfl) ?_
        refine lv_iload_n F.1 F.2.1 d_Model_literal_157 rfl (lv_at hl 5 rfl) ?_
        obtain ⟨hi_34, h⟩ := gd_ex h
        obtain ⟨S_35, eS_35, h⟩ := nm_ex h
        refine ms_0_35 F hK hw hi_34 d_Model_literal_158 eS_35 (fun H locs hw => ?_)
        refine lv_aload_n F.1 F.2.1 d_Model_literal_159 rfl (lv_at hl 2 rfl) ?_
        refine mg_0_36 F hK hw lk_1047 d_Model_literal_160 ?_
        refine lv_iload F.1 F.2.1 d_Model_literal_163 (lv_at hl 0 rfl) ?_
        refine lv_iload F.1 F.2.1 d_Model_literal_165 (lv_at hl 1 rfl) ?_
        obtain ⟨hi_36, h⟩ := gd_ex h
        obtain ⟨S_37, eS_37, h⟩ := nm_ex h
        refine ms_0_36 F hK hw hi_36 d_Model_literal_167 eS_37 (fun H locs hw => ?_)
        refine lv_aload_n F.1 F.2.1 d_Model_literal_168 rfl (lv_at hl 2 rfl) ?_
        refine mg_0_37 F hK hw lk_1048 d_Model_literal_169 ?_
        refine lv_iload F.1 F.2.1 d_Model_literal_172 (lv_at hl 0 rfl) ?_
        refine lv_aload_n F.1 F.2.1 d_Model_literal_174 rfl (lv_at hl 2 rfl) ?_
        refine mg_0_38 F hK hw lk_1049 d_Model_literal_175 ?_
        obtain ⟨hi_38, h⟩ := gd_ex h
        obtain ⟨S_39, eS_39, h⟩ := nm_ex h
        refine ms_0_37 F hK hw hi_38 d_Model_literal_178 eS_39 (fun H locs hw => ?_)
        refine lv_aload_n F.1 F.2.1 d_Model_literal_179 rfl (lv_at hl 2 rfl) ?_
        refine mg_0_31 F hK hw lk_1042 d_Model_literal_180 ?_
        refine lv_aload_n F.1 F.2.1 d_Model_literal_183 rfl (lv_at hl 2 rfl) ?_
        refine mg_0_19 F hK hw lk_1030 d_Model_literal_184 ?_
        refine lv_dup2_11 F.1 F.2.1 d_Model_literal_187 rfl rfl ?_
        obtain ⟨hi_40, h⟩ := gd_ex h
        refine ml_0_31 F hK hw hi_40 d_Model_literal_188 ?_
        refine lv_iconst (v := 1) F.1 F.2.1 d_Model_literal_189 (by decide) ?_
        refine lv_iadd F.1 F.2.1 d_Model_literal_190 ?_
        obtain ⟨hi_41, h⟩ := gd_ex h
        obtain ⟨S_42, eS_42, h⟩ := nm_ex h
        refine ms_0_31 F hK hw hi_41 d_Model_literal_191 eS_42 (fun H locs hw => ?_)
        cases h
        have ho : X_0 _ := ho
        rw [eX_0] at ho
        exact ho H locs _ ls d_Model_literal_192 hw
      · replace h := iq c_25 h
        cases h
        have ho : X_0 _ := ho
        rw [eX_0] at ho
        exact ho H locs _ ls d_Model_literal_105 hw
    have J_79 : ∀ (S : St) (x2 : Int32) (x3 : Int32) (x4 : Int32) (H : Heap) (locs : List Loc) (ls : Array Slot), Bw mw D ar A s.heap H locs ad S → lv_has ls 7 [(0, .ref (ad 0 0)), (1, .int x1), (2, .int x2), (3, .int x3), (4, .int x4)] → ∀ o, Model_literal_j79 S x1 x2 x3 x4 = some o → X_0 o → W p l e (RM 5 107) s m args below meth c H locs 0 0 Q (F0 m 79 ls []) := by
      intro S x2 x3 x4 H locs ls hw hl o h ho
      unfold Model_literal_j79 at h
      refine lv_aload_n F.1 F.2.1 d_Model_literal_79 rfl (lv_at hl 0 rfl) ?_
      refine lv_iconst (v := 1) F.1 F.2.1 d_Model_literal_80 (by decide) ?_
      obtain ⟨S_19, hc_18, h⟩ := bd_ex h
      refine cV_v F hA rfl hK hw (c_Model_fail l hc_18) trivial rfl (good_V lk_1261 lk_1263 ls_65 lk_10 lk_1264) (mr_0 hK hw) hd_Model_fail ⟨Nat.le_of_ble_eq_true rfl, Nat.le_of_ble_eq_true rfl⟩ rfl hl.1 rfl (Nat.le_of_ble_eq_true rfl) d_Model_literal_81 ⟨(Nat.zero_le _), (Nat.zero_le _)⟩ (fun H locs hw => ?_)
      exact J_84 S_19 x2 x3 x4 H locs ls hw (lv_sub hl [0, 1, 2, 3, 4] rfl) o h ho
    have J_59 : ∀ (S : St) (x2 : Int32) (x3 : Int32) (t0 : Int32) (H : Heap) (locs : List Loc) (ls : Array Slot), Bw mw D ar A s.heap H locs ad S → lv_has ls 7 [(0, .ref (ad 0 0)), (1, .int x1), (2, .int x2), (3, .int x3)] → ∀ o, Model_literal_j59 S x1 x2 x3 t0 = some o → X_0 o → W p l e (RM 5 107) s m args below meth c H locs 0 0 Q (F0 m 59 ls [.int t0]) := by
      intro S x2 x3 t0 H locs ls hw hl o h ho
      unfold Model_literal_j59 at h
      refine lv_istore (lv' := [(4, .int t0), (0, .ref (ad 0 0)), (1, .int x1), (2, .int x2), (3, .int x3)]) F.1 F.2.1 d_Model_literal_59 hl (by decide) rfl (fun ls hl => ?_)
      refine lv_aload_n F.1 F.2.1 d_Model_literal_61 rfl (lv_at hl 1 rfl) ?_
      refine mg_0_13 F hK hw lk_1024 d_Model_literal_62 ?_
      refine lv_if_ne (tgt := 84) F.1 F.2.1 d_Model_literal_65 (by decide) (fun c_15 => ?_) (fun c_15 => ?_)
      · replace h := iq c_15 h
        exact J_84 S x2 x3 t0 H locs ls hw (lv_sub hl [1, 2, 3, 4, 0] rfl) o h ho
      · replace h := ip c_15 h
        refine lv_iload F.1 F.2.1 d_Model_literal_68 (lv_at hl 0 rfl) ?_
        refine lv_if_lt (tgt := 79) F.1 F.2.1 d_Model_literal_70 (by decide) (fun c_16 => ?_) (fun c_16 => ?_)
        · replace h := ip c_16 h
          exact J_79 S x2 x3 t0 H locs ls hw (lv_sub hl [1, 2, 3, 4, 0] rfl) o h ho
        · replace h := iq c_16 h
          refine lv_iload F.1 F.2.1 d_Model_literal_73 (lv_at hl 0 rfl) ?_
          refine lv_iconst (v := 3) F.1 F.2.1 d_Model_literal_75 (by decide) ?_
          refine lv_icmp_le (tgt := 84) F.1 F.2.1 d_Model_literal_76 (by decide) (fun c_17 => ?_) (fun c_17 => ?_)
          · replace h := ip c_17 h
            exact J_84 S x2 x3 t0 H locs ls hw (lv_sub hl [1, 2, 3, 4, 0] rfl) o h ho
          · replace h := iq c_17 h
            exact J_79 S x2 x3 t0 H locs ls hw (lv_sub hl [1, 2, 3, 4, 0] rfl) o h ho
    refine lv_iconst (v := 0) F.1 F.2.1 d_Model_literal_0 (by decide) ?_
    refine lv_istore_n (lv' := [(2, .int (0 : Int32)), (0, .ref (ad 0 0)), (1, .int x1)]) F.1 F.2.1 d_Model_literal_1 rfl hl (by decide) rfl (fun ls hl => ?_)
    obtain ⟨S_7, x2_8, hc_9, h⟩ := bd2_ex h
    obtain ⟨X_2, eX_2⟩ : ∃ X : (St × Int32) → Prop, X = (fun q => ∀ (H : Heap) (locs : List Loc) (ls : Array Slot), Bw mw D ar A s.heap H locs ad q.1 → lv_has ls 7 [(0, .ref (ad 0 0)), (1, .int x1), (2, .int q.2)] → W p l e (RM 5 107) s m args below meth c H locs 0 0 Q (F0 m 28 ls [])) := ⟨_, rfl⟩
    have hX_2 : X_2 (S_7, x2_8) := by
      rw [eX_2]
      intro H locs ls hw hl
      refine lv_aload_n F.1 F.2.1 d_Model_literal_28 rfl (lv_at hl 0 rfl) ?_
      refine mg_0_38 F hK hw lk_1049 d_Model_literal_29 ?_
      obtain ⟨x3_10, ex3_10, h⟩ := nm_ex h
      refine lv_nm ex3_10 ?_
      refine lv_istore_n (lv' := [(3, .int x3_10), (0, .ref (ad 0 0)), (1, .int x1), (2, .int x2_8)]) F.1 F.2.1 d_Model_literal_32 rfl hl (by decide) rfl (fun ls hl => ?_)
      refine lv_aload_n F.1 F.2.1 d_Model_literal_33 rfl (lv_at hl 1 rfl) ?_
      obtain ⟨S_12, hc_11, h⟩ := bd_ex h
      refine cV_v F hA rfl hK hw (c_Model_expression l hc_11) trivial rfl (good_V lk_1279 lk_1281 ls_69 lk_10 lk_1282) (mr_0 hK hw) hd_Model_expression ⟨Nat.le_of_ble_eq_true rfl, Nat.le_of_ble_eq_true rfl⟩ rfl hl.1 rfl (Nat.le_of_ble_eq_true rfl) d_Model_literal_34 ⟨(Nat.zero_le _), (Nat.zero_le _)⟩ (fun H locs hw => ?_)
      refine lv_aload_n F.1 F.2.1 d_Model_literal_37 rfl (lv_at hl 1 rfl) ?_
      refine mg_0_13 F hK hw lk_1024 d_Model_literal_38 ?_
      refine lv_if_le (tgt := 48) F.1 F.2.1 d_Model_literal_41 (by decide) (fun c_13 => ?_) (fun c_13 => ?_)
      · replace h := ip c_13 h
        refine lv_aload_n F.1 F.2.1 d_Model_literal_48 rfl (lv_at hl 1 rfl) ?_
        refine mg_0_5 F hK hw lk_1016 d_Model_literal_49 ?_
        refine lv_aload_n F.1 F.2.1 d_Model_literal_52 rfl (lv_at hl 1 rfl) ?_
        refine mg_0_11 F hK hw lk_1022 d_Model_literal_53 ?_
        obtain ⟨hi_14, h⟩ := gd_ex h
        refine ml_0_5 F hK hw hi_14 d_Model_literal_56 ?_
        refine lv_iconst (v := 4) F.1 F.2.1 d_Model_literal_57 (by decide) ?_
        refine lv_isub F.1 F.2.1 d_Model_literal_58 ?_
        exact J_59 S_12 x2_8 x3_10 ((gA S_12 0 5 (gI S_12 0 11).toNatClampNeg) - (4 : Int32)) H locs ls hw (lv_sub hl [1, 2, 3, 0] rfl) o h ho
      · replace h := iq c_13 h
        refine lv_iconst (v := 0) F.1 F.2.1 d_Model_literal_44 (by decide) ?_
        refine lv_goto (tgt := 59) F.1 F.2.1 d_Model_literal_45 (by decide) ?_
        exact J_59 S_12 x2_8 x3_10 (0 : Int32) H locs ls hw (lv_sub hl [1, 2, 3, 0] rfl) o h ho
    obtain ⟨P_2, eP_2⟩ : ∃ P : (St × Int32) → Prop, P = (fun q => ∀ (H : Heap) (locs : List Loc) (ls : Array Slot), Bw mw D ar A s.heap H locs ad q.1 → lv_has ls 7 [(0, .ref (ad 0 0)), (1, .int x1), (2, .int q.2)] → W p l e (RM 5 107) s m args below meth c H locs 0 0 Q (F0 m 2 ls [])) := ⟨_, rfl⟩
    have hL_2 : P_2 (S, (0 : Int32)) := by
      refine wh_gp (P := P_2) (X := X_2) hc_9 hX_2 ?_
      clear h
      intro q o h ho
      obtain ⟨S, x2⟩ := q
      have h : Model_literal_l2 x1 S x2 = some o := h
      unfold Model_literal_l2 at h
      rw [eP_2]
      intro H locs ls hw hl
      have J_20_l2 : ∀ (S : St) (t0 : Int32) (H : Heap) (locs : List Loc) (ls : Array Slot), Bw mw D ar A s.heap H locs ad S → lv_has ls 7 [(0, .ref (ad 0 0)), (1, .int x1)] → ∀ o, Model_literal_j20_l2 S x1 t0 = some o → (Sum.elim P_2 X_2) o → W p l e (RM 5 107) s m args below meth c H locs 0 0 Q (F0 m 20 ls [.int t0]) := by
        intro S t0 H locs ls hw hl o h ho
        unfold Model_literal_j20_l2 at h
        refine lv_istore_n (lv' := [(2, .int t0), (0, .ref (ad 0 0)), (1, .int x1)]) F.1 F.2.1 d_Model_literal_20 rfl hl (by decide) rfl (fun ls hl => ?_)
        refine lv_aload_n F.1 F.2.1 d_Model_literal_21 rfl (lv_at hl 1 rfl) ?_
        obtain ⟨S_6, hc_5, h⟩ := bd_ex h
        refine cV_v F hA rfl hK hw (c_Model_next l hc_5) trivial rfl (good_V lk_1265 lk_1267 ls_66 lk_10 lk_1268) (mr_0 hK hw) hd_Model_next ⟨Nat.le_of_ble_eq_true rfl, Nat.le_of_ble_eq_true rfl⟩ rfl hl.1 rfl (Nat.le_of_ble_eq_true rfl) d_Model_literal_22 ⟨(Nat.zero_le _), (Nat.zero_le _)⟩ (fun H locs hw => ?_)
        refine lv_goto (tgt := 2) F.1 F.2.1 d_Model_literal_25 (by decide) ?_
        cases h
        have ho : P_2 _ := ho
        rw [eP_2] at ho
        exact ho H locs ls hw (lv_sub hl [1, 2, 0] rfl)
      refine lv_aload_n F.1 F.2.1 d_Model_literal_2 rfl (lv_at hl 0 rfl) ?_
      refine lv_bipush (v := 31) F.1 F.2.1 d_Model_literal_3 (by decide) ?_
      obtain ⟨v_2, hc_1, h⟩ := bd_ex h
      refine cV_i F hA rfl hK hw (c_Model_is l hc_1) trivial rfl (good_V lk_1249 lk_1251 ls_62 lk_10 lk_1252) (mr_0 hK hw) hd_Model_is ⟨Nat.le_of_ble_eq_true rfl, Nat.le_of_ble_eq_true rfl⟩ rfl hl.1 rfl (Nat.le_of_ble_eq_true rfl) d_Model_literal_5 ⟨(Nat.zero_le _), (Nat.zero_le _)⟩ (fun H locs hw => ?_)
      refine lv_if_eq (tgt := 28) F.1 F.2.1 d_Model_literal_8 (by decide) (fun c_3 => ?_) (fun c_3 => ?_)
      · replace h := ip c_3 h
        cases h
        have ho : X_2 _ := ho
        rw [eX_2] at ho
        exact ho H locs ls hw (lv_sub hl [0, 1, 2] rfl)
      · replace h := iq c_3 h
        refine lv_iload_n F.1 F.2.1 d_Model_literal_11 rfl (lv_at hl 2 rfl) ?_
        refine lv_if_ne (tgt := 19) F.1 F.2.1 d_Model_literal_12 (by decide) (fun c_4 => ?_) (fun c_4 => ?_)
        · replace h := iq c_4 h
          refine lv_iconst (v := 0) F.1 F.2.1 d_Model_literal_19 (by decide) ?_
          exact J_20_l2 S (0 : Int32) H locs ls hw (lv_sub hl [0, 1] rfl) o h ho
        · replace h := ip c_4 h
          refine lv_iconst (v := 1) F.1 F.2.1 d_Model_literal_15 (by decide) ?_
          refine lv_goto (tgt := 20) F.1 F.2.1 d_Model_literal_16 (by decide) ?_
          exact J_20_l2 S (1 : Int32) H locs ls hw (lv_sub hl [0, 1] rfl) o h ho
    rw [eP_2] at hL_2
    exact hL_2 H locs ls hw (lv_sub hl [1, 2, 0] rfl)
  exact key _ _ hw _ h (by rw [eX_0]; exact fun H locs pc ls hd hw => hQ H locs pc ls ad rfl hd hw)
theorem d_Model_tell_0 : decode b_Model_tell 0 = .ok (.aload_n 0, 1) := by decide +kernel
theorem d_Model_tell_1 : decode b_Model_tell 1 = .ok (.bipush 20, 2) := by decide +kernel
theorem d_Model_tell_3 : decode b_Model_tell 3 = .ok (.invokevirtual 216, 3) := by decide +kernel
theorem d_Model_tell_6 : decode b_Model_tell 6 = .ok (.ifCond .eq 8, 3) := by decide +kernel
theorem d_Model_tell_9 : decode b_Model_tell 9 = .ok (.aload_n 0, 1) := by decide +kernel
theorem d_Model_tell_10 : decode b_Model_tell 10 = .ok (.invokevirtual 247, 3) := by decide +kernel
theorem d_Model_tell_13 : decode b_Model_tell 13 = .ok (.return_, 1) := by decide +kernel
theorem d_Model_tell_14 : decode b_Model_tell 14 = .ok (.aload_n 0, 1) := by decide +kernel
theorem d_Model_tell_15 : decode b_Model_tell 15 = .ok (.bipush 23, 2) := by decide +kernel
theorem d_Model_tell_17 : decode b_Model_tell 17 = .ok (.invokevirtual 216, 3) := by decide +kernel
theorem d_Model_tell_20 : decode b_Model_tell 20 = .ok (.ifCond .eq 7, 3) := by decide +kernel
theorem d_Model_tell_23 : decode b_Model_tell 23 = .ok (.iconst 0, 1) := by decide +kernel
theorem d_Model_tell_24 : decode b_Model_tell 24 = .ok (.goto 56, 3) := by decide +kernel
theorem d_Model_tell_27 : decode b_Model_tell 27 = .ok (.aload_n 0, 1) := by decide +kernel
theorem d_Model_tell_28 : decode b_Model_tell 28 = .ok (.bipush 24, 2) := by decide +kernel
theorem d_Model_tell_30 : decode b_Model_tell 30 = .ok (.invokevirtual 216, 3) := by decide +kernel
theorem d_Model_tell_33 : decode b_Model_tell 33 = .ok (.ifCond .eq 7, 3) := by decide +kernel
theorem d_Model_tell_36 : decode b_Model_tell 36 = .ok (.iconst 1, 1) := by decide +kernel
theorem d_Model_tell_37 : decode b_Model_tell 37 = .ok (.goto 43, 3) := by decide +kernel
theorem d_Model_tell_40 : decode b_Model_tell 40 = .ok (.aload_n 0, 1) := by decide +kernel
theorem d_Model_tell_41 : decode b_Model_tell 41 = .ok (.bipush 25, 2) := by decide +kernel
theorem d_Model_tell_43 : decode b_Model_tell 43 = .ok (.invokevirtual 216, 3) := by decide +kernel
theorem d_Model_tell_46 : decode b_Model_tell 46 = .ok (.ifCond .eq 7, 3) := by decide +kernel
theorem d_Model_tell_49 : decode b_Model_tell 49 = .ok (.iconst 2, 1) := by decide +kernel
theorem d_Model_tell_50 : decode b_Model_tell 50 = .ok (.goto 30, 3) := by decide +kernel
theorem d_Model_tell_53 : decode b_Model_tell 53 = .ok (.aload_n 0, 1) := by decide +kernel
theorem d_Model_tell_54 : decode b_Model_tell 54 = .ok (.bipush 26, 2) := by decide +kernel
theorem d_Model_tell_56 : decode b_Model_tell 56 = .ok (.invokevirtual 216, 3) := by decide +kernel
theorem d_Model_tell_59 : decode b_Model_tell 59 = .ok (.ifCond .eq 7, 3) := by decide +kernel
theorem d_Model_tell_62 : decode b_Model_tell 62 = .ok (.iconst 3, 1) := by decide +kernel
theorem d_Model_tell_63 : decode b_Model_tell 63 = .ok (.goto 17, 3) := by decide +kernel
theorem d_Model_tell_66 : decode b_Model_tell 66 = .ok (.aload_n 0, 1) := by decide +kernel
theorem d_Model_tell_67 : decode b_Model_tell 67 = .ok (.bipush 27, 2) := by decide +kernel
theorem d_Model_tell_69 : decode b_Model_tell 69 = .ok (.invokevirtual 216, 3) := by decide +kernel
theorem d_Model_tell_72 : decode b_Model_tell 72 = .ok (.ifCond .eq 7, 3) := by decide +kernel
theorem d_Model_tell_75 : decode b_Model_tell 75 = .ok (.iconst 4, 1) := by decide +kernel
theorem d_Model_tell_76 : decode b_Model_tell 76 = .ok (.goto 4, 3) := by decide +kernel
theorem d_Model_tell_79 : decode b_Model_tell 79 = .ok (.iconst (-1), 1) := by decide +kernel
theorem d_Model_tell_80 : decode b_Model_tell 80 = .ok (.istore_n 1, 1) := by decide +kernel
theorem d_Model_tell_81 : decode b_Model_tell 81 = .ok (.iload_n 1, 1) := by decide +kernel
theorem d_Model_tell_82 : decode b_Model_tell 82 = .ok (.iconst (-1), 1) := by decide +kernel
theorem d_Model_tell_83 : decode b_Model_tell 83 = .ok (.if_icmp .ne 11, 3) := by decide +kernel
theorem d_Model_tell_86 : decode b_Model_tell 86 = .ok (.aload_n 0, 1) := by decide +kernel
theorem d_Model_tell_87 : decode b_Model_tell 87 = .ok (.iconst 1, 1) := by decide +kernel
theorem d_Model_tell_88 : decode b_Model_tell 88 = .ok (.invokevirtual 213, 3) := by decide +kernel
theorem d_Model_tell_91 : decode b_Model_tell 91 = .ok (.goto 26, 3) := by decide +kernel
theorem d_Model_tell_94 : decode b_Model_tell 94 = .ok (.aload_n 0, 1) := by decide +kernel
theorem d_Model_tell_95 : decode b_Model_tell 95 = .ok (.getfield 52, 3) := by decide +kernel
theorem d_Model_tell_98 : decode b_Model_tell 98 = .ok (.iconst 5, 1) := by decide +kernel
theorem d_Model_tell_99 : decode b_Model_tell 99 = .ok (.aload_n 0, 1) := by decide +kernel
theorem d_Model_tell_100 : decode b_Model_tell 100 = .ok (.getfield 231, 3) := by decide +kernel
theorem d_Model_tell_103 : decode b_Model_tell 103 = .ok (.imul, 1) := by decide +kernel
theorem d_Model_tell_104 : decode b_Model_tell 104 = .ok (.iload_n 1, 1) := by decide +kernel
theorem d_Model_tell_105 : decode b_Model_tell 105 = .ok (.iadd, 1) := by decide +kernel
theorem d_Model_tell_106 : decode b_Model_tell 106 = .ok (.iaload, 1) := by decide +kernel
theorem d_Model_tell_107 : decode b_Model_tell 107 = .ok (.bipush 8, 2) := by decide +kernel
theorem d_Model_tell_109 : decode b_Model_tell 109 = .ok (.if_icmp .ne 8, 3) := by decide +kernel
theorem d_Model_tell_112 : decode b_Model_tell 112 = .ok (.aload_n 0, 1) := by decide +kernel
theorem d_Model_tell_113 : decode b_Model_tell 113 = .ok (.iconst 2, 1) := by decide +kernel
theorem d_Model_tell_114 : decode b_Model_tell 114 = .ok (.invokevirtual 213, 3) := by decide +kernel
theorem d_Model_tell_117 : decode b_Model_tell 117 = .ok (.aload_n 0, 1) := by decide +kernel
theorem d_Model_tell_118 : decode b_Model_tell 118 = .ok (.getfield 198, 3) := by decide +kernel
theorem d_Model_tell_121 : decode b_Model_tell 121 = .ok (.ifCond .le 4, 3) := by decide +kernel
theorem d_Model_tell_124 : decode b_Model_tell 124 = .ok (.return_, 1) := by decide +kernel
theorem d_Model_tell_125 : decode b_Model_tell 125 = .ok (.aload_n 0, 1) := by decide +kernel
theorem d_Model_tell_126 : decode b_Model_tell 126 = .ok (.invokevirtual 219, 3) := by decide +kernel
theorem d_Model_tell_129 : decode b_Model_tell 129 = .ok (.bipush 8, 2) := by decide +kernel
theorem d_Model_tell_131 : decode b_Model_tell 131 = .ok (.iconst 5, 1) := by decide +kernel
theorem d_Model_tell_132 : decode b_Model_tell 132 = .ok (.aload_n 0, 1) := by decide +kernel
theorem d_Model_tell_133 : decode b_Model_tell 133 = .ok (.getfield 231, 3) := by decide +kernel
theorem d_Model_tell_136 : decode b_Model_tell 136 = .ok (.imul, 1) := by decide +kernel
theorem d_Model_tell_137 : decode b_Model_tell 137 = .ok (.iload_n 1, 1) := by decide +kernel
theorem d_Model_tell_138 : decode b_Model_tell 138 = .ok (.iadd, 1) := by decide +kernel
theorem d_Model_tell_139 : decode b_Model_tell 139 = .ok (.imul, 1) := by decide +kernel
theorem d_Model_tell_140 : decode b_Model_tell 140 = .ok (.aload_n 0, 1) := by decide +kernel
theorem d_Model_tell_141 : decode b_Model_tell 141 = .ok (.getfield 52, 3) := by decide +kernel
theorem d_Model_tell_144 : decode b_Model_tell 144 = .ok (.iconst 5, 1) := by decide +kernel
theorem d_Model_tell_145 : decode b_Model_tell 145 = .ok (.aload_n 0, 1) := by decide +kernel
theorem d_Model_tell_146 : decode b_Model_tell 146 = .ok (.getfield 231, 3) := by decide +kernel
theorem d_Model_tell_149 : decode b_Model_tell 149 = .ok (.imul, 1) := by decide +kernel
theorem d_Model_tell_150 : decode b_Model_tell 150 = .ok (.iload_n 1, 1) := by decide +kernel
theorem d_Model_tell_151 : decode b_Model_tell 151 = .ok (.iadd, 1) := by decide +kernel
theorem d_Model_tell_152 : decode b_Model_tell 152 = .ok (.iaload, 1) := by decide +kernel
theorem d_Model_tell_153 : decode b_Model_tell 153 = .ok (.iadd, 1) := by decide +kernel
theorem d_Model_tell_154 : decode b_Model_tell 154 = .ok (.istore_n 2, 1) := by decide +kernel
theorem d_Model_tell_155 : decode b_Model_tell 155 = .ok (.aload_n 0, 1) := by decide +kernel
theorem d_Model_tell_156 : decode b_Model_tell 156 = .ok (.iload_n 1, 1) := by decide +kernel
theorem d_Model_tell_157 : decode b_Model_tell 157 = .ok (.iconst 3, 1) := by decide +kernel
theorem d_Model_tell_158 : decode b_Model_tell 158 = .ok (.if_icmp .ne 7, 3) := by decide +kernel
theorem d_Model_tell_161 : decode b_Model_tell 161 = .ok (.iconst 1, 1) := by decide +kernel
theorem d_Model_tell_162 : decode b_Model_tell 162 = .ok (.goto 4, 3) := by decide +kernel
theorem d_Model_tell_165 : decode b_Model_tell 165 = .ok (.iconst 0, 1) := by decide +kernel
theorem d_Model_tell_166 : decode b_Model_tell 166 = .ok (.putfield 250, 3) := by decide +kernel
theorem d_Model_tell_169 : decode b_Model_tell 169 = .ok (.aload_n 0, 1) := by decide +kernel
theorem d_Model_tell_170 : decode b_Model_tell 170 = .ok (.getfield 55, 3) := by decide +kernel
theorem d_Model_tell_173 : decode b_Model_tell 173 = .ok (.iload_n 2, 1) := by decide +kernel
theorem d_Model_tell_174 : decode b_Model_tell 174 = .ok (.iconst 0, 1) := by decide +kernel
theorem d_Model_tell_175 : decode b_Model_tell 175 = .ok (.iastore, 1) := by decide +kernel
theorem d_Model_tell_176 : decode b_Model_tell 176 = .ok (.aload_n 0, 1) := by decide +kernel
theorem d_Model_tell_177 : decode b_Model_tell 177 = .ok (.getfield 64, 3) := by decide +kernel
theorem d_Model_tell_180 : decode b_Model_tell 180 = .ok (.iload_n 2, 1) := by decide +kernel
theorem d_Model_tell_181 : decode b_Model_tell 181 = .ok (.aload_n 0, 1) := by decide +kernel
theorem d_Model_tell_182 : decode b_Model_tell 182 = .ok (.getfield 238, 3) := by decide +kernel
theorem d_Model_tell_185 : decode b_Model_tell 185 = .ok (.iastore, 1) := by decide +kernel
theorem d_Model_tell_186 : decode b_Model_tell 186 = .ok (.iload_n 1, 1) := by decide +kernel
theorem d_Model_tell_187 : decode b_Model_tell 187 = .ok (.iconst 1, 1) := by decide +kernel
theorem d_Model_tell_188 : decode b_Model_tell 188 = .ok (.if_icmp .ne 35, 3) := by decide +kernel
theorem d_Model_tell_191 : decode b_Model_tell 191 = .ok (.aload_n 0, 1) := by decide +kernel
theorem d_Model_tell_192 : decode b_Model_tell 192 = .ok (.getfield 55, 3) := by decide +kernel
theorem d_Model_tell_195 : decode b_Model_tell 195 = .ok (.iload_n 2, 1) := by decide +kernel
theorem d_Model_tell_196 : decode b_Model_tell 196 = .ok (.aload_n 0, 1) := by decide +kernel
theorem d_Model_tell_197 : decode b_Model_tell 197 = .ok (.iconst 2, 1) := by decide +kernel
theorem d_Model_tell_198 : decode b_Model_tell 198 = .ok (.invokevirtual 216, 3) := by decide +kernel
theorem d_Model_tell_201 : decode b_Model_tell 201 = .ok (.ifCond .eq 15, 3) := by decide +kernel
theorem d_Model_tell_204 : decode b_Model_tell 204 = .ok (.aload_n 0, 1) := by decide +kernel
theorem d_Model_tell_205 : decode b_Model_tell 205 = .ok (.getfield 27, 3) := by decide +kernel
theorem d_Model_tell_208 : decode b_Model_tell 208 = .ok (.aload_n 0, 1) := by decide +kernel
theorem d_Model_tell_209 : decode b_Model_tell 209 = .ok (.getfield 201, 3) := by decide +kernel
theorem d_Model_tell_212 : decode b_Model_tell 212 = .ok (.iaload, 1) := by decide +kernel
theorem d_Model_tell_213 : decode b_Model_tell 213 = .ok (.goto 4, 3) := by decide +kernel
theorem d_Model_tell_216 : decode b_Model_tell 216 = .ok (.iconst 0, 1) := by decide +kernel
theorem d_Model_tell_217 : decode b_Model_tell 217 = .ok (.iastore, 1) := by decide +kernel
theorem d_Model_tell_218 : decode b_Model_tell 218 = .ok (.aload_n 0, 1) := by decide +kernel
theorem d_Model_tell_219 : decode b_Model_tell 219 = .ok (.iconst 2, 1) := by decide +kernel
theorem d_Model_tell_220 : decode b_Model_tell 220 = .ok (.invokevirtual 254, 3) := by decide +kernel
theorem d_Model_tell_223 : decode b_Model_tell 223 = .ok (.iload_n 1, 1) := by decide +kernel
theorem d_Model_tell_224 : decode b_Model_tell 224 = .ok (.iconst 4, 1) := by decide +kernel
theorem d_Model_tell_225 : decode b_Model_tell 225 = .ok (.if_icmp .ne 7, 3) := by decide +kernel
theorem d_Model_tell_228 : decode b_Model_tell 228 = .ok (.aload_n 0, 1) := by decide +kernel
theorem d_Model_tell_229 : decode b_Model_tell 229 = .ok (.invokevirtual 257, 3) := by decide +kernel
theorem d_Model_tell_232 : decode b_Model_tell 232 = .ok (.aload_n 0, 1) := by decide +kernel
theorem d_Model_tell_233 : decode b_Model_tell 233 = .ok (.getfield 67, 3) := by decide +kernel
theorem d_Model_tell_236 : decode b_Model_tell 236 = .ok (.iload_n 2, 1) := by decide +kernel
theorem d_Model_tell_237 : decode b_Model_tell 237 = .ok (.aload_n 0, 1) := by decide +kernel
theorem d_Model_tell_238 : decode b_Model_tell 238 = .ok (.getfield 238, 3) := by decide +kernel
theorem d_Model_tell_241 : decode b_Model_tell 241 = .ok (.iastore, 1) := by decide +kernel
theorem d_Model_tell_242 : decode b_Model_tell 242 = .ok (.aload_n 0, 1) := by decide +kernel
theorem d_Model_tell_243 : decode b_Model_tell 243 = .ok (.getfield 58, 3) := by decide +kernel
theorem d_Model_tell_246 : decode b_Model_tell 246 = .ok (.iload_n 2, 1) := by decide +kernel
theorem d_Model_tell_247 : decode b_Model_tell 247 = .ok (.aload_n 0, 1) := by decide +kernel
theorem d_Model_tell_248 : decode b_Model_tell 248 = .ok (.getfield 70, 3) := by decide +kernel
theorem d_Model_tell_251 : decode b_Model_tell 251 = .ok (.aload_n 0, 1) := by decide +kernel
theorem d_Model_tell_252 : decode b_Model_tell 252 = .ok (.getfield 231, 3) := by decide +kernel
theorem d_Model_tell_255 : decode b_Model_tell 255 = .ok (.iaload, 1) := by decide +kernel
theorem d_Model_tell_256 : decode b_Model_tell 256 = .ok (.iastore, 1) := by decide +kernel
theorem d_Model_tell_257 : decode b_Model_tell 257 = .ok (.iload_n 1, 1) := by decide +kernel
theorem d_Model_tell_258 : decode b_Model_tell 258 = .ok (.iconst 4, 1) := by decide +kernel
theorem d_Model_tell_259 : decode b_Model_tell 259 = .ok (.if_icmp .eq 7, 3) := by decide +kernel
theorem d_Model_tell_262 : decode b_Model_tell 262 = .ok (.iconst 1, 1) := by decide +kernel
theorem d_Model_tell_263 : decode b_Model_tell 263 = .ok (.goto 4, 3) := by decide +kernel
theorem d_Model_tell_266 : decode b_Model_tell 266 = .ok (.iconst 0, 1) := by decide +kernel
theorem d_Model_tell_267 : decode b_Model_tell 267 = .ok (.istore_n 3, 1) := by decide +kernel
theorem d_Model_tell_268 : decode b_Model_tell 268 = .ok (.aload_n 0, 1) := by decide +kernel
theorem d_Model_tell_269 : decode b_Model_tell 269 = .ok (.bipush 28, 2) := by decide +kernel
theorem d_Model_tell_271 : decode b_Model_tell 271 = .ok (.invokevirtual 216, 3) := by decide +kernel
theorem d_Model_tell_274 : decode b_Model_tell 274 = .ok (.ifCond .eq 14, 3) := by decide +kernel
theorem d_Model_tell_277 : decode b_Model_tell 277 = .ok (.iload_n 1, 1) := by decide +kernel
theorem d_Model_tell_278 : decode b_Model_tell 278 = .ok (.iconst 4, 1) := by decide +kernel
theorem d_Model_tell_279 : decode b_Model_tell 279 = .ok (.if_icmp .ne 9, 3) := by decide +kernel
theorem d_Model_tell_282 : decode b_Model_tell 282 = .ok (.aload_n 0, 1) := by decide +kernel
theorem d_Model_tell_283 : decode b_Model_tell 283 = .ok (.invokevirtual 219, 3) := by decide +kernel
theorem d_Model_tell_286 : decode b_Model_tell 286 = .ok (.iconst 1, 1) := by decide +kernel
theorem d_Model_tell_287 : decode b_Model_tell 287 = .ok (.istore_n 3, 1) := by decide +kernel
theorem d_Model_tell_288 : decode b_Model_tell 288 = .ok (.iconst 1, 1) := by decide +kernel
theorem d_Model_tell_289 : decode b_Model_tell 289 = .ok (.istore 4, 2) := by decide +kernel
theorem d_Model_tell_291 : decode b_Model_tell 291 = .ok (.iload_n 3, 1) := by decide +kernel
theorem d_Model_tell_292 : decode b_Model_tell 292 = .ok (.ifCond .eq 55, 3) := by decide +kernel
theorem d_Model_tell_295 : decode b_Model_tell 295 = .ok (.aload_n 0, 1) := by decide +kernel
theorem d_Model_tell_296 : decode b_Model_tell 296 = .ok (.getfield 198, 3) := by decide +kernel
theorem d_Model_tell_299 : decode b_Model_tell 299 = .ok (.ifCond .ne 48, 3) := by decide +kernel
theorem d_Model_tell_302 : decode b_Model_tell 302 = .ok (.aload_n 0, 1) := by decide +kernel
theorem d_Model_tell_303 : decode b_Model_tell 303 = .ok (.iload 4, 2) := by decide +kernel
theorem d_Model_tell_305 : decode b_Model_tell 305 = .ok (.invokevirtual 260, 3) := by decide +kernel
theorem d_Model_tell_308 : decode b_Model_tell 308 = .ok (.aload_n 0, 1) := by decide +kernel
theorem d_Model_tell_309 : decode b_Model_tell 309 = .ok (.bipush 29, 2) := by decide +kernel
theorem d_Model_tell_311 : decode b_Model_tell 311 = .ok (.invokevirtual 216, 3) := by decide +kernel
theorem d_Model_tell_314 : decode b_Model_tell 314 = .ok (.istore 4, 2) := by decide +kernel
theorem d_Model_tell_316 : decode b_Model_tell 316 = .ok (.iload 4, 2) := by decide +kernel
theorem d_Model_tell_318 : decode b_Model_tell 318 = .ok (.ifCond .ne 12, 3) := by decide +kernel
theorem d_Model_tell_321 : decode b_Model_tell 321 = .ok (.aload_n 0, 1) := by decide +kernel
theorem d_Model_tell_322 : decode b_Model_tell 322 = .ok (.bipush 30, 2) := by decide +kernel
theorem d_Model_tell_324 : decode b_Model_tell 324 = .ok (.invokevirtual 216, 3) := by decide +kernel
theorem d_Model_tell_327 : decode b_Model_tell 327 = .ok (.ifCond .eq 7, 3) := by decide +kernel
theorem d_Model_tell_330 : decode b_Model_tell 330 = .ok (.iconst 1, 1) := by decide +kernel
theorem d_Model_tell_331 : decode b_Model_tell 331 = .ok (.goto 4, 3) := by decide +kernel
theorem d_Model_tell_334 : decode b_Model_tell 334 = .ok (.iconst 0, 1) := by decide +kernel
theorem d_Model_tell_335 : decode b_Model_tell 335 = .ok (.istore_n 3, 1) := by decide +kernel
theorem d_Model_tell_336 : decode b_Model_tell 336 = .ok (.iload_n 3, 1) := by decide +kernel
theorem d_Model_tell_337 : decode b_Model_tell 337 = .ok (.ifCond .eq (-46), 3) := by decide +kernel
theorem d_Model_tell_340 : decode b_Model_tell 340 = .ok (.aload_n 0, 1) := by decide +kernel
theorem d_Model_tell_341 : decode b_Model_tell 341 = .ok (.invokevirtual 219, 3) := by decide +kernel
theorem d_Model_tell_344 : decode b_Model_tell 344 = .ok (.goto (-53), 3) := by decide +kernel
theorem d_Model_tell_347 : decode b_Model_tell 347 = .ok (.aload_n 0, 1) := by decide +kernel
theorem d_Model_tell_348 : decode b_Model_tell 348 = .ok (.bipush 8, 2) := by decide +kernel
theorem d_Model_tell_350 : decode b_Model_tell 350 = .ok (.invokevirtual 254, 3) := by decide +kernel
theorem d_Model_tell_353 : decode b_Model_tell 353 = .ok (.aload_n 0, 1) := by decide +kernel
theorem d_Model_tell_354 : decode b_Model_tell 354 = .ok (.getfield 198, 3) := by decide +kernel
theorem d_Model_tell_357 : decode b_Model_tell 357 = .ok (.ifCond .le 4, 3) := by decide +kernel
theorem d_Model_tell_360 : decode b_Model_tell 360 = .ok (.return_, 1) := by decide +kernel
theorem d_Model_tell_361 : decode b_Model_tell 361 = .ok (.aload_n 0, 1) := by decide +kernel
theorem d_Model_tell_362 : decode b_Model_tell 362 = .ok (.getfield 61, 3) := by decide +kernel
theorem d_Model_tell_365 : decode b_Model_tell 365 = .ok (.iload_n 2, 1) := by decide +kernel
theorem d_Model_tell_366 : decode b_Model_tell 366 = .ok (.aload_n 0, 1) := by decide +kernel
theorem d_Model_tell_367 : decode b_Model_tell 367 = .ok (.getfield 70, 3) := by decide +kernel
theorem d_Model_tell_370 : decode b_Model_tell 370 = .ok (.aload_n 0, 1) := by decide +kernel
theorem d_Model_tell_371 : decode b_Model_tell 371 = .ok (.getfield 231, 3) := by decide +kernel
theorem d_Model_tell_374 : decode b_Model_tell 374 = .ok (.iaload, 1) := by decide +kernel
theorem d_Model_tell_375 : decode b_Model_tell 375 = .ok (.iastore, 1) := by decide +kernel
theorem d_Model_tell_376 : decode b_Model_tell 376 = .ok (.aload_n 0, 1) := by decide +kernel
theorem d_Model_tell_377 : decode b_Model_tell 377 = .ok (.getfield 52, 3) := by decide +kernel
theorem d_Model_tell_380 : decode b_Model_tell 380 = .ok (.iconst 5, 1) := by decide +kernel
theorem d_Model_tell_381 : decode b_Model_tell 381 = .ok (.aload_n 0, 1) := by decide +kernel
theorem d_Model_tell_382 : decode b_Model_tell 382 = .ok (.getfield 231, 3) := by decide +kernel
theorem d_Model_tell_385 : decode b_Model_tell 385 = .ok (.imul, 1) := by decide +kernel
theorem d_Model_tell_386 : decode b_Model_tell 386 = .ok (.iload_n 1, 1) := by decide +kernel
theorem d_Model_tell_387 : decode b_Model_tell 387 = .ok (.iadd, 1) := by decide +kernel
theorem d_Model_tell_388 : decode b_Model_tell 388 = .ok (.dup2, 1) := by decide +kernel
theorem d_Model_tell_389 : decode b_Model_tell 389 = .ok (.iaload, 1) := by decide +kernel
theorem d_Model_tell_390 : decode b_Model_tell 390 = .ok (.iconst 1, 1) := by decide +kernel
theorem d_Model_tell_391 : decode b_Model_tell 391 = .ok (.iadd, 1) := by decide +kernel
theorem d_Model_tell_392 : decode b_Model_tell 392 = .ok (.iastore, 1) := by decide +kernel
theorem d_Model_tell_393 : decode b_Model_tell 393 = .ok (.return_, 1) := by decide +kernel
set_option maxHeartbeats 4000000 in
set_option maxRecDepth 100000 in
theorem c_Model_tell (l : Launch) {S : St} {S' : St} (h : f_Model_tell S = some S') : MV mw l y_Model_tell b_Model_tell 5 none 6 133 0 0 (fun ad => [.ref (ad 0 0)]) aT aE S S' := by
  refine MV_of "LawfulLotsModel" rfl (by decide) (fun _ => Nat.le_of_ble_eq_true rfl) ?_
  intro p e s m args below meth c D ar ad A Q ls hP F hK hA hw hl hQ
  have hl : lv_has ls 5 [(0, .ref (ad 0 0))] := hl
  obtain ⟨X_0, eX_0⟩ : ∃ X : St → Prop, X = (fun q => ∀ (H : Heap) (locs : List Loc) (pc : Nat) (ls : Array Slot), decode b_Model_tell pc = .ok (.return_, 1) → Bw mw D ar A s.heap H locs ad q → W p l e (RM 6 133) s m args below meth c H locs 0 0 Q (F0 m pc ls [])) := ⟨_, rfl⟩
  have key : ∀ (H : Heap) (locs : List Loc), Bw mw D ar A s.heap H locs ad S → ∀ o, f_Model_tell S = some o → X_0 o → W p l e (RM 6 133) s m args below meth c H locs 0 0 Q (F0 m 0 ls []) := by
    intro H locs hw o h ho
    unfold f_Model_tell at h
    have J_347 : ∀ (S : St) (x1 : Int32) (x2 : Int32) (H : Heap) (locs : List Loc) (ls : Array Slot), Bw mw D ar A s.heap H locs ad S → lv_has ls 5 [(0, .ref (ad 0 0)), (1, .int x1), (2, .int x2)] → ∀ o, Model_tell_j347 S x1 x2 = some o → X_0 o → W p l e (RM 6 133) s m args below meth c H locs 0 0 Q (F0 m 347 ls []) := by
      intro S x1 x2 H locs ls hw hl o h ho
      unfold Model_tell_j347 at h
      refine lv_aload_n F.1 F.2.1 d_Model_tell_347 rfl (lv_at hl 0 rfl) ?_
      refine lv_bipush (v := 8) F.1 F.2.1 d_Model_tell_348 (by decide) ?_
      obtain ⟨S_80, hc_79, h⟩ := bd_ex h
      refine cV_v F hA rfl hK hw (c_Model_must l hc_79) trivial rfl (good_V lk_1269 lk_1271 ls_67 lk_10 lk_1272) (mr_0 hK hw) hd_Model_must ⟨Nat.le_of_ble_eq_true rfl, Nat.le_of_ble_eq_true rfl⟩ rfl hl.1 rfl (Nat.le_of_ble_eq_true rfl) d_Model_tell_350 ⟨(Nat.zero_le _), (Nat.zero_le _)⟩ (fun H locs hw => ?_)
      refine lv_aload_n F.1 F.2.1 d_Model_tell_353 rfl (lv_at hl 0 rfl) ?_
      refine mg_0_13 F hK hw lk_1024 d_Model_tell_354 ?_
      refine lv_if_le (tgt := 361) F.1 F.2.1 d_Model_tell_357 (by decide) (fun c_81 => ?_) (fun c_81 => ?_)
      · replace h := ip c_81 h
        refine lv_aload_n F.1 F.2.1 d_Model_tell_361 rfl (lv_at hl 0 rfl) ?_
        refine mg_0_28 F hK hw lk_1039 d_Model_tell_362 ?_
        refine lv_iload_n F.1 F.2.1 d_Model_tell_365 rfl (lv_at hl 2 rfl) ?_
        refine lv_aload_n F.1 F.2.1 d_Model_tell_366 rfl (lv_at hl 0 rfl) ?_
        refine mg_0_31 F hK hw lk_1042 d_Model_tell_367 ?_
        refine lv_aload_n F.1 F.2.1 d_Model_tell_370 rfl (lv_at hl 0 rfl) ?_
        refine mg_0_19 F hK hw lk_1030 d_Model_tell_371 ?_
        obtain ⟨hi_82, h⟩ := gd_ex h
        refine ml_0_31 F hK hw hi_82 d_Model_tell_374 ?_
        obtain ⟨hi_83, h⟩ := gd_ex h
        obtain ⟨S_84, eS_84, h⟩ := nm_ex h
        refine ms_0_28 F hK hw hi_83 d_Model_tell_375 eS_84 (fun H locs hw => ?_)
        refine lv_aload_n F.1 F.2.1 d_Model_tell_376 rfl (lv_at hl 0 rfl) ?_
        refine mg_0_25 F hK hw lk_1036 d_Model_tell_377 ?_
        refine lv_iconst (v := 5) F.1 F.2.1 d_Model_tell_380 (by decide) ?_
        refine lv_aload_n F.1 F.2.1 d_Model_tell_381 rfl (lv_at hl 0 rfl) ?_
        refine mg_0_19 F hK hw lk_1030 d_Model_tell_382 ?_
        refine lv_imul F.1 F.2.1 d_Model_tell_385 ?_
        refine lv_iload_n F.1 F.2.1 d_Model_tell_386 rfl (lv_at hl 1 rfl) ?_
        refine lv_iadd F.1 F.2.1 d_Model_tell_387 ?_
        refine lv_dup2_11 F.1 F.2.1 d_Model_tell_388 rfl rfl ?_
        obtain ⟨hi_85, h⟩ := gd_ex h
        refine ml_0_25 F hK hw hi_85 d_Model_tell_389 ?_
        refine lv_iconst (v := 1) F.1 F.2.1 d_Model_tell_390 (by decide) ?_
        refine lv_iadd F.1 F.2.1 d_Model_tell_391 ?_
        obtain ⟨hi_86, h⟩ := gd_ex h
        obtain ⟨S_87, eS_87, h⟩ := nm_ex h
        refine ms_0_25 F hK hw hi_86 d_Model_tell_392 eS_87 (fun H locs hw => ?_)
        cases h
        have ho : X_0 _ := ho
        rw [eX_0] at ho
        exact ho H locs _ ls d_Model_tell_393 hw
      · replace h := iq c_81 h
        cases h
        have ho : X_0 _ := ho
        rw [eX_0] at ho
        exact ho H locs _ ls d_Model_tell_360 hw
    have J_288 : ∀ (S : St) (x1 : Int32) (x2 : Int32) (x3 : Int32) (H : Heap) (locs : List Loc) (ls : Array Slot), Bw mw D ar A s.heap H locs ad S → lv_has ls 5 [(0, .ref (ad 0 0)), (1, .int x1), (2, .int x2), (3, .int x3)] → ∀ o, Model_tell_j288 S x1 x2 x3 = some o → X_0 o → W p l e (RM 6 133) s m args below meth c H locs 0 0 Q (F0 m 288 ls []) := by
      intro S x1 x2 x3 H locs ls hw hl o h ho
      unfold Model_tell_j288 at h
      refine lv_iconst (v := 1) F.1 F.2.1 d_Model_tell_288 (by decide) ?_
      refine lv_istore (lv' := [(4, .int (1 : Int32)), (0, .ref (ad 0 0)), (1, .int x1), (2, .int x2), (3, .int x3)]) F.1 F.2.1 d_Model_tell_289 hl (by decide) rfl (fun ls hl => ?_)
      obtain ⟨S_77, hc_78, h⟩ := bd_ex h
      obtain ⟨X_291, eX_291⟩ : ∃ X : St → Prop, X = (fun q => ∀ (H : Heap) (locs : List Loc) (ls : Array Slot), Bw mw D ar A s.heap H locs ad q → lv_has ls 5 [(0, .ref (ad 0 0)), (1, .int x1), (2, .int x2)] → W p l e (RM 6 133) s m args below meth c H locs 0 0 Q (F0 m 347 ls [])) := ⟨_, rfl⟩
      have hX_291 : X_291 S_77 := by
        rw [eX_291]
        intro H locs ls hw hl
        exact J_347 S_77 x1 x2 H locs ls hw (lv_sub hl [0, 1, 2] rfl) o h ho
      obtain ⟨P_291, eP_291⟩ : ∃ P : (St × Int32 × Int32) → Prop, P = (fun q => ∀ (H : Heap) (locs : List Loc) (ls : Array Slot), Bw mw D ar A s.heap H locs ad q.1 → lv_has ls 5 [(0, .ref (ad 0 0)), (1, .int x1), (2, .int x2), (3, .int q.2.1), (4, .int q.2.2)] → W p l e (RM 6 133) s m args below meth c H locs 0 0 Q (F0 m 291 ls [])) := ⟨_, rfl⟩
      have hL_291 : P_291 (S, x3, (1 : Int32)) := by
        refine wh_gp (P := P_291) (X := X_291) hc_78 hX_291 ?_
        clear h
        intro q o h ho
        obtain ⟨S, x3, x4⟩ := q
        have h : Model_tell_l291 x1 x2 S x3 x4 = some o := h
        unfold Model_tell_l291 at h
        rw [eP_291]
        intro H locs ls hw hl
        have J_335_l291 : ∀ (S : St) (x4 : Int32) (t0 : Int32) (H : Heap) (locs : List Loc) (ls : Array Slot), Bw mw D ar A s.heap H locs ad S → lv_has ls 5 [(0, .ref (ad 0 0)), (1, .int x1), (2, .int x2), (4, .int x4)] → ∀ o, Model_tell_j335_l291 S x1 x2 x4 t0 = some o → (Sum.elim P_291 X_291) o → W p l e (RM 6 133) s m args below meth c H locs 0 0 Q (F0 m 335 ls [.int t0]) := by
          intro S x4 t0 H locs ls hw hl o h ho
          unfold Model_tell_j335_l291 at h
          refine lv_istore_n (lv' := [(3, .int t0), (0, .ref (ad 0 0)), (1, .int x1), (2, .int x2), (4, .int x4)]) F.1 F.2.1 d_Model_tell_335 rfl hl (by decide) rfl (fun ls hl => ?_)
          refine lv_iload_n F.1 F.2.1 d_Model_tell_336 rfl (lv_at hl 0 rfl) ?_
          refine lv_if_eq (tgt := 291) F.1 F.2.1 d_Model_tell_337 (by decide) (fun c_74 => ?_) (fun c_74 => ?_)
          · replace h := ip c_74 h
            cases h
            have ho : P_291 _ := ho
            rw [eP_291] at ho
            exact ho H locs ls hw (lv_sub hl [1, 2, 3, 0, 4] rfl)
          · replace h := iq c_74 h
            refine lv_aload_n F.1 F.2.1 d_Model_tell_340 rfl (lv_at hl 1 rfl) ?_
            obtain ⟨S_76, hc_75, h⟩ := bd_ex h
            refine cV_v F hA rfl hK hw (c_Model_next l hc_75) trivial rfl (good_V lk_1265 lk_1267 ls_66 lk_10 lk_1268) (mr_0 hK hw) hd_Model_next ⟨Nat.le_of_ble_eq_true rfl, Nat.le_of_ble_eq_true rfl⟩ rfl hl.1 rfl (Nat.le_of_ble_eq_true rfl) d_Model_tell_341 ⟨(Nat.zero_le _), (Nat.zero_le _)⟩ (fun H locs hw => ?_)
            refine lv_goto (tgt := 291) F.1 F.2.1 d_Model_tell_344 (by decide) ?_
            cases h
            have ho : P_291 _ := ho
            rw [eP_291] at ho
            exact ho H locs ls hw (lv_sub hl [1, 2, 3, 0, 4] rfl)
        have J_330_l291 : ∀ (S : St) (x4 : Int32) (H : Heap) (locs : List Loc) (ls : Array Slot), Bw mw D ar A s.heap H locs ad S → lv_has ls 5 [(0, .ref (ad 0 0)), (1, .int x1), (2, .int x2), (4, .int x4)] → ∀ o, Model_tell_j330_l291 S x1 x2 x4 = some o → (Sum.elim P_291 X_291) o → W p l e (RM 6 133) s m args below meth c H locs 0 0 Q (F0 m 330 ls []) := by
          intro S x4 H locs ls hw hl o h ho
          unfold Model_tell_j330_l291 at h
          refine lv_iconst (v := 1) F.1 F.2.1 d_Model_tell_330 (by decide) ?_
          refine lv_goto (tgt := 335) F.1 F.2.1 d_Model_tell_331 (by decide) ?_
          exact J_335_l291 S x4 (1 : Int32) H locs ls hw (lv_sub hl [0, 1, 2, 3] rfl) o h ho
        refine lv_iload_n F.1 F.2.1 d_Model_tell_291 rfl (lv_at hl 3 rfl) ?_
        refine lv_if_eq (tgt := 347) F.1 F.2.1 d_Model_tell_292 (by decide) (fun c_64 => ?_) (fun c_64 => ?_)
        · replace h := ip c_64 h
          cases h
          have ho : X_291 _ := ho
          rw [eX_291] at ho
          exact ho H locs ls hw (lv_sub hl [0, 1, 2] rfl)
        · replace h := iq c_64 h
          refine lv_aload_n F.1 F.2.1 d_Model_tell_295 rfl (lv_at hl 0 rfl) ?_
          refine mg_0_13 F hK hw lk_1024 d_Model_tell_296 ?_
          refine lv_if_ne (tgt := 347) F.1 F.2.1 d_Model_tell_299 (by decide) (fun c_65 => ?_) (fun c_65 => ?_)
          · replace h := iq c_65 h
            cases h
            have ho : X_291 _ := ho
            rw [eX_291] at ho
            exact ho H locs ls hw (lv_sub hl [0, 1, 2] rfl)
          · replace h := ip c_65 h
            refine lv_aload_n F.1 F.2.1 d_Model_tell_302 rfl (lv_at hl 0 rfl) ?_
            refine lv_iload F.1 F.2.1 d_Model_tell_303 (lv_at hl 4 rfl) ?_
            obtain ⟨S_67, hc_66, h⟩ := bd_ex h
            refine cV_v F hA rfl hK hw (c_Model_literal l hc_66) trivial rfl (good_V lk_1299 lk_1301 ls_74 lk_10 lk_1302) (mr_0 hK hw) hd_Model_literal ⟨Nat.le_of_ble_eq_true rfl, Nat.le_of_ble_eq_true rfl⟩ rfl hl.1 rfl (Nat.le_of_ble_eq_true rfl) d_Model_tell_305 ⟨(Nat.zero_le _), (Nat.zero_le _)⟩ (fun H locs hw => ?_)
            refine lv_aload_n F.1 F.2.1 d_Model_tell_308 rfl (lv_at hl 0 rfl) ?_
            refine lv_bipush (v := 29) F.1 F.2.1 d_Model_tell_309 (by decide) ?_
            obtain ⟨v_69, hc_68, h⟩ := bd_ex h
            refine cV_i F hA rfl hK hw (c_Model_is l hc_68) trivial rfl (good_V lk_1249 lk_1251 ls_62 lk_10 lk_1252) (mr_0 hK hw) hd_Model_is ⟨Nat.le_of_ble_eq_true rfl, Nat.le_of_ble_eq_true rfl⟩ rfl hl.1 rfl (Nat.le_of_ble_eq_true rfl) d_Model_tell_311 ⟨(Nat.zero_le _), (Nat.zero_le _)⟩ (fun H locs hw => ?_)
            refine lv_istore (lv' := [(4, .int v_69), (0, .ref (ad 0 0)), (1, .int x1), (2, .int x2), (3, .int x3)]) F.1 F.2.1 d_Model_tell_314 hl (by decide) rfl (fun ls hl => ?_)
            refine lv_iload F.1 F.2.1 d_Model_tell_316 (lv_at hl 0 rfl) ?_
            refine lv_if_ne (tgt := 330) F.1 F.2.1 d_Model_tell_318 (by decide) (fun c_70 => ?_) (fun c_70 => ?_)
            · replace h := iq c_70 h
              exact J_330_l291 S_67 v_69 H locs ls hw (lv_sub hl [1, 2, 3, 0] rfl) o h ho
            · replace h := ip c_70 h
              refine lv_aload_n F.1 F.2.1 d_Model_tell_321 rfl (lv_at hl 1 rfl) ?_
              refine lv_bipush (v := 30) F.1 F.2.1 d_Model_tell_322 (by decide) ?_
              obtain ⟨v_72, hc_71, h⟩ := bd_ex h
              refine cV_i F hA rfl hK hw (c_Model_is l hc_71) trivial rfl (good_V lk_1249 lk_1251 ls_62 lk_10 lk_1252) (mr_0 hK hw) hd_Model_is ⟨Nat.le_of_ble_eq_true rfl, Nat.le_of_ble_eq_true rfl⟩ rfl hl.1 rfl (Nat.le_of_ble_eq_true rfl) d_Model_tell_324 ⟨(Nat.zero_le _), (Nat.zero_le _)⟩ (fun H locs hw => ?_)
              refine lv_if_eq (tgt := 334) F.1 F.2.1 d_Model_tell_327 (by decide) (fun c_73 => ?_) (fun c_73 => ?_)
              · replace h := ip c_73 h
                refine lv_iconst (v := 0) F.1 F.2.1 d_Model_tell_334 (by decide) ?_
                exact J_335_l291 S_67 v_69 (0 : Int32) H locs ls hw (lv_sub hl [1, 2, 3, 0] rfl) o h ho
              · replace h := iq c_73 h
                exact J_330_l291 S_67 v_69 H locs ls hw (lv_sub hl [1, 2, 3, 0] rfl) o h ho
      rw [eP_291] at hL_291
      exact hL_291 H locs ls hw (lv_sub hl [1, 2, 3, 4, 0] rfl)
    have J_267 : ∀ (S : St) (x1 : Int32) (x2 : Int32) (t0 : Int32) (H : Heap) (locs : List Loc) (ls : Array Slot), Bw mw D ar A s.heap H locs ad S → lv_has ls 5 [(0, .ref (ad 0 0)), (1, .int x1), (2, .int x2)] → ∀ o, Model_tell_j267 S x1 x2 t0 = some o → X_0 o → W p l e (RM 6 133) s m args below meth c H locs 0 0 Q (F0 m 267 ls [.int t0]) := by
      intro S x1 x2 t0 H locs ls hw hl o h ho
      unfold Model_tell_j267 at h
      refine lv_istore_n (lv' := [(3, .int t0), (0, .ref (ad 0 0)), (1, .int x1), (2, .int x2)]) F.1 F.2.1 d_Model_tell_267 rfl hl (by decide) rfl (fun ls hl => ?_)
      refine lv_aload_n F.1 F.2.1 d_Model_tell_268 rfl (lv_at hl 1 rfl) ?_
      refine lv_bipush (v := 28) F.1 F.2.1 d_Model_tell_269 (by decide) ?_
      obtain ⟨v_59, hc_58, h⟩ := bd_ex h
      refine cV_i F hA rfl hK hw (c_Model_is l hc_58) trivial rfl (good_V lk_1249 lk_1251 ls_62 lk_10 lk_1252) (mr_0 hK hw) hd_Model_is ⟨Nat.le_of_ble_eq_true rfl, Nat.le_of_ble_eq_true rfl⟩ rfl hl.1 rfl (Nat.le_of_ble_eq_true rfl) d_Model_tell_271 ⟨(Nat.zero_le _), (Nat.zero_le _)⟩ (fun H locs hw => ?_)
      refine lv_if_eq (tgt := 288) F.1 F.2.1 d_Model_tell_274 (by decide) (fun c_60 => ?_) (fun c_60 => ?_)
      · replace h := ip c_60 h
        exact J_288 S x1 x2 t0 H locs ls hw (lv_sub hl [1, 2, 3, 0] rfl) o h ho
      · replace h := iq c_60 h
        refine lv_iload_n F.1 F.2.1 d_Model_tell_277 rfl (lv_at hl 2 rfl) ?_
        refine lv_iconst (v := 4) F.1 F.2.1 d_Model_tell_278 (by decide) ?_
        refine lv_icmp_ne (tgt := 288) F.1 F.2.1 d_Model_tell_279 (by decide) (fun c_61 => ?_) (fun c_61 => ?_)
        · replace h := iq c_61 h
          exact J_288 S x1 x2 t0 H locs ls hw (lv_sub hl [1, 2, 3, 0] rfl) o h ho
        · replace h := ip c_61 h
          refine lv_aload_n F.1 F.2.1 d_Model_tell_282 rfl (lv_at hl 1 rfl) ?_
          obtain ⟨S_63, hc_62, h⟩ := bd_ex h
          refine cV_v F hA rfl hK hw (c_Model_next l hc_62) trivial rfl (good_V lk_1265 lk_1267 ls_66 lk_10 lk_1268) (mr_0 hK hw) hd_Model_next ⟨Nat.le_of_ble_eq_true rfl, Nat.le_of_ble_eq_true rfl⟩ rfl hl.1 rfl (Nat.le_of_ble_eq_true rfl) d_Model_tell_283 ⟨(Nat.zero_le _), (Nat.zero_le _)⟩ (fun H locs hw => ?_)
          refine lv_iconst (v := 1) F.1 F.2.1 d_Model_tell_286 (by decide) ?_
          refine lv_istore_n (lv' := [(3, .int (1 : Int32)), (0, .ref (ad 0 0)), (1, .int x1), (2, .int x2)]) F.1 F.2.1 d_Model_tell_287 rfl hl (by decide) rfl (fun ls hl => ?_)
          exact J_288 S_63 x1 x2 (1 : Int32) H locs ls hw (lv_sub hl [1, 2, 3, 0] rfl) o h ho
    have J_232 : ∀ (S : St) (x1 : Int32) (x2 : Int32) (H : Heap) (locs : List Loc) (ls : Array Slot), Bw mw D ar A s.heap H locs ad S → lv_has ls 5 [(0, .ref (ad 0 0)), (1, .int x1), (2, .int x2)] → ∀ o, Model_tell_j232 S x1 x2 = some o → X_0 o → W p l e (RM 6 133) s m args below meth c H locs 0 0 Q (F0 m 232 ls []) := by
      intro S x1 x2 H locs ls hw hl o h ho
      unfold Model_tell_j232 at h
      refine lv_aload_n F.1 F.2.1 d_Model_tell_232 rfl (lv_at hl 0 rfl) ?_
      refine mg_0_30 F hK hw lk_1041 d_Model_tell_233 ?_
      refine lv_iload_n F.1 F.2.1 d_Model_tell_236 rfl (lv_at hl 2 rfl) ?_
      refine lv_aload_n F.1 F.2.1 d_Model_tell_237 rfl (lv_at hl 0 rfl) ?_
      refine mg_0_38 F hK hw lk_1049 d_Model_tell_238 ?_
      obtain ⟨hi_52, h⟩ := gd_ex h
      obtain ⟨S_53, eS_53, h⟩ := nm_ex h
      refine ms_0_30 F hK hw hi_52 d_Model_tell_241 eS_53 (fun H locs hw => ?_)
      refine lv_aload_n F.1 F.2.1 d_Model_tell_242 rfl (lv_at hl 0 rfl) ?_
      refine mg_0_27 F hK hw lk_1038 d_Model_tell_243 ?_
      refine lv_iload_n F.1 F.2.1 d_Model_tell_246 rfl (lv_at hl 2 rfl) ?_
      refine lv_aload_n F.1 F.2.1 d_Model_tell_247 rfl (lv_at hl 0 rfl) ?_
      refine mg_0_31 F hK hw lk_1042 d_Model_tell_248 ?_
      refine lv_aload_n F.1 F.2.1 d_Model_tell_251 rfl (lv_at hl 0 rfl) ?_
      refine mg_0_19 F hK hw lk_1030 d_Model_tell_252 ?_
      obtain ⟨hi_54, h⟩ := gd_ex h
      refine ml_0_31 F hK hw hi_54 d_Model_tell_255 ?_
      obtain ⟨hi_55, h⟩ := gd_ex h
      obtain ⟨S_56, eS_56, h⟩ := nm_ex h
      refine ms_0_27 F hK hw hi_55 d_Model_tell_256 eS_56 (fun H locs hw => ?_)
      refine lv_iload_n F.1 F.2.1 d_Model_tell_257 rfl (lv_at hl 1 rfl) ?_
      refine lv_iconst (v := 4) F.1 F.2.1 d_Model_tell_258 (by decide) ?_
      refine lv_icmp_eq (tgt := 266) F.1 F.2.1 d_Model_tell_259 (by decide) (fun c_57 => ?_) (fun c_57 => ?_)
      · replace h := ip c_57 h
        refine lv_iconst (v := 0) F.1 F.2.1 d_Model_tell_266 (by decide) ?_
        exact J_267 S_56 x1 x2 (0 : Int32) H locs ls hw (lv_sub hl [0, 1, 2] rfl) o h ho
      · replace h := iq c_57 h
        refine lv_iconst (v := 1) F.1 F.2.1 d_Model_tell_262 (by decide) ?_
        refine lv_goto (tgt := 267) F.1 F.2.1 d_Model_tell_263 (by decide) ?_
        exact J_267 S_56 x1 x2 (1 : Int32) H locs ls hw (lv_sub hl [0, 1, 2] rfl) o h ho
    have J_223 : ∀ (S : St) (x1 : Int32) (x2 : Int32) (H : Heap) (locs : List Loc) (ls : Array Slot), Bw mw D ar A s.heap H locs ad S → lv_has ls 5 [(0, .ref (ad 0 0)), (1, .int x1), (2, .int x2)] → ∀ o, Model_tell_j223 S x1 x2 = some o → X_0 o → W p l e (RM 6 133) s m args below meth c H locs 0 0 Q (F0 m 223 ls []) := by
      intro S x1 x2 H locs ls hw hl o h ho
      unfold Model_tell_j223 at h
      refine lv_iload_n F.1 F.2.1 d_Model_tell_223 rfl (lv_at hl 1 rfl) ?_
      refine lv_iconst (v := 4) F.1 F.2.1 d_Model_tell_224 (by decide) ?_
      refine lv_icmp_ne (tgt := 232) F.1 F.2.1 d_Model_tell_225 (by decide) (fun c_49 => ?_) (fun c_49 => ?_)
      · replace h := iq c_49 h
        exact J_232 S x1 x2 H locs ls hw (lv_sub hl [0, 1, 2] rfl) o h ho
      · replace h := ip c_49 h
        refine lv_aload_n F.1 F.2.1 d_Model_tell_228 rfl (lv_at hl 0 rfl) ?_
        obtain ⟨S_51, hc_50, h⟩ := bd_ex h
        refine cV_v F hA rfl hK hw (c_Model_expression l hc_50) trivial rfl (good_V lk_1279 lk_1281 ls_69 lk_10 lk_1282) (mr_0 hK hw) hd_Model_expression ⟨Nat.le_of_ble_eq_true rfl, Nat.le_of_ble_eq_true rfl⟩ rfl hl.1 rfl (Nat.le_of_ble_eq_true rfl) d_Model_tell_229 ⟨(Nat.zero_le _), (Nat.zero_le _)⟩ (fun H locs hw => ?_)
        exact J_232 S_51 x1 x2 H locs ls hw (lv_sub hl [0, 1, 2] rfl) o h ho
    have J_217 : ∀ (S : St) (x1 : Int32) (x2 : Int32) (t1 : Int32) (t2 : Int32) (H : Heap) (locs : List Loc) (ls : Array Slot), Bw mw D ar A s.heap H locs ad S → lv_has ls 5 [(0, .ref (ad 0 0)), (1, .int x1), (2, .int x2)] → ∀ o, Model_tell_j217 S x1 x2 t1 t2 = some o → X_0 o → W p l e (RM 6 133) s m args below meth c H locs 0 0 Q (F0 m 217 ls [.int t2, .int t1, .ref (ad 0 27)]) := by
      intro S x1 x2 t1 t2 H locs ls hw hl o h ho
      unfold Model_tell_j217 at h
      obtain ⟨hi_45, h⟩ := gd_ex h
      obtain ⟨S_46, eS_46, h⟩ := nm_ex h
      refine ms_0_26 F hK hw hi_45 d_Model_tell_217 eS_46 (fun H locs hw => ?_)
      refine lv_aload_n F.1 F.2.1 d_Model_tell_218 rfl (lv_at hl 0 rfl) ?_
      refine lv_iconst (v := 2) F.1 F.2.1 d_Model_tell_219 (by decide) ?_
      obtain ⟨S_48, hc_47, h⟩ := bd_ex h
      refine cV_v F hA rfl hK hw (c_Model_must l hc_47) trivial rfl (good_V lk_1269 lk_1271 ls_67 lk_10 lk_1272) (mr_0 hK hw) hd_Model_must ⟨Nat.le_of_ble_eq_true rfl, Nat.le_of_ble_eq_true rfl⟩ rfl hl.1 rfl (Nat.le_of_ble_eq_true rfl) d_Model_tell_220 ⟨(Nat.zero_le _), (Nat.zero_le _)⟩ (fun H locs hw => ?_)
      exact J_223 S_48 x1 x2 H locs ls hw (lv_sub hl [0, 1, 2] rfl) o h ho
    have J_166 : ∀ (S : St) (x1 : Int32) (x2 : Int32) (t1 : Int32) (H : Heap) (locs : List Loc) (ls : Array Slot), Bw mw D ar A s.heap H locs ad S → lv_has ls 5 [(0, .ref (ad 0 0)), (1, .int x1), (2, .int x2)] → ∀ o, Model_tell_j166 S x1 x2 t1 = some o → X_0 o → W p l e (RM 6 133) s m args below meth c H locs 0 0 Q (F0 m 166 ls [.int t1, .ref (ad 0 0)]) := by
      intro S x1 x2 t1 H locs ls hw hl o h ho
      unfold Model_tell_j166 at h
      obtain ⟨hb_34, h⟩ := gd_ex h
      obtain ⟨S_35, eS_35, h⟩ := nm_ex h
      refine mp_0_41 F hK hw hb_34 lk_1052 d_Model_tell_166 eS_35 (fun H locs hw => ?_)
      refine lv_aload_n F.1 F.2.1 d_Model_tell_169 rfl (lv_at hl 0 rfl) ?_
      refine mg_0_26 F hK hw lk_1037 d_Model_tell_170 ?_
      refine lv_iload_n F.1 F.2.1 d_Model_tell_173 rfl (lv_at hl 2 rfl) ?_
      refine lv_iconst (v := 0) F.1 F.2.1 d_Model_tell_174 (by decide) ?_
      obtain ⟨hi_36, h⟩ := gd_ex h
      obtain ⟨S_37, eS_37, h⟩ := nm_ex h
      refine ms_0_26 F hK hw hi_36 d_Model_tell_175 eS_37 (fun H locs hw => ?_)
      refine lv_aload_n F.1 F.2.1 d_Model_tell_176 rfl (lv_at hl 0 rfl) ?_
      refine mg_0_29 F hK hw lk_1040 d_Model_tell_177 ?_
      refine lv_iload_n F.1 F.2.1 d_Model_tell_180 rfl (lv_at hl 2 rfl) ?_
      refine lv_aload_n F.1 F.2.1 d_Model_tell_181 rfl (lv_at hl 0 rfl) ?_
      refine mg_0_38 F hK hw lk_1049 d_Model_tell_182 ?_
      obtain ⟨hi_38, h⟩ := gd_ex h
      obtain ⟨S_39, eS_39, h⟩ := nm_ex h
      refine ms_0_29 F hK hw hi_38 d_Model_tell_185 eS_39 (fun H locs hw => ?_)
      refine lv_iload_n F.1 F.2.1 d_Model_tell_186 rfl (lv_at hl 1 rfl) ?_
      refine lv_iconst (v := 1) F.1 F.2.1 d_Model_tell_187 (by decide) ?_
      refine lv_icmp_ne (tgt := 223) F.1 F.2.1 d_Model_tell_188 (by decide) (fun c_40 => ?_) (fun c_40 => ?_)
      · replace h := iq c_40 h
        exact J_223 S_39 x1 x2 H locs ls hw (lv_sub hl [0, 1, 2] rfl) o h ho
      · replace h := ip c_40 h
        refine lv_aload_n F.1 F.2.1 d_Model_tell_191 rfl (lv_at hl 0 rfl) ?_
        refine mg_0_26 F hK hw lk_1037 d_Model_tell_192 ?_
        refine lv_iload_n F.1 F.2.1 d_Model_tell_195 rfl (lv_at hl 2 rfl) ?_
        refine lv_aload_n F.1 F.2.1 d_Model_tell_196 rfl (lv_at hl 0 rfl) ?_
        refine lv_iconst (v := 2) F.1 F.2.1 d_Model_tell_197 (by decide) ?_
        obtain ⟨v_42, hc_41, h⟩ := bd_ex h
        refine cV_i F hA rfl hK hw (c_Model_is l hc_41) trivial rfl (good_V lk_1249 lk_1251 ls_62 lk_10 lk_1252) (mr_0 hK hw) hd_Model_is ⟨Nat.le_of_ble_eq_true rfl, Nat.le_of_ble_eq_true rfl⟩ rfl hl.1 rfl (Nat.le_of_ble_eq_true rfl) d_Model_tell_198 ⟨(Nat.zero_le _), (Nat.zero_le _)⟩ (fun H locs hw => ?_)
        refine lv_if_eq (tgt := 216) F.1 F.2.1 d_Model_tell_201 (by decide) (fun c_43 => ?_) (fun c_43 => ?_)
        · replace h := ip c_43 h
          refine lv_iconst (v := 0) F.1 F.2.1 d_Model_tell_216 (by decide) ?_
          exact J_217 S_39 x1 x2 x2 (0 : Int32) H locs ls hw (lv_sub hl [0, 1, 2] rfl) o h ho
        · replace h := iq c_43 h
          refine lv_aload_n F.1 F.2.1 d_Model_tell_204 rfl (lv_at hl 0 rfl) ?_
          refine mg_0_7 F hK hw lk_1018 d_Model_tell_205 ?_
          refine lv_aload_n F.1 F.2.1 d_Model_tell_208 rfl (lv_at hl 0 rfl) ?_
          refine mg_0_11 F hK hw lk_1022 d_Model_tell_209 ?_
          obtain ⟨hi_44, h⟩ := gd_ex h
          refine ml_0_7 F hK hw hi_44 d_Model_tell_212 ?_
          refine lv_goto (tgt := 217) F.1 F.2.1 d_Model_tell_213 (by decide) ?_
          exact J_217 S_39 x1 x2 x2 (gA S_39 0 7 (gI S_39 0 11).toNatClampNeg) H locs ls hw (lv_sub hl [0, 1, 2] rfl) o h ho
    have J_117 : ∀ (S : St) (x1 : Int32) (H : Heap) (locs : List Loc) (ls : Array Slot), Bw mw D ar A s.heap H locs ad S → lv_has ls 5 [(0, .ref (ad 0 0)), (1, .int x1)] → ∀ o, Model_tell_j117 S x1 = some o → X_0 o → W p l e (RM 6 133) s m args below meth c H locs 0 0 Q (F0 m 117 ls []) := by
      intro S x1 H locs ls hw hl o h ho
      unfold Model_tell_j117 at h
      refine lv_aload_n F.1 F.2.1 d_Model_tell_117 rfl (lv_at hl 0 rfl) ?_
      refine mg_0_13 F hK hw lk_1024 d_Model_tell_118 ?_
      refine lv_if_le (tgt := 125) F.1 F.2.1 d_Model_tell_121 (by decide) (fun c_28 => ?_) (fun c_28 => ?_)
      · replace h := ip c_28 h
        refine lv_aload_n F.1 F.2.1 d_Model_tell_125 rfl (lv_at hl 0 rfl) ?_
        obtain ⟨S_30, hc_29, h⟩ := bd_ex h
        refine cV_v F hA rfl hK hw (c_Model_next l hc_29) trivial rfl (good_V lk_1265 lk_1267 ls_66 lk_10 lk_1268) (mr_0 hK hw) hd_Model_next ⟨Nat.le_of_ble_eq_true rfl, Nat.le_of_ble_eq_true rfl⟩ rfl hl.1 rfl (Nat.le_of_ble_eq_true rfl) d_Model_tell_126 ⟨(Nat.zero_le _), (Nat.zero_le _)⟩ (fun H locs hw => ?_)
        refine lv_bipush (v := 8) F.1 F.2.1 d_Model_tell_129 (by decide) ?_
        refine lv_iconst (v := 5) F.1 F.2.1 d_Model_tell_131 (by decide) ?_
        refine lv_aload_n F.1 F.2.1 d_Model_tell_132 rfl (lv_at hl 0 rfl) ?_
        refine mg_0_19 F hK hw lk_1030 d_Model_tell_133 ?_
        refine lv_imul F.1 F.2.1 d_Model_tell_136 ?_
        refine lv_iload_n F.1 F.2.1 d_Model_tell_137 rfl (lv_at hl 1 rfl) ?_
        refine lv_iadd F.1 F.2.1 d_Model_tell_138 ?_
        refine lv_imul F.1 F.2.1 d_Model_tell_139 ?_
        refine lv_aload_n F.1 F.2.1 d_Model_tell_140 rfl (lv_at hl 0 rfl) ?_
        refine mg_0_25 F hK hw lk_1036 d_Model_tell_141 ?_
        refine lv_iconst (v := 5) F.1 F.2.1 d_Model_tell_144 (by decide) ?_
        refine lv_aload_n F.1 F.2.1 d_Model_tell_145 rfl (lv_at hl 0 rfl) ?_
        refine mg_0_19 F hK hw lk_1030 d_Model_tell_146 ?_
        refine lv_imul F.1 F.2.1 d_Model_tell_149 ?_
        refine lv_iload_n F.1 F.2.1 d_Model_tell_150 rfl (lv_at hl 1 rfl) ?_
        refine lv_iadd F.1 F.2.1 d_Model_tell_151 ?_
        obtain ⟨hi_31, h⟩ := gd_ex h
        refine ml_0_25 F hK hw hi_31 d_Model_tell_152 ?_
        refine lv_iadd F.1 F.2.1 d_Model_tell_153 ?_
        obtain ⟨x2_32, ex2_32, h⟩ := nm_ex h
        refine lv_nm ex2_32 ?_
        refine lv_istore_n (lv' := [(2, .int x2_32), (0, .ref (ad 0 0)), (1, .int x1)]) F.1 F.2.1 d_Model_tell_154 rfl hl (by decide) rfl (fun ls hl => ?_)
        refine lv_aload_n F.1 F.2.1 d_Model_tell_155 rfl (lv_at hl 1 rfl) ?_
        refine lv_iload_n F.1 F.2.1 d_Model_tell_156 rfl (lv_at hl 2 rfl) ?_
        refine lv_iconst (v := 3) F.1 F.2.1 d_Model_tell_157 (by decide) ?_
        refine lv_icmp_ne (tgt := 165) F.1 F.2.1 d_Model_tell_158 (by decide) (fun c_33 => ?_) (fun c_33 => ?_)
        · replace h := iq c_33 h
          refine lv_iconst (v := 0) F.1 F.2.1 d_Model_tell_165 (by decide) ?_
          exact J_166 S_30 x1 x2_32 (0 : Int32) H locs ls hw (lv_sub hl [1, 2, 0] rfl) o h ho
        · replace h := ip c_33 h
          refine lv_iconst (v := 1) F.1 F.2.1 d_Model_tell_161 (by decide) ?_
          refine lv_goto (tgt := 166) F.1 F.2.1 d_Model_tell_162 (by decide) ?_
          exact J_166 S_30 x1 x2_32 (1 : Int32) H locs ls hw (lv_sub hl [1, 2, 0] rfl) o h ho
      · replace h := iq c_28 h
        cases h
        have ho : X_0 _ := ho
        rw [eX_0] at ho
        exact ho H locs _ ls d_Model_tell_124 hw
    have J_80 : ∀ (S : St) (t0 : Int32) (H : Heap) (locs : List Loc) (ls : Array Slot), Bw mw D ar A s.heap H locs ad S → lv_has ls 5 [(0, .ref (ad 0 0))] → ∀ o, Model_tell_j80 S t0 = some o → X_0 o → W p l e (RM 6 133) s m args below meth c H locs 0 0 Q (F0 m 80 ls [.int t0]) := by
      intro S t0 H locs ls hw hl o h ho
      unfold Model_tell_j80 at h
      refine lv_istore_n (lv' := [(1, .int t0), (0, .ref (ad 0 0))]) F.1 F.2.1 d_Model_tell_80 rfl hl (by decide) rfl (fun ls hl => ?_)
      refine lv_iload_n F.1 F.2.1 d_Model_tell_81 rfl (lv_at hl 0 rfl) ?_
      refine lv_iconst (v := -1) F.1 F.2.1 d_Model_tell_82 (by decide) ?_
      refine lv_icmp_ne (tgt := 94) F.1 F.2.1 d_Model_tell_83 (by decide) (fun c_21 => ?_) (fun c_21 => ?_)
      · replace h := iq c_21 h
        refine lv_aload_n F.1 F.2.1 d_Model_tell_94 rfl (lv_at hl 1 rfl) ?_
        refine mg_0_25 F hK hw lk_1036 d_Model_tell_95 ?_
        refine lv_iconst (v := 5) F.1 F.2.1 d_Model_tell_98 (by decide) ?_
        refine lv_aload_n F.1 F.2.1 d_Model_tell_99 rfl (lv_at hl 1 rfl) ?_
        refine mg_0_19 F hK hw lk_1030 d_Model_tell_100 ?_
        refine lv_imul F.1 F.2.1 d_Model_tell_103 ?_
        refine lv_iload_n F.1 F.2.1 d_Model_tell_104 rfl (lv_at hl 0 rfl) ?_
        refine lv_iadd F.1 F.2.1 d_Model_tell_105 ?_
        obtain ⟨hi_22, h⟩ := gd_ex h
        refine ml_0_25 F hK hw hi_22 d_Model_tell_106 ?_
        refine lv_bipush (v := 8) F.1 F.2.1 d_Model_tell_107 (by decide) ?_
        refine lv_icmp_ne (tgt := 117) F.1 F.2.1 d_Model_tell_109 (by decide) (fun c_23 => ?_) (fun c_23 => ?_)
        · replace h := iq c_23 h
          exact J_117 S t0 H locs ls hw (lv_sub hl [1, 0] rfl) o h ho
        · replace h := ip c_23 h
          refine lv_aload_n F.1 F.2.1 d_Model_tell_112 rfl (lv_at hl 1 rfl) ?_
          refine lv_iconst (v := 2) F.1 F.2.1 d_Model_tell_113 (by decide) ?_
          obtain ⟨S_25, hc_24, h⟩ := bd_ex h
          refine cV_v F hA rfl hK hw (c_Model_fail l hc_24) trivial rfl (good_V lk_1261 lk_1263 ls_65 lk_10 lk_1264) (mr_0 hK hw) hd_Model_fail ⟨Nat.le_of_ble_eq_true rfl, Nat.le_of_ble_eq_true rfl⟩ rfl hl.1 rfl (Nat.le_of_ble_eq_true rfl) d_Model_tell_114 ⟨(Nat.zero_le _), (Nat.zero_le _)⟩ (fun H locs hw => ?_)
          exact J_117 S_25 t0 H locs ls hw (lv_sub hl [1, 0] rfl) o h ho
      · replace h := ip c_21 h
        refine lv_aload_n F.1 F.2.1 d_Model_tell_86 rfl (lv_at hl 1 rfl) ?_
        refine lv_iconst (v := 1) F.1 F.2.1 d_Model_tell_87 (by decide) ?_
        obtain ⟨S_27, hc_26, h⟩ := bd_ex h
        refine cV_v F hA rfl hK hw (c_Model_fail l hc_26) trivial rfl (good_V lk_1261 lk_1263 ls_65 lk_10 lk_1264) (mr_0 hK hw) hd_Model_fail ⟨Nat.le_of_ble_eq_true rfl, Nat.le_of_ble_eq_true rfl⟩ rfl hl.1 rfl (Nat.le_of_ble_eq_true rfl) d_Model_tell_88 ⟨(Nat.zero_le _), (Nat.zero_le _)⟩ (fun H locs hw => ?_)
        refine lv_goto (tgt := 117) F.1 F.2.1 d_Model_tell_91 (by decide) ?_
        exact J_117 S_27 t0 H locs ls hw (lv_sub hl [1, 0] rfl) o h ho
    refine lv_aload_n F.1 F.2.1 d_Model_tell_0 rfl (lv_at hl 0 rfl) ?_
    refine lv_bipush (v := 20) F.1 F.2.1 d_Model_tell_1 (by decide) ?_
    obtain ⟨v_2, hc_1, h⟩ := bd_ex h
    refine cV_i F hA rfl hK hw (c_Model_is l hc_1) trivial rfl (good_V lk_1249 lk_1251 ls_62 lk_10 lk_1252) (mr_0 hK hw) hd_Model_is ⟨Nat.le_of_ble_eq_true rfl, Nat.le_of_ble_eq_true rfl⟩ rfl hl.1 rfl (Nat.le_of_ble_eq_true rfl) d_Model_tell_3 ⟨(Nat.zero_le _), (Nat.zero_le _)⟩ (fun H locs hw => ?_)
    refine lv_if_eq (tgt := 14) F.1 F.2.1 d_Model_tell_6 (by decide) (fun c_3 => ?_) (fun c_3 => ?_)
    · replace h := ip c_3 h
      refine lv_aload_n F.1 F.2.1 d_Model_tell_14 rfl (lv_at hl 0 rfl) ?_
      refine lv_bipush (v := 23) F.1 F.2.1 d_Model_tell_15 (by decide) ?_
      obtain ⟨v_5, hc_4, h⟩ := bd_ex h
      refine cV_i F hA rfl hK hw (c_Model_is l hc_4) trivial rfl (good_V lk_1249 lk_1251 ls_62 lk_10 lk_1252) (mr_0 hK hw) hd_Model_is ⟨Nat.le_of_ble_eq_true rfl, Nat.le_of_ble_eq_true rfl⟩ rfl hl.1 rfl (Nat.le_of_ble_eq_true rfl) d_Model_tell_17 ⟨(Nat.zero_le _), (Nat.zero_le _)⟩ (fun H locs hw => ?_)
      refine lv_if_eq (tgt := 27) F.1 F.2.1 d_Model_tell_20 (by decide) (fun c_6 => ?_) (fun c_6 => ?_)
      · replace h := ip c_6 h
        refine lv_aload_n F.1 F.2.1 d_Model_tell_27 rfl (lv_at hl 0 rfl) ?_
        refine lv_bipush (v := 24) F.1 F.2.1 d_Model_tell_28 (by decide) ?_
        obtain ⟨v_8, hc_7, h⟩ := bd_ex h
        refine cV_i F hA rfl hK hw (c_Model_is l hc_7) trivial rfl (good_V lk_1249 lk_1251 ls_62 lk_10 lk_1252) (mr_0 hK hw) hd_Model_is ⟨Nat.le_of_ble_eq_true rfl, Nat.le_of_ble_eq_true rfl⟩ rfl hl.1 rfl (Nat.le_of_ble_eq_true rfl) d_Model_tell_30 ⟨(Nat.zero_le _), (Nat.zero_le _)⟩ (fun H locs hw => ?_)
        refine lv_if_eq (tgt := 40) F.1 F.2.1 d_Model_tell_33 (by decide) (fun c_9 => ?_) (fun c_9 => ?_)
        · replace h := ip c_9 h
          refine lv_aload_n F.1 F.2.1 d_Model_tell_40 rfl (lv_at hl 0 rfl) ?_
          refine lv_bipush (v := 25) F.1 F.2.1 d_Model_tell_41 (by decide) ?_
          obtain ⟨v_11, hc_10, h⟩ := bd_ex h
          refine cV_i F hA rfl hK hw (c_Model_is l hc_10) trivial rfl (good_V lk_1249 lk_1251 ls_62 lk_10 lk_1252) (mr_0 hK hw) hd_Model_is ⟨Nat.le_of_ble_eq_true rfl, Nat.le_of_ble_eq_true rfl⟩ rfl hl.1 rfl (Nat.le_of_ble_eq_true rfl) d_Model_tell_43 ⟨(Nat.zero_le _), (Nat.zero_le _)⟩ (fun H locs hw => ?_)
          refine lv_if_eq (tgt := 53) F.1 F.2.1 d_Model_tell_46 (by decide) (fun c_12 => ?_) (fun c_12 => ?_)
          · replace h := ip c_12 h
            refine lv_aload_n F.1 F.2.1 d_Model_tell_53 rfl (lv_at hl 0 rfl) ?_
            refine lv_bipush (v := 26) F.1 F.2.1 d_Model_tell_54 (by decide) ?_
            obtain ⟨v_14, hc_13, h⟩ := bd_ex h
            refine cV_i F hA rfl hK hw (c_Model_is l hc_13) trivial rfl (good_V lk_1249 lk_1251 ls_62 lk_10 lk_1252) (mr_0 hK hw) hd_Model_is ⟨Nat.le_of_ble_eq_true rfl, Nat.le_of_ble_eq_true rfl⟩ rfl hl.1 rfl (Nat.le_of_ble_eq_true rfl) d_Model_tell_56 ⟨(Nat.zero_le _), (Nat.zero_le _)⟩ (fun H locs hw => ?_)
            refine lv_if_eq (tgt := 66) F.1 F.2.1 d_Model_tell_59 (by decide) (fun c_15 => ?_) (fun c_15 => ?_)
            · replace h := ip c_15 h
              refine lv_aload_n F.1 F.2.1 d_Model_tell_66 rfl (lv_at hl 0 rfl) ?_
              refine lv_bipush (v := 27) F.1 F.2.1 d_Model_tell_67 (by decide) ?_
              obtain ⟨v_17, hc_16, h⟩ := bd_ex h
              refine cV_i F hA rfl hK hw (c_Model_is l hc_16) trivial rfl (good_V lk_1249 lk_1251 ls_62 lk_10 lk_1252) (mr_0 hK hw) hd_Model_is ⟨Nat.le_of_ble_eq_true rfl, Nat.le_of_ble_eq_true rfl⟩ rfl hl.1 rfl (Nat.le_of_ble_eq_true rfl) d_Model_tell_69 ⟨(Nat.zero_le _), (Nat.zero_le _)⟩ (fun H locs hw => ?_)
              refine lv_if_eq (tgt := 79) F.1 F.2.1 d_Model_tell_72 (by decide) (fun c_18 => ?_) (fun c_18 => ?_)
              · replace h := ip c_18 h
                refine lv_iconst (v := -1) F.1 F.2.1 d_Model_tell_79 (by decide) ?_
                exact J_80 S (-1 : Int32) H locs ls hw (lv_sub hl [0] rfl) o h ho
              · replace h := iq c_18 h
                refine lv_iconst (v := 4) F.1 F.2.1 d_Model_tell_75 (by decide) ?_
                refine lv_goto (tgt := 80) F.1 F.2.1 d_Model_tell_76 (by decide) ?_
                exact J_80 S (4 : Int32) H locs ls hw (lv_sub hl [0] rfl) o h ho
            · replace h := iq c_15 h
              refine lv_iconst (v := 3) F.1 F.2.1 d_Model_tell_62 (by decide) ?_
              refine lv_goto (tgt := 80) F.1 F.2.1 d_Model_tell_63 (by decide) ?_
              exact J_80 S (3 : Int32) H locs ls hw (lv_sub hl [0] rfl) o h ho
          · replace h := iq c_12 h
            refine lv_iconst (v := 2) F.1 F.2.1 d_Model_tell_49 (by decide) ?_
            refine lv_goto (tgt := 80) F.1 F.2.1 d_Model_tell_50 (by decide) ?_
            exact J_80 S (2 : Int32) H locs ls hw (lv_sub hl [0] rfl) o h ho
        · replace h := iq c_9 h
          refine lv_iconst (v := 1) F.1 F.2.1 d_Model_tell_36 (by decide) ?_
          refine lv_goto (tgt := 80) F.1 F.2.1 d_Model_tell_37 (by decide) ?_
          exact J_80 S (1 : Int32) H locs ls hw (lv_sub hl [0] rfl) o h ho
      · replace h := iq c_6 h
        refine lv_iconst (v := 0) F.1 F.2.1 d_Model_tell_23 (by decide) ?_
        refine lv_goto (tgt := 80) F.1 F.2.1 d_Model_tell_24 (by decide) ?_
        exact J_80 S (0 : Int32) H locs ls hw (lv_sub hl [0] rfl) o h ho
    · replace h := iq c_3 h
      refine lv_aload_n F.1 F.2.1 d_Model_tell_9 rfl (lv_at hl 0 rfl) ?_
      obtain ⟨S_20, hc_19, h⟩ := bd_ex h
      refine cV_v F hA rfl hK hw (c_Model_tellField l hc_19) trivial rfl (good_V lk_1257 lk_1259 ls_64 lk_10 lk_1260) (mr_0 hK hw) hd_Model_tellField ⟨Nat.le_of_ble_eq_true rfl, Nat.le_of_ble_eq_true rfl⟩ rfl hl.1 rfl (Nat.le_of_ble_eq_true rfl) d_Model_tell_10 ⟨(Nat.zero_le _), (Nat.zero_le _)⟩ (fun H locs hw => ?_)
      cases h
      have ho : X_0 _ := ho
      rw [eX_0] at ho
      exact ho H locs _ ls d_Model_tell_13 hw
  exact key _ _ hw _ h (by rw [eX_0]; exact fun H locs pc ls hd hw => hQ H locs pc ls ad rfl hd hw)
theorem d_Model_valueOf_0 : decode b_Model_valueOf 0 = .ok (.aload_n 0, 1) := by decide +kernel
theorem d_Model_valueOf_1 : decode b_Model_valueOf 1 = .ok (.getfield 46, 3) := by decide +kernel
theorem d_Model_valueOf_4 : decode b_Model_valueOf 4 = .ok (.bipush 6, 2) := by decide +kernel
theorem d_Model_valueOf_6 : decode b_Model_valueOf 6 = .ok (.aload_n 0, 1) := by decide +kernel
theorem d_Model_valueOf_7 : decode b_Model_valueOf 7 = .ok (.getfield 228, 3) := by decide +kernel
theorem d_Model_valueOf_10 : decode b_Model_valueOf 10 = .ok (.imul, 1) := by decide +kernel
theorem d_Model_valueOf_11 : decode b_Model_valueOf 11 = .ok (.iload_n 2, 1) := by decide +kernel
theorem d_Model_valueOf_12 : decode b_Model_valueOf 12 = .ok (.iadd, 1) := by decide +kernel
theorem d_Model_valueOf_13 : decode b_Model_valueOf 13 = .ok (.iaload, 1) := by decide +kernel
theorem d_Model_valueOf_14 : decode b_Model_valueOf 14 = .ok (.iload_n 1, 1) := by decide +kernel
theorem d_Model_valueOf_15 : decode b_Model_valueOf 15 = .ok (.aload_n 0, 1) := by decide +kernel
theorem d_Model_valueOf_16 : decode b_Model_valueOf 16 = .ok (.getfield 101, 3) := by decide +kernel
theorem d_Model_valueOf_19 : decode b_Model_valueOf 19 = .ok (.iload_n 2, 1) := by decide +kernel
theorem d_Model_valueOf_20 : decode b_Model_valueOf 20 = .ok (.iaload, 1) := by decide +kernel
theorem d_Model_valueOf_21 : decode b_Model_valueOf 21 = .ok (.idiv, 1) := by decide +kernel
theorem d_Model_valueOf_22 : decode b_Model_valueOf 22 = .ok (.aload_n 0, 1) := by decide +kernel
theorem d_Model_valueOf_23 : decode b_Model_valueOf 23 = .ok (.getfield 49, 3) := by decide +kernel
theorem d_Model_valueOf_26 : decode b_Model_valueOf 26 = .ok (.bipush 6, 2) := by decide +kernel
theorem d_Model_valueOf_28 : decode b_Model_valueOf 28 = .ok (.aload_n 0, 1) := by decide +kernel
theorem d_Model_valueOf_29 : decode b_Model_valueOf 29 = .ok (.getfield 228, 3) := by decide +kernel
theorem d_Model_valueOf_32 : decode b_Model_valueOf 32 = .ok (.imul, 1) := by decide +kernel
theorem d_Model_valueOf_33 : decode b_Model_valueOf 33 = .ok (.iload_n 2, 1) := by decide +kernel
theorem d_Model_valueOf_34 : decode b_Model_valueOf 34 = .ok (.iadd, 1) := by decide +kernel
theorem d_Model_valueOf_35 : decode b_Model_valueOf 35 = .ok (.iaload, 1) := by decide +kernel
theorem d_Model_valueOf_36 : decode b_Model_valueOf 36 = .ok (.irem, 1) := by decide +kernel
theorem d_Model_valueOf_37 : decode b_Model_valueOf 37 = .ok (.iadd, 1) := by decide +kernel
theorem d_Model_valueOf_38 : decode b_Model_valueOf 38 = .ok (.ireturn, 1) := by decide +kernel
set_option maxHeartbeats 4000000 in
set_option maxRecDepth 100000 in
theorem c_Model_valueOf (l : Launch) {S : St} {x1 : Int32} {x2 : Int32} {r : Int32} (h : f_Model_valueOf S x1 x2 = some r) : MI mw l y_Model_valueOf b_Model_valueOf 3 (some .int) 0 0 0 0 (fun ad => [.ref (ad 0 0), .int x1, .int x2]) aT aE S r S := by
  refine MI_of "LawfulLotsModel" rfl (by decide) (fun _ => Nat.le_of_ble_eq_true rfl) ?_
  intro p e s m args below meth c D ar ad A Q ls hP F hK hA hw hl hQ
  have hl : lv_has ls 3 [(0, .ref (ad 0 0)), (1, .int x1), (2, .int x2)] := hl
  obtain ⟨X_0, eX_0⟩ : ∃ X : Int32 → Prop, X = (fun q => ∀ (H : Heap) (locs : List Loc) (pc : Nat) (ls : Array Slot), decode b_Model_valueOf pc = .ok (.ireturn, 1) → Bw mw D ar A s.heap H locs ad S → W p l e (RM 0 0) s m args below meth c H locs 0 0 Q (F0 m pc ls [.int q])) := ⟨_, rfl⟩
  have key : ∀ (H : Heap) (locs : List Loc), Bw mw D ar A s.heap H locs ad S → ∀ o, f_Model_valueOf S x1 x2 = some o → X_0 o → W p l e (RM 0 0) s m args below meth c H locs 0 0 Q (F0 m 0 ls []) := by
    intro H locs hw o h ho
    unfold f_Model_valueOf at h
    refine lv_aload_n F.1 F.2.1 d_Model_valueOf_0 rfl (lv_at hl 0 rfl) ?_
    refine mg_0_22 F hK hw lk_1033 d_Model_valueOf_1 ?_
    refine lv_bipush (v := 6) F.1 F.2.1 d_Model_valueOf_4 (by decide) ?_
    refine lv_aload_n F.1 F.2.1 d_Model_valueOf_6 rfl (lv_at hl 0 rfl) ?_
    refine mg_0_18 F hK hw lk_1029 d_Model_valueOf_7 ?_
    refine lv_imul F.1 F.2.1 d_Model_valueOf_10 ?_
    refine lv_iload_n F.1 F.2.1 d_Model_valueOf_11 rfl (lv_at hl 2 rfl) ?_
    refine lv_iadd F.1 F.2.1 d_Model_valueOf_12 ?_
    obtain ⟨hi_1, h⟩ := gd_ex h
    refine ml_0_22 F hK hw hi_1 d_Model_valueOf_13 ?_
    refine lv_iload_n F.1 F.2.1 d_Model_valueOf_14 rfl (lv_at hl 1 rfl) ?_
    refine lv_aload_n F.1 F.2.1 d_Model_valueOf_15 rfl (lv_at hl 0 rfl) ?_
    refine mg_0_45 F hK hw lk_1056 d_Model_valueOf_16 ?_
    refine lv_iload_n F.1 F.2.1 d_Model_valueOf_19 rfl (lv_at hl 2 rfl) ?_
    obtain ⟨hi_2, h⟩ := gd_ex h
    refine ml_0_45 F hK hw hi_2 d_Model_valueOf_20 ?_
    obtain ⟨hz_3, h⟩ := gd_ex h
    refine lv_idiv F.1 F.2.1 d_Model_valueOf_21 (of_decide_eq_true hz_3) ?_
    refine lv_aload_n F.1 F.2.1 d_Model_valueOf_22 rfl (lv_at hl 0 rfl) ?_
    refine mg_0_23 F hK hw lk_1034 d_Model_valueOf_23 ?_
    refine lv_bipush (v := 6) F.1 F.2.1 d_Model_valueOf_26 (by decide) ?_
    refine lv_aload_n F.1 F.2.1 d_Model_valueOf_28 rfl (lv_at hl 0 rfl) ?_
    refine mg_0_18 F hK hw lk_1029 d_Model_valueOf_29 ?_
    refine lv_imul F.1 F.2.1 d_Model_valueOf_32 ?_
    refine lv_iload_n F.1 F.2.1 d_Model_valueOf_33 rfl (lv_at hl 2 rfl) ?_
    refine lv_iadd F.1 F.2.1 d_Model_valueOf_34 ?_
    obtain ⟨hi_4, h⟩ := gd_ex h
    refine ml_0_23 F hK hw hi_4 d_Model_valueOf_35 ?_
    obtain ⟨hz_5, h⟩ := gd_ex h
    refine lv_irem F.1 F.2.1 d_Model_valueOf_36 (of_decide_eq_true hz_5) ?_
    refine lv_iadd F.1 F.2.1 d_Model_valueOf_37 ?_
    cases h
    have ho : X_0 _ := ho
    rw [eX_0] at ho
    exact ho H locs _ ls d_Model_valueOf_38 hw
  exact key _ _ hw _ h (by rw [eX_0]; exact fun H locs pc ls hd hw => hQ H locs pc ls ad rfl hd hw)
theorem d_Model_looksAt_0 : decode b_Model_looksAt 0 = .ok (.iconst 0, 1) := by decide +kernel
theorem d_Model_looksAt_1 : decode b_Model_looksAt 1 = .ok (.istore_n 2, 1) := by decide +kernel
theorem d_Model_looksAt_2 : decode b_Model_looksAt 2 = .ok (.iload_n 2, 1) := by decide +kernel
theorem d_Model_looksAt_3 : decode b_Model_looksAt 3 = .ok (.aload_n 0, 1) := by decide +kernel
theorem d_Model_looksAt_4 : decode b_Model_looksAt 4 = .ok (.getfield 40, 3) := by decide +kernel
theorem d_Model_looksAt_7 : decode b_Model_looksAt 7 = .ok (.aload_n 0, 1) := by decide +kernel
theorem d_Model_looksAt_8 : decode b_Model_looksAt 8 = .ok (.getfield 228, 3) := by decide +kernel
theorem d_Model_looksAt_11 : decode b_Model_looksAt 11 = .ok (.iaload, 1) := by decide +kernel
theorem d_Model_looksAt_12 : decode b_Model_looksAt 12 = .ok (.if_icmp .ge 21, 3) := by decide +kernel
theorem d_Model_looksAt_15 : decode b_Model_looksAt 15 = .ok (.aload_n 0, 1) := by decide +kernel
theorem d_Model_looksAt_16 : decode b_Model_looksAt 16 = .ok (.getfield 114, 3) := by decide +kernel
theorem d_Model_looksAt_19 : decode b_Model_looksAt 19 = .ok (.iload_n 2, 1) := by decide +kernel
theorem d_Model_looksAt_20 : decode b_Model_looksAt 20 = .ok (.aload_n 0, 1) := by decide +kernel
theorem d_Model_looksAt_21 : decode b_Model_looksAt 21 = .ok (.iload_n 1, 1) := by decide +kernel
theorem d_Model_looksAt_22 : decode b_Model_looksAt 22 = .ok (.iload_n 2, 1) := by decide +kernel
theorem d_Model_looksAt_23 : decode b_Model_looksAt 23 = .ok (.invokevirtual 291, 3) := by decide +kernel
theorem d_Model_looksAt_26 : decode b_Model_looksAt 26 = .ok (.iastore, 1) := by decide +kernel
theorem d_Model_looksAt_27 : decode b_Model_looksAt 27 = .ok (.iinc 2 1, 3) := by decide +kernel
theorem d_Model_looksAt_30 : decode b_Model_looksAt 30 = .ok (.goto (-28), 3) := by decide +kernel
theorem d_Model_looksAt_33 : decode b_Model_looksAt 33 = .ok (.return_, 1) := by decide +kernel
set_option maxHeartbeats 4000000 in
set_option maxRecDepth 100000 in
theorem c_Model_looksAt (l : Launch) {S : St} {x1 : Int32} {S' : St} (h : f_Model_looksAt S x1 = some S') : MV mw l y_Model_looksAt b_Model_looksAt 3 none 1 22 0 0 (fun ad => [.ref (ad 0 0), .int x1]) aT aE S S' := by
  refine MV_of "LawfulLotsModel" rfl (by decide) (fun _ => Nat.le_of_ble_eq_true rfl) ?_
  intro p e s m args below meth c D ar ad A Q ls hP F hK hA hw hl hQ
  have hl : lv_has ls 3 [(0, .ref (ad 0 0)), (1, .int x1)] := hl
  obtain ⟨X_0, eX_0⟩ : ∃ X : St → Prop, X = (fun q => ∀ (H : Heap) (locs : List Loc) (pc : Nat) (ls : Array Slot), decode b_Model_looksAt pc = .ok (.return_, 1) → Bw mw D ar A s.heap H locs ad q → W p l e (RM 1 22) s m args below meth c H locs 0 0 Q (F0 m pc ls [])) := ⟨_, rfl⟩
  have key : ∀ (H : Heap) (locs : List Loc), Bw mw D ar A s.heap H locs ad S → ∀ o, f_Model_looksAt S x1 = some o → X_0 o → W p l e (RM 1 22) s m args below meth c H locs 0 0 Q (F0 m 0 ls []) := by
    intro H locs hw o h ho
    unfold f_Model_looksAt at h
    refine lv_iconst (v := 0) F.1 F.2.1 d_Model_looksAt_0 (by decide) ?_
    refine lv_istore_n (lv' := [(2, .int (0 : Int32)), (0, .ref (ad 0 0)), (1, .int x1)]) F.1 F.2.1 d_Model_looksAt_1 rfl hl (by decide) rfl (fun ls hl => ?_)
    obtain ⟨S_8, hc_9, h⟩ := bd_ex h
    obtain ⟨X_2, eX_2⟩ : ∃ X : St → Prop, X = (fun q => ∀ (H : Heap) (locs : List Loc) (ls : Array Slot), Bw mw D ar A s.heap H locs ad q → lv_has ls 3 [] → W p l e (RM 1 22) s m args below meth c H locs 0 0 Q (F0 m 33 ls [])) := ⟨_, rfl⟩
    have hX_2 : X_2 S_8 := by
      rw [eX_2]
      intro H locs ls hw hl
      cases h
      have ho : X_0 _ := ho
      rw [eX_0] at ho
      exact ho H locs _ ls d_Model_looksAt_33 hw
    obtain ⟨P_2, eP_2⟩ : ∃ P : (St × Int32) → Prop, P = (fun q => ∀ (H : Heap) (locs : List Loc) (ls : Array Slot), Bw mw D ar A s.heap H locs ad q.1 → lv_has ls 3 [(0, .ref (ad 0 0)), (1, .int x1), (2, .int q.2)] → W p l e (RM 1 22) s m args below meth c H locs 0 0 Q (F0 m 2 ls [])) := ⟨_, rfl⟩
    have hL_2 : P_2 (S, (0 : Int32)) := by
      refine wh_gp (P := P_2) (X := X_2) hc_9 hX_2 ?_
      clear h
      intro q o h ho
      obtain ⟨S, x2⟩ := q
      have h : Model_looksAt_l2 x1 S x2 = some o := h
      unfold Model_looksAt_l2 at h
      rw [eP_2]
      intro H locs ls hw hl
      refine lv_iload_n F.1 F.2.1 d_Model_looksAt_2 rfl (lv_at hl 2 rfl) ?_
      refine lv_aload_n F.1 F.2.1 d_Model_looksAt_3 rfl (lv_at hl 0 rfl) ?_
      refine mg_0_20 F hK hw lk_1031 d_Model_looksAt_4 ?_
      refine lv_aload_n F.1 F.2.1 d_Model_looksAt_7 rfl (lv_at hl 0 rfl) ?_
      refine mg_0_18 F hK hw lk_1029 d_Model_looksAt_8 ?_
      obtain ⟨hi_1, h⟩ := gd_ex h
      refine ml_0_20 F hK hw hi_1 d_Model_looksAt_11 ?_
      refine lv_icmp_ge (tgt := 33) F.1 F.2.1 d_Model_looksAt_12 (by decide) (fun c_2 => ?_) (fun c_2 => ?_)
      · replace h := ip c_2 h
        cases h
        have ho : X_2 _ := ho
        rw [eX_2] at ho
        exact ho H locs ls hw (lv_sub hl [] rfl)
      · replace h := iq c_2 h
        refine lv_aload_n F.1 F.2.1 d_Model_looksAt_15 rfl (lv_at hl 0 rfl) ?_
        refine mg_0_49 F hK hw lk_1060 d_Model_looksAt_16 ?_
        refine lv_iload_n F.1 F.2.1 d_Model_looksAt_19 rfl (lv_at hl 2 rfl) ?_
        refine lv_aload_n F.1 F.2.1 d_Model_looksAt_20 rfl (lv_at hl 0 rfl) ?_
        refine lv_iload_n F.1 F.2.1 d_Model_looksAt_21 rfl (lv_at hl 1 rfl) ?_
        refine lv_iload_n F.1 F.2.1 d_Model_looksAt_22 rfl (lv_at hl 2 rfl) ?_
        obtain ⟨v_4, hc_3, h⟩ := bd_ex h
        refine cV_i F hA rfl hK hw (c_Model_valueOf l hc_3) trivial rfl (good_V lk_968 lk_970 ls_46 lk_10 lk_971) (mr_0 hK hw) hd_Model_valueOf ⟨Nat.le_of_ble_eq_true rfl, Nat.le_of_ble_eq_true rfl⟩ rfl hl.1 rfl (Nat.le_of_ble_eq_true rfl) d_Model_looksAt_23 ⟨(Nat.zero_le _), (Nat.zero_le _)⟩ (fun H locs hw => ?_)
        obtain ⟨hi_5, h⟩ := gd_ex h
        obtain ⟨S_6, eS_6, h⟩ := nm_ex h
        refine ms_0_49 F hK hw hi_5 d_Model_looksAt_26 eS_6 (fun H locs hw => ?_)
        obtain ⟨x2_7, ex2_7, h⟩ := nm_ex h
        refine lv_iinc (v := x2_7) (lv' := [(2, .int x2_7), (0, .ref (ad 0 0)), (1, .int x1)]) F.1 F.2.1 d_Model_looksAt_27 hl (k := 2) rfl (by rw [ex2_7]; rfl) (by decide) rfl (fun ls hl => ?_)
        refine lv_goto (tgt := 2) F.1 F.2.1 d_Model_looksAt_30 (by decide) ?_
        cases h
        have ho : P_2 _ := ho
        rw [eP_2] at ho
        exact ho H locs ls hw (lv_sub hl [1, 2, 0] rfl)
    rw [eP_2] at hL_2
    exact hL_2 H locs ls hw (lv_sub hl [1, 2, 0] rfl)
  exact key _ _ hw _ h (by rw [eX_0]; exact fun H locs pc ls hd hw => hQ H locs pc ls ad rfl hd hw)
theorem d_Model_tellsOf_0 : decode b_Model_tellsOf 0 = .ok (.aload_n 0, 1) := by decide +kernel
theorem d_Model_tellsOf_1 : decode b_Model_tellsOf 1 = .ok (.getfield 52, 3) := by decide +kernel
theorem d_Model_tellsOf_4 : decode b_Model_tellsOf 4 = .ok (.iconst 5, 1) := by decide +kernel
theorem d_Model_tellsOf_5 : decode b_Model_tellsOf 5 = .ok (.aload_n 0, 1) := by decide +kernel
theorem d_Model_tellsOf_6 : decode b_Model_tellsOf 6 = .ok (.getfield 228, 3) := by decide +kernel
theorem d_Model_tellsOf_9 : decode b_Model_tellsOf 9 = .ok (.imul, 1) := by decide +kernel
theorem d_Model_tellsOf_10 : decode b_Model_tellsOf 10 = .ok (.iload_n 1, 1) := by decide +kernel
theorem d_Model_tellsOf_11 : decode b_Model_tellsOf 11 = .ok (.iadd, 1) := by decide +kernel
theorem d_Model_tellsOf_12 : decode b_Model_tellsOf 12 = .ok (.iaload, 1) := by decide +kernel
theorem d_Model_tellsOf_13 : decode b_Model_tellsOf 13 = .ok (.ireturn, 1) := by decide +kernel
set_option maxHeartbeats 4000000 in
set_option maxRecDepth 100000 in
theorem c_Model_tellsOf (l : Launch) {S : St} {x1 : Int32} {r : Int32} (h : f_Model_tellsOf S x1 = some r) : MI mw l y_Model_tellsOf b_Model_tellsOf 2 (some .int) 0 0 0 0 (fun ad => [.ref (ad 0 0), .int x1]) aT aE S r S := by
  refine MI_of "LawfulLotsModel" rfl (by decide) (fun _ => Nat.le_of_ble_eq_true rfl) ?_
  intro p e s m args below meth c D ar ad A Q ls hP F hK hA hw hl hQ
  have hl : lv_has ls 2 [(0, .ref (ad 0 0)), (1, .int x1)] := hl
  obtain ⟨X_0, eX_0⟩ : ∃ X : Int32 → Prop, X = (fun q => ∀ (H : Heap) (locs : List Loc) (pc : Nat) (ls : Array Slot), decode b_Model_tellsOf pc = .ok (.ireturn, 1) → Bw mw D ar A s.heap H locs ad S → W p l e (RM 0 0) s m args below meth c H locs 0 0 Q (F0 m pc ls [.int q])) := ⟨_, rfl⟩
  have key : ∀ (H : Heap) (locs : List Loc), Bw mw D ar A s.heap H locs ad S → ∀ o, f_Model_tellsOf S x1 = some o → X_0 o → W p l e (RM 0 0) s m args below meth c H locs 0 0 Q (F0 m 0 ls []) := by
    intro H locs hw o h ho
    unfold f_Model_tellsOf at h
    refine lv_aload_n F.1 F.2.1 d_Model_tellsOf_0 rfl (lv_at hl 0 rfl) ?_
    refine mg_0_25 F hK hw lk_1036 d_Model_tellsOf_1 ?_
    refine lv_iconst (v := 5) F.1 F.2.1 d_Model_tellsOf_4 (by decide) ?_
    refine lv_aload_n F.1 F.2.1 d_Model_tellsOf_5 rfl (lv_at hl 0 rfl) ?_
    refine mg_0_18 F hK hw lk_1029 d_Model_tellsOf_6 ?_
    refine lv_imul F.1 F.2.1 d_Model_tellsOf_9 ?_
    refine lv_iload_n F.1 F.2.1 d_Model_tellsOf_10 rfl (lv_at hl 1 rfl) ?_
    refine lv_iadd F.1 F.2.1 d_Model_tellsOf_11 ?_
    obtain ⟨hi_1, h⟩ := gd_ex h
    refine ml_0_25 F hK hw hi_1 d_Model_tellsOf_12 ?_
    cases h
    have ho : X_0 _ := ho
    rw [eX_0] at ho
    exact ho H locs _ ls d_Model_tellsOf_13 hw
  exact key _ _ hw _ h (by rw [eX_0]; exact fun H locs pc ls hd hw => hQ H locs pc ls ad rfl hd hw)
theorem d_Model_condOf_0 : decode b_Model_condOf 0 = .ok (.bipush 8, 2) := by decide +kernel
theorem d_Model_condOf_2 : decode b_Model_condOf 2 = .ok (.iconst 5, 1) := by decide +kernel
theorem d_Model_condOf_3 : decode b_Model_condOf 3 = .ok (.aload_n 0, 1) := by decide +kernel
theorem d_Model_condOf_4 : decode b_Model_condOf 4 = .ok (.getfield 228, 3) := by decide +kernel
theorem d_Model_condOf_7 : decode b_Model_condOf 7 = .ok (.imul, 1) := by decide +kernel
theorem d_Model_condOf_8 : decode b_Model_condOf 8 = .ok (.iload_n 1, 1) := by decide +kernel
theorem d_Model_condOf_9 : decode b_Model_condOf 9 = .ok (.iadd, 1) := by decide +kernel
theorem d_Model_condOf_10 : decode b_Model_condOf 10 = .ok (.imul, 1) := by decide +kernel
theorem d_Model_condOf_11 : decode b_Model_condOf 11 = .ok (.iload_n 2, 1) := by decide +kernel
theorem d_Model_condOf_12 : decode b_Model_condOf 12 = .ok (.iadd, 1) := by decide +kernel
theorem d_Model_condOf_13 : decode b_Model_condOf 13 = .ok (.ireturn, 1) := by decide +kernel
set_option maxHeartbeats 4000000 in
set_option maxRecDepth 100000 in
theorem c_Model_condOf (l : Launch) {S : St} {x1 : Int32} {x2 : Int32} {r : Int32} (h : f_Model_condOf S x1 x2 = some r) : MI mw l y_Model_condOf b_Model_condOf 3 (some .int) 0 0 0 0 (fun ad => [.ref (ad 0 0), .int x1, .int x2]) aT aE S r S := by
  refine MI_of "LawfulLotsModel" rfl (by decide) (fun _ => Nat.le_of_ble_eq_true rfl) ?_
  intro p e s m args below meth c D ar ad A Q ls hP F hK hA hw hl hQ
  have hl : lv_has ls 3 [(0, .ref (ad 0 0)), (1, .int x1), (2, .int x2)] := hl
  obtain ⟨X_0, eX_0⟩ : ∃ X : Int32 → Prop, X = (fun q => ∀ (H : Heap) (locs : List Loc) (pc : Nat) (ls : Array Slot), decode b_Model_condOf pc = .ok (.ireturn, 1) → Bw mw D ar A s.heap H locs ad S → W p l e (RM 0 0) s m args below meth c H locs 0 0 Q (F0 m pc ls [.int q])) := ⟨_, rfl⟩
  have key : ∀ (H : Heap) (locs : List Loc), Bw mw D ar A s.heap H locs ad S → ∀ o, f_Model_condOf S x1 x2 = some o → X_0 o → W p l e (RM 0 0) s m args below meth c H locs 0 0 Q (F0 m 0 ls []) := by
    intro H locs hw o h ho
    unfold f_Model_condOf at h
    refine lv_bipush (v := 8) F.1 F.2.1 d_Model_condOf_0 (by decide) ?_
    refine lv_iconst (v := 5) F.1 F.2.1 d_Model_condOf_2 (by decide) ?_
    refine lv_aload_n F.1 F.2.1 d_Model_condOf_3 rfl (lv_at hl 0 rfl) ?_
    refine mg_0_18 F hK hw lk_1029 d_Model_condOf_4 ?_
    refine lv_imul F.1 F.2.1 d_Model_condOf_7 ?_
    refine lv_iload_n F.1 F.2.1 d_Model_condOf_8 rfl (lv_at hl 1 rfl) ?_
    refine lv_iadd F.1 F.2.1 d_Model_condOf_9 ?_
    refine lv_imul F.1 F.2.1 d_Model_condOf_10 ?_
    refine lv_iload_n F.1 F.2.1 d_Model_condOf_11 rfl (lv_at hl 2 rfl) ?_
    refine lv_iadd F.1 F.2.1 d_Model_condOf_12 ?_
    cases h
    have ho : X_0 _ := ho
    rw [eX_0] at ho
    exact ho H locs _ ls d_Model_condOf_13 hw
  exact key _ _ hw _ h (by rw [eX_0]; exact fun H locs pc ls hd hw => hQ H locs pc ls ad rfl hd hw)
theorem d_Model_termOf_0 : decode b_Model_termOf 0 = .ok (.iconst 0, 1) := by decide +kernel
theorem d_Model_termOf_1 : decode b_Model_termOf 1 = .ok (.istore_n 3, 1) := by decide +kernel
theorem d_Model_termOf_2 : decode b_Model_termOf 2 = .ok (.iload_n 1, 1) := by decide +kernel
theorem d_Model_termOf_3 : decode b_Model_termOf 3 = .ok (.istore 4, 2) := by decide +kernel
theorem d_Model_termOf_5 : decode b_Model_termOf 5 = .ok (.iload 4, 2) := by decide +kernel
theorem d_Model_termOf_7 : decode b_Model_termOf 7 = .ok (.iload_n 2, 1) := by decide +kernel
theorem d_Model_termOf_8 : decode b_Model_termOf 8 = .ok (.if_icmp .ge 146, 3) := by decide +kernel
theorem d_Model_termOf_11 : decode b_Model_termOf 11 = .ok (.aload_n 0, 1) := by decide +kernel
theorem d_Model_termOf_12 : decode b_Model_termOf 12 = .ok (.getfield 92, 3) := by decide +kernel
theorem d_Model_termOf_15 : decode b_Model_termOf 15 = .ok (.iload 4, 2) := by decide +kernel
theorem d_Model_termOf_17 : decode b_Model_termOf 17 = .ok (.iaload, 1) := by decide +kernel
theorem d_Model_termOf_18 : decode b_Model_termOf 18 = .ok (.istore 5, 2) := by decide +kernel
theorem d_Model_termOf_20 : decode b_Model_termOf 20 = .ok (.iload 5, 2) := by decide +kernel
theorem d_Model_termOf_22 : decode b_Model_termOf 22 = .ok (.iconst 3, 1) := by decide +kernel
theorem d_Model_termOf_23 : decode b_Model_termOf 23 = .ok (.if_icmp .ge 63, 3) := by decide +kernel
theorem d_Model_termOf_26 : decode b_Model_termOf 26 = .ok (.aload_n 0, 1) := by decide +kernel
theorem d_Model_termOf_27 : decode b_Model_termOf 27 = .ok (.getfield 120, 3) := by decide +kernel
theorem d_Model_termOf_30 : decode b_Model_termOf 30 = .ok (.iload_n 3, 1) := by decide +kernel
theorem d_Model_termOf_31 : decode b_Model_termOf 31 = .ok (.iload 5, 2) := by decide +kernel
theorem d_Model_termOf_33 : decode b_Model_termOf 33 = .ok (.ifCond .ne 13, 3) := by decide +kernel
theorem d_Model_termOf_36 : decode b_Model_termOf 36 = .ok (.aload_n 0, 1) := by decide +kernel
theorem d_Model_termOf_37 : decode b_Model_termOf 37 = .ok (.getfield 95, 3) := by decide +kernel
theorem d_Model_termOf_40 : decode b_Model_termOf 40 = .ok (.iload 4, 2) := by decide +kernel
theorem d_Model_termOf_42 : decode b_Model_termOf 42 = .ok (.iaload, 1) := by decide +kernel
theorem d_Model_termOf_43 : decode b_Model_termOf 43 = .ok (.goto 36, 3) := by decide +kernel
theorem d_Model_termOf_46 : decode b_Model_termOf 46 = .ok (.iload 5, 2) := by decide +kernel
theorem d_Model_termOf_48 : decode b_Model_termOf 48 = .ok (.iconst 1, 1) := by decide +kernel
theorem d_Model_termOf_49 : decode b_Model_termOf 49 = .ok (.if_icmp .ne 18, 3) := by decide +kernel
theorem d_Model_termOf_52 : decode b_Model_termOf 52 = .ok (.aload_n 0, 1) := by decide +kernel
theorem d_Model_termOf_53 : decode b_Model_termOf 53 = .ok (.getfield 114, 3) := by decide +kernel
theorem d_Model_termOf_56 : decode b_Model_termOf 56 = .ok (.aload_n 0, 1) := by decide +kernel
theorem d_Model_termOf_57 : decode b_Model_termOf 57 = .ok (.getfield 95, 3) := by decide +kernel
theorem d_Model_termOf_60 : decode b_Model_termOf 60 = .ok (.iload 4, 2) := by decide +kernel
theorem d_Model_termOf_62 : decode b_Model_termOf 62 = .ok (.iaload, 1) := by decide +kernel
theorem d_Model_termOf_63 : decode b_Model_termOf 63 = .ok (.iaload, 1) := by decide +kernel
theorem d_Model_termOf_64 : decode b_Model_termOf 64 = .ok (.goto 15, 3) := by decide +kernel
theorem d_Model_termOf_67 : decode b_Model_termOf 67 = .ok (.aload_n 0, 1) := by decide +kernel
theorem d_Model_termOf_68 : decode b_Model_termOf 68 = .ok (.getfield 117, 3) := by decide +kernel
theorem d_Model_termOf_71 : decode b_Model_termOf 71 = .ok (.aload_n 0, 1) := by decide +kernel
theorem d_Model_termOf_72 : decode b_Model_termOf 72 = .ok (.getfield 95, 3) := by decide +kernel
theorem d_Model_termOf_75 : decode b_Model_termOf 75 = .ok (.iload 4, 2) := by decide +kernel
theorem d_Model_termOf_77 : decode b_Model_termOf 77 = .ok (.iaload, 1) := by decide +kernel
theorem d_Model_termOf_78 : decode b_Model_termOf 78 = .ok (.iaload, 1) := by decide +kernel
theorem d_Model_termOf_79 : decode b_Model_termOf 79 = .ok (.iastore, 1) := by decide +kernel
theorem d_Model_termOf_80 : decode b_Model_termOf 80 = .ok (.iinc 3 1, 3) := by decide +kernel
theorem d_Model_termOf_83 : decode b_Model_termOf 83 = .ok (.goto 65, 3) := by decide +kernel
theorem d_Model_termOf_86 : decode b_Model_termOf 86 = .ok (.iinc 3 (-1), 3) := by decide +kernel
theorem d_Model_termOf_89 : decode b_Model_termOf 89 = .ok (.aload_n 0, 1) := by decide +kernel
theorem d_Model_termOf_90 : decode b_Model_termOf 90 = .ok (.getfield 120, 3) := by decide +kernel
theorem d_Model_termOf_93 : decode b_Model_termOf 93 = .ok (.iload_n 3, 1) := by decide +kernel
theorem d_Model_termOf_94 : decode b_Model_termOf 94 = .ok (.iconst 1, 1) := by decide +kernel
theorem d_Model_termOf_95 : decode b_Model_termOf 95 = .ok (.isub, 1) := by decide +kernel
theorem d_Model_termOf_96 : decode b_Model_termOf 96 = .ok (.iaload, 1) := by decide +kernel
theorem d_Model_termOf_97 : decode b_Model_termOf 97 = .ok (.istore 6, 2) := by decide +kernel
theorem d_Model_termOf_99 : decode b_Model_termOf 99 = .ok (.aload_n 0, 1) := by decide +kernel
theorem d_Model_termOf_100 : decode b_Model_termOf 100 = .ok (.getfield 120, 3) := by decide +kernel
theorem d_Model_termOf_103 : decode b_Model_termOf 103 = .ok (.iload_n 3, 1) := by decide +kernel
theorem d_Model_termOf_104 : decode b_Model_termOf 104 = .ok (.iaload, 1) := by decide +kernel
theorem d_Model_termOf_105 : decode b_Model_termOf 105 = .ok (.istore 7, 2) := by decide +kernel
theorem d_Model_termOf_107 : decode b_Model_termOf 107 = .ok (.aload_n 0, 1) := by decide +kernel
theorem d_Model_termOf_108 : decode b_Model_termOf 108 = .ok (.getfield 120, 3) := by decide +kernel
theorem d_Model_termOf_111 : decode b_Model_termOf 111 = .ok (.iload_n 3, 1) := by decide +kernel
theorem d_Model_termOf_112 : decode b_Model_termOf 112 = .ok (.iconst 1, 1) := by decide +kernel
theorem d_Model_termOf_113 : decode b_Model_termOf 113 = .ok (.isub, 1) := by decide +kernel
theorem d_Model_termOf_114 : decode b_Model_termOf 114 = .ok (.iload 5, 2) := by decide +kernel
theorem d_Model_termOf_116 : decode b_Model_termOf 116 = .ok (.iconst 3, 1) := by decide +kernel
theorem d_Model_termOf_117 : decode b_Model_termOf 117 = .ok (.if_icmp .ne 11, 3) := by decide +kernel
theorem d_Model_termOf_120 : decode b_Model_termOf 120 = .ok (.iload 6, 2) := by decide +kernel
theorem d_Model_termOf_122 : decode b_Model_termOf 122 = .ok (.iload 7, 2) := by decide +kernel
theorem d_Model_termOf_124 : decode b_Model_termOf 124 = .ok (.iadd, 1) := by decide +kernel
theorem d_Model_termOf_125 : decode b_Model_termOf 125 = .ok (.goto 22, 3) := by decide +kernel
theorem d_Model_termOf_128 : decode b_Model_termOf 128 = .ok (.iload 5, 2) := by decide +kernel
theorem d_Model_termOf_130 : decode b_Model_termOf 130 = .ok (.iconst 4, 1) := by decide +kernel
theorem d_Model_termOf_131 : decode b_Model_termOf 131 = .ok (.if_icmp .ne 11, 3) := by decide +kernel
theorem d_Model_termOf_134 : decode b_Model_termOf 134 = .ok (.iload 6, 2) := by decide +kernel
theorem d_Model_termOf_136 : decode b_Model_termOf 136 = .ok (.iload 7, 2) := by decide +kernel
theorem d_Model_termOf_138 : decode b_Model_termOf 138 = .ok (.isub, 1) := by decide +kernel
theorem d_Model_termOf_139 : decode b_Model_termOf 139 = .ok (.goto 8, 3) := by decide +kernel
theorem d_Model_termOf_142 : decode b_Model_termOf 142 = .ok (.iload 6, 2) := by decide +kernel
theorem d_Model_termOf_144 : decode b_Model_termOf 144 = .ok (.iload 7, 2) := by decide +kernel
theorem d_Model_termOf_146 : decode b_Model_termOf 146 = .ok (.imul, 1) := by decide +kernel
theorem d_Model_termOf_147 : decode b_Model_termOf 147 = .ok (.iastore, 1) := by decide +kernel
theorem d_Model_termOf_148 : decode b_Model_termOf 148 = .ok (.iinc 4 1, 3) := by decide +kernel
theorem d_Model_termOf_151 : decode b_Model_termOf 151 = .ok (.goto (-146), 3) := by decide +kernel
theorem d_Model_termOf_154 : decode b_Model_termOf 154 = .ok (.aload_n 0, 1) := by decide +kernel
theorem d_Model_termOf_155 : decode b_Model_termOf 155 = .ok (.getfield 120, 3) := by decide +kernel
theorem d_Model_termOf_158 : decode b_Model_termOf 158 = .ok (.iconst 0, 1) := by decide +kernel
theorem d_Model_termOf_159 : decode b_Model_termOf 159 = .ok (.iaload, 1) := by decide +kernel
theorem d_Model_termOf_160 : decode b_Model_termOf 160 = .ok (.ireturn, 1) := by decide +kernel
set_option maxHeartbeats 4000000 in
set_option maxRecDepth 100000 in
theorem c_Model_termOf (l : Launch) {S : St} {x1 : Int32} {x2 : Int32} {S' : St} {r : Int32} (h : f_Model_termOf S x1 x2 = some (r, S')) : MI mw l y_Model_termOf b_Model_termOf 8 (some .int) 0 0 0 0 (fun ad => [.ref (ad 0 0), .int x1, .int x2]) aT aE S r S' := by
  refine MI_of "LawfulLotsModel" rfl (by decide) (fun _ => Nat.le_of_ble_eq_true rfl) ?_
  intro p e s m args below meth c D ar ad A Q ls hP F hK hA hw hl hQ
  have hl : lv_has ls 8 [(0, .ref (ad 0 0)), (1, .int x1), (2, .int x2)] := hl
  obtain ⟨X_0, eX_0⟩ : ∃ X : (Int32 × St) → Prop, X = (fun q => ∀ (H : Heap) (locs : List Loc) (pc : Nat) (ls : Array Slot), decode b_Model_termOf pc = .ok (.ireturn, 1) → Bw mw D ar A s.heap H locs ad q.2 → W p l e (RM 0 0) s m args below meth c H locs 0 0 Q (F0 m pc ls [.int q.1])) := ⟨_, rfl⟩
  have key : ∀ (H : Heap) (locs : List Loc), Bw mw D ar A s.heap H locs ad S → ∀ o, f_Model_termOf S x1 x2 = some o → X_0 o → W p l e (RM 0 0) s m args below meth c H locs 0 0 Q (F0 m 0 ls []) := by
    intro H locs hw o h ho
    unfold f_Model_termOf at h
    refine lv_iconst (v := 0) F.1 F.2.1 d_Model_termOf_0 (by decide) ?_
    refine lv_istore_n (lv' := [(3, .int (0 : Int32)), (0, .ref (ad 0 0)), (1, .int x1), (2, .int x2)]) F.1 F.2.1 d_Model_termOf_1 rfl hl (by decide) rfl (fun ls hl => ?_)
    refine lv_iload_n F.1 F.2.1 d_Model_termOf_2 rfl (lv_at hl 2 rfl) ?_
    refine lv_istore (lv' := [(4, .int x1), (3, .int (0 : Int32)), (0, .ref (ad 0 0)), (1, .int x1), (2, .int x2)]) F.1 F.2.1 d_Model_termOf_3 hl (by decide) rfl (fun ls hl => ?_)
    obtain ⟨S_25, hc_26, h⟩ := bd_ex h
    obtain ⟨X_5, eX_5⟩ : ∃ X : St → Prop, X = (fun q => ∀ (H : Heap) (locs : List Loc) (ls : Array Slot), Bw mw D ar A s.heap H locs ad q → lv_has ls 8 [(0, .ref (ad 0 0))] → W p l e (RM 0 0) s m args below meth c H locs 0 0 Q (F0 m 154 ls [])) := ⟨_, rfl⟩
    have hX_5 : X_5 S_25 := by
      rw [eX_5]
      intro H locs ls hw hl
      refine lv_aload_n F.1 F.2.1 d_Model_termOf_154 rfl (lv_at hl 0 rfl) ?_
      refine mg_0_51 F hK hw lk_1062 d_Model_termOf_155 ?_
      refine lv_iconst (v := 0) F.1 F.2.1 d_Model_termOf_158 (by decide) ?_
      obtain ⟨hi_27, h⟩ := gd_ex h
      refine ml_0_51 F hK hw hi_27 d_Model_termOf_159 ?_
      cases h
      have ho : X_0 _ := ho
      rw [eX_0] at ho
      exact ho H locs _ ls d_Model_termOf_160 hw
    obtain ⟨P_5, eP_5⟩ : ∃ P : (St × Int32 × Int32) → Prop, P = (fun q => ∀ (H : Heap) (locs : List Loc) (ls : Array Slot), Bw mw D ar A s.heap H locs ad q.1 → lv_has ls 8 [(0, .ref (ad 0 0)), (2, .int x2), (3, .int q.2.1), (4, .int q.2.2)] → W p l e (RM 0 0) s m args below meth c H locs 0 0 Q (F0 m 5 ls [])) := ⟨_, rfl⟩
    have hL_5 : P_5 (S, (0 : Int32), x1) := by
      refine wh_gp (P := P_5) (X := X_5) hc_26 hX_5 ?_
      clear h
      intro q o h ho
      obtain ⟨S, x3, x4⟩ := q
      have h : Model_termOf_l5 x2 S x3 x4 = some o := h
      unfold Model_termOf_l5 at h
      rw [eP_5]
      intro H locs ls hw hl
      have J_148_l5 : ∀ (S : St) (x3 : Int32) (x4 : Int32) (H : Heap) (locs : List Loc) (ls : Array Slot), Bw mw D ar A s.heap H locs ad S → lv_has ls 8 [(0, .ref (ad 0 0)), (2, .int x2), (3, .int x3), (4, .int x4)] → ∀ o, Model_termOf_j148_l5 S x2 x3 x4 = some o → (Sum.elim P_5 X_5) o → W p l e (RM 0 0) s m args below meth c H locs 0 0 Q (F0 m 148 ls []) := by
        intro S x3 x4 H locs ls hw hl o h ho
        unfold Model_termOf_j148_l5 at h
        obtain ⟨x4_24, ex4_24, h⟩ := nm_ex h
        refine lv_iinc (v := x4_24) (lv' := [(4, .int x4_24), (0, .ref (ad 0 0)), (2, .int x2), (3, .int x3)]) F.1 F.2.1 d_Model_termOf_148 hl (k := 3) rfl (by rw [ex4_24]; rfl) (by decide) rfl (fun ls hl => ?_)
        refine lv_goto (tgt := 5) F.1 F.2.1 d_Model_termOf_151 (by decide) ?_
        cases h
        have ho : P_5 _ := ho
        rw [eP_5] at ho
        exact ho H locs ls hw (lv_sub hl [1, 2, 3, 0] rfl)
      have J_147_l5 : ∀ (S : St) (x3 : Int32) (x4 : Int32) (t1 : Int32) (t2 : Int32) (H : Heap) (locs : List Loc) (ls : Array Slot), Bw mw D ar A s.heap H locs ad S → lv_has ls 8 [(0, .ref (ad 0 0)), (2, .int x2), (3, .int x3), (4, .int x4)] → ∀ o, Model_termOf_j147_l5 S x2 x3 x4 t1 t2 = some o → (Sum.elim P_5 X_5) o → W p l e (RM 0 0) s m args below meth c H locs 0 0 Q (F0 m 147 ls [.int t2, .int t1, .ref (ad 0 52)]) := by
        intro S x3 x4 t1 t2 H locs ls hw hl o h ho
        unfold Model_termOf_j147_l5 at h
        obtain ⟨hi_22, h⟩ := gd_ex h
        obtain ⟨S_23, eS_23, h⟩ := nm_ex h
        refine ms_0_51 F hK hw hi_22 d_Model_termOf_147 eS_23 (fun H locs hw => ?_)
        exact J_148_l5 S_23 x3 x4 H locs ls hw (lv_sub hl [0, 1, 2, 3] rfl) o h ho
      have J_79_l5 : ∀ (S : St) (x3 : Int32) (x4 : Int32) (t1 : Int32) (t2 : Int32) (H : Heap) (locs : List Loc) (ls : Array Slot), Bw mw D ar A s.heap H locs ad S → lv_has ls 8 [(0, .ref (ad 0 0)), (2, .int x2), (3, .int x3), (4, .int x4)] → ∀ o, Model_termOf_j79_l5 S x2 x3 x4 t1 t2 = some o → (Sum.elim P_5 X_5) o → W p l e (RM 0 0) s m args below meth c H locs 0 0 Q (F0 m 79 ls [.int t2, .int t1, .ref (ad 0 52)]) := by
        intro S x3 x4 t1 t2 H locs ls hw hl o h ho
        unfold Model_termOf_j79_l5 at h
        obtain ⟨hi_19, h⟩ := gd_ex h
        obtain ⟨S_20, eS_20, h⟩ := nm_ex h
        refine ms_0_51 F hK hw hi_19 d_Model_termOf_79 eS_20 (fun H locs hw => ?_)
        obtain ⟨x3_21, ex3_21, h⟩ := nm_ex h
        refine lv_iinc (v := x3_21) (lv' := [(3, .int x3_21), (0, .ref (ad 0 0)), (2, .int x2), (4, .int x4)]) F.1 F.2.1 d_Model_termOf_80 hl (k := 2) rfl (by rw [ex3_21]; rfl) (by decide) rfl (fun ls hl => ?_)
        refine lv_goto (tgt := 148) F.1 F.2.1 d_Model_termOf_83 (by decide) ?_
        exact J_148_l5 S_20 x3_21 x4 H locs ls hw (lv_sub hl [1, 2, 0, 3] rfl) o h ho
      refine lv_iload F.1 F.2.1 d_Model_termOf_5 (lv_at hl 3 rfl) ?_
      refine lv_iload_n F.1 F.2.1 d_Model_termOf_7 rfl (lv_at hl 1 rfl) ?_
      refine lv_icmp_ge (tgt := 154) F.1 F.2.1 d_Model_termOf_8 (by decide) (fun c_1 => ?_) (fun c_1 => ?_)
      · replace h := ip c_1 h
        cases h
        have ho : X_5 _ := ho
        rw [eX_5] at ho
        exact ho H locs ls hw (lv_sub hl [0] rfl)
      · replace h := iq c_1 h
        refine lv_aload_n F.1 F.2.1 d_Model_termOf_11 rfl (lv_at hl 0 rfl) ?_
        refine mg_0_39 F hK hw lk_1050 d_Model_termOf_12 ?_
        refine lv_iload F.1 F.2.1 d_Model_termOf_15 (lv_at hl 3 rfl) ?_
        obtain ⟨hi_2, h⟩ := gd_ex h
        refine ml_0_39 F hK hw hi_2 d_Model_termOf_17 ?_
        obtain ⟨x5_3, ex5_3, h⟩ := nm_ex h
        refine lv_nm ex5_3 ?_
        refine lv_istore (lv' := [(5, .int x5_3), (0, .ref (ad 0 0)), (2, .int x2), (3, .int x3), (4, .int x4)]) F.1 F.2.1 d_Model_termOf_18 hl (by decide) rfl (fun ls hl => ?_)
        refine lv_iload F.1 F.2.1 d_Model_termOf_20 (lv_at hl 0 rfl) ?_
        refine lv_iconst (v := 3) F.1 F.2.1 d_Model_termOf_22 (by decide) ?_
        refine lv_icmp_ge (tgt := 86) F.1 F.2.1 d_Model_termOf_23 (by decide) (fun c_4 => ?_) (fun c_4 => ?_)
        · replace h := ip c_4 h
          obtain ⟨x3_5, ex3_5, h⟩ := nm_ex h
          refine lv_iinc (v := x3_5) (lv' := [(3, .int x3_5), (5, .int x5_3), (0, .ref (ad 0 0)), (2, .int x2), (4, .int x4)]) F.1 F.2.1 d_Model_termOf_86 hl (k := 3) rfl (by rw [ex3_5]; rfl) (by decide) rfl (fun ls hl => ?_)
          refine lv_aload_n F.1 F.2.1 d_Model_termOf_89 rfl (lv_at hl 2 rfl) ?_
          refine mg_0_51 F hK hw lk_1062 d_Model_termOf_90 ?_
          refine lv_iload_n F.1 F.2.1 d_Model_termOf_93 rfl (lv_at hl 0 rfl) ?_
          refine lv_iconst (v := 1) F.1 F.2.1 d_Model_termOf_94 (by decide) ?_
          refine lv_isub F.1 F.2.1 d_Model_termOf_95 ?_
          obtain ⟨hi_6, h⟩ := gd_ex h
          refine ml_0_51 F hK hw hi_6 d_Model_termOf_96 ?_
          obtain ⟨x6_7, ex6_7, h⟩ := nm_ex h
          refine lv_nm ex6_7 ?_
          refine lv_istore (lv' := [(6, .int x6_7), (3, .int x3_5), (5, .int x5_3), (0, .ref (ad 0 0)), (2, .int x2), (4, .int x4)]) F.1 F.2.1 d_Model_termOf_97 hl (by decide) rfl (fun ls hl => ?_)
          refine lv_aload_n F.1 F.2.1 d_Model_termOf_99 rfl (lv_at hl 3 rfl) ?_
          refine mg_0_51 F hK hw lk_1062 d_Model_termOf_100 ?_
          refine lv_iload_n F.1 F.2.1 d_Model_termOf_103 rfl (lv_at hl 1 rfl) ?_
          obtain ⟨hi_8, h⟩ := gd_ex h
          refine ml_0_51 F hK hw hi_8 d_Model_termOf_104 ?_
          obtain ⟨x7_9, ex7_9, h⟩ := nm_ex h
          refine lv_nm ex7_9 ?_
          refine lv_istore (lv' := [(7, .int x7_9), (6, .int x6_7), (3, .int x3_5), (5, .int x5_3), (0, .ref (ad 0 0)), (2, .int x2), (4, .int x4)]) F.1 F.2.1 d_Model_termOf_105 hl (by decide) rfl (fun ls hl => ?_)
          refine lv_aload_n F.1 F.2.1 d_Model_termOf_107 rfl (lv_at hl 4 rfl) ?_
          refine mg_0_51 F hK hw lk_1062 d_Model_termOf_108 ?_
          refine lv_iload_n F.1 F.2.1 d_Model_termOf_111 rfl (lv_at hl 2 rfl) ?_
          refine lv_iconst (v := 1) F.1 F.2.1 d_Model_termOf_112 (by decide) ?_
          refine lv_isub F.1 F.2.1 d_Model_termOf_113 ?_
          refine lv_iload F.1 F.2.1 d_Model_termOf_114 (lv_at hl 3 rfl) ?_
          refine lv_iconst (v := 3) F.1 F.2.1 d_Model_termOf_116 (by decide) ?_
          refine lv_icmp_ne (tgt := 128) F.1 F.2.1 d_Model_termOf_117 (by decide) (fun c_10 => ?_) (fun c_10 => ?_)
          · replace h := iq c_10 h
            refine lv_iload F.1 F.2.1 d_Model_termOf_128 (lv_at hl 3 rfl) ?_
            refine lv_iconst (v := 4) F.1 F.2.1 d_Model_termOf_130 (by decide) ?_
            refine lv_icmp_ne (tgt := 142) F.1 F.2.1 d_Model_termOf_131 (by decide) (fun c_11 => ?_) (fun c_11 => ?_)
            · replace h := iq c_11 h
              refine lv_iload F.1 F.2.1 d_Model_termOf_142 (lv_at hl 1 rfl) ?_
              refine lv_iload F.1 F.2.1 d_Model_termOf_144 (lv_at hl 0 rfl) ?_
              refine lv_imul F.1 F.2.1 d_Model_termOf_146 ?_
              exact J_147_l5 S x3_5 x4 (x3_5 - (1 : Int32)) (x6_7 * x7_9) H locs ls hw (lv_sub hl [4, 5, 2, 6] rfl) o h ho
            · replace h := ip c_11 h
              refine lv_iload F.1 F.2.1 d_Model_termOf_134 (lv_at hl 1 rfl) ?_
              refine lv_iload F.1 F.2.1 d_Model_termOf_136 (lv_at hl 0 rfl) ?_
              refine lv_isub F.1 F.2.1 d_Model_termOf_138 ?_
              refine lv_goto (tgt := 147) F.1 F.2.1 d_Model_termOf_139 (by decide) ?_
              exact J_147_l5 S x3_5 x4 (x3_5 - (1 : Int32)) (x6_7 - x7_9) H locs ls hw (lv_sub hl [4, 5, 2, 6] rfl) o h ho
          · replace h := ip c_10 h
            refine lv_iload F.1 F.2.1 d_Model_termOf_120 (lv_at hl 1 rfl) ?_
            refine lv_iload F.1 F.2.1 d_Model_termOf_122 (lv_at hl 0 rfl) ?_
            refine lv_iadd F.1 F.2.1 d_Model_termOf_124 ?_
            refine lv_goto (tgt := 147) F.1 F.2.1 d_Model_termOf_125 (by decide) ?_
            exact J_147_l5 S x3_5 x4 (x3_5 - (1 : Int32)) (x6_7 + x7_9) H locs ls hw (lv_sub hl [4, 5, 2, 6] rfl) o h ho
        · replace h := iq c_4 h
          refine lv_aload_n F.1 F.2.1 d_Model_termOf_26 rfl (lv_at hl 1 rfl) ?_
          refine mg_0_51 F hK hw lk_1062 d_Model_termOf_27 ?_
          refine lv_iload_n F.1 F.2.1 d_Model_termOf_30 rfl (lv_at hl 3 rfl) ?_
          refine lv_iload F.1 F.2.1 d_Model_termOf_31 (lv_at hl 0 rfl) ?_
          refine lv_if_ne (tgt := 46) F.1 F.2.1 d_Model_termOf_33 (by decide) (fun c_12 => ?_) (fun c_12 => ?_)
          · replace h := iq c_12 h
            refine lv_iload F.1 F.2.1 d_Model_termOf_46 (lv_at hl 0 rfl) ?_
            refine lv_iconst (v := 1) F.1 F.2.1 d_Model_termOf_48 (by decide) ?_
            refine lv_icmp_ne (tgt := 67) F.1 F.2.1 d_Model_termOf_49 (by decide) (fun c_13 => ?_) (fun c_13 => ?_)
            · replace h := iq c_13 h
              refine lv_aload_n F.1 F.2.1 d_Model_termOf_67 rfl (lv_at hl 1 rfl) ?_
              refine mg_0_50 F hK hw lk_1061 d_Model_termOf_68 ?_
              refine lv_aload_n F.1 F.2.1 d_Model_termOf_71 rfl (lv_at hl 1 rfl) ?_
              refine mg_0_40 F hK hw lk_1051 d_Model_termOf_72 ?_
              refine lv_iload F.1 F.2.1 d_Model_termOf_75 (lv_at hl 4 rfl) ?_
              obtain ⟨hi_14, h⟩ := gd_ex h
              refine ml_0_40 F hK hw hi_14 d_Model_termOf_77 ?_
              obtain ⟨hi_15, h⟩ := gd_ex h
              refine ml_0_50 F hK hw hi_15 d_Model_termOf_78 ?_
              exact J_79_l5 S x3 x4 x3 (gA S 0 50 (gA S 0 40 x4.toNatClampNeg).toNatClampNeg) H locs ls hw (lv_sub hl [1, 2, 3, 4] rfl) o h ho
            · replace h := ip c_13 h
              refine lv_aload_n F.1 F.2.1 d_Model_termOf_52 rfl (lv_at hl 1 rfl) ?_
              refine mg_0_49 F hK hw lk_1060 d_Model_termOf_53 ?_
              refine lv_aload_n F.1 F.2.1 d_Model_termOf_56 rfl (lv_at hl 1 rfl) ?_
              refine mg_0_40 F hK hw lk_1051 d_Model_termOf_57 ?_
              refine lv_iload F.1 F.2.1 d_Model_termOf_60 (lv_at hl 4 rfl) ?_
              obtain ⟨hi_16, h⟩ := gd_ex h
              refine ml_0_40 F hK hw hi_16 d_Model_termOf_62 ?_
              obtain ⟨hi_17, h⟩ := gd_ex h
              refine ml_0_49 F hK hw hi_17 d_Model_termOf_63 ?_
              refine lv_goto (tgt := 79) F.1 F.2.1 d_Model_termOf_64 (by decide) ?_
              exact J_79_l5 S x3 x4 x3 (gA S 0 49 (gA S 0 40 x4.toNatClampNeg).toNatClampNeg) H locs ls hw (lv_sub hl [1, 2, 3, 4] rfl) o h ho
          · replace h := ip c_12 h
            refine lv_aload_n F.1 F.2.1 d_Model_termOf_36 rfl (lv_at hl 1 rfl) ?_
            refine mg_0_40 F hK hw lk_1051 d_Model_termOf_37 ?_
            refine lv_iload F.1 F.2.1 d_Model_termOf_40 (lv_at hl 4 rfl) ?_
            obtain ⟨hi_18, h⟩ := gd_ex h
            refine ml_0_40 F hK hw hi_18 d_Model_termOf_42 ?_
            refine lv_goto (tgt := 79) F.1 F.2.1 d_Model_termOf_43 (by decide) ?_
            exact J_79_l5 S x3 x4 x3 (gA S 0 40 x4.toNatClampNeg) H locs ls hw (lv_sub hl [1, 2, 3, 4] rfl) o h ho
    rw [eP_5] at hL_5
    exact hL_5 H locs ls hw (lv_sub hl [2, 4, 1, 0] rfl)
  exact key _ _ hw _ h (by rw [eX_0]; exact fun H locs pc ls hd hw => hQ H locs pc ls ad rfl hd hw)
theorem d_Model_holds_0 : decode b_Model_holds 0 = .ok (.aload_n 0, 1) := by decide +kernel
theorem d_Model_holds_1 : decode b_Model_holds 1 = .ok (.getfield 58, 3) := by decide +kernel
theorem d_Model_holds_4 : decode b_Model_holds 4 = .ok (.iload_n 1, 1) := by decide +kernel
theorem d_Model_holds_5 : decode b_Model_holds 5 = .ok (.iaload, 1) := by decide +kernel
theorem d_Model_holds_6 : decode b_Model_holds 6 = .ok (.aload_n 0, 1) := by decide +kernel
theorem d_Model_holds_7 : decode b_Model_holds 7 = .ok (.getfield 61, 3) := by decide +kernel
theorem d_Model_holds_10 : decode b_Model_holds 10 = .ok (.iload_n 1, 1) := by decide +kernel
theorem d_Model_holds_11 : decode b_Model_holds 11 = .ok (.iaload, 1) := by decide +kernel
theorem d_Model_holds_12 : decode b_Model_holds 12 = .ok (.if_icmp .ne 5, 3) := by decide +kernel
theorem d_Model_holds_15 : decode b_Model_holds 15 = .ok (.iconst 1, 1) := by decide +kernel
theorem d_Model_holds_16 : decode b_Model_holds 16 = .ok (.ireturn, 1) := by decide +kernel
theorem d_Model_holds_17 : decode b_Model_holds 17 = .ok (.iconst 0, 1) := by decide +kernel
theorem d_Model_holds_18 : decode b_Model_holds 18 = .ok (.istore_n 2, 1) := by decide +kernel
theorem d_Model_holds_19 : decode b_Model_holds 19 = .ok (.aload_n 0, 1) := by decide +kernel
theorem d_Model_holds_20 : decode b_Model_holds 20 = .ok (.getfield 58, 3) := by decide +kernel
theorem d_Model_holds_23 : decode b_Model_holds 23 = .ok (.iload_n 1, 1) := by decide +kernel
theorem d_Model_holds_24 : decode b_Model_holds 24 = .ok (.iaload, 1) := by decide +kernel
theorem d_Model_holds_25 : decode b_Model_holds 25 = .ok (.istore_n 3, 1) := by decide +kernel
theorem d_Model_holds_26 : decode b_Model_holds 26 = .ok (.iload_n 3, 1) := by decide +kernel
theorem d_Model_holds_27 : decode b_Model_holds 27 = .ok (.aload_n 0, 1) := by decide +kernel
theorem d_Model_holds_28 : decode b_Model_holds 28 = .ok (.getfield 61, 3) := by decide +kernel
theorem d_Model_holds_31 : decode b_Model_holds 31 = .ok (.iload_n 1, 1) := by decide +kernel
theorem d_Model_holds_32 : decode b_Model_holds 32 = .ok (.iaload, 1) := by decide +kernel
theorem d_Model_holds_33 : decode b_Model_holds 33 = .ok (.if_icmp .ge 205, 3) := by decide +kernel
theorem d_Model_holds_36 : decode b_Model_holds 36 = .ok (.sipush 200, 3) := by decide +kernel
theorem d_Model_holds_39 : decode b_Model_holds 39 = .ok (.aload_n 0, 1) := by decide +kernel
theorem d_Model_holds_40 : decode b_Model_holds 40 = .ok (.getfield 228, 3) := by decide +kernel
theorem d_Model_holds_43 : decode b_Model_holds 43 = .ok (.imul, 1) := by decide +kernel
theorem d_Model_holds_44 : decode b_Model_holds 44 = .ok (.iload_n 3, 1) := by decide +kernel
theorem d_Model_holds_45 : decode b_Model_holds 45 = .ok (.iadd, 1) := by decide +kernel
theorem d_Model_holds_46 : decode b_Model_holds 46 = .ok (.istore 4, 2) := by decide +kernel
theorem d_Model_holds_48 : decode b_Model_holds 48 = .ok (.aload_n 0, 1) := by decide +kernel
theorem d_Model_holds_49 : decode b_Model_holds 49 = .ok (.getfield 80, 3) := by decide +kernel
theorem d_Model_holds_52 : decode b_Model_holds 52 = .ok (.iload 4, 2) := by decide +kernel
theorem d_Model_holds_54 : decode b_Model_holds 54 = .ok (.baload, 1) := by decide +kernel
theorem d_Model_holds_55 : decode b_Model_holds 55 = .ok (.ifCond .eq 9, 3) := by decide +kernel
theorem d_Model_holds_58 : decode b_Model_holds 58 = .ok (.iload_n 2, 1) := by decide +kernel
theorem d_Model_holds_59 : decode b_Model_holds 59 = .ok (.ifCond .eq 5, 3) := by decide +kernel
theorem d_Model_holds_62 : decode b_Model_holds 62 = .ok (.iconst 1, 1) := by decide +kernel
theorem d_Model_holds_63 : decode b_Model_holds 63 = .ok (.ireturn, 1) := by decide +kernel
theorem d_Model_holds_64 : decode b_Model_holds 64 = .ok (.aload_n 0, 1) := by decide +kernel
theorem d_Model_holds_65 : decode b_Model_holds 65 = .ok (.getfield 80, 3) := by decide +kernel
theorem d_Model_holds_68 : decode b_Model_holds 68 = .ok (.iload 4, 2) := by decide +kernel
theorem d_Model_holds_70 : decode b_Model_holds 70 = .ok (.baload, 1) := by decide +kernel
theorem d_Model_holds_71 : decode b_Model_holds 71 = .ok (.ifCond .eq 5, 3) := by decide +kernel
theorem d_Model_holds_74 : decode b_Model_holds 74 = .ok (.iconst 1, 1) := by decide +kernel
theorem d_Model_holds_75 : decode b_Model_holds 75 = .ok (.istore_n 2, 1) := by decide +kernel
theorem d_Model_holds_76 : decode b_Model_holds 76 = .ok (.iload_n 2, 1) := by decide +kernel
theorem d_Model_holds_77 : decode b_Model_holds 77 = .ok (.ifCond .ne 6, 3) := by decide +kernel
theorem d_Model_holds_80 : decode b_Model_holds 80 = .ok (.goto 152, 3) := by decide +kernel
theorem d_Model_holds_83 : decode b_Model_holds 83 = .ok (.aload_n 0, 1) := by decide +kernel
theorem d_Model_holds_84 : decode b_Model_holds 84 = .ok (.aload_n 0, 1) := by decide +kernel
theorem d_Model_holds_85 : decode b_Model_holds 85 = .ok (.getfield 83, 3) := by decide +kernel
theorem d_Model_holds_88 : decode b_Model_holds 88 = .ok (.iload 4, 2) := by decide +kernel
theorem d_Model_holds_90 : decode b_Model_holds 90 = .ok (.iaload, 1) := by decide +kernel
theorem d_Model_holds_91 : decode b_Model_holds 91 = .ok (.aload_n 0, 1) := by decide +kernel
theorem d_Model_holds_92 : decode b_Model_holds 92 = .ok (.getfield 86, 3) := by decide +kernel
theorem d_Model_holds_95 : decode b_Model_holds 95 = .ok (.iload 4, 2) := by decide +kernel
theorem d_Model_holds_97 : decode b_Model_holds 97 = .ok (.iaload, 1) := by decide +kernel
theorem d_Model_holds_98 : decode b_Model_holds 98 = .ok (.invokevirtual 287, 3) := by decide +kernel
theorem d_Model_holds_101 : decode b_Model_holds 101 = .ok (.istore 5, 2) := by decide +kernel
theorem d_Model_holds_103 : decode b_Model_holds 103 = .ok (.aload_n 0, 1) := by decide +kernel
theorem d_Model_holds_104 : decode b_Model_holds 104 = .ok (.aload_n 0, 1) := by decide +kernel
theorem d_Model_holds_105 : decode b_Model_holds 105 = .ok (.getfield 86, 3) := by decide +kernel
theorem d_Model_holds_108 : decode b_Model_holds 108 = .ok (.iload 4, 2) := by decide +kernel
theorem d_Model_holds_110 : decode b_Model_holds 110 = .ok (.iaload, 1) := by decide +kernel
theorem d_Model_holds_111 : decode b_Model_holds 111 = .ok (.aload_n 0, 1) := by decide +kernel
theorem d_Model_holds_112 : decode b_Model_holds 112 = .ok (.getfield 89, 3) := by decide +kernel
theorem d_Model_holds_115 : decode b_Model_holds 115 = .ok (.iload 4, 2) := by decide +kernel
theorem d_Model_holds_117 : decode b_Model_holds 117 = .ok (.iaload, 1) := by decide +kernel
theorem d_Model_holds_118 : decode b_Model_holds 118 = .ok (.invokevirtual 287, 3) := by decide +kernel
theorem d_Model_holds_121 : decode b_Model_holds 121 = .ok (.istore 6, 2) := by decide +kernel
theorem d_Model_holds_123 : decode b_Model_holds 123 = .ok (.aload_n 0, 1) := by decide +kernel
theorem d_Model_holds_124 : decode b_Model_holds 124 = .ok (.getfield 73, 3) := by decide +kernel
theorem d_Model_holds_127 : decode b_Model_holds 127 = .ok (.iload 4, 2) := by decide +kernel
theorem d_Model_holds_129 : decode b_Model_holds 129 = .ok (.iaload, 1) := by decide +kernel
theorem d_Model_holds_130 : decode b_Model_holds 130 = .ok (.ifCond .ne 18, 3) := by decide +kernel
theorem d_Model_holds_133 : decode b_Model_holds 133 = .ok (.iload 5, 2) := by decide +kernel
theorem d_Model_holds_135 : decode b_Model_holds 135 = .ok (.iload 6, 2) := by decide +kernel
theorem d_Model_holds_137 : decode b_Model_holds 137 = .ok (.if_icmp .ne 7, 3) := by decide +kernel
theorem d_Model_holds_140 : decode b_Model_holds 140 = .ok (.iconst 1, 1) := by decide +kernel
theorem d_Model_holds_141 : decode b_Model_holds 141 = .ok (.goto 71, 3) := by decide +kernel
theorem d_Model_holds_144 : decode b_Model_holds 144 = .ok (.iconst 0, 1) := by decide +kernel
theorem d_Model_holds_145 : decode b_Model_holds 145 = .ok (.goto 67, 3) := by decide +kernel
theorem d_Model_holds_148 : decode b_Model_holds 148 = .ok (.aload_n 0, 1) := by decide +kernel
theorem d_Model_holds_149 : decode b_Model_holds 149 = .ok (.getfield 73, 3) := by decide +kernel
theorem d_Model_holds_152 : decode b_Model_holds 152 = .ok (.iload 4, 2) := by decide +kernel
theorem d_Model_holds_154 : decode b_Model_holds 154 = .ok (.iaload, 1) := by decide +kernel
theorem d_Model_holds_155 : decode b_Model_holds 155 = .ok (.iconst 1, 1) := by decide +kernel
theorem d_Model_holds_156 : decode b_Model_holds 156 = .ok (.if_icmp .ne 18, 3) := by decide +kernel
theorem d_Model_holds_159 : decode b_Model_holds 159 = .ok (.iload 5, 2) := by decide +kernel
theorem d_Model_holds_161 : decode b_Model_holds 161 = .ok (.iload 6, 2) := by decide +kernel
theorem d_Model_holds_163 : decode b_Model_holds 163 = .ok (.if_icmp .eq 7, 3) := by decide +kernel
theorem d_Model_holds_166 : decode b_Model_holds 166 = .ok (.iconst 1, 1) := by decide +kernel
theorem d_Model_holds_167 : decode b_Model_holds 167 = .ok (.goto 45, 3) := by decide +kernel
theorem d_Model_holds_170 : decode b_Model_holds 170 = .ok (.iconst 0, 1) := by decide +kernel
theorem d_Model_holds_171 : decode b_Model_holds 171 = .ok (.goto 41, 3) := by decide +kernel
theorem d_Model_holds_174 : decode b_Model_holds 174 = .ok (.aload_n 0, 1) := by decide +kernel
theorem d_Model_holds_175 : decode b_Model_holds 175 = .ok (.getfield 73, 3) := by decide +kernel
theorem d_Model_holds_178 : decode b_Model_holds 178 = .ok (.iload 4, 2) := by decide +kernel
theorem d_Model_holds_180 : decode b_Model_holds 180 = .ok (.iaload, 1) := by decide +kernel
theorem d_Model_holds_181 : decode b_Model_holds 181 = .ok (.iconst 2, 1) := by decide +kernel
theorem d_Model_holds_182 : decode b_Model_holds 182 = .ok (.if_icmp .ne 18, 3) := by decide +kernel
theorem d_Model_holds_185 : decode b_Model_holds 185 = .ok (.iload 5, 2) := by decide +kernel
theorem d_Model_holds_187 : decode b_Model_holds 187 = .ok (.iload 6, 2) := by decide +kernel
theorem d_Model_holds_189 : decode b_Model_holds 189 = .ok (.if_icmp .ge 7, 3) := by decide +kernel
theorem d_Model_holds_192 : decode b_Model_holds 192 = .ok (.iconst 1, 1) := by decide +kernel
theorem d_Model_holds_193 : decode b_Model_holds 193 = .ok (.goto 19, 3) := by decide +kernel
theorem d_Model_holds_196 : decode b_Model_holds 196 = .ok (.iconst 0, 1) := by decide +kernel
theorem d_Model_holds_197 : decode b_Model_holds 197 = .ok (.goto 15, 3) := by decide +kernel
theorem d_Model_holds_200 : decode b_Model_holds 200 = .ok (.iload 5, 2) := by decide +kernel
theorem d_Model_holds_202 : decode b_Model_holds 202 = .ok (.iload 6, 2) := by decide +kernel
theorem d_Model_holds_204 : decode b_Model_holds 204 = .ok (.if_icmp .gt 7, 3) := by decide +kernel
theorem d_Model_holds_207 : decode b_Model_holds 207 = .ok (.iconst 1, 1) := by decide +kernel
theorem d_Model_holds_208 : decode b_Model_holds 208 = .ok (.goto 4, 3) := by decide +kernel
theorem d_Model_holds_211 : decode b_Model_holds 211 = .ok (.iconst 0, 1) := by decide +kernel
theorem d_Model_holds_212 : decode b_Model_holds 212 = .ok (.istore 7, 2) := by decide +kernel
theorem d_Model_holds_214 : decode b_Model_holds 214 = .ok (.iload 7, 2) := by decide +kernel
theorem d_Model_holds_216 : decode b_Model_holds 216 = .ok (.aload_n 0, 1) := by decide +kernel
theorem d_Model_holds_217 : decode b_Model_holds 217 = .ok (.getfield 76, 3) := by decide +kernel
theorem d_Model_holds_220 : decode b_Model_holds 220 = .ok (.iload 4, 2) := by decide +kernel
theorem d_Model_holds_222 : decode b_Model_holds 222 = .ok (.baload, 1) := by decide +kernel
theorem d_Model_holds_223 : decode b_Model_holds 223 = .ok (.if_icmp .eq 7, 3) := by decide +kernel
theorem d_Model_holds_226 : decode b_Model_holds 226 = .ok (.iconst 1, 1) := by decide +kernel
theorem d_Model_holds_227 : decode b_Model_holds 227 = .ok (.goto 4, 3) := by decide +kernel
theorem d_Model_holds_230 : decode b_Model_holds 230 = .ok (.iconst 0, 1) := by decide +kernel
theorem d_Model_holds_231 : decode b_Model_holds 231 = .ok (.istore_n 2, 1) := by decide +kernel
theorem d_Model_holds_232 : decode b_Model_holds 232 = .ok (.iinc 3 1, 3) := by decide +kernel
theorem d_Model_holds_235 : decode b_Model_holds 235 = .ok (.goto (-209), 3) := by decide +kernel
theorem d_Model_holds_238 : decode b_Model_holds 238 = .ok (.iload_n 2, 1) := by decide +kernel
theorem d_Model_holds_239 : decode b_Model_holds 239 = .ok (.ireturn, 1) := by decide +kernel
set_option maxHeartbeats 4000000 in
set_option maxRecDepth 100000 in
theorem c_Model_holds (l : Launch) {S : St} {x1 : Int32} {S' : St} {r : Int32} (h : f_Model_holds S x1 = some (r, S')) : MI mw l y_Model_holds b_Model_holds 8 (some .boolean) 1 27 0 0 (fun ad => [.ref (ad 0 0), .int x1]) aT aE S r S' := by
  refine MZ_of "LawfulLotsModel" rfl (by decide) (fun _ => Nat.le_of_ble_eq_true rfl) ?_
  intro p e s m args below meth c D ar ad A Q ls hP F hK hA hw hl hQ
  have hl : lv_has ls 8 [(0, .ref (ad 0 0)), (1, .int x1)] := hl
  obtain ⟨X_0, eX_0⟩ : ∃ X : (Int32 × St) → Prop, X = (fun q => ∀ (H : Heap) (locs : List Loc) (pc : Nat) (ls : Array Slot), isB q.1 = true → decode b_Model_holds pc = .ok (.ireturn, 1) → Bw mw D ar A s.heap H locs ad q.2 → W p l e (RM 1 27) s m args below meth c H locs 0 0 Q (F0 m pc ls [.int q.1])) := ⟨_, rfl⟩
  have key : ∀ (H : Heap) (locs : List Loc), Bw mw D ar A s.heap H locs ad S → ∀ o, f_Model_holds S x1 = some o → X_0 o → W p l e (RM 1 27) s m args below meth c H locs 0 0 Q (F0 m 0 ls []) := by
    intro H locs hw o h ho
    unfold f_Model_holds at h
    refine lv_aload_n F.1 F.2.1 d_Model_holds_0 rfl (lv_at hl 0 rfl) ?_
    refine mg_0_27 F hK hw lk_1038 d_Model_holds_1 ?_
    refine lv_iload_n F.1 F.2.1 d_Model_holds_4 rfl (lv_at hl 1 rfl) ?_
    obtain ⟨hi_1, h⟩ := gd_ex h
    refine ml_0_27 F hK hw hi_1 d_Model_holds_5 ?_
    refine lv_aload_n F.1 F.2.1 d_Model_holds_6 rfl (lv_at hl 0 rfl) ?_
    refine mg_0_28 F hK hw lk_1039 d_Model_holds_7 ?_
    refine lv_iload_n F.1 F.2.1 d_Model_holds_10 rfl (lv_at hl 1 rfl) ?_
    obtain ⟨hi_2, h⟩ := gd_ex h
    refine ml_0_28 F hK hw hi_2 d_Model_holds_11 ?_
    refine lv_icmp_ne (tgt := 17) F.1 F.2.1 d_Model_holds_12 (by decide) (fun c_3 => ?_) (fun c_3 => ?_)
    · replace h := iq c_3 h
      refine lv_iconst (v := 0) F.1 F.2.1 d_Model_holds_17 (by decide) ?_
      refine lv_istore_n (lv' := [(2, .int (0 : Int32)), (0, .ref (ad 0 0)), (1, .int x1)]) F.1 F.2.1 d_Model_holds_18 rfl hl (by decide) rfl (fun ls hl => ?_)
      refine lv_aload_n F.1 F.2.1 d_Model_holds_19 rfl (lv_at hl 1 rfl) ?_
      refine mg_0_27 F hK hw lk_1038 d_Model_holds_20 ?_
      refine lv_iload_n F.1 F.2.1 d_Model_holds_23 rfl (lv_at hl 2 rfl) ?_
      obtain ⟨hi_4, h⟩ := gd_ex h
      refine ml_0_27 F hK hw hi_4 d_Model_holds_24 ?_
      obtain ⟨x3_5, ex3_5, h⟩ := nm_ex h
      refine lv_nm ex3_5 ?_
      refine lv_istore_n (lv' := [(3, .int x3_5), (2, .int (0 : Int32)), (0, .ref (ad 0 0)), (1, .int x1)]) F.1 F.2.1 d_Model_holds_25 rfl hl (by decide) rfl (fun ls hl => ?_)
      obtain ⟨P_26, eP_26⟩ : ∃ P : (St × Int32 × Int32) → Prop, P = (fun q => ∀ (H : Heap) (locs : List Loc) (ls : Array Slot), Bw mw D ar A s.heap H locs ad q.1 → lv_has ls 8 [(0, .ref (ad 0 0)), (1, .int x1), (2, .int q.2.1), (3, .int q.2.2)] → W p l e (RM 1 27) s m args below meth c H locs 0 0 Q (F0 m 26 ls [])) := ⟨_, rfl⟩
      have hL_26 : P_26 (S, (0 : Int32), x3_5) := by
        refine wh_gp (P := P_26) (X := X_0) h ho ?_
        clear h ho
        intro q o h ho
        obtain ⟨S, x2, x3⟩ := q
        have h : Model_holds_l26 x1 S x2 x3 = some o := h
        unfold Model_holds_l26 at h
        rw [eP_26]
        intro H locs ls hw hl
        have J_232_l26 : ∀ (S : St) (x2 : Int32) (x3 : Int32) (H : Heap) (locs : List Loc) (ls : Array Slot), Bw mw D ar A s.heap H locs ad S → lv_has ls 8 [(0, .ref (ad 0 0)), (1, .int x1), (2, .int x2), (3, .int x3)] → ∀ o, Model_holds_j232_l26 S x1 x2 x3 = some o → (Sum.elim P_26 X_0) o → W p l e (RM 1 27) s m args below meth c H locs 0 0 Q (F0 m 232 ls []) := by
          intro S x2 x3 H locs ls hw hl o h ho
          unfold Model_holds_j232_l26 at h
          obtain ⟨x3_38, ex3_38, h⟩ := nm_ex h
          refine lv_iinc (v := x3_38) (lv' := [(3, .int x3_38), (0, .ref (ad 0 0)), (1, .int x1), (2, .int x2)]) F.1 F.2.1 d_Model_holds_232 hl (k := 3) rfl (by rw [ex3_38]; rfl) (by decide) rfl (fun ls hl => ?_)
          refine lv_goto (tgt := 26) F.1 F.2.1 d_Model_holds_235 (by decide) ?_
          cases h
          have ho : P_26 _ := ho
          rw [eP_26] at ho
          exact ho H locs ls hw (lv_sub hl [1, 2, 3, 0] rfl)
        have J_231_l26 : ∀ (S : St) (x3 : Int32) (t0 : Int32) (H : Heap) (locs : List Loc) (ls : Array Slot), Bw mw D ar A s.heap H locs ad S → lv_has ls 8 [(0, .ref (ad 0 0)), (1, .int x1), (3, .int x3)] → ∀ o, Model_holds_j231_l26 S x1 x3 t0 = some o → (Sum.elim P_26 X_0) o → W p l e (RM 1 27) s m args below meth c H locs 0 0 Q (F0 m 231 ls [.int t0]) := by
          intro S x3 t0 H locs ls hw hl o h ho
          unfold Model_holds_j231_l26 at h
          refine lv_istore_n (lv' := [(2, .int t0), (0, .ref (ad 0 0)), (1, .int x1), (3, .int x3)]) F.1 F.2.1 d_Model_holds_231 rfl hl (by decide) rfl (fun ls hl => ?_)
          exact J_232_l26 S t0 x3 H locs ls hw (lv_sub hl [1, 2, 0, 3] rfl) o h ho
        have J_212_l26 : ∀ (S : St) (x3 : Int32) (x4 : Int32) (t0 : Int32) (H : Heap) (locs : List Loc) (ls : Array Slot), Bw mw D ar A s.heap H locs ad S → lv_has ls 8 [(0, .ref (ad 0 0)), (1, .int x1), (3, .int x3), (4, .int x4)] → ∀ o, Model_holds_j212_l26 S x1 x3 x4 t0 = some o → (Sum.elim P_26 X_0) o → W p l e (RM 1 27) s m args below meth c H locs 0 0 Q (F0 m 212 ls [.int t0]) := by
          intro S x3 x4 t0 H locs ls hw hl o h ho
          unfold Model_holds_j212_l26 at h
          refine lv_istore (lv' := [(7, .int t0), (0, .ref (ad 0 0)), (1, .int x1), (3, .int x3), (4, .int x4)]) F.1 F.2.1 d_Model_holds_212 hl (by decide) rfl (fun ls hl => ?_)
          refine lv_iload F.1 F.2.1 d_Model_holds_214 (lv_at hl 0 rfl) ?_
          refine lv_aload_n F.1 F.2.1 d_Model_holds_216 rfl (lv_at hl 1 rfl) ?_
          refine mg_0_33 F hK hw lk_1044 d_Model_holds_217 ?_
          refine lv_iload F.1 F.2.1 d_Model_holds_220 (lv_at hl 4 rfl) ?_
          obtain ⟨hi_36, h⟩ := gd_ex h
          refine ml_0_33 F hK hw hi_36 d_Model_holds_222 ?_
          refine lv_icmp_eq (tgt := 230) F.1 F.2.1 d_Model_holds_223 (by decide) (fun c_37 => ?_) (fun c_37 => ?_)
          · replace h := ip c_37 h
            refine lv_iconst (v := 0) F.1 F.2.1 d_Model_holds_230 (by decide) ?_
            exact J_231_l26 S x3 (0 : Int32) H locs ls hw (lv_sub hl [1, 2, 3] rfl) o h ho
          · replace h := iq c_37 h
            refine lv_iconst (v := 1) F.1 F.2.1 d_Model_holds_226 (by decide) ?_
            refine lv_goto (tgt := 231) F.1 F.2.1 d_Model_holds_227 (by decide) ?_
            exact J_231_l26 S x3 (1 : Int32) H locs ls hw (lv_sub hl [1, 2, 3] rfl) o h ho
        have J_76_l26 : ∀ (S : St) (x2 : Int32) (x3 : Int32) (x4 : Int32) (H : Heap) (locs : List Loc) (ls : Array Slot), Bw mw D ar A s.heap H locs ad S → lv_has ls 8 [(0, .ref (ad 0 0)), (1, .int x1), (2, .int x2), (3, .int x3), (4, .int x4)] → ∀ o, Model_holds_j76_l26 S x1 x2 x3 x4 = some o → (Sum.elim P_26 X_0) o → W p l e (RM 1 27) s m args below meth c H locs 0 0 Q (F0 m 76 ls []) := by
          intro S x2 x3 x4 H locs ls hw hl o h ho
          unfold Model_holds_j76_l26 at h
          refine lv_iload_n F.1 F.2.1 d_Model_holds_76 rfl (lv_at hl 2 rfl) ?_
          refine lv_if_ne (tgt := 83) F.1 F.2.1 d_Model_holds_77 (by decide) (fun c_15 => ?_) (fun c_15 => ?_)
          · replace h := iq c_15 h
            refine lv_aload_n F.1 F.2.1 d_Model_holds_83 rfl (lv_at hl 0 rfl) ?_
            refine lv_aload_n F.1 F.2.1 d_Model_holds_84 rfl (lv_at hl 0 rfl) ?_
            refine mg_0_35 F hK hw lk_1046 d_Model_holds_85 ?_
            refine lv_iload F.1 F.2.1 d_Model_holds_88 (lv_at hl 4 rfl) ?_
            obtain ⟨hi_16, h⟩ := gd_ex h
            refine ml_0_35 F hK hw hi_16 d_Model_holds_90 ?_
            refine lv_aload_n F.1 F.2.1 d_Model_holds_91 rfl (lv_at hl 0 rfl) ?_
            refine mg_0_36 F hK hw lk_1047 d_Model_holds_92 ?_
            refine lv_iload F.1 F.2.1 d_Model_holds_95 (lv_at hl 4 rfl) ?_
            obtain ⟨hi_17, h⟩ := gd_ex h
            refine ml_0_36 F hK hw hi_17 d_Model_holds_97 ?_
            obtain ⟨v_19, S_20, hc_18, h⟩ := bd2_ex h
            refine cV_i F hA rfl hK hw (c_Model_termOf l hc_18) trivial rfl (good_V lk_988 lk_990 ls_51 lk_10 lk_991) (mr_0 hK hw) hd_Model_termOf ⟨Nat.le_of_ble_eq_true rfl, Nat.le_of_ble_eq_true rfl⟩ rfl hl.1 rfl (Nat.le_of_ble_eq_true rfl) d_Model_holds_98 ⟨(Nat.zero_le _), (Nat.zero_le _)⟩ (fun H locs hw => ?_)
            refine lv_istore (lv' := [(5, .int v_19), (0, .ref (ad 0 0)), (1, .int x1), (2, .int x2), (3, .int x3), (4, .int x4)]) F.1 F.2.1 d_Model_holds_101 hl (by decide) rfl (fun ls hl => ?_)
            refine lv_aload_n F.1 F.2.1 d_Model_holds_103 rfl (lv_at hl 1 rfl) ?_
            refine lv_aload_n F.1 F.2.1 d_Model_holds_104 rfl (lv_at hl 1 rfl) ?_
            refine mg_0_36 F hK hw lk_1047 d_Model_holds_105 ?_
            refine lv_iload F.1 F.2.1 d_Model_holds_108 (lv_at hl 5 rfl) ?_
            obtain ⟨hi_21, h⟩ := gd_ex h
            refine ml_0_36 F hK hw hi_21 d_Model_holds_110 ?_
            refine lv_aload_n F.1 F.2.1 d_Model_holds_111 rfl (lv_at hl 1 rfl) ?_
            refine mg_0_37 F hK hw lk_1048 d_Model_holds_112 ?_
            refine lv_iload F.1 F.2.1 d_Model_holds_115 (lv_at hl 5 rfl) ?_
            obtain ⟨hi_22, h⟩ := gd_ex h
            refine ml_0_37 F hK hw hi_22 d_Model_holds_117 ?_
            obtain ⟨v_24, S_25, hc_23, h⟩ := bd2_ex h
            refine cV_i F hA rfl hK hw (c_Model_termOf l hc_23) trivial rfl (good_V lk_988 lk_990 ls_51 lk_10 lk_991) (mr_0 hK hw) hd_Model_termOf ⟨Nat.le_of_ble_eq_true rfl, Nat.le_of_ble_eq_true rfl⟩ rfl hl.1 rfl (Nat.le_of_ble_eq_true rfl) d_Model_holds_118 ⟨(Nat.zero_le _), (Nat.zero_le _)⟩ (fun H locs hw => ?_)
            refine lv_istore (lv' := [(6, .int v_24), (5, .int v_19), (0, .ref (ad 0 0)), (1, .int x1), (2, .int x2), (3, .int x3), (4, .int x4)]) F.1 F.2.1 d_Model_holds_121 hl (by decide) rfl (fun ls hl => ?_)
            refine lv_aload_n F.1 F.2.1 d_Model_holds_123 rfl (lv_at hl 2 rfl) ?_
            refine mg_0_32 F hK hw lk_1043 d_Model_holds_124 ?_
            refine lv_iload F.1 F.2.1 d_Model_holds_127 (lv_at hl 6 rfl) ?_
            obtain ⟨hi_26, h⟩ := gd_ex h
            refine ml_0_32 F hK hw hi_26 d_Model_holds_129 ?_
            refine lv_if_ne (tgt := 148) F.1 F.2.1 d_Model_holds_130 (by decide) (fun c_27 => ?_) (fun c_27 => ?_)
            · replace h := iq c_27 h
              refine lv_aload_n F.1 F.2.1 d_Model_holds_148 rfl (lv_at hl 2 rfl) ?_
              refine mg_0_32 F hK hw lk_1043 d_Model_holds_149 ?_
              refine lv_iload F.1 F.2.1 d_Model_holds_152 (lv_at hl 6 rfl) ?_
              obtain ⟨hi_28, h⟩ := gd_ex h
              refine ml_0_32 F hK hw hi_28 d_Model_holds_154 ?_
              refine lv_iconst (v := 1) F.1 F.2.1 d_Model_holds_155 (by decide) ?_
              refine lv_icmp_ne (tgt := 174) F.1 F.2.1 d_Model_holds_156 (by decide) (fun c_29 => ?_) (fun c_29 => ?_)
              · replace h := iq c_29 h
                refine lv_aload_n F.1 F.2.1 d_Model_holds_174 rfl (lv_at hl 2 rfl) ?_
                refine mg_0_32 F hK hw lk_1043 d_Model_holds_175 ?_
                refine lv_iload F.1 F.2.1 d_Model_holds_178 (lv_at hl 6 rfl) ?_
                obtain ⟨hi_30, h⟩ := gd_ex h
                refine ml_0_32 F hK hw hi_30 d_Model_holds_180 ?_
                refine lv_iconst (v := 2) F.1 F.2.1 d_Model_holds_181 (by decide) ?_
                refine lv_icmp_ne (tgt := 200) F.1 F.2.1 d_Model_holds_182 (by decide) (fun c_31 => ?_) (fun c_31 => ?_)
                · replace h := iq c_31 h
                  refine lv_iload F.1 F.2.1 d_Model_holds_200 (lv_at hl 1 rfl) ?_
                  refine lv_iload F.1 F.2.1 d_Model_holds_202 (lv_at hl 0 rfl) ?_
                  refine lv_icmp_gt (tgt := 211) F.1 F.2.1 d_Model_holds_204 (by decide) (fun c_32 => ?_) (fun c_32 => ?_)
                  · replace h := ip c_32 h
                    refine lv_iconst (v := 0) F.1 F.2.1 d_Model_holds_211 (by decide) ?_
                    exact J_212_l26 S_25 x3 x4 (0 : Int32) H locs ls hw (lv_sub hl [2, 3, 5, 6] rfl) o h ho
                  · replace h := iq c_32 h
                    refine lv_iconst (v := 1) F.1 F.2.1 d_Model_holds_207 (by decide) ?_
                    refine lv_goto (tgt := 212) F.1 F.2.1 d_Model_holds_208 (by decide) ?_
                    exact J_212_l26 S_25 x3 x4 (1 : Int32) H locs ls hw (lv_sub hl [2, 3, 5, 6] rfl) o h ho
                · replace h := ip c_31 h
                  refine lv_iload F.1 F.2.1 d_Model_holds_185 (lv_at hl 1 rfl) ?_
                  refine lv_iload F.1 F.2.1 d_Model_holds_187 (lv_at hl 0 rfl) ?_
                  refine lv_icmp_ge (tgt := 196) F.1 F.2.1 d_Model_holds_189 (by decide) (fun c_33 => ?_) (fun c_33 => ?_)
                  · replace h := ip c_33 h
                    refine lv_iconst (v := 0) F.1 F.2.1 d_Model_holds_196 (by decide) ?_
                    refine lv_goto (tgt := 212) F.1 F.2.1 d_Model_holds_197 (by decide) ?_
                    exact J_212_l26 S_25 x3 x4 (0 : Int32) H locs ls hw (lv_sub hl [2, 3, 5, 6] rfl) o h ho
                  · replace h := iq c_33 h
                    refine lv_iconst (v := 1) F.1 F.2.1 d_Model_holds_192 (by decide) ?_
                    refine lv_goto (tgt := 212) F.1 F.2.1 d_Model_holds_193 (by decide) ?_
                    exact J_212_l26 S_25 x3 x4 (1 : Int32) H locs ls hw (lv_sub hl [2, 3, 5, 6] rfl) o h ho
              · replace h := ip c_29 h
                refine lv_iload F.1 F.2.1 d_Model_holds_159 (lv_at hl 1 rfl) ?_
                refine lv_iload F.1 F.2.1 d_Model_holds_161 (lv_at hl 0 rfl) ?_
                refine lv_icmp_eq (tgt := 170) F.1 F.2.1 d_Model_holds_163 (by decide) (fun c_34 => ?_) (fun c_34 => ?_)
                · replace h := ip c_34 h
                  refine lv_iconst (v := 0) F.1 F.2.1 d_Model_holds_170 (by decide) ?_
                  refine lv_goto (tgt := 212) F.1 F.2.1 d_Model_holds_171 (by decide) ?_
                  exact J_212_l26 S_25 x3 x4 (0 : Int32) H locs ls hw (lv_sub hl [2, 3, 5, 6] rfl) o h ho
                · replace h := iq c_34 h
                  refine lv_iconst (v := 1) F.1 F.2.1 d_Model_holds_166 (by decide) ?_
                  refine lv_goto (tgt := 212) F.1 F.2.1 d_Model_holds_167 (by decide) ?_
                  exact J_212_l26 S_25 x3 x4 (1 : Int32) H locs ls hw (lv_sub hl [2, 3, 5, 6] rfl) o h ho
            · replace h := ip c_27 h
              refine lv_iload F.1 F.2.1 d_Model_holds_133 (lv_at hl 1 rfl) ?_
              refine lv_iload F.1 F.2.1 d_Model_holds_135 (lv_at hl 0 rfl) ?_
              refine lv_icmp_ne (tgt := 144) F.1 F.2.1 d_Model_holds_137 (by decide) (fun c_35 => ?_) (fun c_35 => ?_)
              · replace h := iq c_35 h
                refine lv_iconst (v := 0) F.1 F.2.1 d_Model_holds_144 (by decide) ?_
                refine lv_goto (tgt := 212) F.1 F.2.1 d_Model_holds_145 (by decide) ?_
                exact J_212_l26 S_25 x3 x4 (0 : Int32) H locs ls hw (lv_sub hl [2, 3, 5, 6] rfl) o h ho
              · replace h := ip c_35 h
                refine lv_iconst (v := 1) F.1 F.2.1 d_Model_holds_140 (by decide) ?_
                refine lv_goto (tgt := 212) F.1 F.2.1 d_Model_holds_141 (by decide) ?_
                exact J_212_l26 S_25 x3 x4 (1 : Int32) H locs ls hw (lv_sub hl [2, 3, 5, 6] rfl) o h ho
          · replace h := ip c_15 h
            refine lv_goto (tgt := 232) F.1 F.2.1 d_Model_holds_80 (by decide) ?_
            exact J_232_l26 S x2 x3 H locs ls hw (lv_sub hl [0, 1, 2, 3] rfl) o h ho
        have J_64_l26 : ∀ (S : St) (x2 : Int32) (x3 : Int32) (x4 : Int32) (H : Heap) (locs : List Loc) (ls : Array Slot), Bw mw D ar A s.heap H locs ad S → lv_has ls 8 [(0, .ref (ad 0 0)), (1, .int x1), (2, .int x2), (3, .int x3), (4, .int x4)] → ∀ o, Model_holds_j64_l26 S x1 x2 x3 x4 = some o → (Sum.elim P_26 X_0) o → W p l e (RM 1 27) s m args below meth c H locs 0 0 Q (F0 m 64 ls []) := by
          intro S x2 x3 x4 H locs ls hw hl o h ho
          unfold Model_holds_j64_l26 at h
          refine lv_aload_n F.1 F.2.1 d_Model_holds_64 rfl (lv_at hl 0 rfl) ?_
          refine mg_0_34 F hK hw lk_1045 d_Model_holds_65 ?_
          refine lv_iload F.1 F.2.1 d_Model_holds_68 (lv_at hl 4 rfl) ?_
          obtain ⟨hi_13, h⟩ := gd_ex h
          refine ml_0_34 F hK hw hi_13 d_Model_holds_70 ?_
          refine lv_if_eq (tgt := 76) F.1 F.2.1 d_Model_holds_71 (by decide) (fun c_14 => ?_) (fun c_14 => ?_)
          · replace h := ip c_14 h
            exact J_76_l26 S x2 x3 x4 H locs ls hw (lv_sub hl [0, 1, 2, 3, 4] rfl) o h ho
          · replace h := iq c_14 h
            refine lv_iconst (v := 1) F.1 F.2.1 d_Model_holds_74 (by decide) ?_
            refine lv_istore_n (lv' := [(2, .int (1 : Int32)), (0, .ref (ad 0 0)), (1, .int x1), (3, .int x3), (4, .int x4)]) F.1 F.2.1 d_Model_holds_75 rfl hl (by decide) rfl (fun ls hl => ?_)
            exact J_76_l26 S (1 : Int32) x3 x4 H locs ls hw (lv_sub hl [1, 2, 0, 3, 4] rfl) o h ho
        refine lv_iload_n F.1 F.2.1 d_Model_holds_26 rfl (lv_at hl 3 rfl) ?_
        refine lv_aload_n F.1 F.2.1 d_Model_holds_27 rfl (lv_at hl 0 rfl) ?_
        refine mg_0_28 F hK hw lk_1039 d_Model_holds_28 ?_
        refine lv_iload_n F.1 F.2.1 d_Model_holds_31 rfl (lv_at hl 1 rfl) ?_
        obtain ⟨hi_6, h⟩ := gd_ex h
        refine ml_0_28 F hK hw hi_6 d_Model_holds_32 ?_
        refine lv_icmp_ge (tgt := 238) F.1 F.2.1 d_Model_holds_33 (by decide) (fun c_7 => ?_) (fun c_7 => ?_)
        · replace h := ip c_7 h
          refine lv_iload_n F.1 F.2.1 d_Model_holds_238 rfl (lv_at hl 2 rfl) ?_
          obtain ⟨hb_8, h⟩ := gd_ex h
          cases h
          have ho : X_0 _ := ho
          rw [eX_0] at ho
          exact ho H locs _ ls hb_8 d_Model_holds_239 hw
        · replace h := iq c_7 h
          refine lv_sipush (v := 200) F.1 F.2.1 d_Model_holds_36 (by decide) ?_
          refine lv_aload_n F.1 F.2.1 d_Model_holds_39 rfl (lv_at hl 0 rfl) ?_
          refine mg_0_18 F hK hw lk_1029 d_Model_holds_40 ?_
          refine lv_imul F.1 F.2.1 d_Model_holds_43 ?_
          refine lv_iload_n F.1 F.2.1 d_Model_holds_44 rfl (lv_at hl 3 rfl) ?_
          refine lv_iadd F.1 F.2.1 d_Model_holds_45 ?_
          obtain ⟨x4_9, ex4_9, h⟩ := nm_ex h
          refine lv_nm ex4_9 ?_
          refine lv_istore (lv' := [(4, .int x4_9), (0, .ref (ad 0 0)), (1, .int x1), (2, .int x2), (3, .int x3)]) F.1 F.2.1 d_Model_holds_46 hl (by decide) rfl (fun ls hl => ?_)
          refine lv_aload_n F.1 F.2.1 d_Model_holds_48 rfl (lv_at hl 1 rfl) ?_
          refine mg_0_34 F hK hw lk_1045 d_Model_holds_49 ?_
          refine lv_iload F.1 F.2.1 d_Model_holds_52 (lv_at hl 0 rfl) ?_
          obtain ⟨hi_10, h⟩ := gd_ex h
          refine ml_0_34 F hK hw hi_10 d_Model_holds_54 ?_
          refine lv_if_eq (tgt := 64) F.1 F.2.1 d_Model_holds_55 (by decide) (fun c_11 => ?_) (fun c_11 => ?_)
          · replace h := ip c_11 h
            exact J_64_l26 S x2 x3 x4_9 H locs ls hw (lv_sub hl [1, 2, 3, 4, 0] rfl) o h ho
          · replace h := iq c_11 h
            refine lv_iload_n F.1 F.2.1 d_Model_holds_58 rfl (lv_at hl 3 rfl) ?_
            refine lv_if_eq (tgt := 64) F.1 F.2.1 d_Model_holds_59 (by decide) (fun c_12 => ?_) (fun c_12 => ?_)
            · replace h := ip c_12 h
              exact J_64_l26 S x2 x3 x4_9 H locs ls hw (lv_sub hl [1, 2, 3, 4, 0] rfl) o h ho
            · replace h := iq c_12 h
              refine lv_iconst (v := 1) F.1 F.2.1 d_Model_holds_62 (by decide) ?_
              cases h
              have ho : X_0 _ := ho
              rw [eX_0] at ho
              exact ho H locs _ ls isB1 d_Model_holds_63 hw
      rw [eP_26] at hL_26
      exact hL_26 H locs ls hw (lv_sub hl [2, 3, 1, 0] rfl)
    · replace h := ip c_3 h
      refine lv_iconst (v := 1) F.1 F.2.1 d_Model_holds_15 (by decide) ?_
      cases h
      have ho : X_0 _ := ho
      rw [eX_0] at ho
      exact ho H locs _ ls isB1 d_Model_holds_16 hw
  exact key _ _ hw _ h (by rw [eX_0]; exact fun H locs pc ls hb hd hw => hQ H locs pc ls ad hb rfl hd hw)
