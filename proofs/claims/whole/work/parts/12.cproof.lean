theorem d_Log_unmet_0 : decode b_Log_unmet 0 = .ok (.iconst 0, 1) := by decide +kernel
theorem d_Log_unmet_1 : decode b_Log_unmet 1 = .ok (.istore_n 2, 1) := by decide +kernel
theorem d_Log_unmet_2 : decode b_Log_unmet 2 = .ok (.iconst 0, 1) := by decide +kernel
theorem d_Log_unmet_3 : decode b_Log_unmet 3 = .ok (.istore_n 3, 1) := by decide +kernel
theorem d_Log_unmet_4 : decode b_Log_unmet 4 = .ok (.iload_n 3, 1) := by decide +kernel
theorem d_Log_unmet_5 : decode b_Log_unmet 5 = .ok (.aload_n 0, 1) := by decide +kernel
theorem d_Log_unmet_6 : decode b_Log_unmet 6 = .ok (.getfield 15, 3) := by decide +kernel
theorem d_Log_unmet_9 : decode b_Log_unmet 9 = .ok (.if_icmp .ge 21, 3) := by decide +kernel
theorem d_Log_unmet_12 : decode b_Log_unmet 12 = .ok (.iload_n 2, 1) := by decide +kernel
theorem d_Log_unmet_13 : decode b_Log_unmet 13 = .ok (.aload_n 1, 1) := by decide +kernel
theorem d_Log_unmet_14 : decode b_Log_unmet 14 = .ok (.aload_n 0, 1) := by decide +kernel
theorem d_Log_unmet_15 : decode b_Log_unmet 15 = .ok (.iload_n 3, 1) := by decide +kernel
theorem d_Log_unmet_16 : decode b_Log_unmet 16 = .ok (.invokevirtual 19, 3) := by decide +kernel
theorem d_Log_unmet_19 : decode b_Log_unmet 19 = .ok (.invokevirtual 23, 3) := by decide +kernel
theorem d_Log_unmet_22 : decode b_Log_unmet 22 = .ok (.ior, 1) := by decide +kernel
theorem d_Log_unmet_23 : decode b_Log_unmet 23 = .ok (.istore_n 2, 1) := by decide +kernel
theorem d_Log_unmet_24 : decode b_Log_unmet 24 = .ok (.iinc 3 1, 3) := by decide +kernel
theorem d_Log_unmet_27 : decode b_Log_unmet 27 = .ok (.goto (-23), 3) := by decide +kernel
theorem d_Log_unmet_30 : decode b_Log_unmet 30 = .ok (.sipush 255, 3) := by decide +kernel
theorem d_Log_unmet_33 : decode b_Log_unmet 33 = .ok (.iload_n 2, 1) := by decide +kernel
theorem d_Log_unmet_34 : decode b_Log_unmet 34 = .ok (.iconst (-1), 1) := by decide +kernel
theorem d_Log_unmet_35 : decode b_Log_unmet 35 = .ok (.ixor, 1) := by decide +kernel
theorem d_Log_unmet_36 : decode b_Log_unmet 36 = .ok (.iand, 1) := by decide +kernel
theorem d_Log_unmet_37 : decode b_Log_unmet 37 = .ok (.ireturn, 1) := by decide +kernel
set_option maxHeartbeats 4000000 in
set_option maxRecDepth 100000 in
theorem c_Log_unmet (l : Launch) {S : St} {r : Int32} (h : f_Log_unmet S = some r) : MI cw l y_Log_unmet b_Log_unmet 4 (some .int) 2 42 0 0 (fun ad => [.ref (ad 7 0), .ref (ad 4 0)]) aT aE S r S := by
  refine MI_of "LawfulLots$Log" rfl (by decide) (fun _ => Nat.le_of_ble_eq_true rfl) ?_
  intro p e s m args below meth c D ar ad A Q ls hP F hK hA hw hl hQ
  have hl : lv_has ls 4 [(0, .ref (ad 7 0)), (1, .ref (ad 4 0))] := hl
  obtain ⟨X_0, eX_0⟩ : ∃ X : Int32 → Prop, X = (fun q => ∀ (H : Heap) (locs : List Loc) (pc : Nat) (ls : Array Slot), decode b_Log_unmet pc = .ok (.ireturn, 1) → Bw cw D ar A s.heap H locs ad S → W p l e (RM 2 42) s m args below meth c H locs 0 0 Q (F0 m pc ls [.int q])) := ⟨_, rfl⟩
  have key : ∀ (H : Heap) (locs : List Loc), Bw cw D ar A s.heap H locs ad S → ∀ o, f_Log_unmet S = some o → X_0 o → W p l e (RM 2 42) s m args below meth c H locs 0 0 Q (F0 m 0 ls []) := by
    intro H locs hw o h ho
    unfold f_Log_unmet at h
    refine lv_iconst (v := 0) F.1 F.2.1 d_Log_unmet_0 (by decide) ?_
    refine lv_istore_n (lv' := [(2, .int (0 : Int32)), (0, .ref (ad 7 0)), (1, .ref (ad 4 0))]) F.1 F.2.1 d_Log_unmet_1 rfl hl (by decide) rfl (fun ls hl => ?_)
    refine lv_iconst (v := 0) F.1 F.2.1 d_Log_unmet_2 (by decide) ?_
    refine lv_istore_n (lv' := [(3, .int (0 : Int32)), (2, .int (0 : Int32)), (0, .ref (ad 7 0)), (1, .ref (ad 4 0))]) F.1 F.2.1 d_Log_unmet_3 rfl hl (by decide) rfl (fun ls hl => ?_)
    obtain ⟨x2_8, hc_9, h⟩ := bd_ex h
    obtain ⟨X_4, eX_4⟩ : ∃ X : Int32 → Prop, X = (fun q => ∀ (H : Heap) (locs : List Loc) (ls : Array Slot), Bw cw D ar A s.heap H locs ad S → lv_has ls 4 [(2, .int q)] → W p l e (RM 2 42) s m args below meth c H locs 0 0 Q (F0 m 30 ls [])) := ⟨_, rfl⟩
    have hX_4 : X_4 x2_8 := by
      rw [eX_4]
      intro H locs ls hw hl
      refine lv_sipush (v := 255) F.1 F.2.1 d_Log_unmet_30 (by decide) ?_
      refine lv_iload_n F.1 F.2.1 d_Log_unmet_33 rfl (lv_at hl 0 rfl) ?_
      refine lv_iconst (v := -1) F.1 F.2.1 d_Log_unmet_34 (by decide) ?_
      refine lv_ixor F.1 F.2.1 d_Log_unmet_35 ?_
      refine lv_iand F.1 F.2.1 d_Log_unmet_36 ?_
      cases h
      have ho : X_0 _ := ho
      rw [eX_0] at ho
      exact ho H locs _ ls d_Log_unmet_37 hw
    obtain ⟨P_4, eP_4⟩ : ∃ P : (Int32 × Int32) → Prop, P = (fun q => ∀ (H : Heap) (locs : List Loc) (ls : Array Slot), Bw cw D ar A s.heap H locs ad S → lv_has ls 4 [(0, .ref (ad 7 0)), (1, .ref (ad 4 0)), (2, .int q.1), (3, .int q.2)] → W p l e (RM 2 42) s m args below meth c H locs 0 0 Q (F0 m 4 ls [])) := ⟨_, rfl⟩
    have hL_4 : P_4 ((0 : Int32), (0 : Int32)) := by
      refine wh_gp (P := P_4) (X := X_4) hc_9 hX_4 ?_
      clear h
      intro q o h ho
      obtain ⟨x2, x3⟩ := q
      have h : Log_unmet_l4 S x2 x3 = some o := h
      unfold Log_unmet_l4 at h
      rw [eP_4]
      intro H locs ls hw hl
      refine lv_iload_n F.1 F.2.1 d_Log_unmet_4 rfl (lv_at hl 3 rfl) ?_
      refine lv_aload_n F.1 F.2.1 d_Log_unmet_5 rfl (lv_at hl 0 rfl) ?_
      refine cg_7_1 F hK hw lk_261 d_Log_unmet_6 ?_
      refine lv_icmp_ge (tgt := 30) F.1 F.2.1 d_Log_unmet_9 (by decide) (fun c_1 => ?_) (fun c_1 => ?_)
      · replace h := ip c_1 h
        cases h
        have ho : X_4 _ := ho
        rw [eX_4] at ho
        exact ho H locs ls hw (lv_sub hl [2] rfl)
      · replace h := iq c_1 h
        refine lv_iload_n F.1 F.2.1 d_Log_unmet_12 rfl (lv_at hl 2 rfl) ?_
        refine lv_aload_n F.1 F.2.1 d_Log_unmet_13 rfl (lv_at hl 1 rfl) ?_
        refine lv_aload_n F.1 F.2.1 d_Log_unmet_14 rfl (lv_at hl 0 rfl) ?_
        refine lv_iload_n F.1 F.2.1 d_Log_unmet_15 rfl (lv_at hl 3 rfl) ?_
        obtain ⟨v_3, hc_2, h⟩ := bd_ex h
        refine cV_i F hA rfl hK hw (c_Log_inputOf l hc_2) trivial rfl (good_V lk_798 lk_799 lk_800 lk_7 lk_801) (cr_7 hK hw) hd_Log_inputOf ⟨Nat.le_of_ble_eq_true rfl, Nat.le_of_ble_eq_true rfl⟩ rfl hl.1 rfl (Nat.le_of_ble_eq_true rfl) d_Log_unmet_16 ⟨(Nat.zero_le _), (Nat.zero_le _)⟩ (fun H locs hw => ?_)
        obtain ⟨v_5, hc_4, h⟩ := bd_ex h
        refine cV_i F hA rfl hK hw (c_Chart_binsOf l hc_4) trivial rfl (good_V lk_802 lk_777 lk_778 lk_5 lk_779) (cr_4 hK hw) hd_Chart_binsOf ⟨Nat.le_of_ble_eq_true rfl, Nat.le_of_ble_eq_true rfl⟩ rfl hl.1 rfl (Nat.le_of_ble_eq_true rfl) d_Log_unmet_19 ⟨(Nat.zero_le _), (Nat.zero_le _)⟩ (fun H locs hw => ?_)
        refine lv_ior F.1 F.2.1 d_Log_unmet_22 ?_
        obtain ⟨x2_6, ex2_6, h⟩ := nm_ex h
        refine lv_nm ex2_6 ?_
        refine lv_istore_n (lv' := [(2, .int x2_6), (0, .ref (ad 7 0)), (1, .ref (ad 4 0)), (3, .int x3)]) F.1 F.2.1 d_Log_unmet_23 rfl hl (by decide) rfl (fun ls hl => ?_)
        obtain ⟨x3_7, ex3_7, h⟩ := nm_ex h
        refine lv_iinc (v := x3_7) (lv' := [(3, .int x3_7), (2, .int x2_6), (0, .ref (ad 7 0)), (1, .ref (ad 4 0))]) F.1 F.2.1 d_Log_unmet_24 hl (k := 3) rfl (by rw [ex3_7]; rfl) (by decide) rfl (fun ls hl => ?_)
        refine lv_goto (tgt := 4) F.1 F.2.1 d_Log_unmet_27 (by decide) ?_
        cases h
        have ho : P_4 _ := ho
        rw [eP_4] at ho
        exact ho H locs ls hw (lv_sub hl [2, 3, 1, 0] rfl)
    rw [eP_4] at hL_4
    exact hL_4 H locs ls hw (lv_sub hl [2, 3, 1, 0] rfl)
  exact key _ _ hw _ h (by rw [eX_0]; exact fun H locs pc ls hd hw => hQ H locs pc ls ad rfl hd hw)
theorem d_Integer_lowestOneBit_0 : decode b_Integer_lowestOneBit 0 = .ok (.iload_n 0, 1) := by decide +kernel
theorem d_Integer_lowestOneBit_1 : decode b_Integer_lowestOneBit 1 = .ok (.iload_n 0, 1) := by decide +kernel
theorem d_Integer_lowestOneBit_2 : decode b_Integer_lowestOneBit 2 = .ok (.ineg, 1) := by decide +kernel
theorem d_Integer_lowestOneBit_3 : decode b_Integer_lowestOneBit 3 = .ok (.iand, 1) := by decide +kernel
theorem d_Integer_lowestOneBit_4 : decode b_Integer_lowestOneBit 4 = .ok (.ireturn, 1) := by decide +kernel
set_option maxHeartbeats 4000000 in
set_option maxRecDepth 100000 in
theorem c_Integer_lowestOneBit (l : Launch) (S : St) {x0 : Int32} {r : Int32} (h : f_Integer_lowestOneBit x0 = some r) : MI cw l y_Integer_lowestOneBit b_Integer_lowestOneBit 1 (some .int) 0 0 0 0 (fun ad => [.int x0]) aT aE S r S := by
  refine MI_of "java/lang/Integer" rfl (by decide) (fun _ => Nat.le_of_ble_eq_true rfl) ?_
  intro p e s m args below meth c D ar ad A Q ls hP F hK hA hw hl hQ
  have hl : lv_has ls 1 [(0, .int x0)] := hl
  obtain ⟨X_0, eX_0⟩ : ∃ X : Int32 → Prop, X = (fun q => ∀ (H : Heap) (locs : List Loc) (pc : Nat) (ls : Array Slot), decode b_Integer_lowestOneBit pc = .ok (.ireturn, 1) → Bw cw D ar A s.heap H locs ad S → W p l e (RM 0 0) s m args below meth c H locs 0 0 Q (F0 m pc ls [.int q])) := ⟨_, rfl⟩
  have key : ∀ (H : Heap) (locs : List Loc), Bw cw D ar A s.heap H locs ad S → ∀ o, f_Integer_lowestOneBit x0 = some o → X_0 o → W p l e (RM 0 0) s m args below meth c H locs 0 0 Q (F0 m 0 ls []) := by
    intro H locs hw o h ho
    unfold f_Integer_lowestOneBit at h
    refine lv_iload_n F.1 F.2.1 d_Integer_lowestOneBit_0 rfl (lv_at hl 0 rfl) ?_
    refine lv_iload_n F.1 F.2.1 d_Integer_lowestOneBit_1 rfl (lv_at hl 0 rfl) ?_
    refine lv_ineg F.1 F.2.1 d_Integer_lowestOneBit_2 ?_
    refine lv_iand F.1 F.2.1 d_Integer_lowestOneBit_3 ?_
    cases h
    have ho : X_0 _ := ho
    rw [eX_0] at ho
    exact ho H locs _ ls d_Integer_lowestOneBit_4 hw
  exact key _ _ hw _ h (by rw [eX_0]; exact fun H locs pc ls hd hw => hQ H locs pc ls ad rfl hd hw)
theorem d_Bins_fewestFor_0 : decode b_Bins_fewestFor 0 = .ok (.iload_n 1, 1) := by decide +kernel
theorem d_Bins_fewestFor_1 : decode b_Bins_fewestFor 1 = .ok (.invokestatic 102, 3) := by decide +kernel
theorem d_Bins_fewestFor_4 : decode b_Bins_fewestFor 4 = .ok (.istore_n 2, 1) := by decide +kernel
theorem d_Bins_fewestFor_5 : decode b_Bins_fewestFor 5 = .ok (.ldc 77, 2) := by decide +kernel
theorem d_Bins_fewestFor_7 : decode b_Bins_fewestFor 7 = .ok (.istore_n 3, 1) := by decide +kernel
theorem d_Bins_fewestFor_8 : decode b_Bins_fewestFor 8 = .ok (.iconst 0, 1) := by decide +kernel
theorem d_Bins_fewestFor_9 : decode b_Bins_fewestFor 9 = .ok (.istore 4, 2) := by decide +kernel
theorem d_Bins_fewestFor_11 : decode b_Bins_fewestFor 11 = .ok (.iload 4, 2) := by decide +kernel
theorem d_Bins_fewestFor_13 : decode b_Bins_fewestFor 13 = .ok (.aload_n 0, 1) := by decide +kernel
theorem d_Bins_fewestFor_14 : decode b_Bins_fewestFor 14 = .ok (.getfield 30, 3) := by decide +kernel
theorem d_Bins_fewestFor_17 : decode b_Bins_fewestFor 17 = .ok (.if_icmp .ge 56, 3) := by decide +kernel
theorem d_Bins_fewestFor_20 : decode b_Bins_fewestFor 20 = .ok (.iload 4, 2) := by decide +kernel
theorem d_Bins_fewestFor_22 : decode b_Bins_fewestFor 22 = .ok (.sipush 256, 3) := by decide +kernel
theorem d_Bins_fewestFor_25 : decode b_Bins_fewestFor 25 = .ok (.if_icmp .ge 48, 3) := by decide +kernel
theorem d_Bins_fewestFor_28 : decode b_Bins_fewestFor 28 = .ok (.aload_n 0, 1) := by decide +kernel
theorem d_Bins_fewestFor_29 : decode b_Bins_fewestFor 29 = .ok (.getfield 15, 3) := by decide +kernel
theorem d_Bins_fewestFor_32 : decode b_Bins_fewestFor 32 = .ok (.iload 4, 2) := by decide +kernel
theorem d_Bins_fewestFor_34 : decode b_Bins_fewestFor 34 = .ok (.iaload, 1) := by decide +kernel
theorem d_Bins_fewestFor_35 : decode b_Bins_fewestFor 35 = .ok (.iload_n 2, 1) := by decide +kernel
theorem d_Bins_fewestFor_36 : decode b_Bins_fewestFor 36 = .ok (.iand, 1) := by decide +kernel
theorem d_Bins_fewestFor_37 : decode b_Bins_fewestFor 37 = .ok (.ifCond .eq 30, 3) := by decide +kernel
theorem d_Bins_fewestFor_40 : decode b_Bins_fewestFor 40 = .ok (.iload_n 3, 1) := by decide +kernel
theorem d_Bins_fewestFor_41 : decode b_Bins_fewestFor 41 = .ok (.aload_n 0, 1) := by decide +kernel
theorem d_Bins_fewestFor_42 : decode b_Bins_fewestFor 42 = .ok (.getfield 27, 3) := by decide +kernel
theorem d_Bins_fewestFor_45 : decode b_Bins_fewestFor 45 = .ok (.iload_n 1, 1) := by decide +kernel
theorem d_Bins_fewestFor_46 : decode b_Bins_fewestFor 46 = .ok (.aload_n 0, 1) := by decide +kernel
theorem d_Bins_fewestFor_47 : decode b_Bins_fewestFor 47 = .ok (.getfield 15, 3) := by decide +kernel
theorem d_Bins_fewestFor_50 : decode b_Bins_fewestFor 50 = .ok (.iload 4, 2) := by decide +kernel
theorem d_Bins_fewestFor_52 : decode b_Bins_fewestFor 52 = .ok (.iaload, 1) := by decide +kernel
theorem d_Bins_fewestFor_53 : decode b_Bins_fewestFor 53 = .ok (.iconst (-1), 1) := by decide +kernel
theorem d_Bins_fewestFor_54 : decode b_Bins_fewestFor 54 = .ok (.ixor, 1) := by decide +kernel
theorem d_Bins_fewestFor_55 : decode b_Bins_fewestFor 55 = .ok (.iand, 1) := by decide +kernel
theorem d_Bins_fewestFor_56 : decode b_Bins_fewestFor 56 = .ok (.sipush 255, 3) := by decide +kernel
theorem d_Bins_fewestFor_59 : decode b_Bins_fewestFor 59 = .ok (.iand, 1) := by decide +kernel
theorem d_Bins_fewestFor_60 : decode b_Bins_fewestFor 60 = .ok (.iaload, 1) := by decide +kernel
theorem d_Bins_fewestFor_61 : decode b_Bins_fewestFor 61 = .ok (.iconst 1, 1) := by decide +kernel
theorem d_Bins_fewestFor_62 : decode b_Bins_fewestFor 62 = .ok (.iadd, 1) := by decide +kernel
theorem d_Bins_fewestFor_63 : decode b_Bins_fewestFor 63 = .ok (.invokestatic 105, 3) := by decide +kernel
theorem d_Bins_fewestFor_66 : decode b_Bins_fewestFor 66 = .ok (.istore_n 3, 1) := by decide +kernel
theorem d_Bins_fewestFor_67 : decode b_Bins_fewestFor 67 = .ok (.iinc 4 1, 3) := by decide +kernel
theorem d_Bins_fewestFor_70 : decode b_Bins_fewestFor 70 = .ok (.goto (-59), 3) := by decide +kernel
theorem d_Bins_fewestFor_73 : decode b_Bins_fewestFor 73 = .ok (.iload_n 3, 1) := by decide +kernel
theorem d_Bins_fewestFor_74 : decode b_Bins_fewestFor 74 = .ok (.ireturn, 1) := by decide +kernel
set_option maxHeartbeats 4000000 in
set_option maxRecDepth 100000 in
theorem c_Bins_fewestFor (l : Launch) {S : St} {x1 : Int32} {r : Int32} (h : f_Bins_fewestFor S x1 = some r) : MI cw l y_Bins_fewestFor b_Bins_fewestFor 5 (some .int) 1 21 0 0 (fun ad => [.ref (ad 8 0), .int x1]) aT aE S r S := by
  refine MI_of "LawfulLots$BinTable" rfl (by decide) (fun _ => Nat.le_of_ble_eq_true rfl) ?_
  intro p e s m args below meth c D ar ad A Q ls hP F hK hA hw hl hQ
  have hl : lv_has ls 5 [(0, .ref (ad 8 0)), (1, .int x1)] := hl
  obtain ⟨X_0, eX_0⟩ : ∃ X : Int32 → Prop, X = (fun q => ∀ (H : Heap) (locs : List Loc) (pc : Nat) (ls : Array Slot), decode b_Bins_fewestFor pc = .ok (.ireturn, 1) → Bw cw D ar A s.heap H locs ad S → W p l e (RM 1 21) s m args below meth c H locs 0 0 Q (F0 m pc ls [.int q])) := ⟨_, rfl⟩
  have key : ∀ (H : Heap) (locs : List Loc), Bw cw D ar A s.heap H locs ad S → ∀ o, f_Bins_fewestFor S x1 = some o → X_0 o → W p l e (RM 1 21) s m args below meth c H locs 0 0 Q (F0 m 0 ls []) := by
    intro H locs hw o h ho
    unfold f_Bins_fewestFor at h
    have J_73 : ∀ (x3 : Int32) (H : Heap) (locs : List Loc) (ls : Array Slot), Bw cw D ar A s.heap H locs ad S → lv_has ls 5 [(3, .int x3)] → ∀ o, Bins_fewestFor_j73 S x3 = some o → X_0 o → W p l e (RM 1 21) s m args below meth c H locs 0 0 Q (F0 m 73 ls []) := by
      intro x3 H locs ls hw hl o h ho
      unfold Bins_fewestFor_j73 at h
      refine lv_iload_n F.1 F.2.1 d_Bins_fewestFor_73 rfl (lv_at hl 0 rfl) ?_
      cases h
      have ho : X_0 _ := ho
      rw [eX_0] at ho
      exact ho H locs _ ls d_Bins_fewestFor_74 hw
    refine lv_iload_n F.1 F.2.1 d_Bins_fewestFor_0 rfl (lv_at hl 1 rfl) ?_
    obtain ⟨v_2, hc_1, h⟩ := bd_ex h
    refine cS_i F hA rfl hK hw (c_Integer_lowestOneBit l S hc_1) trivial rfl (good_S lk_820 lk_748 lk_13 lk_749) hd_Integer_lowestOneBit ⟨Nat.le_of_ble_eq_true rfl, Nat.le_of_ble_eq_true rfl⟩ rfl hl.1 rfl (Nat.le_of_ble_eq_true rfl) d_Bins_fewestFor_1 ⟨(Nat.zero_le _), (Nat.zero_le _)⟩ (fun H locs hw => ?_)
    refine lv_istore_n (lv' := [(2, .int v_2), (0, .ref (ad 8 0)), (1, .int x1)]) F.1 F.2.1 d_Bins_fewestFor_4 rfl hl (by decide) rfl (fun ls hl => ?_)
    refine lv_ldc F.1 F.2.1 F.2.2.2.1 (F.2.2.2.2 _ lk_821) d_Bins_fewestFor_5 ?_
    refine lv_istore_n (lv' := [(3, .int (1000000 : Int32)), (2, .int v_2), (0, .ref (ad 8 0)), (1, .int x1)]) F.1 F.2.1 d_Bins_fewestFor_7 rfl hl (by decide) rfl (fun ls hl => ?_)
    refine lv_iconst (v := 0) F.1 F.2.1 d_Bins_fewestFor_8 (by decide) ?_
    refine lv_istore (lv' := [(4, .int (0 : Int32)), (3, .int (1000000 : Int32)), (2, .int v_2), (0, .ref (ad 8 0)), (1, .int x1)]) F.1 F.2.1 d_Bins_fewestFor_9 hl (by decide) rfl (fun ls hl => ?_)
    obtain ⟨x3_11, hc_12, h⟩ := bd_ex h
    obtain ⟨X_11, eX_11⟩ : ∃ X : Int32 → Prop, X = (fun q => ∀ (H : Heap) (locs : List Loc) (ls : Array Slot), Bw cw D ar A s.heap H locs ad S → lv_has ls 5 [(3, .int q)] → W p l e (RM 1 21) s m args below meth c H locs 0 0 Q (F0 m 73 ls [])) := ⟨_, rfl⟩
    have hX_11 : X_11 x3_11 := by
      rw [eX_11]
      intro H locs ls hw hl
      exact J_73 x3_11 H locs ls hw (lv_sub hl [0] rfl) o h ho
    obtain ⟨P_11, eP_11⟩ : ∃ P : (Int32 × Int32) → Prop, P = (fun q => ∀ (H : Heap) (locs : List Loc) (ls : Array Slot), Bw cw D ar A s.heap H locs ad S → lv_has ls 5 [(0, .ref (ad 8 0)), (1, .int x1), (2, .int v_2), (3, .int q.1), (4, .int q.2)] → W p l e (RM 1 21) s m args below meth c H locs 0 0 Q (F0 m 11 ls [])) := ⟨_, rfl⟩
    have hL_11 : P_11 ((1000000 : Int32), (0 : Int32)) := by
      refine wh_gp (P := P_11) (X := X_11) hc_12 hX_11 ?_
      clear h
      intro q o h ho
      obtain ⟨x3, x4⟩ := q
      have h : Bins_fewestFor_l11 S x1 v_2 x3 x4 = some o := h
      unfold Bins_fewestFor_l11 at h
      rw [eP_11]
      intro H locs ls hw hl
      have J_67_l11 : ∀ (x3 : Int32) (x4 : Int32) (H : Heap) (locs : List Loc) (ls : Array Slot), Bw cw D ar A s.heap H locs ad S → lv_has ls 5 [(0, .ref (ad 8 0)), (1, .int x1), (2, .int v_2), (3, .int x3), (4, .int x4)] → ∀ o, Bins_fewestFor_j67_l11 S x1 v_2 x3 x4 = some o → (Sum.elim P_11 X_11) o → W p l e (RM 1 21) s m args below meth c H locs 0 0 Q (F0 m 67 ls []) := by
        intro x3 x4 H locs ls hw hl o h ho
        unfold Bins_fewestFor_j67_l11 at h
        obtain ⟨x4_10, ex4_10, h⟩ := nm_ex h
        refine lv_iinc (v := x4_10) (lv' := [(4, .int x4_10), (0, .ref (ad 8 0)), (1, .int x1), (2, .int v_2), (3, .int x3)]) F.1 F.2.1 d_Bins_fewestFor_67 hl (k := 4) rfl (by rw [ex4_10]; rfl) (by decide) rfl (fun ls hl => ?_)
        refine lv_goto (tgt := 11) F.1 F.2.1 d_Bins_fewestFor_70 (by decide) ?_
        cases h
        have ho : P_11 _ := ho
        rw [eP_11] at ho
        exact ho H locs ls hw (lv_sub hl [1, 2, 3, 4, 0] rfl)
      refine lv_iload F.1 F.2.1 d_Bins_fewestFor_11 (lv_at hl 4 rfl) ?_
      refine lv_aload_n F.1 F.2.1 d_Bins_fewestFor_13 rfl (lv_at hl 0 rfl) ?_
      refine cg_8_6 F hK hw lk_280 d_Bins_fewestFor_14 ?_
      refine lv_icmp_ge (tgt := 73) F.1 F.2.1 d_Bins_fewestFor_17 (by decide) (fun c_3 => ?_) (fun c_3 => ?_)
      · replace h := ip c_3 h
        cases h
        have ho : X_11 _ := ho
        rw [eX_11] at ho
        exact ho H locs ls hw (lv_sub hl [3] rfl)
      · replace h := iq c_3 h
        refine lv_iload F.1 F.2.1 d_Bins_fewestFor_20 (lv_at hl 4 rfl) ?_
        refine lv_sipush (v := 256) F.1 F.2.1 d_Bins_fewestFor_22 (by decide) ?_
        refine lv_icmp_ge (tgt := 73) F.1 F.2.1 d_Bins_fewestFor_25 (by decide) (fun c_4 => ?_) (fun c_4 => ?_)
        · replace h := ip c_4 h
          cases h
          have ho : X_11 _ := ho
          rw [eX_11] at ho
          exact ho H locs ls hw (lv_sub hl [3] rfl)
        · replace h := iq c_4 h
          refine lv_aload_n F.1 F.2.1 d_Bins_fewestFor_28 rfl (lv_at hl 0 rfl) ?_
          refine cg_8_1 F hK hw lk_275 d_Bins_fewestFor_29 ?_
          refine lv_iload F.1 F.2.1 d_Bins_fewestFor_32 (lv_at hl 4 rfl) ?_
          obtain ⟨hi_5, h⟩ := gd_ex h
          refine cl_8_1 F hK hw hi_5 d_Bins_fewestFor_34 ?_
          refine lv_iload_n F.1 F.2.1 d_Bins_fewestFor_35 rfl (lv_at hl 2 rfl) ?_
          refine lv_iand F.1 F.2.1 d_Bins_fewestFor_36 ?_
          refine lv_if_eq (tgt := 67) F.1 F.2.1 d_Bins_fewestFor_37 (by decide) (fun c_6 => ?_) (fun c_6 => ?_)
          · replace h := ip c_6 h
            exact J_67_l11 x3 x4 H locs ls hw (lv_sub hl [0, 1, 2, 3, 4] rfl) o h ho
          · replace h := iq c_6 h
            refine lv_iload_n F.1 F.2.1 d_Bins_fewestFor_40 rfl (lv_at hl 3 rfl) ?_
            refine lv_aload_n F.1 F.2.1 d_Bins_fewestFor_41 rfl (lv_at hl 0 rfl) ?_
            refine cg_8_5 F hK hw lk_279 d_Bins_fewestFor_42 ?_
            refine lv_iload_n F.1 F.2.1 d_Bins_fewestFor_45 rfl (lv_at hl 1 rfl) ?_
            refine lv_aload_n F.1 F.2.1 d_Bins_fewestFor_46 rfl (lv_at hl 0 rfl) ?_
            refine cg_8_1 F hK hw lk_275 d_Bins_fewestFor_47 ?_
            refine lv_iload F.1 F.2.1 d_Bins_fewestFor_50 (lv_at hl 4 rfl) ?_
            obtain ⟨hi_7, h⟩ := gd_ex h
            refine cl_8_1 F hK hw hi_7 d_Bins_fewestFor_52 ?_
            refine lv_iconst (v := -1) F.1 F.2.1 d_Bins_fewestFor_53 (by decide) ?_
            refine lv_ixor F.1 F.2.1 d_Bins_fewestFor_54 ?_
            refine lv_iand F.1 F.2.1 d_Bins_fewestFor_55 ?_
            refine lv_sipush (v := 255) F.1 F.2.1 d_Bins_fewestFor_56 (by decide) ?_
            refine lv_iand F.1 F.2.1 d_Bins_fewestFor_59 ?_
            obtain ⟨hi_8, h⟩ := gd_ex h
            refine cl_8_5 F hK hw hi_8 d_Bins_fewestFor_60 ?_
            refine lv_iconst (v := 1) F.1 F.2.1 d_Bins_fewestFor_61 (by decide) ?_
            refine lv_iadd F.1 F.2.1 d_Bins_fewestFor_62 ?_
            refine va_mmin F.1 F.2.1 (F.2.2.1.trans hl.1.symm) F.2.2.2.1 (F.2.2.2.2 _ lk_822) (F.2.2.2.2 _ lk_397) (F.2.2.2.2 _ lk_12) (F.2.2.2.2 _ lk_398) (Nat.le_of_ble_eq_true rfl) (Nat.le_of_ble_eq_true rfl) (Nat.zero_le _) (Nat.zero_le _) d_Bins_fewestFor_63 ?_
            obtain ⟨x3_9, ex3_9, h⟩ := nm_ex h
            refine lv_nm ex3_9 ?_
            refine lv_istore_n (lv' := [(3, .int x3_9), (0, .ref (ad 8 0)), (1, .int x1), (2, .int v_2), (4, .int x4)]) F.1 F.2.1 d_Bins_fewestFor_66 rfl hl (by decide) rfl (fun ls hl => ?_)
            exact J_67_l11 x3_9 x4 H locs ls hw (lv_sub hl [1, 2, 3, 0, 4] rfl) o h ho
    rw [eP_11] at hL_11
    exact hL_11 H locs ls hw (lv_sub hl [3, 4, 2, 1, 0] rfl)
  exact key _ _ hw _ h (by rw [eX_0]; exact fun H locs pc ls hd hw => hQ H locs pc ls ad rfl hd hw)
theorem d_Bins_plan_0 : decode b_Bins_plan 0 = .ok (.aload_n 0, 1) := by decide +kernel
theorem d_Bins_plan_1 : decode b_Bins_plan 1 = .ok (.getfield 44, 3) := by decide +kernel
theorem d_Bins_plan_4 : decode b_Bins_plan 4 = .ok (.ifCond .eq 4, 3) := by decide +kernel
theorem d_Bins_plan_7 : decode b_Bins_plan 7 = .ok (.return_, 1) := by decide +kernel
theorem d_Bins_plan_8 : decode b_Bins_plan 8 = .ok (.aload_n 0, 1) := by decide +kernel
theorem d_Bins_plan_9 : decode b_Bins_plan 9 = .ok (.iconst 0, 1) := by decide +kernel
theorem d_Bins_plan_10 : decode b_Bins_plan 10 = .ok (.putfield 34, 3) := by decide +kernel
theorem d_Bins_plan_13 : decode b_Bins_plan 13 = .ok (.aload_n 2, 1) := by decide +kernel
theorem d_Bins_plan_14 : decode b_Bins_plan 14 = .ok (.aload_n 1, 1) := by decide +kernel
theorem d_Bins_plan_15 : decode b_Bins_plan 15 = .ok (.invokevirtual 90, 3) := by decide +kernel
theorem d_Bins_plan_18 : decode b_Bins_plan 18 = .ok (.istore_n 3, 1) := by decide +kernel
theorem d_Bins_plan_19 : decode b_Bins_plan 19 = .ok (.iconst 0, 1) := by decide +kernel
theorem d_Bins_plan_20 : decode b_Bins_plan 20 = .ok (.istore 4, 2) := by decide +kernel
theorem d_Bins_plan_22 : decode b_Bins_plan 22 = .ok (.iload 4, 2) := by decide +kernel
theorem d_Bins_plan_24 : decode b_Bins_plan 24 = .ok (.aload_n 1, 1) := by decide +kernel
theorem d_Bins_plan_25 : decode b_Bins_plan 25 = .ok (.getfield 65, 3) := by decide +kernel
theorem d_Bins_plan_28 : decode b_Bins_plan 28 = .ok (.iconst 2, 1) := by decide +kernel
theorem d_Bins_plan_29 : decode b_Bins_plan 29 = .ok (.invokevirtual 69, 3) := by decide +kernel
theorem d_Bins_plan_32 : decode b_Bins_plan 32 = .ok (.if_icmp .ge 42, 3) := by decide +kernel
theorem d_Bins_plan_35 : decode b_Bins_plan 35 = .ok (.iload_n 3, 1) := by decide +kernel
theorem d_Bins_plan_36 : decode b_Bins_plan 36 = .ok (.iload 4, 2) := by decide +kernel
theorem d_Bins_plan_38 : decode b_Bins_plan 38 = .ok (.ishr, 1) := by decide +kernel
theorem d_Bins_plan_39 : decode b_Bins_plan 39 = .ok (.iconst 1, 1) := by decide +kernel
theorem d_Bins_plan_40 : decode b_Bins_plan 40 = .ok (.iand, 1) := by decide +kernel
theorem d_Bins_plan_41 : decode b_Bins_plan 41 = .ok (.ifCond .eq 27, 3) := by decide +kernel
theorem d_Bins_plan_44 : decode b_Bins_plan 44 = .ok (.aload_n 0, 1) := by decide +kernel
theorem d_Bins_plan_45 : decode b_Bins_plan 45 = .ok (.iconst 1, 1) := by decide +kernel
theorem d_Bins_plan_46 : decode b_Bins_plan 46 = .ok (.iload 4, 2) := by decide +kernel
theorem d_Bins_plan_48 : decode b_Bins_plan 48 = .ok (.ishl, 1) := by decide +kernel
theorem d_Bins_plan_49 : decode b_Bins_plan 49 = .ok (.invokevirtual 96, 3) := by decide +kernel
theorem d_Bins_plan_52 : decode b_Bins_plan 52 = .ok (.ifCond .le 16, 3) := by decide +kernel
theorem d_Bins_plan_55 : decode b_Bins_plan 55 = .ok (.aload_n 0, 1) := by decide +kernel
theorem d_Bins_plan_56 : decode b_Bins_plan 56 = .ok (.dup, 1) := by decide +kernel
theorem d_Bins_plan_57 : decode b_Bins_plan 57 = .ok (.getfield 34, 3) := by decide +kernel
theorem d_Bins_plan_60 : decode b_Bins_plan 60 = .ok (.iconst 1, 1) := by decide +kernel
theorem d_Bins_plan_61 : decode b_Bins_plan 61 = .ok (.iload 4, 2) := by decide +kernel
theorem d_Bins_plan_63 : decode b_Bins_plan 63 = .ok (.ishl, 1) := by decide +kernel
theorem d_Bins_plan_64 : decode b_Bins_plan 64 = .ok (.ior, 1) := by decide +kernel
theorem d_Bins_plan_65 : decode b_Bins_plan 65 = .ok (.putfield 34, 3) := by decide +kernel
theorem d_Bins_plan_68 : decode b_Bins_plan 68 = .ok (.iinc 4 1, 3) := by decide +kernel
theorem d_Bins_plan_71 : decode b_Bins_plan 71 = .ok (.goto (-49), 3) := by decide +kernel
theorem d_Bins_plan_74 : decode b_Bins_plan 74 = .ok (.aload_n 0, 1) := by decide +kernel
theorem d_Bins_plan_75 : decode b_Bins_plan 75 = .ok (.getfield 27, 3) := by decide +kernel
theorem d_Bins_plan_78 : decode b_Bins_plan 78 = .ok (.iconst 0, 1) := by decide +kernel
theorem d_Bins_plan_79 : decode b_Bins_plan 79 = .ok (.iconst 0, 1) := by decide +kernel
theorem d_Bins_plan_80 : decode b_Bins_plan 80 = .ok (.iastore, 1) := by decide +kernel
theorem d_Bins_plan_81 : decode b_Bins_plan 81 = .ok (.iconst 1, 1) := by decide +kernel
theorem d_Bins_plan_82 : decode b_Bins_plan 82 = .ok (.istore 4, 2) := by decide +kernel
theorem d_Bins_plan_84 : decode b_Bins_plan 84 = .ok (.iload 4, 2) := by decide +kernel
theorem d_Bins_plan_86 : decode b_Bins_plan 86 = .ok (.aload_n 0, 1) := by decide +kernel
theorem d_Bins_plan_87 : decode b_Bins_plan 87 = .ok (.getfield 34, 3) := by decide +kernel
theorem d_Bins_plan_90 : decode b_Bins_plan 90 = .ok (.if_icmp .gt 42, 3) := by decide +kernel
theorem d_Bins_plan_93 : decode b_Bins_plan 93 = .ok (.iload 4, 2) := by decide +kernel
theorem d_Bins_plan_95 : decode b_Bins_plan 95 = .ok (.sipush 256, 3) := by decide +kernel
theorem d_Bins_plan_98 : decode b_Bins_plan 98 = .ok (.if_icmp .ge 34, 3) := by decide +kernel
theorem d_Bins_plan_101 : decode b_Bins_plan 101 = .ok (.iload 4, 2) := by decide +kernel
theorem d_Bins_plan_103 : decode b_Bins_plan 103 = .ok (.aload_n 0, 1) := by decide +kernel
theorem d_Bins_plan_104 : decode b_Bins_plan 104 = .ok (.getfield 34, 3) := by decide +kernel
theorem d_Bins_plan_107 : decode b_Bins_plan 107 = .ok (.iconst (-1), 1) := by decide +kernel
theorem d_Bins_plan_108 : decode b_Bins_plan 108 = .ok (.ixor, 1) := by decide +kernel
theorem d_Bins_plan_109 : decode b_Bins_plan 109 = .ok (.iand, 1) := by decide +kernel
theorem d_Bins_plan_110 : decode b_Bins_plan 110 = .ok (.ifCond .ne 16, 3) := by decide +kernel
theorem d_Bins_plan_113 : decode b_Bins_plan 113 = .ok (.aload_n 0, 1) := by decide +kernel
theorem d_Bins_plan_114 : decode b_Bins_plan 114 = .ok (.getfield 27, 3) := by decide +kernel
theorem d_Bins_plan_117 : decode b_Bins_plan 117 = .ok (.iload 4, 2) := by decide +kernel
theorem d_Bins_plan_119 : decode b_Bins_plan 119 = .ok (.aload_n 0, 1) := by decide +kernel
theorem d_Bins_plan_120 : decode b_Bins_plan 120 = .ok (.iload 4, 2) := by decide +kernel
theorem d_Bins_plan_122 : decode b_Bins_plan 122 = .ok (.invokevirtual 99, 3) := by decide +kernel
theorem d_Bins_plan_125 : decode b_Bins_plan 125 = .ok (.iastore, 1) := by decide +kernel
theorem d_Bins_plan_126 : decode b_Bins_plan 126 = .ok (.iinc 4 1, 3) := by decide +kernel
theorem d_Bins_plan_129 : decode b_Bins_plan 129 = .ok (.goto (-45), 3) := by decide +kernel
theorem d_Bins_plan_132 : decode b_Bins_plan 132 = .ok (.aload_n 0, 1) := by decide +kernel
theorem d_Bins_plan_133 : decode b_Bins_plan 133 = .ok (.iconst 1, 1) := by decide +kernel
theorem d_Bins_plan_134 : decode b_Bins_plan 134 = .ok (.putfield 44, 3) := by decide +kernel
theorem d_Bins_plan_137 : decode b_Bins_plan 137 = .ok (.return_, 1) := by decide +kernel
set_option maxHeartbeats 4000000 in
set_option maxRecDepth 100000 in
theorem c_Bins_plan (l : Launch) {S : St} {S' : St} (h : f_Bins_plan S = some S') : MV cw l y_Bins_plan b_Bins_plan 5 none 3 65 0 0 (fun ad => [.ref (ad 8 0), .ref (ad 4 0), .ref (ad 7 0)]) aT aE S S' := by
  refine MV_of "LawfulLots$BinTable" rfl (by decide) (fun _ => Nat.le_of_ble_eq_true rfl) ?_
  intro p e s m args below meth c D ar ad A Q ls hP F hK hA hw hl hQ
  have hl : lv_has ls 5 [(0, .ref (ad 8 0)), (1, .ref (ad 4 0)), (2, .ref (ad 7 0))] := hl
  obtain ⟨X_0, eX_0⟩ : ∃ X : St → Prop, X = (fun q => ∀ (H : Heap) (locs : List Loc) (pc : Nat) (ls : Array Slot), decode b_Bins_plan pc = .ok (.return_, 1) → Bw cw D ar A s.heap H locs ad q → W p l e (RM 3 65) s m args below meth c H locs 0 0 Q (F0 m pc ls [])) := ⟨_, rfl⟩
  have key : ∀ (H : Heap) (locs : List Loc), Bw cw D ar A s.heap H locs ad S → ∀ o, f_Bins_plan S = some o → X_0 o → W p l e (RM 3 65) s m args below meth c H locs 0 0 Q (F0 m 0 ls []) := by
    intro H locs hw o h ho
    unfold f_Bins_plan at h
    have J_132 : ∀ (S : St) (H : Heap) (locs : List Loc) (ls : Array Slot), Bw cw D ar A s.heap H locs ad S → lv_has ls 5 [(0, .ref (ad 8 0))] → ∀ o, Bins_plan_j132 S = some o → X_0 o → W p l e (RM 3 65) s m args below meth c H locs 0 0 Q (F0 m 132 ls []) := by
      intro S H locs ls hw hl o h ho
      unfold Bins_plan_j132 at h
      refine lv_aload_n F.1 F.2.1 d_Bins_plan_132 rfl (lv_at hl 0 rfl) ?_
      refine lv_iconst (v := 1) F.1 F.2.1 d_Bins_plan_133 (by decide) ?_
      obtain ⟨S_28, eS_28, h⟩ := nm_ex h
      refine cp_8_10 F hK hw isB1 lk_284 d_Bins_plan_134 eS_28 (fun H locs hw => ?_)
      cases h
      have ho : X_0 _ := ho
      rw [eX_0] at ho
      exact ho H locs _ ls d_Bins_plan_137 hw
    refine lv_aload_n F.1 F.2.1 d_Bins_plan_0 rfl (lv_at hl 0 rfl) ?_
    refine cg_8_10 F hK hw lk_284 d_Bins_plan_1 ?_
    refine lv_if_eq (tgt := 8) F.1 F.2.1 d_Bins_plan_4 (by decide) (fun c_1 => ?_) (fun c_1 => ?_)
    · replace h := ip c_1 h
      refine lv_aload_n F.1 F.2.1 d_Bins_plan_8 rfl (lv_at hl 0 rfl) ?_
      refine lv_iconst (v := 0) F.1 F.2.1 d_Bins_plan_9 (by decide) ?_
      obtain ⟨S_2, eS_2, h⟩ := nm_ex h
      refine cp_8_7 F hK hw lk_281 d_Bins_plan_10 eS_2 (fun H locs hw => ?_)
      refine lv_aload_n F.1 F.2.1 d_Bins_plan_13 rfl (lv_at hl 2 rfl) ?_
      refine lv_aload_n F.1 F.2.1 d_Bins_plan_14 rfl (lv_at hl 1 rfl) ?_
      obtain ⟨v_4, hc_3, h⟩ := bd_ex h
      refine cV_i F hA rfl hK hw (c_Log_unmet l hc_3) trivial rfl (good_V lk_811 lk_812 lk_813 lk_7 lk_814) (cr_7 hK hw) hd_Log_unmet ⟨Nat.le_of_ble_eq_true rfl, Nat.le_of_ble_eq_true rfl⟩ rfl hl.1 rfl (Nat.le_of_ble_eq_true rfl) d_Bins_plan_15 ⟨(Nat.zero_le _), (Nat.zero_le _)⟩ (fun H locs hw => ?_)
      refine lv_istore_n (lv' := [(3, .int v_4), (0, .ref (ad 8 0)), (1, .ref (ad 4 0)), (2, .ref (ad 7 0))]) F.1 F.2.1 d_Bins_plan_18 rfl hl (by decide) rfl (fun ls hl => ?_)
      refine lv_iconst (v := 0) F.1 F.2.1 d_Bins_plan_19 (by decide) ?_
      refine lv_istore (lv' := [(4, .int (0 : Int32)), (3, .int v_4), (0, .ref (ad 8 0)), (1, .ref (ad 4 0)), (2, .ref (ad 7 0))]) F.1 F.2.1 d_Bins_plan_20 hl (by decide) rfl (fun ls hl => ?_)
      obtain ⟨S_14, hc_15, h⟩ := bd_ex h
      obtain ⟨X_22, eX_22⟩ : ∃ X : St → Prop, X = (fun q => ∀ (H : Heap) (locs : List Loc) (ls : Array Slot), Bw cw D ar A s.heap H locs ad q → lv_has ls 5 [(0, .ref (ad 8 0))] → W p l e (RM 3 65) s m args below meth c H locs 0 0 Q (F0 m 74 ls [])) := ⟨_, rfl⟩
      have hX_22 : X_22 S_14 := by
        rw [eX_22]
        intro H locs ls hw hl
        refine lv_aload_n F.1 F.2.1 d_Bins_plan_74 rfl (lv_at hl 0 rfl) ?_
        refine cg_8_5 F hK hw lk_279 d_Bins_plan_75 ?_
        refine lv_iconst (v := 0) F.1 F.2.1 d_Bins_plan_78 (by decide) ?_
        refine lv_iconst (v := 0) F.1 F.2.1 d_Bins_plan_79 (by decide) ?_
        obtain ⟨hi_16, h⟩ := gd_ex h
        obtain ⟨S_17, eS_17, h⟩ := nm_ex h
        refine cs_8_5 F hK hw hi_16 d_Bins_plan_80 eS_17 (fun H locs hw => ?_)
        refine lv_iconst (v := 1) F.1 F.2.1 d_Bins_plan_81 (by decide) ?_
        refine lv_istore (lv' := [(4, .int (1 : Int32)), (0, .ref (ad 8 0))]) F.1 F.2.1 d_Bins_plan_82 hl (by decide) rfl (fun ls hl => ?_)
        obtain ⟨S_26, hc_27, h⟩ := bd_ex h
        obtain ⟨X_84, eX_84⟩ : ∃ X : St → Prop, X = (fun q => ∀ (H : Heap) (locs : List Loc) (ls : Array Slot), Bw cw D ar A s.heap H locs ad q → lv_has ls 5 [(0, .ref (ad 8 0))] → W p l e (RM 3 65) s m args below meth c H locs 0 0 Q (F0 m 132 ls [])) := ⟨_, rfl⟩
        have hX_84 : X_84 S_26 := by
          rw [eX_84]
          intro H locs ls hw hl
          exact J_132 S_26 H locs ls hw (lv_sub hl [0] rfl) o h ho
        obtain ⟨P_84, eP_84⟩ : ∃ P : (St × Int32) → Prop, P = (fun q => ∀ (H : Heap) (locs : List Loc) (ls : Array Slot), Bw cw D ar A s.heap H locs ad q.1 → lv_has ls 5 [(0, .ref (ad 8 0)), (4, .int q.2)] → W p l e (RM 3 65) s m args below meth c H locs 0 0 Q (F0 m 84 ls [])) := ⟨_, rfl⟩
        have hL_84 : P_84 (S_17, (1 : Int32)) := by
          refine wh_gp (P := P_84) (X := X_84) hc_27 hX_84 ?_
          clear h
          intro q o h ho
          obtain ⟨S, x4⟩ := q
          have h : Bins_plan_l84 S x4 = some o := h
          unfold Bins_plan_l84 at h
          rw [eP_84]
          intro H locs ls hw hl
          have J_126_l84 : ∀ (S : St) (x4 : Int32) (H : Heap) (locs : List Loc) (ls : Array Slot), Bw cw D ar A s.heap H locs ad S → lv_has ls 5 [(0, .ref (ad 8 0)), (4, .int x4)] → ∀ o, Bins_plan_j126_l84 S x4 = some o → (Sum.elim P_84 X_84) o → W p l e (RM 3 65) s m args below meth c H locs 0 0 Q (F0 m 126 ls []) := by
            intro S x4 H locs ls hw hl o h ho
            unfold Bins_plan_j126_l84 at h
            obtain ⟨x4_25, ex4_25, h⟩ := nm_ex h
            refine lv_iinc (v := x4_25) (lv' := [(4, .int x4_25), (0, .ref (ad 8 0))]) F.1 F.2.1 d_Bins_plan_126 hl (k := 1) rfl (by rw [ex4_25]; rfl) (by decide) rfl (fun ls hl => ?_)
            refine lv_goto (tgt := 84) F.1 F.2.1 d_Bins_plan_129 (by decide) ?_
            cases h
            have ho : P_84 _ := ho
            rw [eP_84] at ho
            exact ho H locs ls hw (lv_sub hl [1, 0] rfl)
          refine lv_iload F.1 F.2.1 d_Bins_plan_84 (lv_at hl 1 rfl) ?_
          refine lv_aload_n F.1 F.2.1 d_Bins_plan_86 rfl (lv_at hl 0 rfl) ?_
          refine cg_8_7 F hK hw lk_281 d_Bins_plan_87 ?_
          refine lv_icmp_gt (tgt := 132) F.1 F.2.1 d_Bins_plan_90 (by decide) (fun c_18 => ?_) (fun c_18 => ?_)
          · replace h := ip c_18 h
            cases h
            have ho : X_84 _ := ho
            rw [eX_84] at ho
            exact ho H locs ls hw (lv_sub hl [0] rfl)
          · replace h := iq c_18 h
            refine lv_iload F.1 F.2.1 d_Bins_plan_93 (lv_at hl 1 rfl) ?_
            refine lv_sipush (v := 256) F.1 F.2.1 d_Bins_plan_95 (by decide) ?_
            refine lv_icmp_ge (tgt := 132) F.1 F.2.1 d_Bins_plan_98 (by decide) (fun c_19 => ?_) (fun c_19 => ?_)
            · replace h := ip c_19 h
              cases h
              have ho : X_84 _ := ho
              rw [eX_84] at ho
              exact ho H locs ls hw (lv_sub hl [0] rfl)
            · replace h := iq c_19 h
              refine lv_iload F.1 F.2.1 d_Bins_plan_101 (lv_at hl 1 rfl) ?_
              refine lv_aload_n F.1 F.2.1 d_Bins_plan_103 rfl (lv_at hl 0 rfl) ?_
              refine cg_8_7 F hK hw lk_281 d_Bins_plan_104 ?_
              refine lv_iconst (v := -1) F.1 F.2.1 d_Bins_plan_107 (by decide) ?_
              refine lv_ixor F.1 F.2.1 d_Bins_plan_108 ?_
              refine lv_iand F.1 F.2.1 d_Bins_plan_109 ?_
              refine lv_if_ne (tgt := 126) F.1 F.2.1 d_Bins_plan_110 (by decide) (fun c_20 => ?_) (fun c_20 => ?_)
              · replace h := iq c_20 h
                exact J_126_l84 S x4 H locs ls hw (lv_sub hl [0, 1] rfl) o h ho
              · replace h := ip c_20 h
                refine lv_aload_n F.1 F.2.1 d_Bins_plan_113 rfl (lv_at hl 0 rfl) ?_
                refine cg_8_5 F hK hw lk_279 d_Bins_plan_114 ?_
                refine lv_iload F.1 F.2.1 d_Bins_plan_117 (lv_at hl 1 rfl) ?_
                refine lv_aload_n F.1 F.2.1 d_Bins_plan_119 rfl (lv_at hl 0 rfl) ?_
                refine lv_iload F.1 F.2.1 d_Bins_plan_120 (lv_at hl 1 rfl) ?_
                obtain ⟨v_22, hc_21, h⟩ := bd_ex h
                refine cV_i F hA rfl hK hw (c_Bins_fewestFor l hc_21) trivial rfl (good_V lk_816 lk_818 ls_37 lk_8 lk_819) (cr_8 hK hw) hd_Bins_fewestFor ⟨Nat.le_of_ble_eq_true rfl, Nat.le_of_ble_eq_true rfl⟩ rfl hl.1 rfl (Nat.le_of_ble_eq_true rfl) d_Bins_plan_122 ⟨(Nat.zero_le _), (Nat.zero_le _)⟩ (fun H locs hw => ?_)
                obtain ⟨hi_23, h⟩ := gd_ex h
                obtain ⟨S_24, eS_24, h⟩ := nm_ex h
                refine cs_8_5 F hK hw hi_23 d_Bins_plan_125 eS_24 (fun H locs hw => ?_)
                exact J_126_l84 S_24 x4 H locs ls hw (lv_sub hl [0, 1] rfl) o h ho
        rw [eP_84] at hL_84
        exact hL_84 H locs ls hw (lv_sub hl [1, 0] rfl)
      obtain ⟨P_22, eP_22⟩ : ∃ P : (St × Int32) → Prop, P = (fun q => ∀ (H : Heap) (locs : List Loc) (ls : Array Slot), Bw cw D ar A s.heap H locs ad q.1 → lv_has ls 5 [(0, .ref (ad 8 0)), (1, .ref (ad 4 0)), (3, .int v_4), (4, .int q.2)] → W p l e (RM 3 65) s m args below meth c H locs 0 0 Q (F0 m 22 ls [])) := ⟨_, rfl⟩
      have hL_22 : P_22 (S_2, (0 : Int32)) := by
        refine wh_gp (P := P_22) (X := X_22) hc_15 hX_22 ?_
        clear h
        intro q o h ho
        obtain ⟨S, x4⟩ := q
        have h : Bins_plan_l22 v_4 S x4 = some o := h
        unfold Bins_plan_l22 at h
        rw [eP_22]
        intro H locs ls hw hl
        have J_68_l22 : ∀ (S : St) (x4 : Int32) (H : Heap) (locs : List Loc) (ls : Array Slot), Bw cw D ar A s.heap H locs ad S → lv_has ls 5 [(0, .ref (ad 8 0)), (1, .ref (ad 4 0)), (3, .int v_4), (4, .int x4)] → ∀ o, Bins_plan_j68_l22 S v_4 x4 = some o → (Sum.elim P_22 X_22) o → W p l e (RM 3 65) s m args below meth c H locs 0 0 Q (F0 m 68 ls []) := by
          intro S x4 H locs ls hw hl o h ho
          unfold Bins_plan_j68_l22 at h
          obtain ⟨x4_13, ex4_13, h⟩ := nm_ex h
          refine lv_iinc (v := x4_13) (lv' := [(4, .int x4_13), (0, .ref (ad 8 0)), (1, .ref (ad 4 0)), (3, .int v_4)]) F.1 F.2.1 d_Bins_plan_68 hl (k := 3) rfl (by rw [ex4_13]; rfl) (by decide) rfl (fun ls hl => ?_)
          refine lv_goto (tgt := 22) F.1 F.2.1 d_Bins_plan_71 (by decide) ?_
          cases h
          have ho : P_22 _ := ho
          rw [eP_22] at ho
          exact ho H locs ls hw (lv_sub hl [1, 2, 3, 0] rfl)
        refine lv_iload F.1 F.2.1 d_Bins_plan_22 (lv_at hl 3 rfl) ?_
        refine lv_aload_n F.1 F.2.1 d_Bins_plan_24 rfl (lv_at hl 1 rfl) ?_
        refine cg_4_8 F hK hw lk_201 d_Bins_plan_25 ?_
        refine lv_iconst (v := 2) F.1 F.2.1 d_Bins_plan_28 (by decide) ?_
        obtain ⟨v_6, hc_5, h⟩ := bd_ex h
        refine cV_i F hA rfl hK hw (c_Book_toldOf_5 l hc_5) trivial rfl (good_V lk_780 lk_452 lk_453 lk_4 lk_454) (cr_5 hK hw) hd_Book_toldOf ⟨Nat.le_of_ble_eq_true rfl, Nat.le_of_ble_eq_true rfl⟩ rfl hl.1 rfl (Nat.le_of_ble_eq_true rfl) d_Bins_plan_29 ⟨(Nat.zero_le _), (Nat.zero_le _)⟩ (fun H locs hw => ?_)
        refine lv_icmp_ge (tgt := 74) F.1 F.2.1 d_Bins_plan_32 (by decide) (fun c_7 => ?_) (fun c_7 => ?_)
        · replace h := ip c_7 h
          cases h
          have ho : X_22 _ := ho
          rw [eX_22] at ho
          exact ho H locs ls hw (lv_sub hl [0] rfl)
        · replace h := iq c_7 h
          refine lv_iload_n F.1 F.2.1 d_Bins_plan_35 rfl (lv_at hl 2 rfl) ?_
          refine lv_iload F.1 F.2.1 d_Bins_plan_36 (lv_at hl 3 rfl) ?_
          refine lv_ishr F.1 F.2.1 d_Bins_plan_38 ?_
          refine lv_iconst (v := 1) F.1 F.2.1 d_Bins_plan_39 (by decide) ?_
          refine lv_iand F.1 F.2.1 d_Bins_plan_40 ?_
          refine lv_if_eq (tgt := 68) F.1 F.2.1 d_Bins_plan_41 (by decide) (fun c_8 => ?_) (fun c_8 => ?_)
          · replace h := ip c_8 h
            exact J_68_l22 S x4 H locs ls hw (lv_sub hl [0, 1, 2, 3] rfl) o h ho
          · replace h := iq c_8 h
            refine lv_aload_n F.1 F.2.1 d_Bins_plan_44 rfl (lv_at hl 0 rfl) ?_
            refine lv_iconst (v := 1) F.1 F.2.1 d_Bins_plan_45 (by decide) ?_
            refine lv_iload F.1 F.2.1 d_Bins_plan_46 (lv_at hl 3 rfl) ?_
            refine lv_ishl F.1 F.2.1 d_Bins_plan_48 ?_
            obtain ⟨v_10, hc_9, h⟩ := bd_ex h
            refine cV_i F hA rfl hK hw (c_Bins_meetingAll l hc_9) trivial rfl (good_V lk_815 lk_783 lk_784 lk_8 lk_785) (cr_8 hK hw) hd_Bins_meetingAll ⟨Nat.le_of_ble_eq_true rfl, Nat.le_of_ble_eq_true rfl⟩ rfl hl.1 rfl (Nat.le_of_ble_eq_true rfl) d_Bins_plan_49 ⟨(Nat.zero_le _), (Nat.zero_le _)⟩ (fun H locs hw => ?_)
            refine lv_if_le (tgt := 68) F.1 F.2.1 d_Bins_plan_52 (by decide) (fun c_11 => ?_) (fun c_11 => ?_)
            · replace h := ip c_11 h
              exact J_68_l22 S x4 H locs ls hw (lv_sub hl [0, 1, 2, 3] rfl) o h ho
            · replace h := iq c_11 h
              refine lv_aload_n F.1 F.2.1 d_Bins_plan_55 rfl (lv_at hl 0 rfl) ?_
              refine lv_dup F.1 F.2.1 d_Bins_plan_56 rfl ?_
              refine cg_8_7 F hK hw lk_281 d_Bins_plan_57 ?_
              refine lv_iconst (v := 1) F.1 F.2.1 d_Bins_plan_60 (by decide) ?_
              refine lv_iload F.1 F.2.1 d_Bins_plan_61 (lv_at hl 3 rfl) ?_
              refine lv_ishl F.1 F.2.1 d_Bins_plan_63 ?_
              refine lv_ior F.1 F.2.1 d_Bins_plan_64 ?_
              obtain ⟨S_12, eS_12, h⟩ := nm_ex h
              refine cp_8_7 F hK hw lk_281 d_Bins_plan_65 eS_12 (fun H locs hw => ?_)
              exact J_68_l22 S_12 x4 H locs ls hw (lv_sub hl [0, 1, 2, 3] rfl) o h ho
      rw [eP_22] at hL_22
      exact hL_22 H locs ls hw (lv_sub hl [2, 3, 1, 0] rfl)
    · replace h := iq c_1 h
      cases h
      have ho : X_0 _ := ho
      rw [eX_0] at ho
      exact ho H locs _ ls d_Bins_plan_7 hw
  exact key _ _ hw _ h (by rw [eX_0]; exact fun H locs pc ls hd hw => hQ H locs pc ls ad rfl hd hw)
theorem d_Bins_planSize_0 : decode b_Bins_planSize 0 = .ok (.aload_n 0, 1) := by decide +kernel
theorem d_Bins_planSize_1 : decode b_Bins_planSize 1 = .ok (.getfield 27, 3) := by decide +kernel
theorem d_Bins_planSize_4 : decode b_Bins_planSize 4 = .ok (.aload_n 0, 1) := by decide +kernel
theorem d_Bins_planSize_5 : decode b_Bins_planSize 5 = .ok (.getfield 34, 3) := by decide +kernel
theorem d_Bins_planSize_8 : decode b_Bins_planSize 8 = .ok (.sipush 255, 3) := by decide +kernel
theorem d_Bins_planSize_11 : decode b_Bins_planSize 11 = .ok (.iand, 1) := by decide +kernel
theorem d_Bins_planSize_12 : decode b_Bins_planSize 12 = .ok (.iaload, 1) := by decide +kernel
theorem d_Bins_planSize_13 : decode b_Bins_planSize 13 = .ok (.ireturn, 1) := by decide +kernel
set_option maxHeartbeats 4000000 in
set_option maxRecDepth 100000 in
theorem c_Bins_planSize (l : Launch) {S : St} {r : Int32} (h : f_Bins_planSize S = some r) : MI cw l y_Bins_planSize b_Bins_planSize 1 (some .int) 0 0 0 0 (fun ad => [.ref (ad 8 0)]) aT aE S r S := by
  refine MI_of "LawfulLots$BinTable" rfl (by decide) (fun _ => Nat.le_of_ble_eq_true rfl) ?_
  intro p e s m args below meth c D ar ad A Q ls hP F hK hA hw hl hQ
  have hl : lv_has ls 1 [(0, .ref (ad 8 0))] := hl
  obtain ⟨X_0, eX_0⟩ : ∃ X : Int32 → Prop, X = (fun q => ∀ (H : Heap) (locs : List Loc) (pc : Nat) (ls : Array Slot), decode b_Bins_planSize pc = .ok (.ireturn, 1) → Bw cw D ar A s.heap H locs ad S → W p l e (RM 0 0) s m args below meth c H locs 0 0 Q (F0 m pc ls [.int q])) := ⟨_, rfl⟩
  have key : ∀ (H : Heap) (locs : List Loc), Bw cw D ar A s.heap H locs ad S → ∀ o, f_Bins_planSize S = some o → X_0 o → W p l e (RM 0 0) s m args below meth c H locs 0 0 Q (F0 m 0 ls []) := by
    intro H locs hw o h ho
    unfold f_Bins_planSize at h
    refine lv_aload_n F.1 F.2.1 d_Bins_planSize_0 rfl (lv_at hl 0 rfl) ?_
    refine cg_8_5 F hK hw lk_279 d_Bins_planSize_1 ?_
    refine lv_aload_n F.1 F.2.1 d_Bins_planSize_4 rfl (lv_at hl 0 rfl) ?_
    refine cg_8_7 F hK hw lk_281 d_Bins_planSize_5 ?_
    refine lv_sipush (v := 255) F.1 F.2.1 d_Bins_planSize_8 (by decide) ?_
    refine lv_iand F.1 F.2.1 d_Bins_planSize_11 ?_
    obtain ⟨hi_1, h⟩ := gd_ex h
    refine cl_8_5 F hK hw hi_1 d_Bins_planSize_12 ?_
    cases h
    have ho : X_0 _ := ho
    rw [eX_0] at ho
    exact ho H locs _ ls d_Bins_planSize_13 hw
  exact key _ _ hw _ h (by rw [eX_0]; exact fun H locs pc ls hd hw => hQ H locs pc ls ad rfl hd hw)
theorem d_Bins_leastStep_0 : decode b_Bins_leastStep 0 = .ok (.aload_n 0, 1) := by decide +kernel
theorem d_Bins_leastStep_1 : decode b_Bins_leastStep 1 = .ok (.getfield 27, 3) := by decide +kernel
theorem d_Bins_leastStep_4 : decode b_Bins_leastStep 4 = .ok (.iload_n 1, 1) := by decide +kernel
theorem d_Bins_leastStep_5 : decode b_Bins_leastStep 5 = .ok (.sipush 255, 3) := by decide +kernel
theorem d_Bins_leastStep_8 : decode b_Bins_leastStep 8 = .ok (.iand, 1) := by decide +kernel
theorem d_Bins_leastStep_9 : decode b_Bins_leastStep 9 = .ok (.iaload, 1) := by decide +kernel
theorem d_Bins_leastStep_10 : decode b_Bins_leastStep 10 = .ok (.iconst 1, 1) := by decide +kernel
theorem d_Bins_leastStep_11 : decode b_Bins_leastStep 11 = .ok (.isub, 1) := by decide +kernel
theorem d_Bins_leastStep_12 : decode b_Bins_leastStep 12 = .ok (.istore_n 2, 1) := by decide +kernel
theorem d_Bins_leastStep_13 : decode b_Bins_leastStep 13 = .ok (.iconst 0, 1) := by decide +kernel
theorem d_Bins_leastStep_14 : decode b_Bins_leastStep 14 = .ok (.istore_n 3, 1) := by decide +kernel
theorem d_Bins_leastStep_15 : decode b_Bins_leastStep 15 = .ok (.iload_n 3, 1) := by decide +kernel
theorem d_Bins_leastStep_16 : decode b_Bins_leastStep 16 = .ok (.aload_n 0, 1) := by decide +kernel
theorem d_Bins_leastStep_17 : decode b_Bins_leastStep 17 = .ok (.getfield 30, 3) := by decide +kernel
theorem d_Bins_leastStep_20 : decode b_Bins_leastStep 20 = .ok (.if_icmp .ge 41, 3) := by decide +kernel
theorem d_Bins_leastStep_23 : decode b_Bins_leastStep 23 = .ok (.iload_n 3, 1) := by decide +kernel
theorem d_Bins_leastStep_24 : decode b_Bins_leastStep 24 = .ok (.sipush 256, 3) := by decide +kernel
theorem d_Bins_leastStep_27 : decode b_Bins_leastStep 27 = .ok (.if_icmp .ge 34, 3) := by decide +kernel
theorem d_Bins_leastStep_30 : decode b_Bins_leastStep 30 = .ok (.aload_n 0, 1) := by decide +kernel
theorem d_Bins_leastStep_31 : decode b_Bins_leastStep 31 = .ok (.getfield 27, 3) := by decide +kernel
theorem d_Bins_leastStep_34 : decode b_Bins_leastStep 34 = .ok (.iload_n 1, 1) := by decide +kernel
theorem d_Bins_leastStep_35 : decode b_Bins_leastStep 35 = .ok (.aload_n 0, 1) := by decide +kernel
theorem d_Bins_leastStep_36 : decode b_Bins_leastStep 36 = .ok (.getfield 15, 3) := by decide +kernel
theorem d_Bins_leastStep_39 : decode b_Bins_leastStep 39 = .ok (.iload_n 3, 1) := by decide +kernel
theorem d_Bins_leastStep_40 : decode b_Bins_leastStep 40 = .ok (.iaload, 1) := by decide +kernel
theorem d_Bins_leastStep_41 : decode b_Bins_leastStep 41 = .ok (.iconst (-1), 1) := by decide +kernel
theorem d_Bins_leastStep_42 : decode b_Bins_leastStep 42 = .ok (.ixor, 1) := by decide +kernel
theorem d_Bins_leastStep_43 : decode b_Bins_leastStep 43 = .ok (.iand, 1) := by decide +kernel
theorem d_Bins_leastStep_44 : decode b_Bins_leastStep 44 = .ok (.sipush 255, 3) := by decide +kernel
theorem d_Bins_leastStep_47 : decode b_Bins_leastStep 47 = .ok (.iand, 1) := by decide +kernel
theorem d_Bins_leastStep_48 : decode b_Bins_leastStep 48 = .ok (.iaload, 1) := by decide +kernel
theorem d_Bins_leastStep_49 : decode b_Bins_leastStep 49 = .ok (.iload_n 2, 1) := by decide +kernel
theorem d_Bins_leastStep_50 : decode b_Bins_leastStep 50 = .ok (.if_icmp .ne 5, 3) := by decide +kernel
theorem d_Bins_leastStep_53 : decode b_Bins_leastStep 53 = .ok (.iload_n 3, 1) := by decide +kernel
theorem d_Bins_leastStep_54 : decode b_Bins_leastStep 54 = .ok (.ireturn, 1) := by decide +kernel
theorem d_Bins_leastStep_55 : decode b_Bins_leastStep 55 = .ok (.iinc 3 1, 3) := by decide +kernel
theorem d_Bins_leastStep_58 : decode b_Bins_leastStep 58 = .ok (.goto (-43), 3) := by decide +kernel
theorem d_Bins_leastStep_61 : decode b_Bins_leastStep 61 = .ok (.iconst 0, 1) := by decide +kernel
theorem d_Bins_leastStep_62 : decode b_Bins_leastStep 62 = .ok (.ireturn, 1) := by decide +kernel
set_option maxHeartbeats 4000000 in
set_option maxRecDepth 100000 in
theorem c_Bins_leastStep (l : Launch) {S : St} {x1 : Int32} {r : Int32} (h : f_Bins_leastStep S x1 = some r) : MI cw l y_Bins_leastStep b_Bins_leastStep 4 (some .int) 0 0 0 0 (fun ad => [.ref (ad 8 0), .int x1]) aT aE S r S := by
  refine MI_of "LawfulLots$BinTable" rfl (by decide) (fun _ => Nat.le_of_ble_eq_true rfl) ?_
  intro p e s m args below meth c D ar ad A Q ls hP F hK hA hw hl hQ
  have hl : lv_has ls 4 [(0, .ref (ad 8 0)), (1, .int x1)] := hl
  obtain ⟨X_0, eX_0⟩ : ∃ X : Int32 → Prop, X = (fun q => ∀ (H : Heap) (locs : List Loc) (pc : Nat) (ls : Array Slot), decode b_Bins_leastStep pc = .ok (.ireturn, 1) → Bw cw D ar A s.heap H locs ad S → W p l e (RM 0 0) s m args below meth c H locs 0 0 Q (F0 m pc ls [.int q])) := ⟨_, rfl⟩
  have key : ∀ (H : Heap) (locs : List Loc), Bw cw D ar A s.heap H locs ad S → ∀ o, f_Bins_leastStep S x1 = some o → X_0 o → W p l e (RM 0 0) s m args below meth c H locs 0 0 Q (F0 m 0 ls []) := by
    intro H locs hw o h ho
    unfold f_Bins_leastStep at h
    refine lv_aload_n F.1 F.2.1 d_Bins_leastStep_0 rfl (lv_at hl 0 rfl) ?_
    refine cg_8_5 F hK hw lk_279 d_Bins_leastStep_1 ?_
    refine lv_iload_n F.1 F.2.1 d_Bins_leastStep_4 rfl (lv_at hl 1 rfl) ?_
    refine lv_sipush (v := 255) F.1 F.2.1 d_Bins_leastStep_5 (by decide) ?_
    refine lv_iand F.1 F.2.1 d_Bins_leastStep_8 ?_
    obtain ⟨hi_1, h⟩ := gd_ex h
    refine cl_8_5 F hK hw hi_1 d_Bins_leastStep_9 ?_
    refine lv_iconst (v := 1) F.1 F.2.1 d_Bins_leastStep_10 (by decide) ?_
    refine lv_isub F.1 F.2.1 d_Bins_leastStep_11 ?_
    obtain ⟨x2_2, ex2_2, h⟩ := nm_ex h
    refine lv_nm ex2_2 ?_
    refine lv_istore_n (lv' := [(2, .int x2_2), (0, .ref (ad 8 0)), (1, .int x1)]) F.1 F.2.1 d_Bins_leastStep_12 rfl hl (by decide) rfl (fun ls hl => ?_)
    refine lv_iconst (v := 0) F.1 F.2.1 d_Bins_leastStep_13 (by decide) ?_
    refine lv_istore_n (lv' := [(3, .int (0 : Int32)), (2, .int x2_2), (0, .ref (ad 8 0)), (1, .int x1)]) F.1 F.2.1 d_Bins_leastStep_14 rfl hl (by decide) rfl (fun ls hl => ?_)
    obtain ⟨P_15, eP_15⟩ : ∃ P : Int32 → Prop, P = (fun q => ∀ (H : Heap) (locs : List Loc) (ls : Array Slot), Bw cw D ar A s.heap H locs ad S → lv_has ls 4 [(0, .ref (ad 8 0)), (1, .int x1), (2, .int x2_2), (3, .int q)] → W p l e (RM 0 0) s m args below meth c H locs 0 0 Q (F0 m 15 ls [])) := ⟨_, rfl⟩
    have hL_15 : P_15 (0 : Int32) := by
      refine wh_gp (P := P_15) (X := X_0) h ho ?_
      clear h ho
      intro x3 o h ho
      have h : Bins_leastStep_l15 S x1 x2_2 x3 = some o := h
      unfold Bins_leastStep_l15 at h
      rw [eP_15]
      intro H locs ls hw hl
      have J_61_l15 : ∀ (H : Heap) (locs : List Loc) (ls : Array Slot), Bw cw D ar A s.heap H locs ad S → lv_has ls 4 [] → ∀ o, Bins_leastStep_j61_l15 S = some o → (Sum.elim P_15 X_0) o → W p l e (RM 0 0) s m args below meth c H locs 0 0 Q (F0 m 61 ls []) := by
        intro H locs ls hw hl o h ho
        unfold Bins_leastStep_j61_l15 at h
        refine lv_iconst (v := 0) F.1 F.2.1 d_Bins_leastStep_61 (by decide) ?_
        cases h
        have ho : X_0 _ := ho
        rw [eX_0] at ho
        exact ho H locs _ ls d_Bins_leastStep_62 hw
      refine lv_iload_n F.1 F.2.1 d_Bins_leastStep_15 rfl (lv_at hl 3 rfl) ?_
      refine lv_aload_n F.1 F.2.1 d_Bins_leastStep_16 rfl (lv_at hl 0 rfl) ?_
      refine cg_8_6 F hK hw lk_280 d_Bins_leastStep_17 ?_
      refine lv_icmp_ge (tgt := 61) F.1 F.2.1 d_Bins_leastStep_20 (by decide) (fun c_3 => ?_) (fun c_3 => ?_)
      · replace h := ip c_3 h
        exact J_61_l15 H locs ls hw (lv_sub hl [] rfl) o h ho
      · replace h := iq c_3 h
        refine lv_iload_n F.1 F.2.1 d_Bins_leastStep_23 rfl (lv_at hl 3 rfl) ?_
        refine lv_sipush (v := 256) F.1 F.2.1 d_Bins_leastStep_24 (by decide) ?_
        refine lv_icmp_ge (tgt := 61) F.1 F.2.1 d_Bins_leastStep_27 (by decide) (fun c_4 => ?_) (fun c_4 => ?_)
        · replace h := ip c_4 h
          exact J_61_l15 H locs ls hw (lv_sub hl [] rfl) o h ho
        · replace h := iq c_4 h
          refine lv_aload_n F.1 F.2.1 d_Bins_leastStep_30 rfl (lv_at hl 0 rfl) ?_
          refine cg_8_5 F hK hw lk_279 d_Bins_leastStep_31 ?_
          refine lv_iload_n F.1 F.2.1 d_Bins_leastStep_34 rfl (lv_at hl 1 rfl) ?_
          refine lv_aload_n F.1 F.2.1 d_Bins_leastStep_35 rfl (lv_at hl 0 rfl) ?_
          refine cg_8_1 F hK hw lk_275 d_Bins_leastStep_36 ?_
          refine lv_iload_n F.1 F.2.1 d_Bins_leastStep_39 rfl (lv_at hl 3 rfl) ?_
          obtain ⟨hi_5, h⟩ := gd_ex h
          refine cl_8_1 F hK hw hi_5 d_Bins_leastStep_40 ?_
          refine lv_iconst (v := -1) F.1 F.2.1 d_Bins_leastStep_41 (by decide) ?_
          refine lv_ixor F.1 F.2.1 d_Bins_leastStep_42 ?_
          refine lv_iand F.1 F.2.1 d_Bins_leastStep_43 ?_
          refine lv_sipush (v := 255) F.1 F.2.1 d_Bins_leastStep_44 (by decide) ?_
          refine lv_iand F.1 F.2.1 d_Bins_leastStep_47 ?_
          obtain ⟨hi_6, h⟩ := gd_ex h
          refine cl_8_5 F hK hw hi_6 d_Bins_leastStep_48 ?_
          refine lv_iload_n F.1 F.2.1 d_Bins_leastStep_49 rfl (lv_at hl 2 rfl) ?_
          refine lv_icmp_ne (tgt := 55) F.1 F.2.1 d_Bins_leastStep_50 (by decide) (fun c_7 => ?_) (fun c_7 => ?_)
          · replace h := iq c_7 h
            obtain ⟨x3_8, ex3_8, h⟩ := nm_ex h
            refine lv_iinc (v := x3_8) (lv' := [(3, .int x3_8), (0, .ref (ad 8 0)), (1, .int x1), (2, .int x2_2)]) F.1 F.2.1 d_Bins_leastStep_55 hl (k := 3) rfl (by rw [ex3_8]; rfl) (by decide) rfl (fun ls hl => ?_)
            refine lv_goto (tgt := 15) F.1 F.2.1 d_Bins_leastStep_58 (by decide) ?_
            cases h
            have ho : P_15 _ := ho
            rw [eP_15] at ho
            exact ho H locs ls hw (lv_sub hl [1, 2, 3, 0] rfl)
          · replace h := ip c_7 h
            refine lv_iload_n F.1 F.2.1 d_Bins_leastStep_53 rfl (lv_at hl 3 rfl) ?_
            cases h
            have ho : X_0 _ := ho
            rw [eX_0] at ho
            exact ho H locs _ ls d_Bins_leastStep_54 hw
    rw [eP_15] at hL_15
    exact hL_15 H locs ls hw (lv_sub hl [2, 3, 1, 0] rfl)
  exact key _ _ hw _ h (by rw [eX_0]; exact fun H locs pc ls hd hw => hQ H locs pc ls ad rfl hd hw)
theorem d_Bins_planMember_0 : decode b_Bins_planMember 0 = .ok (.iload_n 1, 1) := by decide +kernel
theorem d_Bins_planMember_1 : decode b_Bins_planMember 1 = .ok (.ifCond .lt 11, 3) := by decide +kernel
theorem d_Bins_planMember_4 : decode b_Bins_planMember 4 = .ok (.iload_n 1, 1) := by decide +kernel
theorem d_Bins_planMember_5 : decode b_Bins_planMember 5 = .ok (.aload_n 0, 1) := by decide +kernel
theorem d_Bins_planMember_6 : decode b_Bins_planMember 6 = .ok (.invokevirtual 111, 3) := by decide +kernel
theorem d_Bins_planMember_9 : decode b_Bins_planMember 9 = .ok (.if_icmp .lt 5, 3) := by decide +kernel
theorem d_Bins_planMember_12 : decode b_Bins_planMember 12 = .ok (.iconst (-1), 1) := by decide +kernel
theorem d_Bins_planMember_13 : decode b_Bins_planMember 13 = .ok (.ireturn, 1) := by decide +kernel
theorem d_Bins_planMember_14 : decode b_Bins_planMember 14 = .ok (.aload_n 0, 1) := by decide +kernel
theorem d_Bins_planMember_15 : decode b_Bins_planMember 15 = .ok (.getfield 34, 3) := by decide +kernel
theorem d_Bins_planMember_18 : decode b_Bins_planMember 18 = .ok (.istore_n 2, 1) := by decide +kernel
theorem d_Bins_planMember_19 : decode b_Bins_planMember 19 = .ok (.iconst (-1), 1) := by decide +kernel
theorem d_Bins_planMember_20 : decode b_Bins_planMember 20 = .ok (.istore_n 3, 1) := by decide +kernel
theorem d_Bins_planMember_21 : decode b_Bins_planMember 21 = .ok (.iconst 0, 1) := by decide +kernel
theorem d_Bins_planMember_22 : decode b_Bins_planMember 22 = .ok (.istore 4, 2) := by decide +kernel
theorem d_Bins_planMember_24 : decode b_Bins_planMember 24 = .ok (.iload 4, 2) := by decide +kernel
theorem d_Bins_planMember_26 : decode b_Bins_planMember 26 = .ok (.iload_n 1, 1) := by decide +kernel
theorem d_Bins_planMember_27 : decode b_Bins_planMember 27 = .ok (.if_icmp .gt 43, 3) := by decide +kernel
theorem d_Bins_planMember_30 : decode b_Bins_planMember 30 = .ok (.iload 4, 2) := by decide +kernel
theorem d_Bins_planMember_32 : decode b_Bins_planMember 32 = .ok (.bipush 8, 2) := by decide +kernel
theorem d_Bins_planMember_34 : decode b_Bins_planMember 34 = .ok (.if_icmp .ge 36, 3) := by decide +kernel
theorem d_Bins_planMember_37 : decode b_Bins_planMember 37 = .ok (.aload_n 0, 1) := by decide +kernel
theorem d_Bins_planMember_38 : decode b_Bins_planMember 38 = .ok (.iload_n 2, 1) := by decide +kernel
theorem d_Bins_planMember_39 : decode b_Bins_planMember 39 = .ok (.invokevirtual 115, 3) := by decide +kernel
theorem d_Bins_planMember_42 : decode b_Bins_planMember 42 = .ok (.istore 5, 2) := by decide +kernel
theorem d_Bins_planMember_44 : decode b_Bins_planMember 44 = .ok (.aload_n 0, 1) := by decide +kernel
theorem d_Bins_planMember_45 : decode b_Bins_planMember 45 = .ok (.getfield 18, 3) := by decide +kernel
theorem d_Bins_planMember_48 : decode b_Bins_planMember 48 = .ok (.iload 5, 2) := by decide +kernel
theorem d_Bins_planMember_50 : decode b_Bins_planMember 50 = .ok (.iaload, 1) := by decide +kernel
theorem d_Bins_planMember_51 : decode b_Bins_planMember 51 = .ok (.istore_n 3, 1) := by decide +kernel
theorem d_Bins_planMember_52 : decode b_Bins_planMember 52 = .ok (.iload_n 2, 1) := by decide +kernel
theorem d_Bins_planMember_53 : decode b_Bins_planMember 53 = .ok (.aload_n 0, 1) := by decide +kernel
theorem d_Bins_planMember_54 : decode b_Bins_planMember 54 = .ok (.getfield 15, 3) := by decide +kernel
theorem d_Bins_planMember_57 : decode b_Bins_planMember 57 = .ok (.iload 5, 2) := by decide +kernel
theorem d_Bins_planMember_59 : decode b_Bins_planMember 59 = .ok (.iaload, 1) := by decide +kernel
theorem d_Bins_planMember_60 : decode b_Bins_planMember 60 = .ok (.iconst (-1), 1) := by decide +kernel
theorem d_Bins_planMember_61 : decode b_Bins_planMember 61 = .ok (.ixor, 1) := by decide +kernel
theorem d_Bins_planMember_62 : decode b_Bins_planMember 62 = .ok (.iand, 1) := by decide +kernel
theorem d_Bins_planMember_63 : decode b_Bins_planMember 63 = .ok (.istore_n 2, 1) := by decide +kernel
theorem d_Bins_planMember_64 : decode b_Bins_planMember 64 = .ok (.iinc 4 1, 3) := by decide +kernel
theorem d_Bins_planMember_67 : decode b_Bins_planMember 67 = .ok (.goto (-43), 3) := by decide +kernel
theorem d_Bins_planMember_70 : decode b_Bins_planMember 70 = .ok (.iload_n 3, 1) := by decide +kernel
theorem d_Bins_planMember_71 : decode b_Bins_planMember 71 = .ok (.ireturn, 1) := by decide +kernel
set_option maxHeartbeats 4000000 in
set_option maxRecDepth 100000 in
theorem c_Bins_planMember (l : Launch) {S : St} {x1 : Int32} {r : Int32} (h : f_Bins_planMember S x1 = some r) : MI cw l y_Bins_planMember b_Bins_planMember 6 (some .int) 1 23 0 0 (fun ad => [.ref (ad 8 0), .int x1]) aT aE S r S := by
  refine MI_of "LawfulLots$BinTable" rfl (by decide) (fun _ => Nat.le_of_ble_eq_true rfl) ?_
  intro p e s m args below meth c D ar ad A Q ls hP F hK hA hw hl hQ
  have hl : lv_has ls 6 [(0, .ref (ad 8 0)), (1, .int x1)] := hl
  obtain ⟨X_0, eX_0⟩ : ∃ X : Int32 → Prop, X = (fun q => ∀ (H : Heap) (locs : List Loc) (pc : Nat) (ls : Array Slot), decode b_Bins_planMember pc = .ok (.ireturn, 1) → Bw cw D ar A s.heap H locs ad S → W p l e (RM 1 23) s m args below meth c H locs 0 0 Q (F0 m pc ls [.int q])) := ⟨_, rfl⟩
  have key : ∀ (H : Heap) (locs : List Loc), Bw cw D ar A s.heap H locs ad S → ∀ o, f_Bins_planMember S x1 = some o → X_0 o → W p l e (RM 1 23) s m args below meth c H locs 0 0 Q (F0 m 0 ls []) := by
    intro H locs hw o h ho
    unfold f_Bins_planMember at h
    have J_70 : ∀ (x3 : Int32) (H : Heap) (locs : List Loc) (ls : Array Slot), Bw cw D ar A s.heap H locs ad S → lv_has ls 6 [(3, .int x3)] → ∀ o, Bins_planMember_j70 S x3 = some o → X_0 o → W p l e (RM 1 23) s m args below meth c H locs 0 0 Q (F0 m 70 ls []) := by
      intro x3 H locs ls hw hl o h ho
      unfold Bins_planMember_j70 at h
      refine lv_iload_n F.1 F.2.1 d_Bins_planMember_70 rfl (lv_at hl 0 rfl) ?_
      cases h
      have ho : X_0 _ := ho
      rw [eX_0] at ho
      exact ho H locs _ ls d_Bins_planMember_71 hw
    have J_12 : ∀ (H : Heap) (locs : List Loc) (ls : Array Slot), Bw cw D ar A s.heap H locs ad S → lv_has ls 6 [] → ∀ o, Bins_planMember_j12 S = some o → X_0 o → W p l e (RM 1 23) s m args below meth c H locs 0 0 Q (F0 m 12 ls []) := by
      intro H locs ls hw hl o h ho
      unfold Bins_planMember_j12 at h
      refine lv_iconst (v := -1) F.1 F.2.1 d_Bins_planMember_12 (by decide) ?_
      cases h
      have ho : X_0 _ := ho
      rw [eX_0] at ho
      exact ho H locs _ ls d_Bins_planMember_13 hw
    refine lv_iload_n F.1 F.2.1 d_Bins_planMember_0 rfl (lv_at hl 1 rfl) ?_
    refine lv_if_lt (tgt := 12) F.1 F.2.1 d_Bins_planMember_1 (by decide) (fun c_1 => ?_) (fun c_1 => ?_)
    · replace h := ip c_1 h
      exact J_12 H locs ls hw (lv_sub hl [] rfl) o h ho
    · replace h := iq c_1 h
      refine lv_iload_n F.1 F.2.1 d_Bins_planMember_4 rfl (lv_at hl 1 rfl) ?_
      refine lv_aload_n F.1 F.2.1 d_Bins_planMember_5 rfl (lv_at hl 0 rfl) ?_
      obtain ⟨v_3, hc_2, h⟩ := bd_ex h
      refine cV_i F hA rfl hK hw (c_Bins_planSize l hc_2) trivial rfl (good_V lk_835 lk_824 lk_825 lk_8 lk_826) (cr_8 hK hw) hd_Bins_planSize ⟨Nat.le_of_ble_eq_true rfl, Nat.le_of_ble_eq_true rfl⟩ rfl hl.1 rfl (Nat.le_of_ble_eq_true rfl) d_Bins_planMember_6 ⟨(Nat.zero_le _), (Nat.zero_le _)⟩ (fun H locs hw => ?_)
      refine lv_icmp_lt (tgt := 14) F.1 F.2.1 d_Bins_planMember_9 (by decide) (fun c_4 => ?_) (fun c_4 => ?_)
      · replace h := ip c_4 h
        refine lv_aload_n F.1 F.2.1 d_Bins_planMember_14 rfl (lv_at hl 0 rfl) ?_
        refine cg_8_7 F hK hw lk_281 d_Bins_planMember_15 ?_
        obtain ⟨x2_5, ex2_5, h⟩ := nm_ex h
        refine lv_nm ex2_5 ?_
        refine lv_istore_n (lv' := [(2, .int x2_5), (0, .ref (ad 8 0)), (1, .int x1)]) F.1 F.2.1 d_Bins_planMember_18 rfl hl (by decide) rfl (fun ls hl => ?_)
        refine lv_iconst (v := -1) F.1 F.2.1 d_Bins_planMember_19 (by decide) ?_
        refine lv_istore_n (lv' := [(3, .int (-1 : Int32)), (2, .int x2_5), (0, .ref (ad 8 0)), (1, .int x1)]) F.1 F.2.1 d_Bins_planMember_20 rfl hl (by decide) rfl (fun ls hl => ?_)
        refine lv_iconst (v := 0) F.1 F.2.1 d_Bins_planMember_21 (by decide) ?_
        refine lv_istore (lv' := [(4, .int (0 : Int32)), (3, .int (-1 : Int32)), (2, .int x2_5), (0, .ref (ad 8 0)), (1, .int x1)]) F.1 F.2.1 d_Bins_planMember_22 hl (by decide) rfl (fun ls hl => ?_)
        obtain ⟨x3_15, hc_16, h⟩ := bd_ex h
        obtain ⟨X_24, eX_24⟩ : ∃ X : Int32 → Prop, X = (fun q => ∀ (H : Heap) (locs : List Loc) (ls : Array Slot), Bw cw D ar A s.heap H locs ad S → lv_has ls 6 [(3, .int q)] → W p l e (RM 1 23) s m args below meth c H locs 0 0 Q (F0 m 70 ls [])) := ⟨_, rfl⟩
        have hX_24 : X_24 x3_15 := by
          rw [eX_24]
          intro H locs ls hw hl
          exact J_70 x3_15 H locs ls hw (lv_sub hl [0] rfl) o h ho
        obtain ⟨P_24, eP_24⟩ : ∃ P : (Int32 × Int32 × Int32) → Prop, P = (fun q => ∀ (H : Heap) (locs : List Loc) (ls : Array Slot), Bw cw D ar A s.heap H locs ad S → lv_has ls 6 [(0, .ref (ad 8 0)), (1, .int x1), (2, .int q.1), (3, .int q.2.1), (4, .int q.2.2)] → W p l e (RM 1 23) s m args below meth c H locs 0 0 Q (F0 m 24 ls [])) := ⟨_, rfl⟩
        have hL_24 : P_24 (x2_5, (-1 : Int32), (0 : Int32)) := by
          refine wh_gp (P := P_24) (X := X_24) hc_16 hX_24 ?_
          clear h
          intro q o h ho
          obtain ⟨x2, x3, x4⟩ := q
          have h : Bins_planMember_l24 S x1 x2 x3 x4 = some o := h
          unfold Bins_planMember_l24 at h
          rw [eP_24]
          intro H locs ls hw hl
          refine lv_iload F.1 F.2.1 d_Bins_planMember_24 (lv_at hl 4 rfl) ?_
          refine lv_iload_n F.1 F.2.1 d_Bins_planMember_26 rfl (lv_at hl 1 rfl) ?_
          refine lv_icmp_gt (tgt := 70) F.1 F.2.1 d_Bins_planMember_27 (by decide) (fun c_6 => ?_) (fun c_6 => ?_)
          · replace h := ip c_6 h
            cases h
            have ho : X_24 _ := ho
            rw [eX_24] at ho
            exact ho H locs ls hw (lv_sub hl [3] rfl)
          · replace h := iq c_6 h
            refine lv_iload F.1 F.2.1 d_Bins_planMember_30 (lv_at hl 4 rfl) ?_
            refine lv_bipush (v := 8) F.1 F.2.1 d_Bins_planMember_32 (by decide) ?_
            refine lv_icmp_ge (tgt := 70) F.1 F.2.1 d_Bins_planMember_34 (by decide) (fun c_7 => ?_) (fun c_7 => ?_)
            · replace h := ip c_7 h
              cases h
              have ho : X_24 _ := ho
              rw [eX_24] at ho
              exact ho H locs ls hw (lv_sub hl [3] rfl)
            · replace h := iq c_7 h
              refine lv_aload_n F.1 F.2.1 d_Bins_planMember_37 rfl (lv_at hl 0 rfl) ?_
              refine lv_iload_n F.1 F.2.1 d_Bins_planMember_38 rfl (lv_at hl 2 rfl) ?_
              obtain ⟨v_9, hc_8, h⟩ := bd_ex h
              refine cV_i F hA rfl hK hw (c_Bins_leastStep l hc_8) trivial rfl (good_V lk_836 lk_838 ls_38 lk_8 lk_839) (cr_8 hK hw) hd_Bins_leastStep ⟨Nat.le_of_ble_eq_true rfl, Nat.le_of_ble_eq_true rfl⟩ rfl hl.1 rfl (Nat.le_of_ble_eq_true rfl) d_Bins_planMember_39 ⟨(Nat.zero_le _), (Nat.zero_le _)⟩ (fun H locs hw => ?_)
              refine lv_istore (lv' := [(5, .int v_9), (0, .ref (ad 8 0)), (1, .int x1), (2, .int x2), (3, .int x3), (4, .int x4)]) F.1 F.2.1 d_Bins_planMember_42 hl (by decide) rfl (fun ls hl => ?_)
              refine lv_aload_n F.1 F.2.1 d_Bins_planMember_44 rfl (lv_at hl 1 rfl) ?_
              refine cg_8_2 F hK hw lk_276 d_Bins_planMember_45 ?_
              refine lv_iload F.1 F.2.1 d_Bins_planMember_48 (lv_at hl 0 rfl) ?_
              obtain ⟨hi_10, h⟩ := gd_ex h
              refine cl_8_2 F hK hw hi_10 d_Bins_planMember_50 ?_
              obtain ⟨x3_11, ex3_11, h⟩ := nm_ex h
              refine lv_nm ex3_11 ?_
              refine lv_istore_n (lv' := [(3, .int x3_11), (5, .int v_9), (0, .ref (ad 8 0)), (1, .int x1), (2, .int x2), (4, .int x4)]) F.1 F.2.1 d_Bins_planMember_51 rfl hl (by decide) rfl (fun ls hl => ?_)
              refine lv_iload_n F.1 F.2.1 d_Bins_planMember_52 rfl (lv_at hl 4 rfl) ?_
              refine lv_aload_n F.1 F.2.1 d_Bins_planMember_53 rfl (lv_at hl 2 rfl) ?_
              refine cg_8_1 F hK hw lk_275 d_Bins_planMember_54 ?_
              refine lv_iload F.1 F.2.1 d_Bins_planMember_57 (lv_at hl 1 rfl) ?_
              obtain ⟨hi_12, h⟩ := gd_ex h
              refine cl_8_1 F hK hw hi_12 d_Bins_planMember_59 ?_
              refine lv_iconst (v := -1) F.1 F.2.1 d_Bins_planMember_60 (by decide) ?_
              refine lv_ixor F.1 F.2.1 d_Bins_planMember_61 ?_
              refine lv_iand F.1 F.2.1 d_Bins_planMember_62 ?_
              obtain ⟨x2_13, ex2_13, h⟩ := nm_ex h
              refine lv_nm ex2_13 ?_
              refine lv_istore_n (lv' := [(2, .int x2_13), (3, .int x3_11), (5, .int v_9), (0, .ref (ad 8 0)), (1, .int x1), (4, .int x4)]) F.1 F.2.1 d_Bins_planMember_63 rfl hl (by decide) rfl (fun ls hl => ?_)
              obtain ⟨x4_14, ex4_14, h⟩ := nm_ex h
              refine lv_iinc (v := x4_14) (lv' := [(4, .int x4_14), (2, .int x2_13), (3, .int x3_11), (5, .int v_9), (0, .ref (ad 8 0)), (1, .int x1)]) F.1 F.2.1 d_Bins_planMember_64 hl (k := 5) rfl (by rw [ex4_14]; rfl) (by decide) rfl (fun ls hl => ?_)
              refine lv_goto (tgt := 24) F.1 F.2.1 d_Bins_planMember_67 (by decide) ?_
              cases h
              have ho : P_24 _ := ho
              rw [eP_24] at ho
              exact ho H locs ls hw (lv_sub hl [4, 5, 1, 2, 0] rfl)
        rw [eP_24] at hL_24
        exact hL_24 H locs ls hw (lv_sub hl [3, 4, 2, 1, 0] rfl)
      · replace h := iq c_4 h
        exact J_12 H locs ls hw (lv_sub hl [] rfl) o h ho
  exact key _ _ hw _ h (by rw [eX_0]; exact fun H locs pc ls hd hw => hQ H locs pc ls ad rfl hd hw)
theorem d_Book_spell_0 : decode b_Book_spell 0 = .ok (.iconst 0, 1) := by decide +kernel
theorem d_Book_spell_1 : decode b_Book_spell 1 = .ok (.istore_n 3, 1) := by decide +kernel
theorem d_Book_spell_2 : decode b_Book_spell 2 = .ok (.iload_n 3, 1) := by decide +kernel
theorem d_Book_spell_3 : decode b_Book_spell 3 = .ok (.aload_n 0, 1) := by decide +kernel
theorem d_Book_spell_4 : decode b_Book_spell 4 = .ok (.getfield 43, 3) := by decide +kernel
theorem d_Book_spell_7 : decode b_Book_spell 7 = .ok (.if_icmp .ge 24, 3) := by decide +kernel
theorem d_Book_spell_10 : decode b_Book_spell 10 = .ok (.iload_n 3, 1) := by decide +kernel
theorem d_Book_spell_11 : decode b_Book_spell 11 = .ok (.aload_n 2, 1) := by decide +kernel
theorem d_Book_spell_12 : decode b_Book_spell 12 = .ok (.arraylength, 1) := by decide +kernel
theorem d_Book_spell_13 : decode b_Book_spell 13 = .ok (.if_icmp .ge 18, 3) := by decide +kernel
theorem d_Book_spell_16 : decode b_Book_spell 16 = .ok (.aload_n 2, 1) := by decide +kernel
theorem d_Book_spell_17 : decode b_Book_spell 17 = .ok (.iload_n 3, 1) := by decide +kernel
theorem d_Book_spell_18 : decode b_Book_spell 18 = .ok (.aload_n 0, 1) := by decide +kernel
theorem d_Book_spell_19 : decode b_Book_spell 19 = .ok (.iload_n 1, 1) := by decide +kernel
theorem d_Book_spell_20 : decode b_Book_spell 20 = .ok (.iload_n 3, 1) := by decide +kernel
theorem d_Book_spell_21 : decode b_Book_spell 21 = .ok (.invokevirtual 73, 3) := by decide +kernel
theorem d_Book_spell_24 : decode b_Book_spell 24 = .ok (.iastore, 1) := by decide +kernel
theorem d_Book_spell_25 : decode b_Book_spell 25 = .ok (.iinc 3 1, 3) := by decide +kernel
theorem d_Book_spell_28 : decode b_Book_spell 28 = .ok (.goto (-26), 3) := by decide +kernel
theorem d_Book_spell_31 : decode b_Book_spell 31 = .ok (.return_, 1) := by decide +kernel
set_option maxHeartbeats 4000000 in
set_option maxRecDepth 100000 in
theorem c_Book_spell_5_9_2 (l : Launch) {S : St} {x1 : Int32} {S' : St} (h : f_Book_spell 5 9 2 S x1 = some S') : MV cw l y_Book_spell b_Book_spell 4 none 1 23 0 0 (fun ad => [.ref (ad 5 0), .int x1, .ref (ad 9 3)]) aT aE S S' := by
  refine MV_of "LawfulLots$Book" rfl (by decide) (fun _ => Nat.le_of_ble_eq_true rfl) ?_
  intro p e s m args below meth c D ar ad A Q ls hP F hK hA hw hl hQ
  have hl : lv_has ls 4 [(0, .ref (ad 5 0)), (1, .int x1), (2, .ref (ad 9 3))] := hl
  obtain ⟨X_0, eX_0⟩ : ∃ X : St → Prop, X = (fun q => ∀ (H : Heap) (locs : List Loc) (pc : Nat) (ls : Array Slot), decode b_Book_spell pc = .ok (.return_, 1) → Bw cw D ar A s.heap H locs ad q → W p l e (RM 1 23) s m args below meth c H locs 0 0 Q (F0 m pc ls [])) := ⟨_, rfl⟩
  have key : ∀ (H : Heap) (locs : List Loc), Bw cw D ar A s.heap H locs ad S → ∀ o, f_Book_spell 5 9 2 S x1 = some o → X_0 o → W p l e (RM 1 23) s m args below meth c H locs 0 0 Q (F0 m 0 ls []) := by
    intro H locs hw o h ho
    unfold f_Book_spell at h
    have J_31 : ∀ (S : St) (H : Heap) (locs : List Loc) (ls : Array Slot), Bw cw D ar A s.heap H locs ad S → lv_has ls 4 [] → ∀ o, Book_spell_j31 5 9 2 S = some o → X_0 o → W p l e (RM 1 23) s m args below meth c H locs 0 0 Q (F0 m 31 ls []) := by
      intro S H locs ls hw hl o h ho
      unfold Book_spell_j31 at h
      cases h
      have ho : X_0 _ := ho
      rw [eX_0] at ho
      exact ho H locs _ ls d_Book_spell_31 hw
    refine lv_iconst (v := 0) F.1 F.2.1 d_Book_spell_0 (by decide) ?_
    refine lv_istore_n (lv' := [(3, .int (0 : Int32)), (0, .ref (ad 5 0)), (1, .int x1), (2, .ref (ad 9 3))]) F.1 F.2.1 d_Book_spell_1 rfl hl (by decide) rfl (fun ls hl => ?_)
    obtain ⟨S_8, hc_9, h⟩ := bd_ex h
    obtain ⟨X_2, eX_2⟩ : ∃ X : St → Prop, X = (fun q => ∀ (H : Heap) (locs : List Loc) (ls : Array Slot), Bw cw D ar A s.heap H locs ad q → lv_has ls 4 [] → W p l e (RM 1 23) s m args below meth c H locs 0 0 Q (F0 m 31 ls [])) := ⟨_, rfl⟩
    have hX_2 : X_2 S_8 := by
      rw [eX_2]
      intro H locs ls hw hl
      exact J_31 S_8 H locs ls hw (lv_sub hl [] rfl) o h ho
    obtain ⟨P_2, eP_2⟩ : ∃ P : (St × Int32) → Prop, P = (fun q => ∀ (H : Heap) (locs : List Loc) (ls : Array Slot), Bw cw D ar A s.heap H locs ad q.1 → lv_has ls 4 [(0, .ref (ad 5 0)), (1, .int x1), (2, .ref (ad 9 3)), (3, .int q.2)] → W p l e (RM 1 23) s m args below meth c H locs 0 0 Q (F0 m 2 ls [])) := ⟨_, rfl⟩
    have hL_2 : P_2 (S, (0 : Int32)) := by
      refine wh_gp (P := P_2) (X := X_2) hc_9 hX_2 ?_
      clear h
      intro q o h ho
      obtain ⟨S, x3⟩ := q
      have h : Book_spell_l2 5 9 2 x1 S x3 = some o := h
      unfold Book_spell_l2 at h
      rw [eP_2]
      intro H locs ls hw hl
      refine lv_iload_n F.1 F.2.1 d_Book_spell_2 rfl (lv_at hl 3 rfl) ?_
      refine lv_aload_n F.1 F.2.1 d_Book_spell_3 rfl (lv_at hl 0 rfl) ?_
      refine cg_5_10 F hK hw lk_82 d_Book_spell_4 ?_
      refine lv_icmp_ge (tgt := 31) F.1 F.2.1 d_Book_spell_7 (by decide) (fun c_1 => ?_) (fun c_1 => ?_)
      · replace h := ip c_1 h
        cases h
        have ho : X_2 _ := ho
        rw [eX_2] at ho
        exact ho H locs ls hw (lv_sub hl [] rfl)
      · replace h := iq c_1 h
        refine lv_iload_n F.1 F.2.1 d_Book_spell_10 rfl (lv_at hl 3 rfl) ?_
        refine lv_aload_n F.1 F.2.1 d_Book_spell_11 rfl (lv_at hl 2 rfl) ?_
        refine cn_9_2 F hK hw d_Book_spell_12 ?_
        refine lv_icmp_ge (tgt := 31) F.1 F.2.1 d_Book_spell_13 (by decide) (fun c_2 => ?_) (fun c_2 => ?_)
        · replace h := ip c_2 h
          cases h
          have ho : X_2 _ := ho
          rw [eX_2] at ho
          exact ho H locs ls hw (lv_sub hl [] rfl)
        · replace h := iq c_2 h
          refine lv_aload_n F.1 F.2.1 d_Book_spell_16 rfl (lv_at hl 2 rfl) ?_
          refine lv_iload_n F.1 F.2.1 d_Book_spell_17 rfl (lv_at hl 3 rfl) ?_
          refine lv_aload_n F.1 F.2.1 d_Book_spell_18 rfl (lv_at hl 0 rfl) ?_
          refine lv_iload_n F.1 F.2.1 d_Book_spell_19 rfl (lv_at hl 1 rfl) ?_
          refine lv_iload_n F.1 F.2.1 d_Book_spell_20 rfl (lv_at hl 3 rfl) ?_
          obtain ⟨v_4, hc_3, h⟩ := bd_ex h
          refine cV_i F hA rfl hK hw (c_Book_valueIn l hc_3) trivial rfl (good_V lk_905 lk_665 lk_666 lk_4 lk_667) (cr_5 hK hw) hd_Book_valueIn ⟨Nat.le_of_ble_eq_true rfl, Nat.le_of_ble_eq_true rfl⟩ rfl hl.1 rfl (Nat.le_of_ble_eq_true rfl) d_Book_spell_21 ⟨(Nat.zero_le _), (Nat.zero_le _)⟩ (fun H locs hw => ?_)
          obtain ⟨hi_5, h⟩ := gd_ex h
          obtain ⟨S_6, eS_6, h⟩ := nm_ex h
          refine cs_9_2 F hK hw hi_5 d_Book_spell_24 eS_6 (fun H locs hw => ?_)
          obtain ⟨x3_7, ex3_7, h⟩ := nm_ex h
          refine lv_iinc (v := x3_7) (lv' := [(3, .int x3_7), (0, .ref (ad 5 0)), (1, .int x1), (2, .ref (ad 9 3))]) F.1 F.2.1 d_Book_spell_25 hl (k := 3) rfl (by rw [ex3_7]; rfl) (by decide) rfl (fun ls hl => ?_)
          refine lv_goto (tgt := 2) F.1 F.2.1 d_Book_spell_28 (by decide) ?_
          cases h
          have ho : P_2 _ := ho
          rw [eP_2] at ho
          exact ho H locs ls hw (lv_sub hl [1, 2, 3, 0] rfl)
    rw [eP_2] at hL_2
    exact hL_2 H locs ls hw (lv_sub hl [1, 2, 3, 0] rfl)
  exact key _ _ hw _ h (by rw [eX_0]; exact fun H locs pc ls hd hw => hQ H locs pc ls ad rfl hd hw)
set_option maxHeartbeats 4000000 in
set_option maxRecDepth 100000 in
theorem c_Book_spell_5_9_1 (l : Launch) {S : St} {x1 : Int32} {S' : St} (h : f_Book_spell 5 9 1 S x1 = some S') : MV cw l y_Book_spell b_Book_spell 4 none 1 23 0 0 (fun ad => [.ref (ad 5 0), .int x1, .ref (ad 9 2)]) aT aE S S' := by
  refine MV_of "LawfulLots$Book" rfl (by decide) (fun _ => Nat.le_of_ble_eq_true rfl) ?_
  intro p e s m args below meth c D ar ad A Q ls hP F hK hA hw hl hQ
  have hl : lv_has ls 4 [(0, .ref (ad 5 0)), (1, .int x1), (2, .ref (ad 9 2))] := hl
  obtain ⟨X_0, eX_0⟩ : ∃ X : St → Prop, X = (fun q => ∀ (H : Heap) (locs : List Loc) (pc : Nat) (ls : Array Slot), decode b_Book_spell pc = .ok (.return_, 1) → Bw cw D ar A s.heap H locs ad q → W p l e (RM 1 23) s m args below meth c H locs 0 0 Q (F0 m pc ls [])) := ⟨_, rfl⟩
  have key : ∀ (H : Heap) (locs : List Loc), Bw cw D ar A s.heap H locs ad S → ∀ o, f_Book_spell 5 9 1 S x1 = some o → X_0 o → W p l e (RM 1 23) s m args below meth c H locs 0 0 Q (F0 m 0 ls []) := by
    intro H locs hw o h ho
    unfold f_Book_spell at h
    have J_31 : ∀ (S : St) (H : Heap) (locs : List Loc) (ls : Array Slot), Bw cw D ar A s.heap H locs ad S → lv_has ls 4 [] → ∀ o, Book_spell_j31 5 9 1 S = some o → X_0 o → W p l e (RM 1 23) s m args below meth c H locs 0 0 Q (F0 m 31 ls []) := by
      intro S H locs ls hw hl o h ho
      unfold Book_spell_j31 at h
      cases h
      have ho : X_0 _ := ho
      rw [eX_0] at ho
      exact ho H locs _ ls d_Book_spell_31 hw
    refine lv_iconst (v := 0) F.1 F.2.1 d_Book_spell_0 (by decide) ?_
    refine lv_istore_n (lv' := [(3, .int (0 : Int32)), (0, .ref (ad 5 0)), (1, .int x1), (2, .ref (ad 9 2))]) F.1 F.2.1 d_Book_spell_1 rfl hl (by decide) rfl (fun ls hl => ?_)
    obtain ⟨S_8, hc_9, h⟩ := bd_ex h
    obtain ⟨X_2, eX_2⟩ : ∃ X : St → Prop, X = (fun q => ∀ (H : Heap) (locs : List Loc) (ls : Array Slot), Bw cw D ar A s.heap H locs ad q → lv_has ls 4 [] → W p l e (RM 1 23) s m args below meth c H locs 0 0 Q (F0 m 31 ls [])) := ⟨_, rfl⟩
    have hX_2 : X_2 S_8 := by
      rw [eX_2]
      intro H locs ls hw hl
      exact J_31 S_8 H locs ls hw (lv_sub hl [] rfl) o h ho
    obtain ⟨P_2, eP_2⟩ : ∃ P : (St × Int32) → Prop, P = (fun q => ∀ (H : Heap) (locs : List Loc) (ls : Array Slot), Bw cw D ar A s.heap H locs ad q.1 → lv_has ls 4 [(0, .ref (ad 5 0)), (1, .int x1), (2, .ref (ad 9 2)), (3, .int q.2)] → W p l e (RM 1 23) s m args below meth c H locs 0 0 Q (F0 m 2 ls [])) := ⟨_, rfl⟩
    have hL_2 : P_2 (S, (0 : Int32)) := by
      refine wh_gp (P := P_2) (X := X_2) hc_9 hX_2 ?_
      clear h
      intro q o h ho
      obtain ⟨S, x3⟩ := q
      have h : Book_spell_l2 5 9 1 x1 S x3 = some o := h
      unfold Book_spell_l2 at h
      rw [eP_2]
      intro H locs ls hw hl
      refine lv_iload_n F.1 F.2.1 d_Book_spell_2 rfl (lv_at hl 3 rfl) ?_
      refine lv_aload_n F.1 F.2.1 d_Book_spell_3 rfl (lv_at hl 0 rfl) ?_
      refine cg_5_10 F hK hw lk_82 d_Book_spell_4 ?_
      refine lv_icmp_ge (tgt := 31) F.1 F.2.1 d_Book_spell_7 (by decide) (fun c_1 => ?_) (fun c_1 => ?_)
      · replace h := ip c_1 h
        cases h
        have ho : X_2 _ := ho
        rw [eX_2] at ho
        exact ho H locs ls hw (lv_sub hl [] rfl)
      · replace h := iq c_1 h
        refine lv_iload_n F.1 F.2.1 d_Book_spell_10 rfl (lv_at hl 3 rfl) ?_
        refine lv_aload_n F.1 F.2.1 d_Book_spell_11 rfl (lv_at hl 2 rfl) ?_
        refine cn_9_1 F hK hw d_Book_spell_12 ?_
        refine lv_icmp_ge (tgt := 31) F.1 F.2.1 d_Book_spell_13 (by decide) (fun c_2 => ?_) (fun c_2 => ?_)
        · replace h := ip c_2 h
          cases h
          have ho : X_2 _ := ho
          rw [eX_2] at ho
          exact ho H locs ls hw (lv_sub hl [] rfl)
        · replace h := iq c_2 h
          refine lv_aload_n F.1 F.2.1 d_Book_spell_16 rfl (lv_at hl 2 rfl) ?_
          refine lv_iload_n F.1 F.2.1 d_Book_spell_17 rfl (lv_at hl 3 rfl) ?_
          refine lv_aload_n F.1 F.2.1 d_Book_spell_18 rfl (lv_at hl 0 rfl) ?_
          refine lv_iload_n F.1 F.2.1 d_Book_spell_19 rfl (lv_at hl 1 rfl) ?_
          refine lv_iload_n F.1 F.2.1 d_Book_spell_20 rfl (lv_at hl 3 rfl) ?_
          obtain ⟨v_4, hc_3, h⟩ := bd_ex h
          refine cV_i F hA rfl hK hw (c_Book_valueIn l hc_3) trivial rfl (good_V lk_905 lk_665 lk_666 lk_4 lk_667) (cr_5 hK hw) hd_Book_valueIn ⟨Nat.le_of_ble_eq_true rfl, Nat.le_of_ble_eq_true rfl⟩ rfl hl.1 rfl (Nat.le_of_ble_eq_true rfl) d_Book_spell_21 ⟨(Nat.zero_le _), (Nat.zero_le _)⟩ (fun H locs hw => ?_)
          obtain ⟨hi_5, h⟩ := gd_ex h
          obtain ⟨S_6, eS_6, h⟩ := nm_ex h
          refine cs_9_1 F hK hw hi_5 d_Book_spell_24 eS_6 (fun H locs hw => ?_)
          obtain ⟨x3_7, ex3_7, h⟩ := nm_ex h
          refine lv_iinc (v := x3_7) (lv' := [(3, .int x3_7), (0, .ref (ad 5 0)), (1, .int x1), (2, .ref (ad 9 2))]) F.1 F.2.1 d_Book_spell_25 hl (k := 3) rfl (by rw [ex3_7]; rfl) (by decide) rfl (fun ls hl => ?_)
          refine lv_goto (tgt := 2) F.1 F.2.1 d_Book_spell_28 (by decide) ?_
          cases h
          have ho : P_2 _ := ho
          rw [eP_2] at ho
          exact ho H locs ls hw (lv_sub hl [1, 2, 3, 0] rfl)
    rw [eP_2] at hL_2
    exact hL_2 H locs ls hw (lv_sub hl [1, 2, 3, 0] rfl)
  exact key _ _ hw _ h (by rw [eX_0]; exact fun H locs pc ls hd hw => hQ H locs pc ls ad rfl hd hw)
theorem d_Machine_run_0 : decode b_Machine_run 0 = .ok (.iload_n 2, 1) := by decide +kernel
theorem d_Machine_run_1 : decode b_Machine_run 1 = .ok (.ifCond .lt 24, 3) := by decide +kernel
theorem d_Machine_run_4 : decode b_Machine_run 4 = .ok (.iload_n 2, 1) := by decide +kernel
theorem d_Machine_run_5 : decode b_Machine_run 5 = .ok (.bipush 48, 2) := by decide +kernel
theorem d_Machine_run_7 : decode b_Machine_run 7 = .ok (.if_icmp .ge 18, 3) := by decide +kernel
theorem d_Machine_run_10 : decode b_Machine_run 10 = .ok (.aload_n 3, 1) := by decide +kernel
theorem d_Machine_run_11 : decode b_Machine_run 11 = .ok (.arraylength, 1) := by decide +kernel
theorem d_Machine_run_12 : decode b_Machine_run 12 = .ok (.bipush 8, 2) := by decide +kernel
theorem d_Machine_run_14 : decode b_Machine_run 14 = .ok (.if_icmp .ne 11, 3) := by decide +kernel
theorem d_Machine_run_17 : decode b_Machine_run 17 = .ok (.aload 4, 2) := by decide +kernel
theorem d_Machine_run_19 : decode b_Machine_run 19 = .ok (.arraylength, 1) := by decide +kernel
theorem d_Machine_run_20 : decode b_Machine_run 20 = .ok (.bipush 8, 2) := by decide +kernel
theorem d_Machine_run_22 : decode b_Machine_run 22 = .ok (.if_icmp .eq 5, 3) := by decide +kernel
theorem d_Machine_run_25 : decode b_Machine_run 25 = .ok (.iconst 0, 1) := by decide +kernel
theorem d_Machine_run_26 : decode b_Machine_run 26 = .ok (.ireturn, 1) := by decide +kernel
theorem d_Machine_run_27 : decode b_Machine_run 27 = .ok (.aload_n 1, 1) := by decide +kernel
theorem d_Machine_run_28 : decode b_Machine_run 28 = .ok (.getfield 15, 3) := by decide +kernel
theorem d_Machine_run_31 : decode b_Machine_run 31 = .ok (.astore 5, 2) := by decide +kernel
theorem d_Machine_run_33 : decode b_Machine_run 33 = .ok (.aload_n 1, 1) := by decide +kernel
theorem d_Machine_run_34 : decode b_Machine_run 34 = .ok (.getfield 20, 3) := by decide +kernel
theorem d_Machine_run_37 : decode b_Machine_run 37 = .ok (.iload_n 2, 1) := by decide +kernel
theorem d_Machine_run_38 : decode b_Machine_run 38 = .ok (.iaload, 1) := by decide +kernel
theorem d_Machine_run_39 : decode b_Machine_run 39 = .ok (.istore 6, 2) := by decide +kernel
theorem d_Machine_run_41 : decode b_Machine_run 41 = .ok (.iconst 0, 1) := by decide +kernel
theorem d_Machine_run_42 : decode b_Machine_run 42 = .ok (.istore 7, 2) := by decide +kernel
theorem d_Machine_run_44 : decode b_Machine_run 44 = .ok (.iconst 0, 1) := by decide +kernel
theorem d_Machine_run_45 : decode b_Machine_run 45 = .ok (.istore 8, 2) := by decide +kernel
theorem d_Machine_run_47 : decode b_Machine_run 47 = .ok (.aload_n 1, 1) := by decide +kernel
theorem d_Machine_run_48 : decode b_Machine_run 48 = .ok (.getfield 23, 3) := by decide +kernel
theorem d_Machine_run_51 : decode b_Machine_run 51 = .ok (.iload_n 2, 1) := by decide +kernel
theorem d_Machine_run_52 : decode b_Machine_run 52 = .ok (.iaload, 1) := by decide +kernel
theorem d_Machine_run_53 : decode b_Machine_run 53 = .ok (.istore 9, 2) := by decide +kernel
theorem d_Machine_run_55 : decode b_Machine_run 55 = .ok (.iload 9, 2) := by decide +kernel
theorem d_Machine_run_57 : decode b_Machine_run 57 = .ok (.ifCond .lt 455, 3) := by decide +kernel
theorem d_Machine_run_60 : decode b_Machine_run 60 = .ok (.iload 9, 2) := by decide +kernel
theorem d_Machine_run_62 : decode b_Machine_run 62 = .ok (.iload 6, 2) := by decide +kernel
theorem d_Machine_run_64 : decode b_Machine_run 64 = .ok (.if_icmp .ge 448, 3) := by decide +kernel
theorem d_Machine_run_67 : decode b_Machine_run 67 = .ok (.iload 9, 2) := by decide +kernel
theorem d_Machine_run_69 : decode b_Machine_run 69 = .ok (.aload 5, 2) := by decide +kernel
theorem d_Machine_run_71 : decode b_Machine_run 71 = .ok (.arraylength, 1) := by decide +kernel
theorem d_Machine_run_72 : decode b_Machine_run 72 = .ok (.if_icmp .ge 440, 3) := by decide +kernel
theorem d_Machine_run_75 : decode b_Machine_run 75 = .ok (.aload 5, 2) := by decide +kernel
theorem d_Machine_run_77 : decode b_Machine_run 77 = .ok (.iload 9, 2) := by decide +kernel
theorem d_Machine_run_79 : decode b_Machine_run 79 = .ok (.iaload, 1) := by decide +kernel
theorem d_Machine_run_80 : decode b_Machine_run 80 = .ok (.istore 10, 2) := by decide +kernel
theorem d_Machine_run_82 : decode b_Machine_run 82 = .ok (.iload 10, 2) := by decide +kernel
theorem d_Machine_run_84 : decode b_Machine_run 84 = .ok (.bipush 31, 2) := by decide +kernel
theorem d_Machine_run_86 : decode b_Machine_run 86 = .ok (.iand, 1) := by decide +kernel
theorem d_Machine_run_87 : decode b_Machine_run 87 = .ok (.tableswitch 413 2 26 #[137, 113, 413, 196, 217, 238, 259, 287, 315, 343, 413, 413, 413, 413, 413, 413, 413, 413, 413, 413, 413, 392, 371, 413, 166], 113) := by decide +kernel
theorem d_Machine_run_200 : decode b_Machine_run 200 = .ok (.aload_n 0, 1) := by decide +kernel
theorem d_Machine_run_201 : decode b_Machine_run 201 = .ok (.getfield 9, 3) := by decide +kernel
theorem d_Machine_run_204 : decode b_Machine_run 204 = .ok (.iload 7, 2) := by decide +kernel
theorem d_Machine_run_206 : decode b_Machine_run 206 = .ok (.iinc 7 1, 3) := by decide +kernel
theorem d_Machine_run_209 : decode b_Machine_run 209 = .ok (.bipush 63, 2) := by decide +kernel
theorem d_Machine_run_211 : decode b_Machine_run 211 = .ok (.iand, 1) := by decide +kernel
theorem d_Machine_run_212 : decode b_Machine_run 212 = .ok (.iload 8, 2) := by decide +kernel
theorem d_Machine_run_214 : decode b_Machine_run 214 = .ok (.iastore, 1) := by decide +kernel
theorem d_Machine_run_215 : decode b_Machine_run 215 = .ok (.iload 10, 2) := by decide +kernel
theorem d_Machine_run_217 : decode b_Machine_run 217 = .ok (.iconst 5, 1) := by decide +kernel
theorem d_Machine_run_218 : decode b_Machine_run 218 = .ok (.ishr, 1) := by decide +kernel
theorem d_Machine_run_219 : decode b_Machine_run 219 = .ok (.istore 8, 2) := by decide +kernel
theorem d_Machine_run_221 : decode b_Machine_run 221 = .ok (.goto 285, 3) := by decide +kernel
theorem d_Machine_run_224 : decode b_Machine_run 224 = .ok (.aload_n 0, 1) := by decide +kernel
theorem d_Machine_run_225 : decode b_Machine_run 225 = .ok (.getfield 9, 3) := by decide +kernel
theorem d_Machine_run_228 : decode b_Machine_run 228 = .ok (.iload 7, 2) := by decide +kernel
theorem d_Machine_run_230 : decode b_Machine_run 230 = .ok (.iinc 7 1, 3) := by decide +kernel
theorem d_Machine_run_233 : decode b_Machine_run 233 = .ok (.bipush 63, 2) := by decide +kernel
theorem d_Machine_run_235 : decode b_Machine_run 235 = .ok (.iand, 1) := by decide +kernel
theorem d_Machine_run_236 : decode b_Machine_run 236 = .ok (.iload 8, 2) := by decide +kernel
theorem d_Machine_run_238 : decode b_Machine_run 238 = .ok (.iastore, 1) := by decide +kernel
theorem d_Machine_run_239 : decode b_Machine_run 239 = .ok (.aload_n 3, 1) := by decide +kernel
theorem d_Machine_run_240 : decode b_Machine_run 240 = .ok (.iload 10, 2) := by decide +kernel
theorem d_Machine_run_242 : decode b_Machine_run 242 = .ok (.iconst 5, 1) := by decide +kernel
theorem d_Machine_run_243 : decode b_Machine_run 243 = .ok (.ishr, 1) := by decide +kernel
theorem d_Machine_run_244 : decode b_Machine_run 244 = .ok (.bipush 7, 2) := by decide +kernel
theorem d_Machine_run_246 : decode b_Machine_run 246 = .ok (.iand, 1) := by decide +kernel
theorem d_Machine_run_247 : decode b_Machine_run 247 = .ok (.iaload, 1) := by decide +kernel
theorem d_Machine_run_248 : decode b_Machine_run 248 = .ok (.istore 8, 2) := by decide +kernel
theorem d_Machine_run_250 : decode b_Machine_run 250 = .ok (.goto 256, 3) := by decide +kernel
theorem d_Machine_run_253 : decode b_Machine_run 253 = .ok (.aload_n 0, 1) := by decide +kernel
theorem d_Machine_run_254 : decode b_Machine_run 254 = .ok (.getfield 9, 3) := by decide +kernel
theorem d_Machine_run_257 : decode b_Machine_run 257 = .ok (.iload 7, 2) := by decide +kernel
theorem d_Machine_run_259 : decode b_Machine_run 259 = .ok (.iinc 7 1, 3) := by decide +kernel
theorem d_Machine_run_262 : decode b_Machine_run 262 = .ok (.bipush 63, 2) := by decide +kernel
theorem d_Machine_run_264 : decode b_Machine_run 264 = .ok (.iand, 1) := by decide +kernel
theorem d_Machine_run_265 : decode b_Machine_run 265 = .ok (.iload 8, 2) := by decide +kernel
theorem d_Machine_run_267 : decode b_Machine_run 267 = .ok (.iastore, 1) := by decide +kernel
theorem d_Machine_run_268 : decode b_Machine_run 268 = .ok (.aload 4, 2) := by decide +kernel
theorem d_Machine_run_270 : decode b_Machine_run 270 = .ok (.iload 10, 2) := by decide +kernel
theorem d_Machine_run_272 : decode b_Machine_run 272 = .ok (.iconst 5, 1) := by decide +kernel
theorem d_Machine_run_273 : decode b_Machine_run 273 = .ok (.ishr, 1) := by decide +kernel
theorem d_Machine_run_274 : decode b_Machine_run 274 = .ok (.bipush 7, 2) := by decide +kernel
theorem d_Machine_run_276 : decode b_Machine_run 276 = .ok (.iand, 1) := by decide +kernel
theorem d_Machine_run_277 : decode b_Machine_run 277 = .ok (.iaload, 1) := by decide +kernel
theorem d_Machine_run_278 : decode b_Machine_run 278 = .ok (.istore 8, 2) := by decide +kernel
theorem d_Machine_run_280 : decode b_Machine_run 280 = .ok (.goto 226, 3) := by decide +kernel
theorem d_Machine_run_283 : decode b_Machine_run 283 = .ok (.aload_n 0, 1) := by decide +kernel
theorem d_Machine_run_284 : decode b_Machine_run 284 = .ok (.getfield 9, 3) := by decide +kernel
theorem d_Machine_run_287 : decode b_Machine_run 287 = .ok (.iinc 7 (-1), 3) := by decide +kernel
theorem d_Machine_run_290 : decode b_Machine_run 290 = .ok (.iload 7, 2) := by decide +kernel
theorem d_Machine_run_292 : decode b_Machine_run 292 = .ok (.bipush 63, 2) := by decide +kernel
theorem d_Machine_run_294 : decode b_Machine_run 294 = .ok (.iand, 1) := by decide +kernel
theorem d_Machine_run_295 : decode b_Machine_run 295 = .ok (.iaload, 1) := by decide +kernel
theorem d_Machine_run_296 : decode b_Machine_run 296 = .ok (.iload 8, 2) := by decide +kernel
theorem d_Machine_run_298 : decode b_Machine_run 298 = .ok (.iadd, 1) := by decide +kernel
theorem d_Machine_run_299 : decode b_Machine_run 299 = .ok (.istore 8, 2) := by decide +kernel
theorem d_Machine_run_301 : decode b_Machine_run 301 = .ok (.goto 205, 3) := by decide +kernel
theorem d_Machine_run_304 : decode b_Machine_run 304 = .ok (.aload_n 0, 1) := by decide +kernel
theorem d_Machine_run_305 : decode b_Machine_run 305 = .ok (.getfield 9, 3) := by decide +kernel
theorem d_Machine_run_308 : decode b_Machine_run 308 = .ok (.iinc 7 (-1), 3) := by decide +kernel
theorem d_Machine_run_311 : decode b_Machine_run 311 = .ok (.iload 7, 2) := by decide +kernel
theorem d_Machine_run_313 : decode b_Machine_run 313 = .ok (.bipush 63, 2) := by decide +kernel
theorem d_Machine_run_315 : decode b_Machine_run 315 = .ok (.iand, 1) := by decide +kernel
theorem d_Machine_run_316 : decode b_Machine_run 316 = .ok (.iaload, 1) := by decide +kernel
theorem d_Machine_run_317 : decode b_Machine_run 317 = .ok (.iload 8, 2) := by decide +kernel
theorem d_Machine_run_319 : decode b_Machine_run 319 = .ok (.isub, 1) := by decide +kernel
theorem d_Machine_run_320 : decode b_Machine_run 320 = .ok (.istore 8, 2) := by decide +kernel
theorem d_Machine_run_322 : decode b_Machine_run 322 = .ok (.goto 184, 3) := by decide +kernel
theorem d_Machine_run_325 : decode b_Machine_run 325 = .ok (.aload_n 0, 1) := by decide +kernel
theorem d_Machine_run_326 : decode b_Machine_run 326 = .ok (.getfield 9, 3) := by decide +kernel
theorem d_Machine_run_329 : decode b_Machine_run 329 = .ok (.iinc 7 (-1), 3) := by decide +kernel
theorem d_Machine_run_332 : decode b_Machine_run 332 = .ok (.iload 7, 2) := by decide +kernel
theorem d_Machine_run_334 : decode b_Machine_run 334 = .ok (.bipush 63, 2) := by decide +kernel
theorem d_Machine_run_336 : decode b_Machine_run 336 = .ok (.iand, 1) := by decide +kernel
theorem d_Machine_run_337 : decode b_Machine_run 337 = .ok (.iaload, 1) := by decide +kernel
theorem d_Machine_run_338 : decode b_Machine_run 338 = .ok (.iload 8, 2) := by decide +kernel
theorem d_Machine_run_340 : decode b_Machine_run 340 = .ok (.imul, 1) := by decide +kernel
theorem d_Machine_run_341 : decode b_Machine_run 341 = .ok (.istore 8, 2) := by decide +kernel
theorem d_Machine_run_343 : decode b_Machine_run 343 = .ok (.goto 163, 3) := by decide +kernel
theorem d_Machine_run_346 : decode b_Machine_run 346 = .ok (.aload_n 0, 1) := by decide +kernel
theorem d_Machine_run_347 : decode b_Machine_run 347 = .ok (.getfield 9, 3) := by decide +kernel
theorem d_Machine_run_350 : decode b_Machine_run 350 = .ok (.iinc 7 (-1), 3) := by decide +kernel
theorem d_Machine_run_353 : decode b_Machine_run 353 = .ok (.iload 7, 2) := by decide +kernel
theorem d_Machine_run_355 : decode b_Machine_run 355 = .ok (.bipush 63, 2) := by decide +kernel
theorem d_Machine_run_357 : decode b_Machine_run 357 = .ok (.iand, 1) := by decide +kernel
theorem d_Machine_run_358 : decode b_Machine_run 358 = .ok (.iaload, 1) := by decide +kernel
theorem d_Machine_run_359 : decode b_Machine_run 359 = .ok (.iload 8, 2) := by decide +kernel
theorem d_Machine_run_361 : decode b_Machine_run 361 = .ok (.if_icmp .ne 7, 3) := by decide +kernel
theorem d_Machine_run_364 : decode b_Machine_run 364 = .ok (.iconst 1, 1) := by decide +kernel
theorem d_Machine_run_365 : decode b_Machine_run 365 = .ok (.goto 4, 3) := by decide +kernel
theorem d_Machine_run_368 : decode b_Machine_run 368 = .ok (.iconst 0, 1) := by decide +kernel
theorem d_Machine_run_369 : decode b_Machine_run 369 = .ok (.istore 8, 2) := by decide +kernel
theorem d_Machine_run_371 : decode b_Machine_run 371 = .ok (.goto 135, 3) := by decide +kernel
theorem d_Machine_run_374 : decode b_Machine_run 374 = .ok (.aload_n 0, 1) := by decide +kernel
theorem d_Machine_run_375 : decode b_Machine_run 375 = .ok (.getfield 9, 3) := by decide +kernel
theorem d_Machine_run_378 : decode b_Machine_run 378 = .ok (.iinc 7 (-1), 3) := by decide +kernel
theorem d_Machine_run_381 : decode b_Machine_run 381 = .ok (.iload 7, 2) := by decide +kernel
theorem d_Machine_run_383 : decode b_Machine_run 383 = .ok (.bipush 63, 2) := by decide +kernel
theorem d_Machine_run_385 : decode b_Machine_run 385 = .ok (.iand, 1) := by decide +kernel
theorem d_Machine_run_386 : decode b_Machine_run 386 = .ok (.iaload, 1) := by decide +kernel
theorem d_Machine_run_387 : decode b_Machine_run 387 = .ok (.iload 8, 2) := by decide +kernel
theorem d_Machine_run_389 : decode b_Machine_run 389 = .ok (.if_icmp .eq 7, 3) := by decide +kernel
theorem d_Machine_run_392 : decode b_Machine_run 392 = .ok (.iconst 1, 1) := by decide +kernel
theorem d_Machine_run_393 : decode b_Machine_run 393 = .ok (.goto 4, 3) := by decide +kernel
theorem d_Machine_run_396 : decode b_Machine_run 396 = .ok (.iconst 0, 1) := by decide +kernel
theorem d_Machine_run_397 : decode b_Machine_run 397 = .ok (.istore 8, 2) := by decide +kernel
theorem d_Machine_run_399 : decode b_Machine_run 399 = .ok (.goto 107, 3) := by decide +kernel
theorem d_Machine_run_402 : decode b_Machine_run 402 = .ok (.aload_n 0, 1) := by decide +kernel
theorem d_Machine_run_403 : decode b_Machine_run 403 = .ok (.getfield 9, 3) := by decide +kernel
theorem d_Machine_run_406 : decode b_Machine_run 406 = .ok (.iinc 7 (-1), 3) := by decide +kernel
theorem d_Machine_run_409 : decode b_Machine_run 409 = .ok (.iload 7, 2) := by decide +kernel
theorem d_Machine_run_411 : decode b_Machine_run 411 = .ok (.bipush 63, 2) := by decide +kernel
theorem d_Machine_run_413 : decode b_Machine_run 413 = .ok (.iand, 1) := by decide +kernel
theorem d_Machine_run_414 : decode b_Machine_run 414 = .ok (.iaload, 1) := by decide +kernel
theorem d_Machine_run_415 : decode b_Machine_run 415 = .ok (.iload 8, 2) := by decide +kernel
theorem d_Machine_run_417 : decode b_Machine_run 417 = .ok (.if_icmp .ge 7, 3) := by decide +kernel
theorem d_Machine_run_420 : decode b_Machine_run 420 = .ok (.iconst 1, 1) := by decide +kernel
theorem d_Machine_run_421 : decode b_Machine_run 421 = .ok (.goto 4, 3) := by decide +kernel
theorem d_Machine_run_424 : decode b_Machine_run 424 = .ok (.iconst 0, 1) := by decide +kernel
theorem d_Machine_run_425 : decode b_Machine_run 425 = .ok (.istore 8, 2) := by decide +kernel
theorem d_Machine_run_427 : decode b_Machine_run 427 = .ok (.goto 79, 3) := by decide +kernel
theorem d_Machine_run_430 : decode b_Machine_run 430 = .ok (.aload_n 0, 1) := by decide +kernel
theorem d_Machine_run_431 : decode b_Machine_run 431 = .ok (.getfield 9, 3) := by decide +kernel
theorem d_Machine_run_434 : decode b_Machine_run 434 = .ok (.iinc 7 (-1), 3) := by decide +kernel
theorem d_Machine_run_437 : decode b_Machine_run 437 = .ok (.iload 7, 2) := by decide +kernel
theorem d_Machine_run_439 : decode b_Machine_run 439 = .ok (.bipush 63, 2) := by decide +kernel
theorem d_Machine_run_441 : decode b_Machine_run 441 = .ok (.iand, 1) := by decide +kernel
theorem d_Machine_run_442 : decode b_Machine_run 442 = .ok (.iaload, 1) := by decide +kernel
theorem d_Machine_run_443 : decode b_Machine_run 443 = .ok (.iload 8, 2) := by decide +kernel
theorem d_Machine_run_445 : decode b_Machine_run 445 = .ok (.if_icmp .gt 7, 3) := by decide +kernel
theorem d_Machine_run_448 : decode b_Machine_run 448 = .ok (.iconst 1, 1) := by decide +kernel
theorem d_Machine_run_449 : decode b_Machine_run 449 = .ok (.goto 4, 3) := by decide +kernel
theorem d_Machine_run_452 : decode b_Machine_run 452 = .ok (.iconst 0, 1) := by decide +kernel
theorem d_Machine_run_453 : decode b_Machine_run 453 = .ok (.istore 8, 2) := by decide +kernel
theorem d_Machine_run_455 : decode b_Machine_run 455 = .ok (.goto 51, 3) := by decide +kernel
theorem d_Machine_run_458 : decode b_Machine_run 458 = .ok (.aload_n 0, 1) := by decide +kernel
theorem d_Machine_run_459 : decode b_Machine_run 459 = .ok (.getfield 9, 3) := by decide +kernel
theorem d_Machine_run_462 : decode b_Machine_run 462 = .ok (.iinc 7 (-1), 3) := by decide +kernel
theorem d_Machine_run_465 : decode b_Machine_run 465 = .ok (.iload 7, 2) := by decide +kernel
theorem d_Machine_run_467 : decode b_Machine_run 467 = .ok (.bipush 63, 2) := by decide +kernel
theorem d_Machine_run_469 : decode b_Machine_run 469 = .ok (.iand, 1) := by decide +kernel
theorem d_Machine_run_470 : decode b_Machine_run 470 = .ok (.iaload, 1) := by decide +kernel
theorem d_Machine_run_471 : decode b_Machine_run 471 = .ok (.iload 8, 2) := by decide +kernel
theorem d_Machine_run_473 : decode b_Machine_run 473 = .ok (.iand, 1) := by decide +kernel
theorem d_Machine_run_474 : decode b_Machine_run 474 = .ok (.istore 8, 2) := by decide +kernel
theorem d_Machine_run_476 : decode b_Machine_run 476 = .ok (.goto 30, 3) := by decide +kernel
theorem d_Machine_run_479 : decode b_Machine_run 479 = .ok (.aload_n 0, 1) := by decide +kernel
theorem d_Machine_run_480 : decode b_Machine_run 480 = .ok (.getfield 9, 3) := by decide +kernel
theorem d_Machine_run_483 : decode b_Machine_run 483 = .ok (.iinc 7 (-1), 3) := by decide +kernel
theorem d_Machine_run_486 : decode b_Machine_run 486 = .ok (.iload 7, 2) := by decide +kernel
theorem d_Machine_run_488 : decode b_Machine_run 488 = .ok (.bipush 63, 2) := by decide +kernel
theorem d_Machine_run_490 : decode b_Machine_run 490 = .ok (.iand, 1) := by decide +kernel
theorem d_Machine_run_491 : decode b_Machine_run 491 = .ok (.iaload, 1) := by decide +kernel
theorem d_Machine_run_492 : decode b_Machine_run 492 = .ok (.iload 8, 2) := by decide +kernel
theorem d_Machine_run_494 : decode b_Machine_run 494 = .ok (.ior, 1) := by decide +kernel
theorem d_Machine_run_495 : decode b_Machine_run 495 = .ok (.istore 8, 2) := by decide +kernel
theorem d_Machine_run_497 : decode b_Machine_run 497 = .ok (.goto 9, 3) := by decide +kernel
theorem d_Machine_run_500 : decode b_Machine_run 500 = .ok (.iconst 1, 1) := by decide +kernel
theorem d_Machine_run_501 : decode b_Machine_run 501 = .ok (.iload 8, 2) := by decide +kernel
theorem d_Machine_run_503 : decode b_Machine_run 503 = .ok (.isub, 1) := by decide +kernel
theorem d_Machine_run_504 : decode b_Machine_run 504 = .ok (.istore 8, 2) := by decide +kernel
theorem d_Machine_run_506 : decode b_Machine_run 506 = .ok (.iinc 9 1, 3) := by decide +kernel
theorem d_Machine_run_509 : decode b_Machine_run 509 = .ok (.goto (-454), 3) := by decide +kernel
theorem d_Machine_run_512 : decode b_Machine_run 512 = .ok (.iload 8, 2) := by decide +kernel
theorem d_Machine_run_514 : decode b_Machine_run 514 = .ok (.ireturn, 1) := by decide +kernel
set_option maxHeartbeats 4000000 in
set_option maxRecDepth 100000 in
theorem c_Machine_run_10_9_1_9_2 (l : Launch) {S : St} {x2 : Int32} {S' : St} {r : Int32} (h : f_Machine_run 10 9 1 9 2 S x2 = some (r, S')) : MI cw l y_Machine_run b_Machine_run 11 (some .int) 0 0 0 0 (fun ad => [.ref (ad 10 0), .ref (ad 5 0), .int x2, .ref (ad 9 2), .ref (ad 9 3)]) aT aE S r S' := by
  refine MI_of "LawfulLots$Machine" rfl (by decide) (fun _ => Nat.le_of_ble_eq_true rfl) ?_
  intro p e s m args below meth c D ar ad A Q ls hP F hK hA hw hl hQ
  have hl : lv_has ls 11 [(0, .ref (ad 10 0)), (1, .ref (ad 5 0)), (2, .int x2), (3, .ref (ad 9 2)), (4, .ref (ad 9 3))] := hl
  obtain ⟨X_0, eX_0⟩ : ∃ X : (Int32 × St) → Prop, X = (fun q => ∀ (H : Heap) (locs : List Loc) (pc : Nat) (ls : Array Slot), decode b_Machine_run pc = .ok (.ireturn, 1) → Bw cw D ar A s.heap H locs ad q.2 → W p l e (RM 0 0) s m args below meth c H locs 0 0 Q (F0 m pc ls [.int q.1])) := ⟨_, rfl⟩
  have key : ∀ (H : Heap) (locs : List Loc), Bw cw D ar A s.heap H locs ad S → ∀ o, f_Machine_run 10 9 1 9 2 S x2 = some o → X_0 o → W p l e (RM 0 0) s m args below meth c H locs 0 0 Q (F0 m 0 ls []) := by
    intro H locs hw o h ho
    unfold f_Machine_run at h
    have J_512 : ∀ (S : St) (x8 : Int32) (H : Heap) (locs : List Loc) (ls : Array Slot), Bw cw D ar A s.heap H locs ad S → lv_has ls 11 [(8, .int x8)] → ∀ o, Machine_run_j512 10 9 1 9 2 S x8 = some o → X_0 o → W p l e (RM 0 0) s m args below meth c H locs 0 0 Q (F0 m 512 ls []) := by
      intro S x8 H locs ls hw hl o h ho
      unfold Machine_run_j512 at h
      refine lv_iload F.1 F.2.1 d_Machine_run_512 (lv_at hl 0 rfl) ?_
      cases h
      have ho : X_0 _ := ho
      rw [eX_0] at ho
      exact ho H locs _ ls d_Machine_run_514 hw
    have J_25 : ∀ (S : St) (H : Heap) (locs : List Loc) (ls : Array Slot), Bw cw D ar A s.heap H locs ad S → lv_has ls 11 [] → ∀ o, Machine_run_j25 10 9 1 9 2 S = some o → X_0 o → W p l e (RM 0 0) s m args below meth c H locs 0 0 Q (F0 m 25 ls []) := by
      intro S H locs ls hw hl o h ho
      unfold Machine_run_j25 at h
      refine lv_iconst (v := 0) F.1 F.2.1 d_Machine_run_25 (by decide) ?_
      cases h
      have ho : X_0 _ := ho
      rw [eX_0] at ho
      exact ho H locs _ ls d_Machine_run_26 hw
    refine lv_iload_n F.1 F.2.1 d_Machine_run_0 rfl (lv_at hl 2 rfl) ?_
    refine lv_if_lt (tgt := 25) F.1 F.2.1 d_Machine_run_1 (by decide) (fun c_1 => ?_) (fun c_1 => ?_)
    · replace h := ip c_1 h
      exact J_25 S H locs ls hw (lv_sub hl [] rfl) o h ho
    · replace h := iq c_1 h
      refine lv_iload_n F.1 F.2.1 d_Machine_run_4 rfl (lv_at hl 2 rfl) ?_
      refine lv_bipush (v := 48) F.1 F.2.1 d_Machine_run_5 (by decide) ?_
      refine lv_icmp_ge (tgt := 25) F.1 F.2.1 d_Machine_run_7 (by decide) (fun c_2 => ?_) (fun c_2 => ?_)
      · replace h := ip c_2 h
        exact J_25 S H locs ls hw (lv_sub hl [] rfl) o h ho
      · replace h := iq c_2 h
        refine lv_aload_n F.1 F.2.1 d_Machine_run_10 rfl (lv_at hl 3 rfl) ?_
        refine cn_9_1 F hK hw d_Machine_run_11 ?_
        refine lv_bipush (v := 8) F.1 F.2.1 d_Machine_run_12 (by decide) ?_
        refine lv_icmp_ne (tgt := 25) F.1 F.2.1 d_Machine_run_14 (by decide) (fun c_3 => ?_) (fun c_3 => ?_)
        · replace h := iq c_3 h
          exact J_25 S H locs ls hw (lv_sub hl [] rfl) o h ho
        · replace h := ip c_3 h
          refine lv_aload F.1 F.2.1 d_Machine_run_17 (lv_at hl 4 rfl) ?_
          refine cn_9_2 F hK hw d_Machine_run_19 ?_
          refine lv_bipush (v := 8) F.1 F.2.1 d_Machine_run_20 (by decide) ?_
          refine lv_icmp_eq (tgt := 27) F.1 F.2.1 d_Machine_run_22 (by decide) (fun c_4 => ?_) (fun c_4 => ?_)
          · replace h := ip c_4 h
            refine lv_aload_n F.1 F.2.1 d_Machine_run_27 rfl (lv_at hl 1 rfl) ?_
            refine cg_5_6 F hK hw lk_75 d_Machine_run_28 ?_
            refine lv_astore (lv' := [(5, .ref (ad 5 7)), (0, .ref (ad 10 0)), (1, .ref (ad 5 0)), (2, .int x2), (3, .ref (ad 9 2)), (4, .ref (ad 9 3))]) F.1 F.2.1 d_Machine_run_31 hl (by decide) rfl (fun ls hl => ?_)
            refine lv_aload_n F.1 F.2.1 d_Machine_run_33 rfl (lv_at hl 2 rfl) ?_
            refine cg_5_8 F hK hw lk_79 d_Machine_run_34 ?_
            refine lv_iload_n F.1 F.2.1 d_Machine_run_37 rfl (lv_at hl 3 rfl) ?_
            obtain ⟨hi_5, h⟩ := gd_ex h
            refine cl_5_8 F hK hw hi_5 d_Machine_run_38 ?_
            obtain ⟨x6_6, ex6_6, h⟩ := nm_ex h
            refine lv_nm ex6_6 ?_
            refine lv_istore (lv' := [(6, .int x6_6), (5, .ref (ad 5 7)), (0, .ref (ad 10 0)), (1, .ref (ad 5 0)), (2, .int x2), (3, .ref (ad 9 2)), (4, .ref (ad 9 3))]) F.1 F.2.1 d_Machine_run_39 hl (by decide) rfl (fun ls hl => ?_)
            refine lv_iconst (v := 0) F.1 F.2.1 d_Machine_run_41 (by decide) ?_
            refine lv_istore (lv' := [(7, .int (0 : Int32)), (6, .int x6_6), (5, .ref (ad 5 7)), (0, .ref (ad 10 0)), (1, .ref (ad 5 0)), (2, .int x2), (3, .ref (ad 9 2)), (4, .ref (ad 9 3))]) F.1 F.2.1 d_Machine_run_42 hl (by decide) rfl (fun ls hl => ?_)
            refine lv_iconst (v := 0) F.1 F.2.1 d_Machine_run_44 (by decide) ?_
            refine lv_istore (lv' := [(8, .int (0 : Int32)), (7, .int (0 : Int32)), (6, .int x6_6), (5, .ref (ad 5 7)), (0, .ref (ad 10 0)), (1, .ref (ad 5 0)), (2, .int x2), (3, .ref (ad 9 2)), (4, .ref (ad 9 3))]) F.1 F.2.1 d_Machine_run_45 hl (by decide) rfl (fun ls hl => ?_)
            refine lv_aload_n F.1 F.2.1 d_Machine_run_47 rfl (lv_at hl 5 rfl) ?_
            refine cg_5_7 F hK hw lk_77 d_Machine_run_48 ?_
            refine lv_iload_n F.1 F.2.1 d_Machine_run_51 rfl (lv_at hl 6 rfl) ?_
            obtain ⟨hi_7, h⟩ := gd_ex h
            refine cl_5_7 F hK hw hi_7 d_Machine_run_52 ?_
            obtain ⟨x9_8, ex9_8, h⟩ := nm_ex h
            refine lv_nm ex9_8 ?_
            refine lv_istore (lv' := [(9, .int x9_8), (8, .int (0 : Int32)), (7, .int (0 : Int32)), (6, .int x6_6), (5, .ref (ad 5 7)), (0, .ref (ad 10 0)), (1, .ref (ad 5 0)), (2, .int x2), (3, .ref (ad 9 2)), (4, .ref (ad 9 3))]) F.1 F.2.1 d_Machine_run_53 hl (by decide) rfl (fun ls hl => ?_)
            obtain ⟨S_83, x8_84, hc_85, h⟩ := bd2_ex h
            obtain ⟨X_55, eX_55⟩ : ∃ X : (St × Int32) → Prop, X = (fun q => ∀ (H : Heap) (locs : List Loc) (ls : Array Slot), Bw cw D ar A s.heap H locs ad q.1 → lv_has ls 11 [(8, .int q.2)] → W p l e (RM 0 0) s m args below meth c H locs 0 0 Q (F0 m 512 ls [])) := ⟨_, rfl⟩
            have hX_55 : X_55 (S_83, x8_84) := by
              rw [eX_55]
              intro H locs ls hw hl
              exact J_512 S_83 x8_84 H locs ls hw (lv_sub hl [0] rfl) o h ho
            obtain ⟨P_55, eP_55⟩ : ∃ P : (St × Int32 × Int32 × Int32) → Prop, P = (fun q => ∀ (H : Heap) (locs : List Loc) (ls : Array Slot), Bw cw D ar A s.heap H locs ad q.1 → lv_has ls 11 [(0, .ref (ad 10 0)), (3, .ref (ad 9 2)), (4, .ref (ad 9 3)), (5, .ref (ad 5 7)), (6, .int x6_6), (7, .int q.2.1), (8, .int q.2.2.1), (9, .int q.2.2.2)] → W p l e (RM 0 0) s m args below meth c H locs 0 0 Q (F0 m 55 ls [])) := ⟨_, rfl⟩
            have hL_55 : P_55 (S, (0 : Int32), (0 : Int32), x9_8) := by
              refine wh_gp (P := P_55) (X := X_55) hc_85 hX_55 ?_
              clear h
              intro q o h ho
              obtain ⟨S, x7, x8, x9⟩ := q
              have h : Machine_run_l55 10 9 1 9 2 x6_6 S x7 x8 x9 = some o := h
              unfold Machine_run_l55 at h
              rw [eP_55]
              intro H locs ls hw hl
              have J_506_l55 : ∀ (S : St) (x7 : Int32) (x8 : Int32) (x9 : Int32) (H : Heap) (locs : List Loc) (ls : Array Slot), Bw cw D ar A s.heap H locs ad S → lv_has ls 11 [(0, .ref (ad 10 0)), (3, .ref (ad 9 2)), (4, .ref (ad 9 3)), (5, .ref (ad 5 7)), (6, .int x6_6), (7, .int x7), (8, .int x8), (9, .int x9)] → ∀ o, Machine_run_j506_l55 10 9 1 9 2 S x6_6 x7 x8 x9 = some o → (Sum.elim P_55 X_55) o → W p l e (RM 0 0) s m args below meth c H locs 0 0 Q (F0 m 506 ls []) := by
                intro S x7 x8 x9 H locs ls hw hl o h ho
                unfold Machine_run_j506_l55 at h
                obtain ⟨x9_82, ex9_82, h⟩ := nm_ex h
                refine lv_iinc (v := x9_82) (lv' := [(9, .int x9_82), (0, .ref (ad 10 0)), (3, .ref (ad 9 2)), (4, .ref (ad 9 3)), (5, .ref (ad 5 7)), (6, .int x6_6), (7, .int x7), (8, .int x8)]) F.1 F.2.1 d_Machine_run_506 hl (k := 7) rfl (by rw [ex9_82]; rfl) (by decide) rfl (fun ls hl => ?_)
                refine lv_goto (tgt := 55) F.1 F.2.1 d_Machine_run_509 (by decide) ?_
                cases h
                have ho : P_55 _ := ho
                rw [eP_55] at ho
                exact ho H locs ls hw (lv_sub hl [1, 2, 3, 4, 5, 6, 7, 0] rfl)
              have J_500_l55 : ∀ (S : St) (x7 : Int32) (x8 : Int32) (x9 : Int32) (H : Heap) (locs : List Loc) (ls : Array Slot), Bw cw D ar A s.heap H locs ad S → lv_has ls 11 [(0, .ref (ad 10 0)), (3, .ref (ad 9 2)), (4, .ref (ad 9 3)), (5, .ref (ad 5 7)), (6, .int x6_6), (7, .int x7), (8, .int x8), (9, .int x9)] → ∀ o, Machine_run_j500_l55 10 9 1 9 2 S x6_6 x7 x8 x9 = some o → (Sum.elim P_55 X_55) o → W p l e (RM 0 0) s m args below meth c H locs 0 0 Q (F0 m 500 ls []) := by
                intro S x7 x8 x9 H locs ls hw hl o h ho
                unfold Machine_run_j500_l55 at h
                refine lv_iconst (v := 1) F.1 F.2.1 d_Machine_run_500 (by decide) ?_
                refine lv_iload F.1 F.2.1 d_Machine_run_501 (lv_at hl 6 rfl) ?_
                refine lv_isub F.1 F.2.1 d_Machine_run_503 ?_
                obtain ⟨x8_81, ex8_81, h⟩ := nm_ex h
                refine lv_nm ex8_81 ?_
                refine lv_istore (lv' := [(8, .int x8_81), (0, .ref (ad 10 0)), (3, .ref (ad 9 2)), (4, .ref (ad 9 3)), (5, .ref (ad 5 7)), (6, .int x6_6), (7, .int x7), (9, .int x9)]) F.1 F.2.1 d_Machine_run_504 hl (by decide) rfl (fun ls hl => ?_)
                exact J_506_l55 S x7 x8_81 x9 H locs ls hw (lv_sub hl [1, 2, 3, 4, 5, 6, 0, 7] rfl) o h ho
              have J_453_l55 : ∀ (S : St) (x7 : Int32) (x9 : Int32) (t0 : Int32) (H : Heap) (locs : List Loc) (ls : Array Slot), Bw cw D ar A s.heap H locs ad S → lv_has ls 11 [(0, .ref (ad 10 0)), (3, .ref (ad 9 2)), (4, .ref (ad 9 3)), (5, .ref (ad 5 7)), (6, .int x6_6), (7, .int x7), (9, .int x9)] → ∀ o, Machine_run_j453_l55 10 9 1 9 2 S x6_6 x7 x9 t0 = some o → (Sum.elim P_55 X_55) o → W p l e (RM 0 0) s m args below meth c H locs 0 0 Q (F0 m 453 ls [.int t0]) := by
                intro S x7 x9 t0 H locs ls hw hl o h ho
                unfold Machine_run_j453_l55 at h
                refine lv_istore (lv' := [(8, .int t0), (0, .ref (ad 10 0)), (3, .ref (ad 9 2)), (4, .ref (ad 9 3)), (5, .ref (ad 5 7)), (6, .int x6_6), (7, .int x7), (9, .int x9)]) F.1 F.2.1 d_Machine_run_453 hl (by decide) rfl (fun ls hl => ?_)
                refine lv_goto (tgt := 506) F.1 F.2.1 d_Machine_run_455 (by decide) ?_
                exact J_506_l55 S x7 t0 x9 H locs ls hw (lv_sub hl [1, 2, 3, 4, 5, 6, 0, 7] rfl) o h ho
              have J_425_l55 : ∀ (S : St) (x7 : Int32) (x9 : Int32) (t0 : Int32) (H : Heap) (locs : List Loc) (ls : Array Slot), Bw cw D ar A s.heap H locs ad S → lv_has ls 11 [(0, .ref (ad 10 0)), (3, .ref (ad 9 2)), (4, .ref (ad 9 3)), (5, .ref (ad 5 7)), (6, .int x6_6), (7, .int x7), (9, .int x9)] → ∀ o, Machine_run_j425_l55 10 9 1 9 2 S x6_6 x7 x9 t0 = some o → (Sum.elim P_55 X_55) o → W p l e (RM 0 0) s m args below meth c H locs 0 0 Q (F0 m 425 ls [.int t0]) := by
                intro S x7 x9 t0 H locs ls hw hl o h ho
                unfold Machine_run_j425_l55 at h
                refine lv_istore (lv' := [(8, .int t0), (0, .ref (ad 10 0)), (3, .ref (ad 9 2)), (4, .ref (ad 9 3)), (5, .ref (ad 5 7)), (6, .int x6_6), (7, .int x7), (9, .int x9)]) F.1 F.2.1 d_Machine_run_425 hl (by decide) rfl (fun ls hl => ?_)
                refine lv_goto (tgt := 506) F.1 F.2.1 d_Machine_run_427 (by decide) ?_
                exact J_506_l55 S x7 t0 x9 H locs ls hw (lv_sub hl [1, 2, 3, 4, 5, 6, 0, 7] rfl) o h ho
              have J_397_l55 : ∀ (S : St) (x7 : Int32) (x9 : Int32) (t0 : Int32) (H : Heap) (locs : List Loc) (ls : Array Slot), Bw cw D ar A s.heap H locs ad S → lv_has ls 11 [(0, .ref (ad 10 0)), (3, .ref (ad 9 2)), (4, .ref (ad 9 3)), (5, .ref (ad 5 7)), (6, .int x6_6), (7, .int x7), (9, .int x9)] → ∀ o, Machine_run_j397_l55 10 9 1 9 2 S x6_6 x7 x9 t0 = some o → (Sum.elim P_55 X_55) o → W p l e (RM 0 0) s m args below meth c H locs 0 0 Q (F0 m 397 ls [.int t0]) := by
                intro S x7 x9 t0 H locs ls hw hl o h ho
                unfold Machine_run_j397_l55 at h
                refine lv_istore (lv' := [(8, .int t0), (0, .ref (ad 10 0)), (3, .ref (ad 9 2)), (4, .ref (ad 9 3)), (5, .ref (ad 5 7)), (6, .int x6_6), (7, .int x7), (9, .int x9)]) F.1 F.2.1 d_Machine_run_397 hl (by decide) rfl (fun ls hl => ?_)
                refine lv_goto (tgt := 506) F.1 F.2.1 d_Machine_run_399 (by decide) ?_
                exact J_506_l55 S x7 t0 x9 H locs ls hw (lv_sub hl [1, 2, 3, 4, 5, 6, 0, 7] rfl) o h ho
              have J_369_l55 : ∀ (S : St) (x7 : Int32) (x9 : Int32) (t0 : Int32) (H : Heap) (locs : List Loc) (ls : Array Slot), Bw cw D ar A s.heap H locs ad S → lv_has ls 11 [(0, .ref (ad 10 0)), (3, .ref (ad 9 2)), (4, .ref (ad 9 3)), (5, .ref (ad 5 7)), (6, .int x6_6), (7, .int x7), (9, .int x9)] → ∀ o, Machine_run_j369_l55 10 9 1 9 2 S x6_6 x7 x9 t0 = some o → (Sum.elim P_55 X_55) o → W p l e (RM 0 0) s m args below meth c H locs 0 0 Q (F0 m 369 ls [.int t0]) := by
                intro S x7 x9 t0 H locs ls hw hl o h ho
                unfold Machine_run_j369_l55 at h
                refine lv_istore (lv' := [(8, .int t0), (0, .ref (ad 10 0)), (3, .ref (ad 9 2)), (4, .ref (ad 9 3)), (5, .ref (ad 5 7)), (6, .int x6_6), (7, .int x7), (9, .int x9)]) F.1 F.2.1 d_Machine_run_369 hl (by decide) rfl (fun ls hl => ?_)
                refine lv_goto (tgt := 506) F.1 F.2.1 d_Machine_run_371 (by decide) ?_
                exact J_506_l55 S x7 t0 x9 H locs ls hw (lv_sub hl [1, 2, 3, 4, 5, 6, 0, 7] rfl) o h ho
              refine lv_iload F.1 F.2.1 d_Machine_run_55 (lv_at hl 7 rfl) ?_
              refine lv_if_lt (tgt := 512) F.1 F.2.1 d_Machine_run_57 (by decide) (fun c_9 => ?_) (fun c_9 => ?_)
              · replace h := ip c_9 h
                cases h
                have ho : X_55 _ := ho
                rw [eX_55] at ho
                exact ho H locs ls hw (lv_sub hl [6] rfl)
              · replace h := iq c_9 h
                refine lv_iload F.1 F.2.1 d_Machine_run_60 (lv_at hl 7 rfl) ?_
                refine lv_iload F.1 F.2.1 d_Machine_run_62 (lv_at hl 4 rfl) ?_
                refine lv_icmp_ge (tgt := 512) F.1 F.2.1 d_Machine_run_64 (by decide) (fun c_10 => ?_) (fun c_10 => ?_)
                · replace h := ip c_10 h
                  cases h
                  have ho : X_55 _ := ho
                  rw [eX_55] at ho
                  exact ho H locs ls hw (lv_sub hl [6] rfl)
                · replace h := iq c_10 h
                  refine lv_iload F.1 F.2.1 d_Machine_run_67 (lv_at hl 7 rfl) ?_
                  refine lv_aload F.1 F.2.1 d_Machine_run_69 (lv_at hl 3 rfl) ?_
                  refine cn_5_6 F hK hw d_Machine_run_71 ?_
                  refine lv_icmp_ge (tgt := 512) F.1 F.2.1 d_Machine_run_72 (by decide) (fun c_11 => ?_) (fun c_11 => ?_)
                  · replace h := ip c_11 h
                    cases h
                    have ho : X_55 _ := ho
                    rw [eX_55] at ho
                    exact ho H locs ls hw (lv_sub hl [6] rfl)
                  · replace h := iq c_11 h
                    refine lv_aload F.1 F.2.1 d_Machine_run_75 (lv_at hl 3 rfl) ?_
                    refine lv_iload F.1 F.2.1 d_Machine_run_77 (lv_at hl 7 rfl) ?_
                    obtain ⟨hi_12, h⟩ := gd_ex h
                    refine cl_5_6 F hK hw hi_12 d_Machine_run_79 ?_
                    obtain ⟨x10_13, ex10_13, h⟩ := nm_ex h
                    refine lv_nm ex10_13 ?_
                    refine lv_istore (lv' := [(10, .int x10_13), (0, .ref (ad 10 0)), (3, .ref (ad 9 2)), (4, .ref (ad 9 3)), (5, .ref (ad 5 7)), (6, .int x6_6), (7, .int x7), (8, .int x8), (9, .int x9)]) F.1 F.2.1 d_Machine_run_80 hl (by decide) rfl (fun ls hl => ?_)
                    refine lv_iload F.1 F.2.1 d_Machine_run_82 (lv_at hl 0 rfl) ?_
                    refine lv_bipush (v := 31) F.1 F.2.1 d_Machine_run_84 (by decide) ?_
                    refine lv_iand F.1 F.2.1 d_Machine_run_86 ?_
                    obtain ⟨v_14, ev_14, h⟩ := nm_ex h
                    refine lv_nm ev_14 ?_
                    rcases Decidable.em (v_14 = (2 : Int32)) with c_15 | c_15
                    · replace h := ip c_15 h
                      refine lv_tableIn (off := 137) (tgt := 224) F.1 F.2.1 d_Machine_run_87 (by rw [c_15]; decide) (by rw [c_15]; decide) (by rw [c_15]; decide) (by decide) ?_
                      refine lv_aload_n F.1 F.2.1 d_Machine_run_224 rfl (lv_at hl 1 rfl) ?_
                      refine cg_10_0 F hK hw lk_185 d_Machine_run_225 ?_
                      refine lv_iload F.1 F.2.1 d_Machine_run_228 (lv_at hl 6 rfl) ?_
                      obtain ⟨x7_16, ex7_16, h⟩ := nm_ex h
                      refine lv_iinc (v := x7_16) (lv' := [(7, .int x7_16), (10, .int x10_13), (0, .ref (ad 10 0)), (3, .ref (ad 9 2)), (4, .ref (ad 9 3)), (5, .ref (ad 5 7)), (6, .int x6_6), (8, .int x8), (9, .int x9)]) F.1 F.2.1 d_Machine_run_230 hl (k := 6) rfl (by rw [ex7_16]; rfl) (by decide) rfl (fun ls hl => ?_)
                      refine lv_bipush (v := 63) F.1 F.2.1 d_Machine_run_233 (by decide) ?_
                      refine lv_iand F.1 F.2.1 d_Machine_run_235 ?_
                      refine lv_iload F.1 F.2.1 d_Machine_run_236 (lv_at hl 7 rfl) ?_
                      obtain ⟨hi_17, h⟩ := gd_ex h
                      obtain ⟨S_18, eS_18, h⟩ := nm_ex h
                      refine cs_10_0 F hK hw hi_17 d_Machine_run_238 eS_18 (fun H locs hw => ?_)
                      refine lv_aload_n F.1 F.2.1 d_Machine_run_239 rfl (lv_at hl 3 rfl) ?_
                      refine lv_iload F.1 F.2.1 d_Machine_run_240 (lv_at hl 1 rfl) ?_
                      refine lv_iconst (v := 5) F.1 F.2.1 d_Machine_run_242 (by decide) ?_
                      refine lv_ishr F.1 F.2.1 d_Machine_run_243 ?_
                      refine lv_bipush (v := 7) F.1 F.2.1 d_Machine_run_244 (by decide) ?_
                      refine lv_iand F.1 F.2.1 d_Machine_run_246 ?_
                      obtain ⟨hi_19, h⟩ := gd_ex h
                      refine cl_9_1 F hK hw hi_19 d_Machine_run_247 ?_
                      obtain ⟨x8_20, ex8_20, h⟩ := nm_ex h
                      refine lv_nm ex8_20 ?_
                      refine lv_istore (lv' := [(8, .int x8_20), (7, .int x7_16), (10, .int x10_13), (0, .ref (ad 10 0)), (3, .ref (ad 9 2)), (4, .ref (ad 9 3)), (5, .ref (ad 5 7)), (6, .int x6_6), (9, .int x9)]) F.1 F.2.1 d_Machine_run_248 hl (by decide) rfl (fun ls hl => ?_)
                      refine lv_goto (tgt := 506) F.1 F.2.1 d_Machine_run_250 (by decide) ?_
                      exact J_506_l55 S_18 x7_16 x8_20 x9 H locs ls hw (lv_sub hl [3, 4, 5, 6, 7, 1, 0, 8] rfl) o h ho
                    replace h := iq c_15 h
                    rcases Decidable.em (v_14 = (3 : Int32)) with c_21 | c_21
                    · replace h := ip c_21 h
                      refine lv_tableIn (off := 113) (tgt := 200) F.1 F.2.1 d_Machine_run_87 (by rw [c_21]; decide) (by rw [c_21]; decide) (by rw [c_21]; decide) (by decide) ?_
                      refine lv_aload_n F.1 F.2.1 d_Machine_run_200 rfl (lv_at hl 1 rfl) ?_
                      refine cg_10_0 F hK hw lk_185 d_Machine_run_201 ?_
                      refine lv_iload F.1 F.2.1 d_Machine_run_204 (lv_at hl 6 rfl) ?_
                      obtain ⟨x7_22, ex7_22, h⟩ := nm_ex h
                      refine lv_iinc (v := x7_22) (lv' := [(7, .int x7_22), (10, .int x10_13), (0, .ref (ad 10 0)), (3, .ref (ad 9 2)), (4, .ref (ad 9 3)), (5, .ref (ad 5 7)), (6, .int x6_6), (8, .int x8), (9, .int x9)]) F.1 F.2.1 d_Machine_run_206 hl (k := 6) rfl (by rw [ex7_22]; rfl) (by decide) rfl (fun ls hl => ?_)
                      refine lv_bipush (v := 63) F.1 F.2.1 d_Machine_run_209 (by decide) ?_
                      refine lv_iand F.1 F.2.1 d_Machine_run_211 ?_
                      refine lv_iload F.1 F.2.1 d_Machine_run_212 (lv_at hl 7 rfl) ?_
                      obtain ⟨hi_23, h⟩ := gd_ex h
                      obtain ⟨S_24, eS_24, h⟩ := nm_ex h
                      refine cs_10_0 F hK hw hi_23 d_Machine_run_214 eS_24 (fun H locs hw => ?_)
                      refine lv_iload F.1 F.2.1 d_Machine_run_215 (lv_at hl 1 rfl) ?_
                      refine lv_iconst (v := 5) F.1 F.2.1 d_Machine_run_217 (by decide) ?_
                      refine lv_ishr F.1 F.2.1 d_Machine_run_218 ?_
                      obtain ⟨x8_25, ex8_25, h⟩ := nm_ex h
                      refine lv_nm ex8_25 ?_
                      refine lv_istore (lv' := [(8, .int x8_25), (7, .int x7_22), (10, .int x10_13), (0, .ref (ad 10 0)), (3, .ref (ad 9 2)), (4, .ref (ad 9 3)), (5, .ref (ad 5 7)), (6, .int x6_6), (9, .int x9)]) F.1 F.2.1 d_Machine_run_219 hl (by decide) rfl (fun ls hl => ?_)
                      refine lv_goto (tgt := 506) F.1 F.2.1 d_Machine_run_221 (by decide) ?_
                      exact J_506_l55 S_24 x7_22 x8_25 x9 H locs ls hw (lv_sub hl [3, 4, 5, 6, 7, 1, 0, 8] rfl) o h ho
                    replace h := iq c_21 h
                    rcases Decidable.em (v_14 = (4 : Int32)) with c_26 | c_26
                    · replace h := ip c_26 h
                      refine lv_tableIn (off := 413) (tgt := 500) F.1 F.2.1 d_Machine_run_87 (by rw [c_26]; decide) (by rw [c_26]; decide) (by rw [c_26]; decide) (by decide) ?_
                      exact J_500_l55 S x7 x8 x9 H locs ls hw (lv_sub hl [1, 2, 3, 4, 5, 6, 7, 8] rfl) o h ho
                    replace h := iq c_26 h
                    rcases Decidable.em (v_14 = (5 : Int32)) with c_27 | c_27
                    · replace h := ip c_27 h
                      refine lv_tableIn (off := 196) (tgt := 283) F.1 F.2.1 d_Machine_run_87 (by rw [c_27]; decide) (by rw [c_27]; decide) (by rw [c_27]; decide) (by decide) ?_
                      refine lv_aload_n F.1 F.2.1 d_Machine_run_283 rfl (lv_at hl 1 rfl) ?_
                      refine cg_10_0 F hK hw lk_185 d_Machine_run_284 ?_
                      obtain ⟨x7_28, ex7_28, h⟩ := nm_ex h
                      refine lv_iinc (v := x7_28) (lv' := [(7, .int x7_28), (10, .int x10_13), (0, .ref (ad 10 0)), (3, .ref (ad 9 2)), (4, .ref (ad 9 3)), (5, .ref (ad 5 7)), (6, .int x6_6), (8, .int x8), (9, .int x9)]) F.1 F.2.1 d_Machine_run_287 hl (k := 6) rfl (by rw [ex7_28]; rfl) (by decide) rfl (fun ls hl => ?_)
                      refine lv_iload F.1 F.2.1 d_Machine_run_290 (lv_at hl 0 rfl) ?_
                      refine lv_bipush (v := 63) F.1 F.2.1 d_Machine_run_292 (by decide) ?_
                      refine lv_iand F.1 F.2.1 d_Machine_run_294 ?_
                      obtain ⟨hi_29, h⟩ := gd_ex h
                      refine cl_10_0 F hK hw hi_29 d_Machine_run_295 ?_
                      refine lv_iload F.1 F.2.1 d_Machine_run_296 (lv_at hl 7 rfl) ?_
                      refine lv_iadd F.1 F.2.1 d_Machine_run_298 ?_
                      obtain ⟨x8_30, ex8_30, h⟩ := nm_ex h
                      refine lv_nm ex8_30 ?_
                      refine lv_istore (lv' := [(8, .int x8_30), (7, .int x7_28), (10, .int x10_13), (0, .ref (ad 10 0)), (3, .ref (ad 9 2)), (4, .ref (ad 9 3)), (5, .ref (ad 5 7)), (6, .int x6_6), (9, .int x9)]) F.1 F.2.1 d_Machine_run_299 hl (by decide) rfl (fun ls hl => ?_)
                      refine lv_goto (tgt := 506) F.1 F.2.1 d_Machine_run_301 (by decide) ?_
                      exact J_506_l55 S x7_28 x8_30 x9 H locs ls hw (lv_sub hl [3, 4, 5, 6, 7, 1, 0, 8] rfl) o h ho
                    replace h := iq c_27 h
                    rcases Decidable.em (v_14 = (6 : Int32)) with c_31 | c_31
                    · replace h := ip c_31 h
                      refine lv_tableIn (off := 217) (tgt := 304) F.1 F.2.1 d_Machine_run_87 (by rw [c_31]; decide) (by rw [c_31]; decide) (by rw [c_31]; decide) (by decide) ?_
                      refine lv_aload_n F.1 F.2.1 d_Machine_run_304 rfl (lv_at hl 1 rfl) ?_
                      refine cg_10_0 F hK hw lk_185 d_Machine_run_305 ?_
                      obtain ⟨x7_32, ex7_32, h⟩ := nm_ex h
                      refine lv_iinc (v := x7_32) (lv' := [(7, .int x7_32), (10, .int x10_13), (0, .ref (ad 10 0)), (3, .ref (ad 9 2)), (4, .ref (ad 9 3)), (5, .ref (ad 5 7)), (6, .int x6_6), (8, .int x8), (9, .int x9)]) F.1 F.2.1 d_Machine_run_308 hl (k := 6) rfl (by rw [ex7_32]; rfl) (by decide) rfl (fun ls hl => ?_)
                      refine lv_iload F.1 F.2.1 d_Machine_run_311 (lv_at hl 0 rfl) ?_
                      refine lv_bipush (v := 63) F.1 F.2.1 d_Machine_run_313 (by decide) ?_
                      refine lv_iand F.1 F.2.1 d_Machine_run_315 ?_
                      obtain ⟨hi_33, h⟩ := gd_ex h
                      refine cl_10_0 F hK hw hi_33 d_Machine_run_316 ?_
                      refine lv_iload F.1 F.2.1 d_Machine_run_317 (lv_at hl 7 rfl) ?_
                      refine lv_isub F.1 F.2.1 d_Machine_run_319 ?_
                      obtain ⟨x8_34, ex8_34, h⟩ := nm_ex h
                      refine lv_nm ex8_34 ?_
                      refine lv_istore (lv' := [(8, .int x8_34), (7, .int x7_32), (10, .int x10_13), (0, .ref (ad 10 0)), (3, .ref (ad 9 2)), (4, .ref (ad 9 3)), (5, .ref (ad 5 7)), (6, .int x6_6), (9, .int x9)]) F.1 F.2.1 d_Machine_run_320 hl (by decide) rfl (fun ls hl => ?_)
                      refine lv_goto (tgt := 506) F.1 F.2.1 d_Machine_run_322 (by decide) ?_
                      exact J_506_l55 S x7_32 x8_34 x9 H locs ls hw (lv_sub hl [3, 4, 5, 6, 7, 1, 0, 8] rfl) o h ho
                    replace h := iq c_31 h
                    rcases Decidable.em (v_14 = (7 : Int32)) with c_35 | c_35
                    · replace h := ip c_35 h
                      refine lv_tableIn (off := 238) (tgt := 325) F.1 F.2.1 d_Machine_run_87 (by rw [c_35]; decide) (by rw [c_35]; decide) (by rw [c_35]; decide) (by decide) ?_
                      refine lv_aload_n F.1 F.2.1 d_Machine_run_325 rfl (lv_at hl 1 rfl) ?_
                      refine cg_10_0 F hK hw lk_185 d_Machine_run_326 ?_
                      obtain ⟨x7_36, ex7_36, h⟩ := nm_ex h
                      refine lv_iinc (v := x7_36) (lv' := [(7, .int x7_36), (10, .int x10_13), (0, .ref (ad 10 0)), (3, .ref (ad 9 2)), (4, .ref (ad 9 3)), (5, .ref (ad 5 7)), (6, .int x6_6), (8, .int x8), (9, .int x9)]) F.1 F.2.1 d_Machine_run_329 hl (k := 6) rfl (by rw [ex7_36]; rfl) (by decide) rfl (fun ls hl => ?_)
                      refine lv_iload F.1 F.2.1 d_Machine_run_332 (lv_at hl 0 rfl) ?_
                      refine lv_bipush (v := 63) F.1 F.2.1 d_Machine_run_334 (by decide) ?_
                      refine lv_iand F.1 F.2.1 d_Machine_run_336 ?_
                      obtain ⟨hi_37, h⟩ := gd_ex h
                      refine cl_10_0 F hK hw hi_37 d_Machine_run_337 ?_
                      refine lv_iload F.1 F.2.1 d_Machine_run_338 (lv_at hl 7 rfl) ?_
                      refine lv_imul F.1 F.2.1 d_Machine_run_340 ?_
                      obtain ⟨x8_38, ex8_38, h⟩ := nm_ex h
                      refine lv_nm ex8_38 ?_
                      refine lv_istore (lv' := [(8, .int x8_38), (7, .int x7_36), (10, .int x10_13), (0, .ref (ad 10 0)), (3, .ref (ad 9 2)), (4, .ref (ad 9 3)), (5, .ref (ad 5 7)), (6, .int x6_6), (9, .int x9)]) F.1 F.2.1 d_Machine_run_341 hl (by decide) rfl (fun ls hl => ?_)
                      refine lv_goto (tgt := 506) F.1 F.2.1 d_Machine_run_343 (by decide) ?_
                      exact J_506_l55 S x7_36 x8_38 x9 H locs ls hw (lv_sub hl [3, 4, 5, 6, 7, 1, 0, 8] rfl) o h ho
                    replace h := iq c_35 h
                    rcases Decidable.em (v_14 = (8 : Int32)) with c_39 | c_39
                    · replace h := ip c_39 h
                      refine lv_tableIn (off := 259) (tgt := 346) F.1 F.2.1 d_Machine_run_87 (by rw [c_39]; decide) (by rw [c_39]; decide) (by rw [c_39]; decide) (by decide) ?_
                      refine lv_aload_n F.1 F.2.1 d_Machine_run_346 rfl (lv_at hl 1 rfl) ?_
                      refine cg_10_0 F hK hw lk_185 d_Machine_run_347 ?_
                      obtain ⟨x7_40, ex7_40, h⟩ := nm_ex h
                      refine lv_iinc (v := x7_40) (lv' := [(7, .int x7_40), (10, .int x10_13), (0, .ref (ad 10 0)), (3, .ref (ad 9 2)), (4, .ref (ad 9 3)), (5, .ref (ad 5 7)), (6, .int x6_6), (8, .int x8), (9, .int x9)]) F.1 F.2.1 d_Machine_run_350 hl (k := 6) rfl (by rw [ex7_40]; rfl) (by decide) rfl (fun ls hl => ?_)
                      refine lv_iload F.1 F.2.1 d_Machine_run_353 (lv_at hl 0 rfl) ?_
                      refine lv_bipush (v := 63) F.1 F.2.1 d_Machine_run_355 (by decide) ?_
                      refine lv_iand F.1 F.2.1 d_Machine_run_357 ?_
                      obtain ⟨hi_41, h⟩ := gd_ex h
                      refine cl_10_0 F hK hw hi_41 d_Machine_run_358 ?_
                      refine lv_iload F.1 F.2.1 d_Machine_run_359 (lv_at hl 7 rfl) ?_
                      refine lv_icmp_ne (tgt := 368) F.1 F.2.1 d_Machine_run_361 (by decide) (fun c_42 => ?_) (fun c_42 => ?_)
                      · replace h := iq c_42 h
                        refine lv_iconst (v := 0) F.1 F.2.1 d_Machine_run_368 (by decide) ?_
                        exact J_369_l55 S x7_40 x9 (0 : Int32) H locs ls hw (lv_sub hl [2, 3, 4, 5, 6, 0, 8] rfl) o h ho
                      · replace h := ip c_42 h
                        refine lv_iconst (v := 1) F.1 F.2.1 d_Machine_run_364 (by decide) ?_
                        refine lv_goto (tgt := 369) F.1 F.2.1 d_Machine_run_365 (by decide) ?_
                        exact J_369_l55 S x7_40 x9 (1 : Int32) H locs ls hw (lv_sub hl [2, 3, 4, 5, 6, 0, 8] rfl) o h ho
                    replace h := iq c_39 h
                    rcases Decidable.em (v_14 = (9 : Int32)) with c_43 | c_43
                    · replace h := ip c_43 h
                      refine lv_tableIn (off := 287) (tgt := 374) F.1 F.2.1 d_Machine_run_87 (by rw [c_43]; decide) (by rw [c_43]; decide) (by rw [c_43]; decide) (by decide) ?_
                      refine lv_aload_n F.1 F.2.1 d_Machine_run_374 rfl (lv_at hl 1 rfl) ?_
                      refine cg_10_0 F hK hw lk_185 d_Machine_run_375 ?_
                      obtain ⟨x7_44, ex7_44, h⟩ := nm_ex h
                      refine lv_iinc (v := x7_44) (lv' := [(7, .int x7_44), (10, .int x10_13), (0, .ref (ad 10 0)), (3, .ref (ad 9 2)), (4, .ref (ad 9 3)), (5, .ref (ad 5 7)), (6, .int x6_6), (8, .int x8), (9, .int x9)]) F.1 F.2.1 d_Machine_run_378 hl (k := 6) rfl (by rw [ex7_44]; rfl) (by decide) rfl (fun ls hl => ?_)
                      refine lv_iload F.1 F.2.1 d_Machine_run_381 (lv_at hl 0 rfl) ?_
                      refine lv_bipush (v := 63) F.1 F.2.1 d_Machine_run_383 (by decide) ?_
                      refine lv_iand F.1 F.2.1 d_Machine_run_385 ?_
                      obtain ⟨hi_45, h⟩ := gd_ex h
                      refine cl_10_0 F hK hw hi_45 d_Machine_run_386 ?_
                      refine lv_iload F.1 F.2.1 d_Machine_run_387 (lv_at hl 7 rfl) ?_
                      refine lv_icmp_eq (tgt := 396) F.1 F.2.1 d_Machine_run_389 (by decide) (fun c_46 => ?_) (fun c_46 => ?_)
                      · replace h := ip c_46 h
                        refine lv_iconst (v := 0) F.1 F.2.1 d_Machine_run_396 (by decide) ?_
                        exact J_397_l55 S x7_44 x9 (0 : Int32) H locs ls hw (lv_sub hl [2, 3, 4, 5, 6, 0, 8] rfl) o h ho
                      · replace h := iq c_46 h
                        refine lv_iconst (v := 1) F.1 F.2.1 d_Machine_run_392 (by decide) ?_
                        refine lv_goto (tgt := 397) F.1 F.2.1 d_Machine_run_393 (by decide) ?_
                        exact J_397_l55 S x7_44 x9 (1 : Int32) H locs ls hw (lv_sub hl [2, 3, 4, 5, 6, 0, 8] rfl) o h ho
                    replace h := iq c_43 h
                    rcases Decidable.em (v_14 = (10 : Int32)) with c_47 | c_47
                    · replace h := ip c_47 h
                      refine lv_tableIn (off := 315) (tgt := 402) F.1 F.2.1 d_Machine_run_87 (by rw [c_47]; decide) (by rw [c_47]; decide) (by rw [c_47]; decide) (by decide) ?_
                      refine lv_aload_n F.1 F.2.1 d_Machine_run_402 rfl (lv_at hl 1 rfl) ?_
                      refine cg_10_0 F hK hw lk_185 d_Machine_run_403 ?_
                      obtain ⟨x7_48, ex7_48, h⟩ := nm_ex h
                      refine lv_iinc (v := x7_48) (lv' := [(7, .int x7_48), (10, .int x10_13), (0, .ref (ad 10 0)), (3, .ref (ad 9 2)), (4, .ref (ad 9 3)), (5, .ref (ad 5 7)), (6, .int x6_6), (8, .int x8), (9, .int x9)]) F.1 F.2.1 d_Machine_run_406 hl (k := 6) rfl (by rw [ex7_48]; rfl) (by decide) rfl (fun ls hl => ?_)
                      refine lv_iload F.1 F.2.1 d_Machine_run_409 (lv_at hl 0 rfl) ?_
                      refine lv_bipush (v := 63) F.1 F.2.1 d_Machine_run_411 (by decide) ?_
                      refine lv_iand F.1 F.2.1 d_Machine_run_413 ?_
                      obtain ⟨hi_49, h⟩ := gd_ex h
                      refine cl_10_0 F hK hw hi_49 d_Machine_run_414 ?_
                      refine lv_iload F.1 F.2.1 d_Machine_run_415 (lv_at hl 7 rfl) ?_
                      refine lv_icmp_ge (tgt := 424) F.1 F.2.1 d_Machine_run_417 (by decide) (fun c_50 => ?_) (fun c_50 => ?_)
                      · replace h := ip c_50 h
                        refine lv_iconst (v := 0) F.1 F.2.1 d_Machine_run_424 (by decide) ?_
                        exact J_425_l55 S x7_48 x9 (0 : Int32) H locs ls hw (lv_sub hl [2, 3, 4, 5, 6, 0, 8] rfl) o h ho
                      · replace h := iq c_50 h
                        refine lv_iconst (v := 1) F.1 F.2.1 d_Machine_run_420 (by decide) ?_
                        refine lv_goto (tgt := 425) F.1 F.2.1 d_Machine_run_421 (by decide) ?_
                        exact J_425_l55 S x7_48 x9 (1 : Int32) H locs ls hw (lv_sub hl [2, 3, 4, 5, 6, 0, 8] rfl) o h ho
                    replace h := iq c_47 h
                    rcases Decidable.em (v_14 = (11 : Int32)) with c_51 | c_51
                    · replace h := ip c_51 h
                      refine lv_tableIn (off := 343) (tgt := 430) F.1 F.2.1 d_Machine_run_87 (by rw [c_51]; decide) (by rw [c_51]; decide) (by rw [c_51]; decide) (by decide) ?_
                      refine lv_aload_n F.1 F.2.1 d_Machine_run_430 rfl (lv_at hl 1 rfl) ?_
                      refine cg_10_0 F hK hw lk_185 d_Machine_run_431 ?_
                      obtain ⟨x7_52, ex7_52, h⟩ := nm_ex h
                      refine lv_iinc (v := x7_52) (lv' := [(7, .int x7_52), (10, .int x10_13), (0, .ref (ad 10 0)), (3, .ref (ad 9 2)), (4, .ref (ad 9 3)), (5, .ref (ad 5 7)), (6, .int x6_6), (8, .int x8), (9, .int x9)]) F.1 F.2.1 d_Machine_run_434 hl (k := 6) rfl (by rw [ex7_52]; rfl) (by decide) rfl (fun ls hl => ?_)
                      refine lv_iload F.1 F.2.1 d_Machine_run_437 (lv_at hl 0 rfl) ?_
                      refine lv_bipush (v := 63) F.1 F.2.1 d_Machine_run_439 (by decide) ?_
                      refine lv_iand F.1 F.2.1 d_Machine_run_441 ?_
                      obtain ⟨hi_53, h⟩ := gd_ex h
                      refine cl_10_0 F hK hw hi_53 d_Machine_run_442 ?_
                      refine lv_iload F.1 F.2.1 d_Machine_run_443 (lv_at hl 7 rfl) ?_
                      refine lv_icmp_gt (tgt := 452) F.1 F.2.1 d_Machine_run_445 (by decide) (fun c_54 => ?_) (fun c_54 => ?_)
                      · replace h := ip c_54 h
                        refine lv_iconst (v := 0) F.1 F.2.1 d_Machine_run_452 (by decide) ?_
                        exact J_453_l55 S x7_52 x9 (0 : Int32) H locs ls hw (lv_sub hl [2, 3, 4, 5, 6, 0, 8] rfl) o h ho
                      · replace h := iq c_54 h
                        refine lv_iconst (v := 1) F.1 F.2.1 d_Machine_run_448 (by decide) ?_
                        refine lv_goto (tgt := 453) F.1 F.2.1 d_Machine_run_449 (by decide) ?_
                        exact J_453_l55 S x7_52 x9 (1 : Int32) H locs ls hw (lv_sub hl [2, 3, 4, 5, 6, 0, 8] rfl) o h ho
                    replace h := iq c_51 h
                    rcases Decidable.em (v_14 = (12 : Int32)) with c_55 | c_55
                    · replace h := ip c_55 h
                      refine lv_tableIn (off := 413) (tgt := 500) F.1 F.2.1 d_Machine_run_87 (by rw [c_55]; decide) (by rw [c_55]; decide) (by rw [c_55]; decide) (by decide) ?_
                      exact J_500_l55 S x7 x8 x9 H locs ls hw (lv_sub hl [1, 2, 3, 4, 5, 6, 7, 8] rfl) o h ho
                    replace h := iq c_55 h
                    rcases Decidable.em (v_14 = (13 : Int32)) with c_56 | c_56
                    · replace h := ip c_56 h
                      refine lv_tableIn (off := 413) (tgt := 500) F.1 F.2.1 d_Machine_run_87 (by rw [c_56]; decide) (by rw [c_56]; decide) (by rw [c_56]; decide) (by decide) ?_
                      exact J_500_l55 S x7 x8 x9 H locs ls hw (lv_sub hl [1, 2, 3, 4, 5, 6, 7, 8] rfl) o h ho
                    replace h := iq c_56 h
                    rcases Decidable.em (v_14 = (14 : Int32)) with c_57 | c_57
                    · replace h := ip c_57 h
                      refine lv_tableIn (off := 413) (tgt := 500) F.1 F.2.1 d_Machine_run_87 (by rw [c_57]; decide) (by rw [c_57]; decide) (by rw [c_57]; decide) (by decide) ?_
                      exact J_500_l55 S x7 x8 x9 H locs ls hw (lv_sub hl [1, 2, 3, 4, 5, 6, 7, 8] rfl) o h ho
                    replace h := iq c_57 h
                    rcases Decidable.em (v_14 = (15 : Int32)) with c_58 | c_58
                    · replace h := ip c_58 h
                      refine lv_tableIn (off := 413) (tgt := 500) F.1 F.2.1 d_Machine_run_87 (by rw [c_58]; decide) (by rw [c_58]; decide) (by rw [c_58]; decide) (by decide) ?_
                      exact J_500_l55 S x7 x8 x9 H locs ls hw (lv_sub hl [1, 2, 3, 4, 5, 6, 7, 8] rfl) o h ho
                    replace h := iq c_58 h
                    rcases Decidable.em (v_14 = (16 : Int32)) with c_59 | c_59
                    · replace h := ip c_59 h
                      refine lv_tableIn (off := 413) (tgt := 500) F.1 F.2.1 d_Machine_run_87 (by rw [c_59]; decide) (by rw [c_59]; decide) (by rw [c_59]; decide) (by decide) ?_
                      exact J_500_l55 S x7 x8 x9 H locs ls hw (lv_sub hl [1, 2, 3, 4, 5, 6, 7, 8] rfl) o h ho
                    replace h := iq c_59 h
                    rcases Decidable.em (v_14 = (17 : Int32)) with c_60 | c_60
                    · replace h := ip c_60 h
                      refine lv_tableIn (off := 413) (tgt := 500) F.1 F.2.1 d_Machine_run_87 (by rw [c_60]; decide) (by rw [c_60]; decide) (by rw [c_60]; decide) (by decide) ?_
                      exact J_500_l55 S x7 x8 x9 H locs ls hw (lv_sub hl [1, 2, 3, 4, 5, 6, 7, 8] rfl) o h ho
                    replace h := iq c_60 h
                    rcases Decidable.em (v_14 = (18 : Int32)) with c_61 | c_61
                    · replace h := ip c_61 h
                      refine lv_tableIn (off := 413) (tgt := 500) F.1 F.2.1 d_Machine_run_87 (by rw [c_61]; decide) (by rw [c_61]; decide) (by rw [c_61]; decide) (by decide) ?_
                      exact J_500_l55 S x7 x8 x9 H locs ls hw (lv_sub hl [1, 2, 3, 4, 5, 6, 7, 8] rfl) o h ho
                    replace h := iq c_61 h
                    rcases Decidable.em (v_14 = (19 : Int32)) with c_62 | c_62
                    · replace h := ip c_62 h
                      refine lv_tableIn (off := 413) (tgt := 500) F.1 F.2.1 d_Machine_run_87 (by rw [c_62]; decide) (by rw [c_62]; decide) (by rw [c_62]; decide) (by decide) ?_
                      exact J_500_l55 S x7 x8 x9 H locs ls hw (lv_sub hl [1, 2, 3, 4, 5, 6, 7, 8] rfl) o h ho
                    replace h := iq c_62 h
                    rcases Decidable.em (v_14 = (20 : Int32)) with c_63 | c_63
                    · replace h := ip c_63 h
                      refine lv_tableIn (off := 413) (tgt := 500) F.1 F.2.1 d_Machine_run_87 (by rw [c_63]; decide) (by rw [c_63]; decide) (by rw [c_63]; decide) (by decide) ?_
                      exact J_500_l55 S x7 x8 x9 H locs ls hw (lv_sub hl [1, 2, 3, 4, 5, 6, 7, 8] rfl) o h ho
                    replace h := iq c_63 h
                    rcases Decidable.em (v_14 = (21 : Int32)) with c_64 | c_64
                    · replace h := ip c_64 h
                      refine lv_tableIn (off := 413) (tgt := 500) F.1 F.2.1 d_Machine_run_87 (by rw [c_64]; decide) (by rw [c_64]; decide) (by rw [c_64]; decide) (by decide) ?_
                      exact J_500_l55 S x7 x8 x9 H locs ls hw (lv_sub hl [1, 2, 3, 4, 5, 6, 7, 8] rfl) o h ho
                    replace h := iq c_64 h
                    rcases Decidable.em (v_14 = (22 : Int32)) with c_65 | c_65
                    · replace h := ip c_65 h
                      refine lv_tableIn (off := 413) (tgt := 500) F.1 F.2.1 d_Machine_run_87 (by rw [c_65]; decide) (by rw [c_65]; decide) (by rw [c_65]; decide) (by decide) ?_
                      exact J_500_l55 S x7 x8 x9 H locs ls hw (lv_sub hl [1, 2, 3, 4, 5, 6, 7, 8] rfl) o h ho
                    replace h := iq c_65 h
                    rcases Decidable.em (v_14 = (23 : Int32)) with c_66 | c_66
                    · replace h := ip c_66 h
                      refine lv_tableIn (off := 392) (tgt := 479) F.1 F.2.1 d_Machine_run_87 (by rw [c_66]; decide) (by rw [c_66]; decide) (by rw [c_66]; decide) (by decide) ?_
                      refine lv_aload_n F.1 F.2.1 d_Machine_run_479 rfl (lv_at hl 1 rfl) ?_
                      refine cg_10_0 F hK hw lk_185 d_Machine_run_480 ?_
                      obtain ⟨x7_67, ex7_67, h⟩ := nm_ex h
                      refine lv_iinc (v := x7_67) (lv' := [(7, .int x7_67), (10, .int x10_13), (0, .ref (ad 10 0)), (3, .ref (ad 9 2)), (4, .ref (ad 9 3)), (5, .ref (ad 5 7)), (6, .int x6_6), (8, .int x8), (9, .int x9)]) F.1 F.2.1 d_Machine_run_483 hl (k := 6) rfl (by rw [ex7_67]; rfl) (by decide) rfl (fun ls hl => ?_)
                      refine lv_iload F.1 F.2.1 d_Machine_run_486 (lv_at hl 0 rfl) ?_
                      refine lv_bipush (v := 63) F.1 F.2.1 d_Machine_run_488 (by decide) ?_
                      refine lv_iand F.1 F.2.1 d_Machine_run_490 ?_
                      obtain ⟨hi_68, h⟩ := gd_ex h
                      refine cl_10_0 F hK hw hi_68 d_Machine_run_491 ?_
                      refine lv_iload F.1 F.2.1 d_Machine_run_492 (lv_at hl 7 rfl) ?_
                      refine lv_ior F.1 F.2.1 d_Machine_run_494 ?_
                      obtain ⟨x8_69, ex8_69, h⟩ := nm_ex h
                      refine lv_nm ex8_69 ?_
                      refine lv_istore (lv' := [(8, .int x8_69), (7, .int x7_67), (10, .int x10_13), (0, .ref (ad 10 0)), (3, .ref (ad 9 2)), (4, .ref (ad 9 3)), (5, .ref (ad 5 7)), (6, .int x6_6), (9, .int x9)]) F.1 F.2.1 d_Machine_run_495 hl (by decide) rfl (fun ls hl => ?_)
                      refine lv_goto (tgt := 506) F.1 F.2.1 d_Machine_run_497 (by decide) ?_
                      exact J_506_l55 S x7_67 x8_69 x9 H locs ls hw (lv_sub hl [3, 4, 5, 6, 7, 1, 0, 8] rfl) o h ho
                    replace h := iq c_66 h
                    rcases Decidable.em (v_14 = (24 : Int32)) with c_70 | c_70
                    · replace h := ip c_70 h
                      refine lv_tableIn (off := 371) (tgt := 458) F.1 F.2.1 d_Machine_run_87 (by rw [c_70]; decide) (by rw [c_70]; decide) (by rw [c_70]; decide) (by decide) ?_
                      refine lv_aload_n F.1 F.2.1 d_Machine_run_458 rfl (lv_at hl 1 rfl) ?_
                      refine cg_10_0 F hK hw lk_185 d_Machine_run_459 ?_
                      obtain ⟨x7_71, ex7_71, h⟩ := nm_ex h
                      refine lv_iinc (v := x7_71) (lv' := [(7, .int x7_71), (10, .int x10_13), (0, .ref (ad 10 0)), (3, .ref (ad 9 2)), (4, .ref (ad 9 3)), (5, .ref (ad 5 7)), (6, .int x6_6), (8, .int x8), (9, .int x9)]) F.1 F.2.1 d_Machine_run_462 hl (k := 6) rfl (by rw [ex7_71]; rfl) (by decide) rfl (fun ls hl => ?_)
                      refine lv_iload F.1 F.2.1 d_Machine_run_465 (lv_at hl 0 rfl) ?_
                      refine lv_bipush (v := 63) F.1 F.2.1 d_Machine_run_467 (by decide) ?_
                      refine lv_iand F.1 F.2.1 d_Machine_run_469 ?_
                      obtain ⟨hi_72, h⟩ := gd_ex h
                      refine cl_10_0 F hK hw hi_72 d_Machine_run_470 ?_
                      refine lv_iload F.1 F.2.1 d_Machine_run_471 (lv_at hl 7 rfl) ?_
                      refine lv_iand F.1 F.2.1 d_Machine_run_473 ?_
                      obtain ⟨x8_73, ex8_73, h⟩ := nm_ex h
                      refine lv_nm ex8_73 ?_
                      refine lv_istore (lv' := [(8, .int x8_73), (7, .int x7_71), (10, .int x10_13), (0, .ref (ad 10 0)), (3, .ref (ad 9 2)), (4, .ref (ad 9 3)), (5, .ref (ad 5 7)), (6, .int x6_6), (9, .int x9)]) F.1 F.2.1 d_Machine_run_474 hl (by decide) rfl (fun ls hl => ?_)
                      refine lv_goto (tgt := 506) F.1 F.2.1 d_Machine_run_476 (by decide) ?_
                      exact J_506_l55 S x7_71 x8_73 x9 H locs ls hw (lv_sub hl [3, 4, 5, 6, 7, 1, 0, 8] rfl) o h ho
                    replace h := iq c_70 h
                    rcases Decidable.em (v_14 = (25 : Int32)) with c_74 | c_74
                    · replace h := ip c_74 h
                      refine lv_tableIn (off := 413) (tgt := 500) F.1 F.2.1 d_Machine_run_87 (by rw [c_74]; decide) (by rw [c_74]; decide) (by rw [c_74]; decide) (by decide) ?_
                      exact J_500_l55 S x7 x8 x9 H locs ls hw (lv_sub hl [1, 2, 3, 4, 5, 6, 7, 8] rfl) o h ho
                    replace h := iq c_74 h
                    rcases Decidable.em (v_14 = (26 : Int32)) with c_75 | c_75
                    · replace h := ip c_75 h
                      refine lv_tableIn (off := 166) (tgt := 253) F.1 F.2.1 d_Machine_run_87 (by rw [c_75]; decide) (by rw [c_75]; decide) (by rw [c_75]; decide) (by decide) ?_
                      refine lv_aload_n F.1 F.2.1 d_Machine_run_253 rfl (lv_at hl 1 rfl) ?_
                      refine cg_10_0 F hK hw lk_185 d_Machine_run_254 ?_
                      refine lv_iload F.1 F.2.1 d_Machine_run_257 (lv_at hl 6 rfl) ?_
                      obtain ⟨x7_76, ex7_76, h⟩ := nm_ex h
                      refine lv_iinc (v := x7_76) (lv' := [(7, .int x7_76), (10, .int x10_13), (0, .ref (ad 10 0)), (3, .ref (ad 9 2)), (4, .ref (ad 9 3)), (5, .ref (ad 5 7)), (6, .int x6_6), (8, .int x8), (9, .int x9)]) F.1 F.2.1 d_Machine_run_259 hl (k := 6) rfl (by rw [ex7_76]; rfl) (by decide) rfl (fun ls hl => ?_)
                      refine lv_bipush (v := 63) F.1 F.2.1 d_Machine_run_262 (by decide) ?_
                      refine lv_iand F.1 F.2.1 d_Machine_run_264 ?_
                      refine lv_iload F.1 F.2.1 d_Machine_run_265 (lv_at hl 7 rfl) ?_
                      obtain ⟨hi_77, h⟩ := gd_ex h
                      obtain ⟨S_78, eS_78, h⟩ := nm_ex h
                      refine cs_10_0 F hK hw hi_77 d_Machine_run_267 eS_78 (fun H locs hw => ?_)
                      refine lv_aload F.1 F.2.1 d_Machine_run_268 (lv_at hl 4 rfl) ?_
                      refine lv_iload F.1 F.2.1 d_Machine_run_270 (lv_at hl 1 rfl) ?_
                      refine lv_iconst (v := 5) F.1 F.2.1 d_Machine_run_272 (by decide) ?_
                      refine lv_ishr F.1 F.2.1 d_Machine_run_273 ?_
                      refine lv_bipush (v := 7) F.1 F.2.1 d_Machine_run_274 (by decide) ?_
                      refine lv_iand F.1 F.2.1 d_Machine_run_276 ?_
                      obtain ⟨hi_79, h⟩ := gd_ex h
                      refine cl_9_2 F hK hw hi_79 d_Machine_run_277 ?_
                      obtain ⟨x8_80, ex8_80, h⟩ := nm_ex h
                      refine lv_nm ex8_80 ?_
                      refine lv_istore (lv' := [(8, .int x8_80), (7, .int x7_76), (10, .int x10_13), (0, .ref (ad 10 0)), (3, .ref (ad 9 2)), (4, .ref (ad 9 3)), (5, .ref (ad 5 7)), (6, .int x6_6), (9, .int x9)]) F.1 F.2.1 d_Machine_run_278 hl (by decide) rfl (fun ls hl => ?_)
                      refine lv_goto (tgt := 506) F.1 F.2.1 d_Machine_run_280 (by decide) ?_
                      exact J_506_l55 S_78 x7_76 x8_80 x9 H locs ls hw (lv_sub hl [3, 4, 5, 6, 7, 1, 0, 8] rfl) o h ho
                    replace h := iq c_75 h
                    have zc_15 := lv_neT (a := 2) c_15 rfl
                    have zc_21 := lv_neT (a := 3) c_21 rfl
                    have zc_26 := lv_neT (a := 4) c_26 rfl
                    have zc_27 := lv_neT (a := 5) c_27 rfl
                    have zc_31 := lv_neT (a := 6) c_31 rfl
                    have zc_35 := lv_neT (a := 7) c_35 rfl
                    have zc_39 := lv_neT (a := 8) c_39 rfl
                    have zc_43 := lv_neT (a := 9) c_43 rfl
                    have zc_47 := lv_neT (a := 10) c_47 rfl
                    have zc_51 := lv_neT (a := 11) c_51 rfl
                    have zc_55 := lv_neT (a := 12) c_55 rfl
                    have zc_56 := lv_neT (a := 13) c_56 rfl
                    have zc_57 := lv_neT (a := 14) c_57 rfl
                    have zc_58 := lv_neT (a := 15) c_58 rfl
                    have zc_59 := lv_neT (a := 16) c_59 rfl
                    have zc_60 := lv_neT (a := 17) c_60 rfl
                    have zc_61 := lv_neT (a := 18) c_61 rfl
                    have zc_62 := lv_neT (a := 19) c_62 rfl
                    have zc_63 := lv_neT (a := 20) c_63 rfl
                    have zc_64 := lv_neT (a := 21) c_64 rfl
                    have zc_65 := lv_neT (a := 22) c_65 rfl
                    have zc_66 := lv_neT (a := 23) c_66 rfl
                    have zc_70 := lv_neT (a := 24) c_70 rfl
                    have zc_74 := lv_neT (a := 25) c_74 rfl
                    have zc_75 := lv_neT (a := 26) c_75 rfl
                    refine lv_tableOut (tgt := 500) F.1 F.2.1 d_Machine_run_87 (by omega) (by decide) ?_
                    exact J_500_l55 S x7 x8 x9 H locs ls hw (lv_sub hl [1, 2, 3, 4, 5, 6, 7, 8] rfl) o h ho
            rw [eP_55] at hL_55
            exact hL_55 H locs ls hw (lv_sub hl [5, 8, 9, 4, 3, 2, 1, 0] rfl)
          · replace h := iq c_4 h
            exact J_25 S H locs ls hw (lv_sub hl [] rfl) o h ho
  exact key _ _ hw _ h (by rw [eX_0]; exact fun H locs pc ls hd hw => hQ H locs pc ls ad rfl hd hw)
theorem d_Chains_allNextsHold_0 : decode b_Chains_allNextsHold 0 = .ok (.iconst 0, 1) := by decide +kernel
theorem d_Chains_allNextsHold_1 : decode b_Chains_allNextsHold 1 = .ok (.istore_n 2, 1) := by decide +kernel
theorem d_Chains_allNextsHold_2 : decode b_Chains_allNextsHold 2 = .ok (.iload_n 2, 1) := by decide +kernel
theorem d_Chains_allNextsHold_3 : decode b_Chains_allNextsHold 3 = .ok (.aload_n 1, 1) := by decide +kernel
theorem d_Chains_allNextsHold_4 : decode b_Chains_allNextsHold 4 = .ok (.iconst 3, 1) := by decide +kernel
theorem d_Chains_allNextsHold_5 : decode b_Chains_allNextsHold 5 = .ok (.invokevirtual 78, 3) := by decide +kernel
theorem d_Chains_allNextsHold_8 : decode b_Chains_allNextsHold 8 = .ok (.if_icmp .ge 34, 3) := by decide +kernel
theorem d_Chains_allNextsHold_11 : decode b_Chains_allNextsHold 11 = .ok (.aload_n 0, 1) := by decide +kernel
theorem d_Chains_allNextsHold_12 : decode b_Chains_allNextsHold 12 = .ok (.getfield 12, 3) := by decide +kernel
theorem d_Chains_allNextsHold_15 : decode b_Chains_allNextsHold 15 = .ok (.aload_n 1, 1) := by decide +kernel
theorem d_Chains_allNextsHold_16 : decode b_Chains_allNextsHold 16 = .ok (.bipush 24, 2) := by decide +kernel
theorem d_Chains_allNextsHold_18 : decode b_Chains_allNextsHold 18 = .ok (.iload_n 2, 1) := by decide +kernel
theorem d_Chains_allNextsHold_19 : decode b_Chains_allNextsHold 19 = .ok (.iadd, 1) := by decide +kernel
theorem d_Chains_allNextsHold_20 : decode b_Chains_allNextsHold 20 = .ok (.aload_n 0, 1) := by decide +kernel
theorem d_Chains_allNextsHold_21 : decode b_Chains_allNextsHold 21 = .ok (.getfield 18, 3) := by decide +kernel
theorem d_Chains_allNextsHold_24 : decode b_Chains_allNextsHold 24 = .ok (.aload_n 0, 1) := by decide +kernel
theorem d_Chains_allNextsHold_25 : decode b_Chains_allNextsHold 25 = .ok (.getfield 22, 3) := by decide +kernel
theorem d_Chains_allNextsHold_28 : decode b_Chains_allNextsHold 28 = .ok (.invokevirtual 81, 3) := by decide +kernel
theorem d_Chains_allNextsHold_31 : decode b_Chains_allNextsHold 31 = .ok (.ifCond .ne 5, 3) := by decide +kernel
theorem d_Chains_allNextsHold_34 : decode b_Chains_allNextsHold 34 = .ok (.iconst 0, 1) := by decide +kernel
theorem d_Chains_allNextsHold_35 : decode b_Chains_allNextsHold 35 = .ok (.ireturn, 1) := by decide +kernel
theorem d_Chains_allNextsHold_36 : decode b_Chains_allNextsHold 36 = .ok (.iinc 2 1, 3) := by decide +kernel
theorem d_Chains_allNextsHold_39 : decode b_Chains_allNextsHold 39 = .ok (.goto (-37), 3) := by decide +kernel
theorem d_Chains_allNextsHold_42 : decode b_Chains_allNextsHold 42 = .ok (.iconst 1, 1) := by decide +kernel
theorem d_Chains_allNextsHold_43 : decode b_Chains_allNextsHold 43 = .ok (.ireturn, 1) := by decide +kernel
set_option maxHeartbeats 4000000 in
set_option maxRecDepth 100000 in
theorem c_Chains_allNextsHold (l : Launch) {S : St} {S' : St} {r : Int32} (h : f_Chains_allNextsHold S = some (r, S')) : MI cw l y_Chains_allNextsHold b_Chains_allNextsHold 3 (some .boolean) 1 30 0 0 (fun ad => [.ref (ad 9 0), .ref (ad 5 0)]) aT aE S r S' := by
  refine MZ_of "LawfulLots$Chains" rfl (by decide) (fun _ => Nat.le_of_ble_eq_true rfl) ?_
  intro p e s m args below meth c D ar ad A Q ls hP F hK hA hw hl hQ
  have hl : lv_has ls 3 [(0, .ref (ad 9 0)), (1, .ref (ad 5 0))] := hl
  obtain ⟨X_0, eX_0⟩ : ∃ X : (Int32 × St) → Prop, X = (fun q => ∀ (H : Heap) (locs : List Loc) (pc : Nat) (ls : Array Slot), isB q.1 = true → decode b_Chains_allNextsHold pc = .ok (.ireturn, 1) → Bw cw D ar A s.heap H locs ad q.2 → W p l e (RM 1 30) s m args below meth c H locs 0 0 Q (F0 m pc ls [.int q.1])) := ⟨_, rfl⟩
  have key : ∀ (H : Heap) (locs : List Loc), Bw cw D ar A s.heap H locs ad S → ∀ o, f_Chains_allNextsHold S = some o → X_0 o → W p l e (RM 1 30) s m args below meth c H locs 0 0 Q (F0 m 0 ls []) := by
    intro H locs hw o h ho
    unfold f_Chains_allNextsHold at h
    refine lv_iconst (v := 0) F.1 F.2.1 d_Chains_allNextsHold_0 (by decide) ?_
    refine lv_istore_n (lv' := [(2, .int (0 : Int32)), (0, .ref (ad 9 0)), (1, .ref (ad 5 0))]) F.1 F.2.1 d_Chains_allNextsHold_1 rfl hl (by decide) rfl (fun ls hl => ?_)
    obtain ⟨P_2, eP_2⟩ : ∃ P : (St × Int32) → Prop, P = (fun q => ∀ (H : Heap) (locs : List Loc) (ls : Array Slot), Bw cw D ar A s.heap H locs ad q.1 → lv_has ls 3 [(0, .ref (ad 9 0)), (1, .ref (ad 5 0)), (2, .int q.2)] → W p l e (RM 1 30) s m args below meth c H locs 0 0 Q (F0 m 2 ls [])) := ⟨_, rfl⟩
    have hL_2 : P_2 (S, (0 : Int32)) := by
      refine wh_gp (P := P_2) (X := X_0) h ho ?_
      clear h ho
      intro q o h ho
      obtain ⟨S, x2⟩ := q
      have h : Chains_allNextsHold_l2 S x2 = some o := h
      unfold Chains_allNextsHold_l2 at h
      rw [eP_2]
      intro H locs ls hw hl
      refine lv_iload_n F.1 F.2.1 d_Chains_allNextsHold_2 rfl (lv_at hl 2 rfl) ?_
      refine lv_aload_n F.1 F.2.1 d_Chains_allNextsHold_3 rfl (lv_at hl 1 rfl) ?_
      refine lv_iconst (v := 3) F.1 F.2.1 d_Chains_allNextsHold_4 (by decide) ?_
      obtain ⟨v_2, hc_1, h⟩ := bd_ex h
      refine cV_i F hA rfl hK hw (c_Book_toldOf_5 l hc_1) trivial rfl (good_V lk_914 lk_452 lk_453 lk_4 lk_454) (cr_5 hK hw) hd_Book_toldOf ⟨Nat.le_of_ble_eq_true rfl, Nat.le_of_ble_eq_true rfl⟩ rfl hl.1 rfl (Nat.le_of_ble_eq_true rfl) d_Chains_allNextsHold_5 ⟨(Nat.zero_le _), (Nat.zero_le _)⟩ (fun H locs hw => ?_)
      refine lv_icmp_ge (tgt := 42) F.1 F.2.1 d_Chains_allNextsHold_8 (by decide) (fun c_3 => ?_) (fun c_3 => ?_)
      · replace h := ip c_3 h
        refine lv_iconst (v := 1) F.1 F.2.1 d_Chains_allNextsHold_42 (by decide) ?_
        cases h
        have ho : X_0 _ := ho
        rw [eX_0] at ho
        exact ho H locs _ ls isB1 d_Chains_allNextsHold_43 hw
      · replace h := iq c_3 h
        refine lv_aload_n F.1 F.2.1 d_Chains_allNextsHold_11 rfl (lv_at hl 0 rfl) ?_
        refine cg_9_0 F hK hw lk_317 d_Chains_allNextsHold_12 ?_
        refine lv_aload_n F.1 F.2.1 d_Chains_allNextsHold_15 rfl (lv_at hl 1 rfl) ?_
        refine lv_bipush (v := 24) F.1 F.2.1 d_Chains_allNextsHold_16 (by decide) ?_
        refine lv_iload_n F.1 F.2.1 d_Chains_allNextsHold_18 rfl (lv_at hl 2 rfl) ?_
        refine lv_iadd F.1 F.2.1 d_Chains_allNextsHold_19 ?_
        refine lv_aload_n F.1 F.2.1 d_Chains_allNextsHold_20 rfl (lv_at hl 0 rfl) ?_
        refine cg_9_1 F hK hw lk_318 d_Chains_allNextsHold_21 ?_
        refine lv_aload_n F.1 F.2.1 d_Chains_allNextsHold_24 rfl (lv_at hl 0 rfl) ?_
        refine cg_9_2 F hK hw lk_319 d_Chains_allNextsHold_25 ?_
        obtain ⟨v_5, S_6, hc_4, h⟩ := bd2_ex h
        refine cV_i F hA rfl hK hw (c_Machine_run_10_9_1_9_2 l hc_4) trivial rfl (good_V lk_915 lk_613 lk_614 lk_6 lk_615) (cr_10 hK hw) hd_Machine_run ⟨Nat.le_of_ble_eq_true rfl, Nat.le_of_ble_eq_true rfl⟩ rfl hl.1 rfl (Nat.le_of_ble_eq_true rfl) d_Chains_allNextsHold_28 ⟨(Nat.zero_le _), (Nat.zero_le _)⟩ (fun H locs hw => ?_)
        refine lv_if_ne (tgt := 36) F.1 F.2.1 d_Chains_allNextsHold_31 (by decide) (fun c_7 => ?_) (fun c_7 => ?_)
        · replace h := iq c_7 h
          obtain ⟨x2_8, ex2_8, h⟩ := nm_ex h
          refine lv_iinc (v := x2_8) (lv' := [(2, .int x2_8), (0, .ref (ad 9 0)), (1, .ref (ad 5 0))]) F.1 F.2.1 d_Chains_allNextsHold_36 hl (k := 2) rfl (by rw [ex2_8]; rfl) (by decide) rfl (fun ls hl => ?_)
          refine lv_goto (tgt := 2) F.1 F.2.1 d_Chains_allNextsHold_39 (by decide) ?_
          cases h
          have ho : P_2 _ := ho
          rw [eP_2] at ho
          exact ho H locs ls hw (lv_sub hl [1, 2, 0] rfl)
        · replace h := ip c_7 h
          refine lv_iconst (v := 0) F.1 F.2.1 d_Chains_allNextsHold_34 (by decide) ?_
          cases h
          have ho : X_0 _ := ho
          rw [eX_0] at ho
          exact ho H locs _ ls isB0 d_Chains_allNextsHold_35 hw
    rw [eP_2] at hL_2
    exact hL_2 H locs ls hw (lv_sub hl [1, 2, 0] rfl)
  exact key _ _ hw _ h (by rw [eX_0]; exact fun H locs pc ls hb hd hw => hQ H locs pc ls ad hb rfl hd hw)
theorem d_Chains_followersOfOld_0 : decode b_Chains_followersOfOld 0 = .ok (.lconst 0, 1) := by decide +kernel
theorem d_Chains_followersOfOld_1 : decode b_Chains_followersOfOld 1 = .ok (.lstore_n 2, 1) := by decide +kernel
theorem d_Chains_followersOfOld_2 : decode b_Chains_followersOfOld 2 = .ok (.iconst 0, 1) := by decide +kernel
theorem d_Chains_followersOfOld_3 : decode b_Chains_followersOfOld 3 = .ok (.istore 4, 2) := by decide +kernel
theorem d_Chains_followersOfOld_5 : decode b_Chains_followersOfOld 5 = .ok (.iload 4, 2) := by decide +kernel
theorem d_Chains_followersOfOld_7 : decode b_Chains_followersOfOld 7 = .ok (.aload_n 0, 1) := by decide +kernel
theorem d_Chains_followersOfOld_8 : decode b_Chains_followersOfOld 8 = .ok (.getfield 32, 3) := by decide +kernel
theorem d_Chains_followersOfOld_11 : decode b_Chains_followersOfOld 11 = .ok (.if_icmp .ge 44, 3) := by decide +kernel
theorem d_Chains_followersOfOld_14 : decode b_Chains_followersOfOld 14 = .ok (.aload_n 1, 1) := by decide +kernel
theorem d_Chains_followersOfOld_15 : decode b_Chains_followersOfOld 15 = .ok (.getfield 49, 3) := by decide +kernel
theorem d_Chains_followersOfOld_18 : decode b_Chains_followersOfOld 18 = .ok (.aload_n 1, 1) := by decide +kernel
theorem d_Chains_followersOfOld_19 : decode b_Chains_followersOfOld 19 = .ok (.iload 4, 2) := by decide +kernel
theorem d_Chains_followersOfOld_21 : decode b_Chains_followersOfOld 21 = .ok (.invokevirtual 53, 3) := by decide +kernel
theorem d_Chains_followersOfOld_24 : decode b_Chains_followersOfOld 24 = .ok (.aload_n 0, 1) := by decide +kernel
theorem d_Chains_followersOfOld_25 : decode b_Chains_followersOfOld 25 = .ok (.getfield 18, 3) := by decide +kernel
theorem d_Chains_followersOfOld_28 : decode b_Chains_followersOfOld 28 = .ok (.invokevirtual 57, 3) := by decide +kernel
theorem d_Chains_followersOfOld_31 : decode b_Chains_followersOfOld 31 = .ok (.aload_n 0, 1) := by decide +kernel
theorem d_Chains_followersOfOld_32 : decode b_Chains_followersOfOld 32 = .ok (.aload_n 1, 1) := by decide +kernel
theorem d_Chains_followersOfOld_33 : decode b_Chains_followersOfOld 33 = .ok (.getfield 49, 3) := by decide +kernel
theorem d_Chains_followersOfOld_36 : decode b_Chains_followersOfOld 36 = .ok (.invokevirtual 74, 3) := by decide +kernel
theorem d_Chains_followersOfOld_39 : decode b_Chains_followersOfOld 39 = .ok (.ifCond .eq 10, 3) := by decide +kernel
theorem d_Chains_followersOfOld_42 : decode b_Chains_followersOfOld 42 = .ok (.lload_n 2, 1) := by decide +kernel
theorem d_Chains_followersOfOld_43 : decode b_Chains_followersOfOld 43 = .ok (.lconst 1, 1) := by decide +kernel
theorem d_Chains_followersOfOld_44 : decode b_Chains_followersOfOld 44 = .ok (.iload 4, 2) := by decide +kernel
theorem d_Chains_followersOfOld_46 : decode b_Chains_followersOfOld 46 = .ok (.lshl, 1) := by decide +kernel
theorem d_Chains_followersOfOld_47 : decode b_Chains_followersOfOld 47 = .ok (.lor, 1) := by decide +kernel
theorem d_Chains_followersOfOld_48 : decode b_Chains_followersOfOld 48 = .ok (.lstore_n 2, 1) := by decide +kernel
theorem d_Chains_followersOfOld_49 : decode b_Chains_followersOfOld 49 = .ok (.iinc 4 1, 3) := by decide +kernel
theorem d_Chains_followersOfOld_52 : decode b_Chains_followersOfOld 52 = .ok (.goto (-47), 3) := by decide +kernel
theorem d_Chains_followersOfOld_55 : decode b_Chains_followersOfOld 55 = .ok (.lload_n 2, 1) := by decide +kernel
theorem d_Chains_followersOfOld_56 : decode b_Chains_followersOfOld 56 = .ok (.lreturn, 1) := by decide +kernel
set_option maxHeartbeats 4000000 in
set_option maxRecDepth 100000 in
theorem c_Chains_followersOfOld (l : Launch) {S : St} {S' : St} {r : Int64} (h : f_Chains_followersOfOld S = some (r, S')) : ML cw l y_Chains_followersOfOld b_Chains_followersOfOld 5 (some .long) 2 52 0 0 (fun ad => [.ref (ad 9 0), .ref (ad 4 0)]) aT aE S r S' := by
  refine ML_of "LawfulLots$Chains" rfl (by decide) (fun _ => Nat.le_of_ble_eq_true rfl) ?_
  intro p e s m args below meth c D ar ad A Q ls hP F hK hA hw hl hQ
  have hl : lv_has ls 5 [(0, .ref (ad 9 0)), (1, .ref (ad 4 0))] := hl
  obtain ⟨X_0, eX_0⟩ : ∃ X : (Int64 × St) → Prop, X = (fun q => ∀ (H : Heap) (locs : List Loc) (pc : Nat) (ls : Array Slot), decode b_Chains_followersOfOld pc = .ok (.lreturn, 1) → Bw cw D ar A s.heap H locs ad q.2 → W p l e (RM 2 52) s m args below meth c H locs 0 0 Q (F0 m pc ls [.long q.1])) := ⟨_, rfl⟩
  have key : ∀ (H : Heap) (locs : List Loc), Bw cw D ar A s.heap H locs ad S → ∀ o, f_Chains_followersOfOld S = some o → X_0 o → W p l e (RM 2 52) s m args below meth c H locs 0 0 Q (F0 m 0 ls []) := by
    intro H locs hw o h ho
    unfold f_Chains_followersOfOld at h
    refine lv_lconst (v := 0) F.1 F.2.1 d_Chains_followersOfOld_0 (by decide) ?_
    refine lv_lstore_n (lv' := [(2, .long (0 : Int64)), (0, .ref (ad 9 0)), (1, .ref (ad 4 0))]) F.1 F.2.1 d_Chains_followersOfOld_1 rfl hl (by decide) rfl (fun ls hl => ?_)
    refine lv_iconst (v := 0) F.1 F.2.1 d_Chains_followersOfOld_2 (by decide) ?_
    refine lv_istore (lv' := [(4, .int (0 : Int32)), (2, .long (0 : Int64)), (0, .ref (ad 9 0)), (1, .ref (ad 4 0))]) F.1 F.2.1 d_Chains_followersOfOld_3 hl (by decide) rfl (fun ls hl => ?_)
    obtain ⟨S_12, x2_13, hc_14, h⟩ := bd2_ex h
    obtain ⟨X_5, eX_5⟩ : ∃ X : (St × Int64) → Prop, X = (fun q => ∀ (H : Heap) (locs : List Loc) (ls : Array Slot), Bw cw D ar A s.heap H locs ad q.1 → lv_has ls 5 [(2, .long q.2)] → W p l e (RM 2 52) s m args below meth c H locs 0 0 Q (F0 m 55 ls [])) := ⟨_, rfl⟩
    have hX_5 : X_5 (S_12, x2_13) := by
      rw [eX_5]
      intro H locs ls hw hl
      refine lv_lload_n F.1 F.2.1 d_Chains_followersOfOld_55 rfl (lv_at hl 0 rfl) ?_
      cases h
      have ho : X_0 _ := ho
      rw [eX_0] at ho
      exact ho H locs _ ls d_Chains_followersOfOld_56 hw
    obtain ⟨P_5, eP_5⟩ : ∃ P : (St × Int64 × Int32) → Prop, P = (fun q => ∀ (H : Heap) (locs : List Loc) (ls : Array Slot), Bw cw D ar A s.heap H locs ad q.1 → lv_has ls 5 [(0, .ref (ad 9 0)), (1, .ref (ad 4 0)), (2, .long q.2.1), (4, .int q.2.2)] → W p l e (RM 2 52) s m args below meth c H locs 0 0 Q (F0 m 5 ls [])) := ⟨_, rfl⟩
    have hL_5 : P_5 (S, (0 : Int64), (0 : Int32)) := by
      refine wh_gp (P := P_5) (X := X_5) hc_14 hX_5 ?_
      clear h
      intro q o h ho
      obtain ⟨S, x2, x4⟩ := q
      have h : Chains_followersOfOld_l5 S x2 x4 = some o := h
      unfold Chains_followersOfOld_l5 at h
      rw [eP_5]
      intro H locs ls hw hl
      have J_49_l5 : ∀ (S : St) (x2 : Int64) (x4 : Int32) (H : Heap) (locs : List Loc) (ls : Array Slot), Bw cw D ar A s.heap H locs ad S → lv_has ls 5 [(0, .ref (ad 9 0)), (1, .ref (ad 4 0)), (2, .long x2), (4, .int x4)] → ∀ o, Chains_followersOfOld_j49_l5 S x2 x4 = some o → (Sum.elim P_5 X_5) o → W p l e (RM 2 52) s m args below meth c H locs 0 0 Q (F0 m 49 ls []) := by
        intro S x2 x4 H locs ls hw hl o h ho
        unfold Chains_followersOfOld_j49_l5 at h
        obtain ⟨x4_11, ex4_11, h⟩ := nm_ex h
        refine lv_iinc (v := x4_11) (lv' := [(4, .int x4_11), (0, .ref (ad 9 0)), (1, .ref (ad 4 0)), (2, .long x2)]) F.1 F.2.1 d_Chains_followersOfOld_49 hl (k := 3) rfl (by rw [ex4_11]; rfl) (by decide) rfl (fun ls hl => ?_)
        refine lv_goto (tgt := 5) F.1 F.2.1 d_Chains_followersOfOld_52 (by decide) ?_
        cases h
        have ho : P_5 _ := ho
        rw [eP_5] at ho
        exact ho H locs ls hw (lv_sub hl [1, 2, 3, 0] rfl)
      refine lv_iload F.1 F.2.1 d_Chains_followersOfOld_5 (lv_at hl 3 rfl) ?_
      refine lv_aload_n F.1 F.2.1 d_Chains_followersOfOld_7 rfl (lv_at hl 0 rfl) ?_
      refine cg_9_5 F hK hw lk_322 d_Chains_followersOfOld_8 ?_
      refine lv_icmp_ge (tgt := 55) F.1 F.2.1 d_Chains_followersOfOld_11 (by decide) (fun c_1 => ?_) (fun c_1 => ?_)
      · replace h := ip c_1 h
        cases h
        have ho : X_5 _ := ho
        rw [eX_5] at ho
        exact ho H locs ls hw (lv_sub hl [2] rfl)
      · replace h := iq c_1 h
        refine lv_aload_n F.1 F.2.1 d_Chains_followersOfOld_14 rfl (lv_at hl 1 rfl) ?_
        refine cg_4_8 F hK hw lk_200 d_Chains_followersOfOld_15 ?_
        refine lv_aload_n F.1 F.2.1 d_Chains_followersOfOld_18 rfl (lv_at hl 1 rfl) ?_
        refine lv_iload F.1 F.2.1 d_Chains_followersOfOld_19 (lv_at hl 3 rfl) ?_
        obtain ⟨v_3, hc_2, h⟩ := bd_ex h
        refine cV_i F hA rfl hK hw (c_Chart_inputOf l hc_2) trivial rfl (good_V lk_900 lk_661 lk_662 lk_5 lk_663) (cr_4 hK hw) hd_Chart_inputOf ⟨Nat.le_of_ble_eq_true rfl, Nat.le_of_ble_eq_true rfl⟩ rfl hl.1 rfl (Nat.le_of_ble_eq_true rfl) d_Chains_followersOfOld_21 ⟨(Nat.zero_le _), (Nat.zero_le _)⟩ (fun H locs hw => ?_)
        refine lv_aload_n F.1 F.2.1 d_Chains_followersOfOld_24 rfl (lv_at hl 0 rfl) ?_
        refine cg_9_1 F hK hw lk_318 d_Chains_followersOfOld_25 ?_
        obtain ⟨S_5, hc_4, h⟩ := bd_ex h
        refine cV_v F hA rfl hK hw (c_Book_spell_5_9_1 l hc_4) trivial rfl (good_V lk_901 lk_902 lk_903 lk_4 lk_904) (cr_5 hK hw) hd_Book_spell ⟨Nat.le_of_ble_eq_true rfl, Nat.le_of_ble_eq_true rfl⟩ rfl hl.1 rfl (Nat.le_of_ble_eq_true rfl) d_Chains_followersOfOld_28 ⟨(Nat.zero_le _), (Nat.zero_le _)⟩ (fun H locs hw => ?_)
        refine lv_aload_n F.1 F.2.1 d_Chains_followersOfOld_31 rfl (lv_at hl 0 rfl) ?_
        refine lv_aload_n F.1 F.2.1 d_Chains_followersOfOld_32 rfl (lv_at hl 1 rfl) ?_
        refine cg_4_8 F hK hw lk_200 d_Chains_followersOfOld_33 ?_
        obtain ⟨v_7, S_8, hc_6, h⟩ := bd2_ex h
        refine cV_i F hA rfl hK hw (c_Chains_allNextsHold l hc_6) trivial rfl (good_V lk_910 lk_912 ls_42 lk_9 lk_913) (cr_9 hK hw) hd_Chains_allNextsHold ⟨Nat.le_of_ble_eq_true rfl, Nat.le_of_ble_eq_true rfl⟩ rfl hl.1 rfl (Nat.le_of_ble_eq_true rfl) d_Chains_followersOfOld_36 ⟨(Nat.zero_le _), (Nat.zero_le _)⟩ (fun H locs hw => ?_)
        refine lv_if_eq (tgt := 49) F.1 F.2.1 d_Chains_followersOfOld_39 (by decide) (fun c_9 => ?_) (fun c_9 => ?_)
        · replace h := ip c_9 h
          exact J_49_l5 S_8 x2 x4 H locs ls hw (lv_sub hl [0, 1, 2, 3] rfl) o h ho
        · replace h := iq c_9 h
          refine lv_lload_n F.1 F.2.1 d_Chains_followersOfOld_42 rfl (lv_at hl 2 rfl) ?_
          refine lv_lconst (v := 1) F.1 F.2.1 d_Chains_followersOfOld_43 (by decide) ?_
          refine lv_iload F.1 F.2.1 d_Chains_followersOfOld_44 (lv_at hl 3 rfl) ?_
          refine lv_lshl F.1 F.2.1 d_Chains_followersOfOld_46 rfl ?_
          refine lv_lor F.1 F.2.1 d_Chains_followersOfOld_47 ?_
          obtain ⟨x2_10, ex2_10, h⟩ := nm_ex h
          refine lv_nmL ex2_10 ?_
          refine lv_lstore_n (lv' := [(2, .long x2_10), (0, .ref (ad 9 0)), (1, .ref (ad 4 0)), (4, .int x4)]) F.1 F.2.1 d_Chains_followersOfOld_48 rfl hl (by decide) rfl (fun ls hl => ?_)
          exact J_49_l5 S_8 x2_10 x4 H locs ls hw (lv_sub hl [1, 2, 0, 3] rfl) o h ho
    rw [eP_5] at hL_5
    exact hL_5 H locs ls hw (lv_sub hl [2, 3, 1, 0] rfl)
  exact key _ _ hw _ h (by rw [eX_0]; exact fun H locs pc ls hd hw => hQ H locs pc ls ad rfl hd hw)
theorem d_Chains_indexOf_0 : decode b_Chains_indexOf 0 = .ok (.iload_n 0, 1) := by decide +kernel
theorem d_Chains_indexOf_1 : decode b_Chains_indexOf 1 = .ok (.iconst 1, 1) := by decide +kernel
theorem d_Chains_indexOf_2 : decode b_Chains_indexOf 2 = .ok (.isub, 1) := by decide +kernel
theorem d_Chains_indexOf_3 : decode b_Chains_indexOf 3 = .ok (.bipush 64, 2) := by decide +kernel
theorem d_Chains_indexOf_5 : decode b_Chains_indexOf 5 = .ok (.imul, 1) := by decide +kernel
theorem d_Chains_indexOf_6 : decode b_Chains_indexOf 6 = .ok (.iload_n 1, 1) := by decide +kernel
theorem d_Chains_indexOf_7 : decode b_Chains_indexOf 7 = .ok (.iadd, 1) := by decide +kernel
theorem d_Chains_indexOf_8 : decode b_Chains_indexOf 8 = .ok (.istore_n 2, 1) := by decide +kernel
theorem d_Chains_indexOf_9 : decode b_Chains_indexOf 9 = .ok (.iconst 0, 1) := by decide +kernel
theorem d_Chains_indexOf_10 : decode b_Chains_indexOf 10 = .ok (.sipush 639, 3) := by decide +kernel
theorem d_Chains_indexOf_13 : decode b_Chains_indexOf 13 = .ok (.iload_n 2, 1) := by decide +kernel
theorem d_Chains_indexOf_14 : decode b_Chains_indexOf 14 = .ok (.invokestatic 43, 3) := by decide +kernel
theorem d_Chains_indexOf_17 : decode b_Chains_indexOf 17 = .ok (.invokestatic 85, 3) := by decide +kernel
theorem d_Chains_indexOf_20 : decode b_Chains_indexOf 20 = .ok (.ireturn, 1) := by decide +kernel
set_option maxHeartbeats 4000000 in
set_option maxRecDepth 100000 in
theorem c_Chains_indexOf (l : Launch) (S : St) {x0 : Int32} {x1 : Int32} {r : Int32} (h : f_Chains_indexOf x0 x1 = some r) : MI cw l y_Chains_indexOf b_Chains_indexOf 3 (some .int) 1 21 0 0 (fun ad => [.int x0, .int x1]) aT aE S r S := by
  refine MI_of "LawfulLots$Chains" rfl (by decide) (fun _ => Nat.le_of_ble_eq_true rfl) ?_
  intro p e s m args below meth c D ar ad A Q ls hP F hK hA hw hl hQ
  have hl : lv_has ls 3 [(0, .int x0), (1, .int x1)] := hl
  obtain ⟨X_0, eX_0⟩ : ∃ X : Int32 → Prop, X = (fun q => ∀ (H : Heap) (locs : List Loc) (pc : Nat) (ls : Array Slot), decode b_Chains_indexOf pc = .ok (.ireturn, 1) → Bw cw D ar A s.heap H locs ad S → W p l e (RM 1 21) s m args below meth c H locs 0 0 Q (F0 m pc ls [.int q])) := ⟨_, rfl⟩
  have key : ∀ (H : Heap) (locs : List Loc), Bw cw D ar A s.heap H locs ad S → ∀ o, f_Chains_indexOf x0 x1 = some o → X_0 o → W p l e (RM 1 21) s m args below meth c H locs 0 0 Q (F0 m 0 ls []) := by
    intro H locs hw o h ho
    unfold f_Chains_indexOf at h
    refine lv_iload_n F.1 F.2.1 d_Chains_indexOf_0 rfl (lv_at hl 0 rfl) ?_
    refine lv_iconst (v := 1) F.1 F.2.1 d_Chains_indexOf_1 (by decide) ?_
    refine lv_isub F.1 F.2.1 d_Chains_indexOf_2 ?_
    refine lv_bipush (v := 64) F.1 F.2.1 d_Chains_indexOf_3 (by decide) ?_
    refine lv_imul F.1 F.2.1 d_Chains_indexOf_5 ?_
    refine lv_iload_n F.1 F.2.1 d_Chains_indexOf_6 rfl (lv_at hl 1 rfl) ?_
    refine lv_iadd F.1 F.2.1 d_Chains_indexOf_7 ?_
    obtain ⟨x2_1, ex2_1, h⟩ := nm_ex h
    refine lv_nm ex2_1 ?_
    refine lv_istore_n (lv' := [(2, .int x2_1), (0, .int x0), (1, .int x1)]) F.1 F.2.1 d_Chains_indexOf_8 rfl hl (by decide) rfl (fun ls hl => ?_)
    refine lv_iconst (v := 0) F.1 F.2.1 d_Chains_indexOf_9 (by decide) ?_
    refine lv_sipush (v := 639) F.1 F.2.1 d_Chains_indexOf_10 (by decide) ?_
    refine lv_iload_n F.1 F.2.1 d_Chains_indexOf_13 rfl (lv_at hl 0 rfl) ?_
    refine va_mmin F.1 F.2.1 (F.2.2.1.trans hl.1.symm) F.2.2.2.1 (F.2.2.2.2 _ lk_899) (F.2.2.2.2 _ lk_397) (F.2.2.2.2 _ lk_12) (F.2.2.2.2 _ lk_398) (Nat.le_of_ble_eq_true rfl) (Nat.le_of_ble_eq_true rfl) (Nat.zero_le _) (Nat.zero_le _) d_Chains_indexOf_14 ?_
    refine va_mmax F.1 F.2.1 (F.2.2.1.trans hl.1.symm) F.2.2.2.1 (F.2.2.2.2 _ lk_919) (F.2.2.2.2 _ lk_400) (F.2.2.2.2 _ lk_12) (F.2.2.2.2 _ lk_401) (Nat.le_of_ble_eq_true rfl) (Nat.le_of_ble_eq_true rfl) (Nat.zero_le _) (Nat.zero_le _) d_Chains_indexOf_17 ?_
    cases h
    have ho : X_0 _ := ho
    rw [eX_0] at ho
    exact ho H locs _ ls d_Chains_indexOf_20 hw
  exact key _ _ hw _ h (by rw [eX_0]; exact fun H locs pc ls hd hw => hQ H locs pc ls ad rfl hd hw)
theorem d_Chains_waysOver_0 : decode b_Chains_waysOver 0 = .ok (.lconst 0, 1) := by decide +kernel
theorem d_Chains_waysOver_1 : decode b_Chains_waysOver 1 = .ok (.lstore 4, 2) := by decide +kernel
theorem d_Chains_waysOver_3 : decode b_Chains_waysOver 3 = .ok (.iconst 0, 1) := by decide +kernel
theorem d_Chains_waysOver_4 : decode b_Chains_waysOver 4 = .ok (.istore 6, 2) := by decide +kernel
theorem d_Chains_waysOver_6 : decode b_Chains_waysOver 6 = .ok (.iload 6, 2) := by decide +kernel
theorem d_Chains_waysOver_8 : decode b_Chains_waysOver 8 = .ok (.aload_n 0, 1) := by decide +kernel
theorem d_Chains_waysOver_9 : decode b_Chains_waysOver 9 = .ok (.getfield 32, 3) := by decide +kernel
theorem d_Chains_waysOver_12 : decode b_Chains_waysOver 12 = .ok (.if_icmp .ge 36, 3) := by decide +kernel
theorem d_Chains_waysOver_15 : decode b_Chains_waysOver 15 = .ok (.lload_n 2, 1) := by decide +kernel
theorem d_Chains_waysOver_16 : decode b_Chains_waysOver 16 = .ok (.iload 6, 2) := by decide +kernel
theorem d_Chains_waysOver_18 : decode b_Chains_waysOver 18 = .ok (.lshr, 1) := by decide +kernel
theorem d_Chains_waysOver_19 : decode b_Chains_waysOver 19 = .ok (.lconst 1, 1) := by decide +kernel
theorem d_Chains_waysOver_20 : decode b_Chains_waysOver 20 = .ok (.land, 1) := by decide +kernel
theorem d_Chains_waysOver_21 : decode b_Chains_waysOver 21 = .ok (.lconst 0, 1) := by decide +kernel
theorem d_Chains_waysOver_22 : decode b_Chains_waysOver 22 = .ok (.lcmp, 1) := by decide +kernel
theorem d_Chains_waysOver_23 : decode b_Chains_waysOver 23 = .ok (.ifCond .eq 19, 3) := by decide +kernel
theorem d_Chains_waysOver_26 : decode b_Chains_waysOver 26 = .ok (.lload 4, 2) := by decide +kernel
theorem d_Chains_waysOver_28 : decode b_Chains_waysOver 28 = .ok (.aload_n 0, 1) := by decide +kernel
theorem d_Chains_waysOver_29 : decode b_Chains_waysOver 29 = .ok (.getfield 29, 3) := by decide +kernel
theorem d_Chains_waysOver_32 : decode b_Chains_waysOver 32 = .ok (.iload_n 1, 1) := by decide +kernel
theorem d_Chains_waysOver_33 : decode b_Chains_waysOver 33 = .ok (.iload 6, 2) := by decide +kernel
theorem d_Chains_waysOver_35 : decode b_Chains_waysOver 35 = .ok (.invokestatic 67, 3) := by decide +kernel
theorem d_Chains_waysOver_38 : decode b_Chains_waysOver 38 = .ok (.laload, 1) := by decide +kernel
theorem d_Chains_waysOver_39 : decode b_Chains_waysOver 39 = .ok (.ladd, 1) := by decide +kernel
theorem d_Chains_waysOver_40 : decode b_Chains_waysOver 40 = .ok (.lstore 4, 2) := by decide +kernel
theorem d_Chains_waysOver_42 : decode b_Chains_waysOver 42 = .ok (.iinc 6 1, 3) := by decide +kernel
theorem d_Chains_waysOver_45 : decode b_Chains_waysOver 45 = .ok (.goto (-39), 3) := by decide +kernel
theorem d_Chains_waysOver_48 : decode b_Chains_waysOver 48 = .ok (.lload 4, 2) := by decide +kernel
theorem d_Chains_waysOver_50 : decode b_Chains_waysOver 50 = .ok (.lreturn, 1) := by decide +kernel
set_option maxHeartbeats 4000000 in
set_option maxRecDepth 100000 in
theorem c_Chains_waysOver (l : Launch) {S : St} {x1 : Int32} {x2 : Int64} {r : Int64} (h : f_Chains_waysOver S x1 x2 = some r) : ML cw l y_Chains_waysOver b_Chains_waysOver 7 (some .long) 2 43 0 0 (fun ad => [.ref (ad 9 0), .int x1, .long x2]) aT aE S r S := by
  refine ML_of "LawfulLots$Chains" rfl (by decide) (fun _ => Nat.le_of_ble_eq_true rfl) ?_
  intro p e s m args below meth c D ar ad A Q ls hP F hK hA hw hl hQ
  have hl : lv_has ls 7 [(0, .ref (ad 9 0)), (1, .int x1), (2, .long x2)] := hl
  obtain ⟨X_0, eX_0⟩ : ∃ X : Int64 → Prop, X = (fun q => ∀ (H : Heap) (locs : List Loc) (pc : Nat) (ls : Array Slot), decode b_Chains_waysOver pc = .ok (.lreturn, 1) → Bw cw D ar A s.heap H locs ad S → W p l e (RM 2 43) s m args below meth c H locs 0 0 Q (F0 m pc ls [.long q])) := ⟨_, rfl⟩
  have key : ∀ (H : Heap) (locs : List Loc), Bw cw D ar A s.heap H locs ad S → ∀ o, f_Chains_waysOver S x1 x2 = some o → X_0 o → W p l e (RM 2 43) s m args below meth c H locs 0 0 Q (F0 m 0 ls []) := by
    intro H locs hw o h ho
    unfold f_Chains_waysOver at h
    refine lv_lconst (v := 0) F.1 F.2.1 d_Chains_waysOver_0 (by decide) ?_
    refine lv_lstore (lv' := [(4, .long (0 : Int64)), (0, .ref (ad 9 0)), (1, .int x1), (2, .long x2)]) F.1 F.2.1 d_Chains_waysOver_1 hl (by decide) rfl (fun ls hl => ?_)
    refine lv_iconst (v := 0) F.1 F.2.1 d_Chains_waysOver_3 (by decide) ?_
    refine lv_istore (lv' := [(6, .int (0 : Int32)), (4, .long (0 : Int64)), (0, .ref (ad 9 0)), (1, .int x1), (2, .long x2)]) F.1 F.2.1 d_Chains_waysOver_4 hl (by decide) rfl (fun ls hl => ?_)
    obtain ⟨x4_8, hc_9, h⟩ := bd_ex h
    obtain ⟨X_6, eX_6⟩ : ∃ X : Int64 → Prop, X = (fun q => ∀ (H : Heap) (locs : List Loc) (ls : Array Slot), Bw cw D ar A s.heap H locs ad S → lv_has ls 7 [(4, .long q)] → W p l e (RM 2 43) s m args below meth c H locs 0 0 Q (F0 m 48 ls [])) := ⟨_, rfl⟩
    have hX_6 : X_6 x4_8 := by
      rw [eX_6]
      intro H locs ls hw hl
      refine lv_lload F.1 F.2.1 d_Chains_waysOver_48 (lv_at hl 0 rfl) ?_
      cases h
      have ho : X_0 _ := ho
      rw [eX_0] at ho
      exact ho H locs _ ls d_Chains_waysOver_50 hw
    obtain ⟨P_6, eP_6⟩ : ∃ P : (Int64 × Int32) → Prop, P = (fun q => ∀ (H : Heap) (locs : List Loc) (ls : Array Slot), Bw cw D ar A s.heap H locs ad S → lv_has ls 7 [(0, .ref (ad 9 0)), (1, .int x1), (2, .long x2), (4, .long q.1), (6, .int q.2)] → W p l e (RM 2 43) s m args below meth c H locs 0 0 Q (F0 m 6 ls [])) := ⟨_, rfl⟩
    have hL_6 : P_6 ((0 : Int64), (0 : Int32)) := by
      refine wh_gp (P := P_6) (X := X_6) hc_9 hX_6 ?_
      clear h
      intro q o h ho
      obtain ⟨x4, x6⟩ := q
      have h : Chains_waysOver_l6 S x1 x2 x4 x6 = some o := h
      unfold Chains_waysOver_l6 at h
      rw [eP_6]
      intro H locs ls hw hl
      have J_42_l6 : ∀ (x4 : Int64) (x6 : Int32) (H : Heap) (locs : List Loc) (ls : Array Slot), Bw cw D ar A s.heap H locs ad S → lv_has ls 7 [(0, .ref (ad 9 0)), (1, .int x1), (2, .long x2), (4, .long x4), (6, .int x6)] → ∀ o, Chains_waysOver_j42_l6 S x1 x2 x4 x6 = some o → (Sum.elim P_6 X_6) o → W p l e (RM 2 43) s m args below meth c H locs 0 0 Q (F0 m 42 ls []) := by
        intro x4 x6 H locs ls hw hl o h ho
        unfold Chains_waysOver_j42_l6 at h
        obtain ⟨x6_7, ex6_7, h⟩ := nm_ex h
        refine lv_iinc (v := x6_7) (lv' := [(6, .int x6_7), (0, .ref (ad 9 0)), (1, .int x1), (2, .long x2), (4, .long x4)]) F.1 F.2.1 d_Chains_waysOver_42 hl (k := 4) rfl (by rw [ex6_7]; rfl) (by decide) rfl (fun ls hl => ?_)
        refine lv_goto (tgt := 6) F.1 F.2.1 d_Chains_waysOver_45 (by decide) ?_
        cases h
        have ho : P_6 _ := ho
        rw [eP_6] at ho
        exact ho H locs ls hw (lv_sub hl [1, 2, 3, 4, 0] rfl)
      refine lv_iload F.1 F.2.1 d_Chains_waysOver_6 (lv_at hl 4 rfl) ?_
      refine lv_aload_n F.1 F.2.1 d_Chains_waysOver_8 rfl (lv_at hl 0 rfl) ?_
      refine cg_9_5 F hK hw lk_322 d_Chains_waysOver_9 ?_
      refine lv_icmp_ge (tgt := 48) F.1 F.2.1 d_Chains_waysOver_12 (by decide) (fun c_1 => ?_) (fun c_1 => ?_)
      · replace h := ip c_1 h
        cases h
        have ho : X_6 _ := ho
        rw [eX_6] at ho
        exact ho H locs ls hw (lv_sub hl [3] rfl)
      · replace h := iq c_1 h
        refine lv_lload_n F.1 F.2.1 d_Chains_waysOver_15 rfl (lv_at hl 2 rfl) ?_
        refine lv_iload F.1 F.2.1 d_Chains_waysOver_16 (lv_at hl 4 rfl) ?_
        refine lv_lshr F.1 F.2.1 d_Chains_waysOver_18 rfl ?_
        refine lv_lconst (v := 1) F.1 F.2.1 d_Chains_waysOver_19 (by decide) ?_
        refine lv_land F.1 F.2.1 d_Chains_waysOver_20 ?_
        refine lv_lconst (v := 0) F.1 F.2.1 d_Chains_waysOver_21 (by decide) ?_
        refine W.lcmp F.1 F.2.1 d_Chains_waysOver_22 ?_
        refine lv_if_eq (tgt := 42) F.1 F.2.1 d_Chains_waysOver_23 (by decide) (fun c_2 => ?_) (fun c_2 => ?_)
        · replace h := ip c_2 h
          exact J_42_l6 x4 x6 H locs ls hw (lv_sub hl [0, 1, 2, 3, 4] rfl) o h ho
        · replace h := iq c_2 h
          refine lv_lload F.1 F.2.1 d_Chains_waysOver_26 (lv_at hl 3 rfl) ?_
          refine lv_aload_n F.1 F.2.1 d_Chains_waysOver_28 rfl (lv_at hl 0 rfl) ?_
          refine cg_9_4 F hK hw lk_321 d_Chains_waysOver_29 ?_
          refine lv_iload_n F.1 F.2.1 d_Chains_waysOver_32 rfl (lv_at hl 1 rfl) ?_
          refine lv_iload F.1 F.2.1 d_Chains_waysOver_33 (lv_at hl 4 rfl) ?_
          obtain ⟨v_4, hc_3, h⟩ := bd_ex h
          refine cS_i F hA rfl hK hw (c_Chains_indexOf l S hc_3) trivial rfl (good_S lk_916 lk_917 lk_9 lk_918) hd_Chains_indexOf ⟨Nat.le_of_ble_eq_true rfl, Nat.le_of_ble_eq_true rfl⟩ rfl hl.1 rfl (Nat.le_of_ble_eq_true rfl) d_Chains_waysOver_35 ⟨(Nat.zero_le _), (Nat.zero_le _)⟩ (fun H locs hw => ?_)
          obtain ⟨hi_5, h⟩ := gd_ex h
          refine cl_9_4 F hK hw hi_5 d_Chains_waysOver_38 ?_
          refine lv_ladd F.1 F.2.1 d_Chains_waysOver_39 ?_
          obtain ⟨x4_6, ex4_6, h⟩ := nm_ex h
          refine lv_nmL ex4_6 ?_
          refine lv_lstore (lv' := [(4, .long x4_6), (0, .ref (ad 9 0)), (1, .int x1), (2, .long x2), (6, .int x6)]) F.1 F.2.1 d_Chains_waysOver_40 hl (by decide) rfl (fun ls hl => ?_)
          exact J_42_l6 x4_6 x6 H locs ls hw (lv_sub hl [1, 2, 3, 0, 4] rfl) o h ho
    rw [eP_6] at hL_6
    exact hL_6 H locs ls hw (lv_sub hl [2, 3, 4, 1, 0] rfl)
  exact key _ _ hw _ h (by rw [eX_0]; exact fun H locs pc ls hd hw => hQ H locs pc ls ad rfl hd hw)
theorem d_Chains_refresh_0 : decode b_Chains_refresh 0 = .ok (.aload_n 0, 1) := by decide +kernel
theorem d_Chains_refresh_1 : decode b_Chains_refresh 1 = .ok (.getfield 36, 3) := by decide +kernel
theorem d_Chains_refresh_4 : decode b_Chains_refresh 4 = .ok (.ifCond .eq 4, 3) := by decide +kernel
theorem d_Chains_refresh_7 : decode b_Chains_refresh 7 = .ok (.return_, 1) := by decide +kernel
theorem d_Chains_refresh_8 : decode b_Chains_refresh 8 = .ok (.aload_n 0, 1) := by decide +kernel
theorem d_Chains_refresh_9 : decode b_Chains_refresh 9 = .ok (.aload_n 1, 1) := by decide +kernel
theorem d_Chains_refresh_10 : decode b_Chains_refresh 10 = .ok (.getfield 40, 3) := by decide +kernel
theorem d_Chains_refresh_13 : decode b_Chains_refresh 13 = .ok (.bipush 64, 2) := by decide +kernel
theorem d_Chains_refresh_15 : decode b_Chains_refresh 15 = .ok (.invokestatic 43, 3) := by decide +kernel
theorem d_Chains_refresh_18 : decode b_Chains_refresh 18 = .ok (.putfield 32, 3) := by decide +kernel
theorem d_Chains_refresh_21 : decode b_Chains_refresh 21 = .ok (.iconst 0, 1) := by decide +kernel
theorem d_Chains_refresh_22 : decode b_Chains_refresh 22 = .ok (.istore_n 2, 1) := by decide +kernel
theorem d_Chains_refresh_23 : decode b_Chains_refresh 23 = .ok (.iload_n 2, 1) := by decide +kernel
theorem d_Chains_refresh_24 : decode b_Chains_refresh 24 = .ok (.aload_n 0, 1) := by decide +kernel
theorem d_Chains_refresh_25 : decode b_Chains_refresh 25 = .ok (.getfield 32, 3) := by decide +kernel
theorem d_Chains_refresh_28 : decode b_Chains_refresh 28 = .ok (.if_icmp .ge 36, 3) := by decide +kernel
theorem d_Chains_refresh_31 : decode b_Chains_refresh 31 = .ok (.aload_n 1, 1) := by decide +kernel
theorem d_Chains_refresh_32 : decode b_Chains_refresh 32 = .ok (.getfield 49, 3) := by decide +kernel
theorem d_Chains_refresh_35 : decode b_Chains_refresh 35 = .ok (.aload_n 1, 1) := by decide +kernel
theorem d_Chains_refresh_36 : decode b_Chains_refresh 36 = .ok (.iload_n 2, 1) := by decide +kernel
theorem d_Chains_refresh_37 : decode b_Chains_refresh 37 = .ok (.invokevirtual 53, 3) := by decide +kernel
theorem d_Chains_refresh_40 : decode b_Chains_refresh 40 = .ok (.aload_n 0, 1) := by decide +kernel
theorem d_Chains_refresh_41 : decode b_Chains_refresh 41 = .ok (.getfield 22, 3) := by decide +kernel
theorem d_Chains_refresh_44 : decode b_Chains_refresh 44 = .ok (.invokevirtual 57, 3) := by decide +kernel
theorem d_Chains_refresh_47 : decode b_Chains_refresh 47 = .ok (.aload_n 0, 1) := by decide +kernel
theorem d_Chains_refresh_48 : decode b_Chains_refresh 48 = .ok (.getfield 25, 3) := by decide +kernel
theorem d_Chains_refresh_51 : decode b_Chains_refresh 51 = .ok (.iload_n 2, 1) := by decide +kernel
theorem d_Chains_refresh_52 : decode b_Chains_refresh 52 = .ok (.aload_n 0, 1) := by decide +kernel
theorem d_Chains_refresh_53 : decode b_Chains_refresh 53 = .ok (.aload_n 1, 1) := by decide +kernel
theorem d_Chains_refresh_54 : decode b_Chains_refresh 54 = .ok (.invokevirtual 63, 3) := by decide +kernel
theorem d_Chains_refresh_57 : decode b_Chains_refresh 57 = .ok (.lastore, 1) := by decide +kernel
theorem d_Chains_refresh_58 : decode b_Chains_refresh 58 = .ok (.iinc 2 1, 3) := by decide +kernel
theorem d_Chains_refresh_61 : decode b_Chains_refresh 61 = .ok (.goto (-38), 3) := by decide +kernel
theorem d_Chains_refresh_64 : decode b_Chains_refresh 64 = .ok (.iconst 1, 1) := by decide +kernel
theorem d_Chains_refresh_65 : decode b_Chains_refresh 65 = .ok (.istore_n 2, 1) := by decide +kernel
theorem d_Chains_refresh_66 : decode b_Chains_refresh 66 = .ok (.iload_n 2, 1) := by decide +kernel
theorem d_Chains_refresh_67 : decode b_Chains_refresh 67 = .ok (.bipush 10, 2) := by decide +kernel
theorem d_Chains_refresh_69 : decode b_Chains_refresh 69 = .ok (.if_icmp .gt 57, 3) := by decide +kernel
theorem d_Chains_refresh_72 : decode b_Chains_refresh 72 = .ok (.iconst 0, 1) := by decide +kernel
theorem d_Chains_refresh_73 : decode b_Chains_refresh 73 = .ok (.istore_n 3, 1) := by decide +kernel
theorem d_Chains_refresh_74 : decode b_Chains_refresh 74 = .ok (.iload_n 3, 1) := by decide +kernel
theorem d_Chains_refresh_75 : decode b_Chains_refresh 75 = .ok (.aload_n 0, 1) := by decide +kernel
theorem d_Chains_refresh_76 : decode b_Chains_refresh 76 = .ok (.getfield 32, 3) := by decide +kernel
theorem d_Chains_refresh_79 : decode b_Chains_refresh 79 = .ok (.if_icmp .ge 41, 3) := by decide +kernel
theorem d_Chains_refresh_82 : decode b_Chains_refresh 82 = .ok (.aload_n 0, 1) := by decide +kernel
theorem d_Chains_refresh_83 : decode b_Chains_refresh 83 = .ok (.getfield 29, 3) := by decide +kernel
theorem d_Chains_refresh_86 : decode b_Chains_refresh 86 = .ok (.iload_n 2, 1) := by decide +kernel
theorem d_Chains_refresh_87 : decode b_Chains_refresh 87 = .ok (.iload_n 3, 1) := by decide +kernel
theorem d_Chains_refresh_88 : decode b_Chains_refresh 88 = .ok (.invokestatic 67, 3) := by decide +kernel
theorem d_Chains_refresh_91 : decode b_Chains_refresh 91 = .ok (.iload_n 2, 1) := by decide +kernel
theorem d_Chains_refresh_92 : decode b_Chains_refresh 92 = .ok (.iconst 1, 1) := by decide +kernel
theorem d_Chains_refresh_93 : decode b_Chains_refresh 93 = .ok (.if_icmp .ne 7, 3) := by decide +kernel
theorem d_Chains_refresh_96 : decode b_Chains_refresh 96 = .ok (.lconst 1, 1) := by decide +kernel
theorem d_Chains_refresh_97 : decode b_Chains_refresh 97 = .ok (.goto 16, 3) := by decide +kernel
theorem d_Chains_refresh_100 : decode b_Chains_refresh 100 = .ok (.aload_n 0, 1) := by decide +kernel
theorem d_Chains_refresh_101 : decode b_Chains_refresh 101 = .ok (.iload_n 2, 1) := by decide +kernel
theorem d_Chains_refresh_102 : decode b_Chains_refresh 102 = .ok (.iconst 1, 1) := by decide +kernel
theorem d_Chains_refresh_103 : decode b_Chains_refresh 103 = .ok (.isub, 1) := by decide +kernel
theorem d_Chains_refresh_104 : decode b_Chains_refresh 104 = .ok (.aload_n 0, 1) := by decide +kernel
theorem d_Chains_refresh_105 : decode b_Chains_refresh 105 = .ok (.getfield 25, 3) := by decide +kernel
theorem d_Chains_refresh_108 : decode b_Chains_refresh 108 = .ok (.iload_n 3, 1) := by decide +kernel
theorem d_Chains_refresh_109 : decode b_Chains_refresh 109 = .ok (.laload, 1) := by decide +kernel
theorem d_Chains_refresh_110 : decode b_Chains_refresh 110 = .ok (.invokevirtual 70, 3) := by decide +kernel
theorem d_Chains_refresh_113 : decode b_Chains_refresh 113 = .ok (.lastore, 1) := by decide +kernel
theorem d_Chains_refresh_114 : decode b_Chains_refresh 114 = .ok (.iinc 3 1, 3) := by decide +kernel
theorem d_Chains_refresh_117 : decode b_Chains_refresh 117 = .ok (.goto (-43), 3) := by decide +kernel
theorem d_Chains_refresh_120 : decode b_Chains_refresh 120 = .ok (.iinc 2 1, 3) := by decide +kernel
theorem d_Chains_refresh_123 : decode b_Chains_refresh 123 = .ok (.goto (-57), 3) := by decide +kernel
theorem d_Chains_refresh_126 : decode b_Chains_refresh 126 = .ok (.aload_n 0, 1) := by decide +kernel
theorem d_Chains_refresh_127 : decode b_Chains_refresh 127 = .ok (.iconst 1, 1) := by decide +kernel
theorem d_Chains_refresh_128 : decode b_Chains_refresh 128 = .ok (.putfield 36, 3) := by decide +kernel
theorem d_Chains_refresh_131 : decode b_Chains_refresh 131 = .ok (.return_, 1) := by decide +kernel
set_option maxHeartbeats 4000000 in
set_option maxRecDepth 100000 in
theorem c_Chains_refresh (l : Launch) {S : St} {S' : St} (h : f_Chains_refresh S = some S') : MV cw l y_Chains_refresh b_Chains_refresh 4 none 3 76 0 0 (fun ad => [.ref (ad 9 0), .ref (ad 4 0)]) aT aE S S' := by
  refine MV_of "LawfulLots$Chains" rfl (by decide) (fun _ => Nat.le_of_ble_eq_true rfl) ?_
  intro p e s m args below meth c D ar ad A Q ls hP F hK hA hw hl hQ
  have hl : lv_has ls 4 [(0, .ref (ad 9 0)), (1, .ref (ad 4 0))] := hl
  obtain ⟨X_0, eX_0⟩ : ∃ X : St → Prop, X = (fun q => ∀ (H : Heap) (locs : List Loc) (pc : Nat) (ls : Array Slot), decode b_Chains_refresh pc = .ok (.return_, 1) → Bw cw D ar A s.heap H locs ad q → W p l e (RM 3 76) s m args below meth c H locs 0 0 Q (F0 m pc ls [])) := ⟨_, rfl⟩
  have key : ∀ (H : Heap) (locs : List Loc), Bw cw D ar A s.heap H locs ad S → ∀ o, f_Chains_refresh S = some o → X_0 o → W p l e (RM 3 76) s m args below meth c H locs 0 0 Q (F0 m 0 ls []) := by
    intro H locs hw o h ho
    unfold f_Chains_refresh at h
    refine lv_aload_n F.1 F.2.1 d_Chains_refresh_0 rfl (lv_at hl 0 rfl) ?_
    refine cg_9_6 F hK hw lk_323 d_Chains_refresh_1 ?_
    refine lv_if_eq (tgt := 8) F.1 F.2.1 d_Chains_refresh_4 (by decide) (fun c_1 => ?_) (fun c_1 => ?_)
    · replace h := ip c_1 h
      refine lv_aload_n F.1 F.2.1 d_Chains_refresh_8 rfl (lv_at hl 0 rfl) ?_
      refine lv_aload_n F.1 F.2.1 d_Chains_refresh_9 rfl (lv_at hl 1 rfl) ?_
      refine cg_4_9 F hK hw lk_204 d_Chains_refresh_10 ?_
      refine lv_bipush (v := 64) F.1 F.2.1 d_Chains_refresh_13 (by decide) ?_
      refine va_mmin F.1 F.2.1 (F.2.2.1.trans hl.1.symm) F.2.2.2.1 (F.2.2.2.2 _ lk_899) (F.2.2.2.2 _ lk_397) (F.2.2.2.2 _ lk_12) (F.2.2.2.2 _ lk_398) (Nat.le_of_ble_eq_true rfl) (Nat.le_of_ble_eq_true rfl) (Nat.zero_le _) (Nat.zero_le _) d_Chains_refresh_15 ?_
      obtain ⟨S_2, eS_2, h⟩ := nm_ex h
      refine cp_9_5 F hK hw lk_322 d_Chains_refresh_18 eS_2 (fun H locs hw => ?_)
      refine lv_iconst (v := 0) F.1 F.2.1 d_Chains_refresh_21 (by decide) ?_
      refine lv_istore_n (lv' := [(2, .int (0 : Int32)), (0, .ref (ad 9 0)), (1, .ref (ad 4 0))]) F.1 F.2.1 d_Chains_refresh_22 rfl hl (by decide) rfl (fun ls hl => ?_)
      obtain ⟨S_14, hc_15, h⟩ := bd_ex h
      obtain ⟨X_23, eX_23⟩ : ∃ X : St → Prop, X = (fun q => ∀ (H : Heap) (locs : List Loc) (ls : Array Slot), Bw cw D ar A s.heap H locs ad q → lv_has ls 4 [(0, .ref (ad 9 0))] → W p l e (RM 3 76) s m args below meth c H locs 0 0 Q (F0 m 64 ls [])) := ⟨_, rfl⟩
      have hX_23 : X_23 S_14 := by
        rw [eX_23]
        intro H locs ls hw hl
        refine lv_iconst (v := 1) F.1 F.2.1 d_Chains_refresh_64 (by decide) ?_
        refine lv_istore_n (lv' := [(2, .int (1 : Int32)), (0, .ref (ad 9 0))]) F.1 F.2.1 d_Chains_refresh_65 rfl hl (by decide) rfl (fun ls hl => ?_)
        obtain ⟨S_30, hc_31, h⟩ := bd_ex h
        obtain ⟨X_66, eX_66⟩ : ∃ X : St → Prop, X = (fun q => ∀ (H : Heap) (locs : List Loc) (ls : Array Slot), Bw cw D ar A s.heap H locs ad q → lv_has ls 4 [(0, .ref (ad 9 0))] → W p l e (RM 3 76) s m args below meth c H locs 0 0 Q (F0 m 126 ls [])) := ⟨_, rfl⟩
        have hX_66 : X_66 S_30 := by
          rw [eX_66]
          intro H locs ls hw hl
          refine lv_aload_n F.1 F.2.1 d_Chains_refresh_126 rfl (lv_at hl 0 rfl) ?_
          refine lv_iconst (v := 1) F.1 F.2.1 d_Chains_refresh_127 (by decide) ?_
          obtain ⟨S_32, eS_32, h⟩ := nm_ex h
          refine cp_9_6 F hK hw isB1 lk_323 d_Chains_refresh_128 eS_32 (fun H locs hw => ?_)
          cases h
          have ho : X_0 _ := ho
          rw [eX_0] at ho
          exact ho H locs _ ls d_Chains_refresh_131 hw
        obtain ⟨P_66, eP_66⟩ : ∃ P : (St × Int32) → Prop, P = (fun q => ∀ (H : Heap) (locs : List Loc) (ls : Array Slot), Bw cw D ar A s.heap H locs ad q.1 → lv_has ls 4 [(0, .ref (ad 9 0)), (2, .int q.2)] → W p l e (RM 3 76) s m args below meth c H locs 0 0 Q (F0 m 66 ls [])) := ⟨_, rfl⟩
        have hL_66 : P_66 (S_14, (1 : Int32)) := by
          refine wh_gp (P := P_66) (X := X_66) hc_31 hX_66 ?_
          clear h
          intro q o h ho
          obtain ⟨S, x2⟩ := q
          have h : Chains_refresh_l66 S x2 = some o := h
          unfold Chains_refresh_l66 at h
          rw [eP_66]
          intro H locs ls hw hl
          refine lv_iload_n F.1 F.2.1 d_Chains_refresh_66 rfl (lv_at hl 1 rfl) ?_
          refine lv_bipush (v := 10) F.1 F.2.1 d_Chains_refresh_67 (by decide) ?_
          refine lv_icmp_gt (tgt := 126) F.1 F.2.1 d_Chains_refresh_69 (by decide) (fun c_16 => ?_) (fun c_16 => ?_)
          · replace h := ip c_16 h
            cases h
            have ho : X_66 _ := ho
            rw [eX_66] at ho
            exact ho H locs ls hw (lv_sub hl [0] rfl)
          · replace h := iq c_16 h
            refine lv_iconst (v := 0) F.1 F.2.1 d_Chains_refresh_72 (by decide) ?_
            refine lv_istore_n (lv' := [(3, .int (0 : Int32)), (0, .ref (ad 9 0)), (2, .int x2)]) F.1 F.2.1 d_Chains_refresh_73 rfl hl (by decide) rfl (fun ls hl => ?_)
            obtain ⟨S_27, hc_28, h⟩ := bd_ex h
            obtain ⟨X_74, eX_74⟩ : ∃ X : St → Prop, X = (fun q => ∀ (H : Heap) (locs : List Loc) (ls : Array Slot), Bw cw D ar A s.heap H locs ad q → lv_has ls 4 [(0, .ref (ad 9 0)), (2, .int x2)] → W p l e (RM 3 76) s m args below meth c H locs 0 0 Q (F0 m 120 ls [])) := ⟨_, rfl⟩
            have hX_74 : X_74 S_27 := by
              rw [eX_74]
              intro H locs ls hw hl
              obtain ⟨x2_29, ex2_29, h⟩ := nm_ex h
              refine lv_iinc (v := x2_29) (lv' := [(2, .int x2_29), (0, .ref (ad 9 0))]) F.1 F.2.1 d_Chains_refresh_120 hl (k := 1) rfl (by rw [ex2_29]; rfl) (by decide) rfl (fun ls hl => ?_)
              refine lv_goto (tgt := 66) F.1 F.2.1 d_Chains_refresh_123 (by decide) ?_
              cases h
              have ho : P_66 _ := ho
              rw [eP_66] at ho
              exact ho H locs ls hw (lv_sub hl [1, 0] rfl)
            obtain ⟨P_74, eP_74⟩ : ∃ P : (St × Int32) → Prop, P = (fun q => ∀ (H : Heap) (locs : List Loc) (ls : Array Slot), Bw cw D ar A s.heap H locs ad q.1 → lv_has ls 4 [(0, .ref (ad 9 0)), (2, .int x2), (3, .int q.2)] → W p l e (RM 3 76) s m args below meth c H locs 0 0 Q (F0 m 74 ls [])) := ⟨_, rfl⟩
            have hL_74 : P_74 (S, (0 : Int32)) := by
              refine wh_gp (P := P_74) (X := X_74) hc_28 hX_74 ?_
              clear h
              intro q o h ho
              obtain ⟨S, x3⟩ := q
              have h : Chains_refresh_l74 x2 S x3 = some o := h
              unfold Chains_refresh_l74 at h
              rw [eP_74]
              intro H locs ls hw hl
              have J_113_l74 : ∀ (S : St) (x3 : Int32) (t1 : Int32) (t2 : Int64) (H : Heap) (locs : List Loc) (ls : Array Slot), Bw cw D ar A s.heap H locs ad S → lv_has ls 4 [(0, .ref (ad 9 0)), (2, .int x2), (3, .int x3)] → ∀ o, Chains_refresh_j113_l74 S x2 x3 t1 t2 = some o → (Sum.elim P_74 X_74) o → W p l e (RM 3 76) s m args below meth c H locs 0 0 Q (F0 m 113 ls [.long t2, .int t1, .ref (ad 9 5)]) := by
                intro S x3 t1 t2 H locs ls hw hl o h ho
                unfold Chains_refresh_j113_l74 at h
                obtain ⟨hi_24, h⟩ := gd_ex h
                obtain ⟨S_25, eS_25, h⟩ := nm_ex h
                refine cs_9_4 F hK hw hi_24 d_Chains_refresh_113 eS_25 (fun H locs hw => ?_)
                obtain ⟨x3_26, ex3_26, h⟩ := nm_ex h
                refine lv_iinc (v := x3_26) (lv' := [(3, .int x3_26), (0, .ref (ad 9 0)), (2, .int x2)]) F.1 F.2.1 d_Chains_refresh_114 hl (k := 2) rfl (by rw [ex3_26]; rfl) (by decide) rfl (fun ls hl => ?_)
                refine lv_goto (tgt := 74) F.1 F.2.1 d_Chains_refresh_117 (by decide) ?_
                cases h
                have ho : P_74 _ := ho
                rw [eP_74] at ho
                exact ho H locs ls hw (lv_sub hl [1, 2, 0] rfl)
              refine lv_iload_n F.1 F.2.1 d_Chains_refresh_74 rfl (lv_at hl 2 rfl) ?_
              refine lv_aload_n F.1 F.2.1 d_Chains_refresh_75 rfl (lv_at hl 0 rfl) ?_
              refine cg_9_5 F hK hw lk_322 d_Chains_refresh_76 ?_
              refine lv_icmp_ge (tgt := 120) F.1 F.2.1 d_Chains_refresh_79 (by decide) (fun c_17 => ?_) (fun c_17 => ?_)
              · replace h := ip c_17 h
                cases h
                have ho : X_74 _ := ho
                rw [eX_74] at ho
                exact ho H locs ls hw (lv_sub hl [0, 1] rfl)
              · replace h := iq c_17 h
                refine lv_aload_n F.1 F.2.1 d_Chains_refresh_82 rfl (lv_at hl 0 rfl) ?_
                refine cg_9_4 F hK hw lk_321 d_Chains_refresh_83 ?_
                refine lv_iload_n F.1 F.2.1 d_Chains_refresh_86 rfl (lv_at hl 1 rfl) ?_
                refine lv_iload_n F.1 F.2.1 d_Chains_refresh_87 rfl (lv_at hl 2 rfl) ?_
                obtain ⟨v_19, hc_18, h⟩ := bd_ex h
                refine cS_i F hA rfl hK hw (c_Chains_indexOf l S hc_18) trivial rfl (good_S lk_916 lk_917 lk_9 lk_918) hd_Chains_indexOf ⟨Nat.le_of_ble_eq_true rfl, Nat.le_of_ble_eq_true rfl⟩ rfl hl.1 rfl (Nat.le_of_ble_eq_true rfl) d_Chains_refresh_88 ⟨(Nat.zero_le _), (Nat.zero_le _)⟩ (fun H locs hw => ?_)
                refine lv_iload_n F.1 F.2.1 d_Chains_refresh_91 rfl (lv_at hl 1 rfl) ?_
                refine lv_iconst (v := 1) F.1 F.2.1 d_Chains_refresh_92 (by decide) ?_
                refine lv_icmp_ne (tgt := 100) F.1 F.2.1 d_Chains_refresh_93 (by decide) (fun c_20 => ?_) (fun c_20 => ?_)
                · replace h := iq c_20 h
                  refine lv_aload_n F.1 F.2.1 d_Chains_refresh_100 rfl (lv_at hl 0 rfl) ?_
                  refine lv_iload_n F.1 F.2.1 d_Chains_refresh_101 rfl (lv_at hl 1 rfl) ?_
                  refine lv_iconst (v := 1) F.1 F.2.1 d_Chains_refresh_102 (by decide) ?_
                  refine lv_isub F.1 F.2.1 d_Chains_refresh_103 ?_
                  refine lv_aload_n F.1 F.2.1 d_Chains_refresh_104 rfl (lv_at hl 0 rfl) ?_
                  refine cg_9_3 F hK hw lk_320 d_Chains_refresh_105 ?_
                  refine lv_iload_n F.1 F.2.1 d_Chains_refresh_108 rfl (lv_at hl 2 rfl) ?_
                  obtain ⟨hi_21, h⟩ := gd_ex h
                  refine cl_9_3 F hK hw hi_21 d_Chains_refresh_109 ?_
                  obtain ⟨v_23, hc_22, h⟩ := bd_ex h
                  refine cV_l F hA rfl hK hw (c_Chains_waysOver l hc_22) trivial rfl (good_V lk_920 lk_922 ls_43 lk_9 lk_923) (cr_9 hK hw) hd_Chains_waysOver ⟨Nat.le_of_ble_eq_true rfl, Nat.le_of_ble_eq_true rfl⟩ rfl hl.1 rfl (Nat.le_of_ble_eq_true rfl) d_Chains_refresh_110 ⟨(Nat.zero_le _), (Nat.zero_le _)⟩ (fun H locs hw => ?_)
                  exact J_113_l74 S x3 v_19 v_23 H locs ls hw (lv_sub hl [0, 1, 2] rfl) o h ho
                · replace h := ip c_20 h
                  refine lv_lconst (v := 1) F.1 F.2.1 d_Chains_refresh_96 (by decide) ?_
                  refine lv_goto (tgt := 113) F.1 F.2.1 d_Chains_refresh_97 (by decide) ?_
                  exact J_113_l74 S x3 v_19 (1 : Int64) H locs ls hw (lv_sub hl [0, 1, 2] rfl) o h ho
            rw [eP_74] at hL_74
            exact hL_74 H locs ls hw (lv_sub hl [1, 2, 0] rfl)
        rw [eP_66] at hL_66
        exact hL_66 H locs ls hw (lv_sub hl [1, 0] rfl)
      obtain ⟨P_23, eP_23⟩ : ∃ P : (St × Int32) → Prop, P = (fun q => ∀ (H : Heap) (locs : List Loc) (ls : Array Slot), Bw cw D ar A s.heap H locs ad q.1 → lv_has ls 4 [(0, .ref (ad 9 0)), (1, .ref (ad 4 0)), (2, .int q.2)] → W p l e (RM 3 76) s m args below meth c H locs 0 0 Q (F0 m 23 ls [])) := ⟨_, rfl⟩
      have hL_23 : P_23 (S_2, (0 : Int32)) := by
        refine wh_gp (P := P_23) (X := X_23) hc_15 hX_23 ?_
        clear h
        intro q o h ho
        obtain ⟨S, x2⟩ := q
        have h : Chains_refresh_l23 S x2 = some o := h
        unfold Chains_refresh_l23 at h
        rw [eP_23]
        intro H locs ls hw hl
        refine lv_iload_n F.1 F.2.1 d_Chains_refresh_23 rfl (lv_at hl 2 rfl) ?_
        refine lv_aload_n F.1 F.2.1 d_Chains_refresh_24 rfl (lv_at hl 0 rfl) ?_
        refine cg_9_5 F hK hw lk_322 d_Chains_refresh_25 ?_
        refine lv_icmp_ge (tgt := 64) F.1 F.2.1 d_Chains_refresh_28 (by decide) (fun c_3 => ?_) (fun c_3 => ?_)
        · replace h := ip c_3 h
          cases h
          have ho : X_23 _ := ho
          rw [eX_23] at ho
          exact ho H locs ls hw (lv_sub hl [0] rfl)
        · replace h := iq c_3 h
          refine lv_aload_n F.1 F.2.1 d_Chains_refresh_31 rfl (lv_at hl 1 rfl) ?_
          refine cg_4_8 F hK hw lk_200 d_Chains_refresh_32 ?_
          refine lv_aload_n F.1 F.2.1 d_Chains_refresh_35 rfl (lv_at hl 1 rfl) ?_
          refine lv_iload_n F.1 F.2.1 d_Chains_refresh_36 rfl (lv_at hl 2 rfl) ?_
          obtain ⟨v_5, hc_4, h⟩ := bd_ex h
          refine cV_i F hA rfl hK hw (c_Chart_inputOf l hc_4) trivial rfl (good_V lk_900 lk_661 lk_662 lk_5 lk_663) (cr_4 hK hw) hd_Chart_inputOf ⟨Nat.le_of_ble_eq_true rfl, Nat.le_of_ble_eq_true rfl⟩ rfl hl.1 rfl (Nat.le_of_ble_eq_true rfl) d_Chains_refresh_37 ⟨(Nat.zero_le _), (Nat.zero_le _)⟩ (fun H locs hw => ?_)
          refine lv_aload_n F.1 F.2.1 d_Chains_refresh_40 rfl (lv_at hl 0 rfl) ?_
          refine cg_9_2 F hK hw lk_319 d_Chains_refresh_41 ?_
          obtain ⟨S_7, hc_6, h⟩ := bd_ex h
          refine cV_v F hA rfl hK hw (c_Book_spell_5_9_2 l hc_6) trivial rfl (good_V lk_901 lk_902 lk_903 lk_4 lk_904) (cr_5 hK hw) hd_Book_spell ⟨Nat.le_of_ble_eq_true rfl, Nat.le_of_ble_eq_true rfl⟩ rfl hl.1 rfl (Nat.le_of_ble_eq_true rfl) d_Chains_refresh_44 ⟨(Nat.zero_le _), (Nat.zero_le _)⟩ (fun H locs hw => ?_)
          refine lv_aload_n F.1 F.2.1 d_Chains_refresh_47 rfl (lv_at hl 0 rfl) ?_
          refine cg_9_3 F hK hw lk_320 d_Chains_refresh_48 ?_
          refine lv_iload_n F.1 F.2.1 d_Chains_refresh_51 rfl (lv_at hl 2 rfl) ?_
          refine lv_aload_n F.1 F.2.1 d_Chains_refresh_52 rfl (lv_at hl 0 rfl) ?_
          refine lv_aload_n F.1 F.2.1 d_Chains_refresh_53 rfl (lv_at hl 1 rfl) ?_
          obtain ⟨v_9, S_10, hc_8, h⟩ := bd2_ex h
          refine cV_l F hA rfl hK hw (c_Chains_followersOfOld l hc_8) trivial rfl (good_V lk_906 lk_908 ls_41 lk_9 lk_909) (cr_9 hK hw) hd_Chains_followersOfOld ⟨Nat.le_of_ble_eq_true rfl, Nat.le_of_ble_eq_true rfl⟩ rfl hl.1 rfl (Nat.le_of_ble_eq_true rfl) d_Chains_refresh_54 ⟨(Nat.zero_le _), (Nat.zero_le _)⟩ (fun H locs hw => ?_)
          obtain ⟨hi_11, h⟩ := gd_ex h
          obtain ⟨S_12, eS_12, h⟩ := nm_ex h
          refine cs_9_3 F hK hw hi_11 d_Chains_refresh_57 eS_12 (fun H locs hw => ?_)
          obtain ⟨x2_13, ex2_13, h⟩ := nm_ex h
          refine lv_iinc (v := x2_13) (lv' := [(2, .int x2_13), (0, .ref (ad 9 0)), (1, .ref (ad 4 0))]) F.1 F.2.1 d_Chains_refresh_58 hl (k := 2) rfl (by rw [ex2_13]; rfl) (by decide) rfl (fun ls hl => ?_)
          refine lv_goto (tgt := 23) F.1 F.2.1 d_Chains_refresh_61 (by decide) ?_
          cases h
          have ho : P_23 _ := ho
          rw [eP_23] at ho
          exact ho H locs ls hw (lv_sub hl [1, 2, 0] rfl)
      rw [eP_23] at hL_23
      exact hL_23 H locs ls hw (lv_sub hl [1, 2, 0] rfl)
    · replace h := iq c_1 h
      cases h
      have ho : X_0 _ := ho
      rw [eX_0] at ho
      exact ho H locs _ ls d_Chains_refresh_7 hw
  exact key _ _ hw _ h (by rw [eX_0]; exact fun H locs pc ls hd hw => hQ H locs pc ls ad rfl hd hw)
theorem d_Chains_ofLength_0 : decode b_Chains_ofLength 0 = .ok (.aload_n 0, 1) := by decide +kernel
theorem d_Chains_ofLength_1 : decode b_Chains_ofLength 1 = .ok (.iload_n 1, 1) := by decide +kernel
theorem d_Chains_ofLength_2 : decode b_Chains_ofLength 2 = .ok (.ldc2_w 88, 3) := by decide +kernel
theorem d_Chains_ofLength_5 : decode b_Chains_ofLength 5 = .ok (.invokevirtual 70, 3) := by decide +kernel
theorem d_Chains_ofLength_8 : decode b_Chains_ofLength 8 = .ok (.lreturn, 1) := by decide +kernel
set_option maxHeartbeats 4000000 in
set_option maxRecDepth 100000 in
theorem c_Chains_ofLength (l : Launch) {S : St} {x1 : Int32} {r : Int64} (h : f_Chains_ofLength S x1 = some r) : ML cw l y_Chains_ofLength b_Chains_ofLength 2 (some .long) 3 69 0 0 (fun ad => [.ref (ad 9 0), .int x1]) aT aE S r S := by
  refine ML_of "LawfulLots$Chains" rfl (by decide) (fun _ => Nat.le_of_ble_eq_true rfl) ?_
  intro p e s m args below meth c D ar ad A Q ls hP F hK hA hw hl hQ
  have hl : lv_has ls 2 [(0, .ref (ad 9 0)), (1, .int x1)] := hl
  obtain ⟨X_0, eX_0⟩ : ∃ X : Int64 → Prop, X = (fun q => ∀ (H : Heap) (locs : List Loc) (pc : Nat) (ls : Array Slot), decode b_Chains_ofLength pc = .ok (.lreturn, 1) → Bw cw D ar A s.heap H locs ad S → W p l e (RM 3 69) s m args below meth c H locs 0 0 Q (F0 m pc ls [.long q])) := ⟨_, rfl⟩
  have key : ∀ (H : Heap) (locs : List Loc), Bw cw D ar A s.heap H locs ad S → ∀ o, f_Chains_ofLength S x1 = some o → X_0 o → W p l e (RM 3 69) s m args below meth c H locs 0 0 Q (F0 m 0 ls []) := by
    intro H locs hw o h ho
    unfold f_Chains_ofLength at h
    refine lv_aload_n F.1 F.2.1 d_Chains_ofLength_0 rfl (lv_at hl 0 rfl) ?_
    refine lv_iload_n F.1 F.2.1 d_Chains_ofLength_1 rfl (lv_at hl 1 rfl) ?_
    refine lv_ldc2 F.1 F.2.1 F.2.2.2.1 (F.2.2.2.2 _ lk_929) d_Chains_ofLength_2 ?_
    obtain ⟨v_2, hc_1, h⟩ := bd_ex h
    refine cV_l F hA rfl hK hw (c_Chains_waysOver l hc_1) trivial rfl (good_V lk_920 lk_922 ls_43 lk_9 lk_923) (cr_9 hK hw) hd_Chains_waysOver ⟨Nat.le_of_ble_eq_true rfl, Nat.le_of_ble_eq_true rfl⟩ rfl hl.1 rfl (Nat.le_of_ble_eq_true rfl) d_Chains_ofLength_5 ⟨(Nat.zero_le _), (Nat.zero_le _)⟩ (fun H locs hw => ?_)
    cases h
    have ho : X_0 _ := ho
    rw [eX_0] at ho
    exact ho H locs _ ls d_Chains_ofLength_8 hw
  exact key _ _ hw _ h (by rw [eX_0]; exact fun H locs pc ls hd hw => hQ H locs pc ls ad rfl hd hw)
