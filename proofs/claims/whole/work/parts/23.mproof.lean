theorem d_Model_bitsOf_0 : decode b_Model_bitsOf 0 = .ok (.iconst 0, 1) := by decide +kernel
theorem d_Model_bitsOf_1 : decode b_Model_bitsOf 1 = .ok (.istore_n 2, 1) := by decide +kernel
theorem d_Model_bitsOf_2 : decode b_Model_bitsOf 2 = .ok (.iconst 0, 1) := by decide +kernel
theorem d_Model_bitsOf_3 : decode b_Model_bitsOf 3 = .ok (.istore_n 3, 1) := by decide +kernel
theorem d_Model_bitsOf_4 : decode b_Model_bitsOf 4 = .ok (.iload_n 3, 1) := by decide +kernel
theorem d_Model_bitsOf_5 : decode b_Model_bitsOf 5 = .ok (.aload_n 0, 1) := by decide +kernel
theorem d_Model_bitsOf_6 : decode b_Model_bitsOf 6 = .ok (.iload_n 1, 1) := by decide +kernel
theorem d_Model_bitsOf_7 : decode b_Model_bitsOf 7 = .ok (.invokevirtual 294, 3) := by decide +kernel
theorem d_Model_bitsOf_10 : decode b_Model_bitsOf 10 = .ok (.if_icmp .ge 28, 3) := by decide +kernel
theorem d_Model_bitsOf_13 : decode b_Model_bitsOf 13 = .ok (.aload_n 0, 1) := by decide +kernel
theorem d_Model_bitsOf_14 : decode b_Model_bitsOf 14 = .ok (.aload_n 0, 1) := by decide +kernel
theorem d_Model_bitsOf_15 : decode b_Model_bitsOf 15 = .ok (.iload_n 1, 1) := by decide +kernel
theorem d_Model_bitsOf_16 : decode b_Model_bitsOf 16 = .ok (.iload_n 3, 1) := by decide +kernel
theorem d_Model_bitsOf_17 : decode b_Model_bitsOf 17 = .ok (.invokevirtual 297, 3) := by decide +kernel
theorem d_Model_bitsOf_20 : decode b_Model_bitsOf 20 = .ok (.invokevirtual 300, 3) := by decide +kernel
theorem d_Model_bitsOf_23 : decode b_Model_bitsOf 23 = .ok (.ifCond .eq 9, 3) := by decide +kernel
theorem d_Model_bitsOf_26 : decode b_Model_bitsOf 26 = .ok (.iload_n 2, 1) := by decide +kernel
theorem d_Model_bitsOf_27 : decode b_Model_bitsOf 27 = .ok (.iconst 1, 1) := by decide +kernel
theorem d_Model_bitsOf_28 : decode b_Model_bitsOf 28 = .ok (.iload_n 3, 1) := by decide +kernel
theorem d_Model_bitsOf_29 : decode b_Model_bitsOf 29 = .ok (.ishl, 1) := by decide +kernel
theorem d_Model_bitsOf_30 : decode b_Model_bitsOf 30 = .ok (.ior, 1) := by decide +kernel
theorem d_Model_bitsOf_31 : decode b_Model_bitsOf 31 = .ok (.istore_n 2, 1) := by decide +kernel
theorem d_Model_bitsOf_32 : decode b_Model_bitsOf 32 = .ok (.iinc 3 1, 3) := by decide +kernel
theorem d_Model_bitsOf_35 : decode b_Model_bitsOf 35 = .ok (.goto (-31), 3) := by decide +kernel
theorem d_Model_bitsOf_38 : decode b_Model_bitsOf 38 = .ok (.iload_n 2, 1) := by decide +kernel
theorem d_Model_bitsOf_39 : decode b_Model_bitsOf 39 = .ok (.ireturn, 1) := by decide +kernel
set_option maxHeartbeats 4000000 in
set_option maxRecDepth 100000 in
theorem c_Model_bitsOf (l : Launch) {S : St} {x1 : Int32} {S' : St} {r : Int32} (h : f_Model_bitsOf S x1 = some (r, S')) : MI mw l y_Model_bitsOf b_Model_bitsOf 4 (some .int) 2 54 0 0 (fun ad => [.ref (ad 0 0), .int x1]) aT aE S r S' := by
  refine MI_of "LawfulLotsModel" rfl (by decide) (fun _ => Nat.le_of_ble_eq_true rfl) ?_
  intro p e s m args below meth c D ar ad A Q ls hP F hK hA hw hl hQ
  have hl : lv_has ls 4 [(0, .ref (ad 0 0)), (1, .int x1)] := hl
  obtain ⟨X_0, eX_0⟩ : ∃ X : (Int32 × St) → Prop, X = (fun q => ∀ (H : Heap) (locs : List Loc) (pc : Nat) (ls : Array Slot), decode b_Model_bitsOf pc = .ok (.ireturn, 1) → Bw mw D ar A s.heap H locs ad q.2 → W p l e (RM 2 54) s m args below meth c H locs 0 0 Q (F0 m pc ls [.int q.1])) := ⟨_, rfl⟩
  have key : ∀ (H : Heap) (locs : List Loc), Bw mw D ar A s.heap H locs ad S → ∀ o, f_Model_bitsOf S x1 = some o → X_0 o → W p l e (RM 2 54) s m args below meth c H locs 0 0 Q (F0 m 0 ls []) := by
    intro H locs hw o h ho
    unfold f_Model_bitsOf at h
    refine lv_iconst (v := 0) F.1 F.2.1 d_Model_bitsOf_0 (by decide) ?_
    refine lv_istore_n (lv' := [(2, .int (0 : Int32)), (0, .ref (ad 0 0)), (1, .int x1)]) F.1 F.2.1 d_Model_bitsOf_1 rfl hl (by decide) rfl (fun ls hl => ?_)
    refine lv_iconst (v := 0) F.1 F.2.1 d_Model_bitsOf_2 (by decide) ?_
    refine lv_istore_n (lv' := [(3, .int (0 : Int32)), (2, .int (0 : Int32)), (0, .ref (ad 0 0)), (1, .int x1)]) F.1 F.2.1 d_Model_bitsOf_3 rfl hl (by decide) rfl (fun ls hl => ?_)
    obtain ⟨S_12, x2_13, hc_14, h⟩ := bd2_ex h
    obtain ⟨X_4, eX_4⟩ : ∃ X : (St × Int32) → Prop, X = (fun q => ∀ (H : Heap) (locs : List Loc) (ls : Array Slot), Bw mw D ar A s.heap H locs ad q.1 → lv_has ls 4 [(2, .int q.2)] → W p l e (RM 2 54) s m args below meth c H locs 0 0 Q (F0 m 38 ls [])) := ⟨_, rfl⟩
    have hX_4 : X_4 (S_12, x2_13) := by
      rw [eX_4]
      intro H locs ls hw hl
      refine lv_iload_n F.1 F.2.1 d_Model_bitsOf_38 rfl (lv_at hl 0 rfl) ?_
      cases h
      have ho : X_0 _ := ho
      rw [eX_0] at ho
      exact ho H locs _ ls d_Model_bitsOf_39 hw
    obtain ⟨P_4, eP_4⟩ : ∃ P : (St × Int32 × Int32) → Prop, P = (fun q => ∀ (H : Heap) (locs : List Loc) (ls : Array Slot), Bw mw D ar A s.heap H locs ad q.1 → lv_has ls 4 [(0, .ref (ad 0 0)), (1, .int x1), (2, .int q.2.1), (3, .int q.2.2)] → W p l e (RM 2 54) s m args below meth c H locs 0 0 Q (F0 m 4 ls [])) := ⟨_, rfl⟩
    have hL_4 : P_4 (S, (0 : Int32), (0 : Int32)) := by
      refine wh_gp (P := P_4) (X := X_4) hc_14 hX_4 ?_
      clear h
      intro q o h ho
      obtain ⟨S, x2, x3⟩ := q
      have h : Model_bitsOf_l4 x1 S x2 x3 = some o := h
      unfold Model_bitsOf_l4 at h
      rw [eP_4]
      intro H locs ls hw hl
      have J_32_l4 : ∀ (S : St) (x2 : Int32) (x3 : Int32) (H : Heap) (locs : List Loc) (ls : Array Slot), Bw mw D ar A s.heap H locs ad S → lv_has ls 4 [(0, .ref (ad 0 0)), (1, .int x1), (2, .int x2), (3, .int x3)] → ∀ o, Model_bitsOf_j32_l4 S x1 x2 x3 = some o → (Sum.elim P_4 X_4) o → W p l e (RM 2 54) s m args below meth c H locs 0 0 Q (F0 m 32 ls []) := by
        intro S x2 x3 H locs ls hw hl o h ho
        unfold Model_bitsOf_j32_l4 at h
        obtain ⟨x3_11, ex3_11, h⟩ := nm_ex h
        refine lv_iinc (v := x3_11) (lv' := [(3, .int x3_11), (0, .ref (ad 0 0)), (1, .int x1), (2, .int x2)]) F.1 F.2.1 d_Model_bitsOf_32 hl (k := 3) rfl (by rw [ex3_11]; rfl) (by decide) rfl (fun ls hl => ?_)
        refine lv_goto (tgt := 4) F.1 F.2.1 d_Model_bitsOf_35 (by decide) ?_
        cases h
        have ho : P_4 _ := ho
        rw [eP_4] at ho
        exact ho H locs ls hw (lv_sub hl [1, 2, 3, 0] rfl)
      refine lv_iload_n F.1 F.2.1 d_Model_bitsOf_4 rfl (lv_at hl 3 rfl) ?_
      refine lv_aload_n F.1 F.2.1 d_Model_bitsOf_5 rfl (lv_at hl 0 rfl) ?_
      refine lv_iload_n F.1 F.2.1 d_Model_bitsOf_6 rfl (lv_at hl 1 rfl) ?_
      obtain ⟨v_2, hc_1, h⟩ := bd_ex h
      refine cV_i F hA rfl hK hw (c_Model_tellsOf l hc_1) trivial rfl (good_V lk_976 lk_978 ls_48 lk_10 lk_979) (mr_0 hK hw) hd_Model_tellsOf ⟨Nat.le_of_ble_eq_true rfl, Nat.le_of_ble_eq_true rfl⟩ rfl hl.1 rfl (Nat.le_of_ble_eq_true rfl) d_Model_bitsOf_7 ⟨(Nat.zero_le _), (Nat.zero_le _)⟩ (fun H locs hw => ?_)
      refine lv_icmp_ge (tgt := 38) F.1 F.2.1 d_Model_bitsOf_10 (by decide) (fun c_3 => ?_) (fun c_3 => ?_)
      · replace h := ip c_3 h
        cases h
        have ho : X_4 _ := ho
        rw [eX_4] at ho
        exact ho H locs ls hw (lv_sub hl [2] rfl)
      · replace h := iq c_3 h
        refine lv_aload_n F.1 F.2.1 d_Model_bitsOf_13 rfl (lv_at hl 0 rfl) ?_
        refine lv_aload_n F.1 F.2.1 d_Model_bitsOf_14 rfl (lv_at hl 0 rfl) ?_
        refine lv_iload_n F.1 F.2.1 d_Model_bitsOf_15 rfl (lv_at hl 1 rfl) ?_
        refine lv_iload_n F.1 F.2.1 d_Model_bitsOf_16 rfl (lv_at hl 3 rfl) ?_
        obtain ⟨v_5, hc_4, h⟩ := bd_ex h
        refine cV_i F hA rfl hK hw (c_Model_condOf l hc_4) trivial rfl (good_V lk_980 lk_982 ls_49 lk_10 lk_983) (mr_0 hK hw) hd_Model_condOf ⟨Nat.le_of_ble_eq_true rfl, Nat.le_of_ble_eq_true rfl⟩ rfl hl.1 rfl (Nat.le_of_ble_eq_true rfl) d_Model_bitsOf_17 ⟨(Nat.zero_le _), (Nat.zero_le _)⟩ (fun H locs hw => ?_)
        obtain ⟨v_7, S_8, hc_6, h⟩ := bd2_ex h
        refine cV_i F hA rfl hK hw (c_Model_holds l hc_6) trivial rfl (good_V lk_984 lk_986 ls_50 lk_10 lk_987) (mr_0 hK hw) hd_Model_holds ⟨Nat.le_of_ble_eq_true rfl, Nat.le_of_ble_eq_true rfl⟩ rfl hl.1 rfl (Nat.le_of_ble_eq_true rfl) d_Model_bitsOf_20 ⟨(Nat.zero_le _), (Nat.zero_le _)⟩ (fun H locs hw => ?_)
        refine lv_if_eq (tgt := 32) F.1 F.2.1 d_Model_bitsOf_23 (by decide) (fun c_9 => ?_) (fun c_9 => ?_)
        · replace h := ip c_9 h
          exact J_32_l4 S_8 x2 x3 H locs ls hw (lv_sub hl [0, 1, 2, 3] rfl) o h ho
        · replace h := iq c_9 h
          refine lv_iload_n F.1 F.2.1 d_Model_bitsOf_26 rfl (lv_at hl 2 rfl) ?_
          refine lv_iconst (v := 1) F.1 F.2.1 d_Model_bitsOf_27 (by decide) ?_
          refine lv_iload_n F.1 F.2.1 d_Model_bitsOf_28 rfl (lv_at hl 3 rfl) ?_
          refine lv_ishl F.1 F.2.1 d_Model_bitsOf_29 ?_
          refine lv_ior F.1 F.2.1 d_Model_bitsOf_30 ?_
          obtain ⟨x2_10, ex2_10, h⟩ := nm_ex h
          refine lv_nm ex2_10 ?_
          refine lv_istore_n (lv' := [(2, .int x2_10), (0, .ref (ad 0 0)), (1, .int x1), (3, .int x3)]) F.1 F.2.1 d_Model_bitsOf_31 rfl hl (by decide) rfl (fun ls hl => ?_)
          exact J_32_l4 S_8 x2_10 x3 H locs ls hw (lv_sub hl [1, 2, 0, 3] rfl) o h ho
    rw [eP_4] at hL_4
    exact hL_4 H locs ls hw (lv_sub hl [2, 3, 1, 0] rfl)
  exact key _ _ hw _ h (by rw [eX_0]; exact fun H locs pc ls hd hw => hQ H locs pc ls ad rfl hd hw)
theorem d_Model_laws_0 : decode b_Model_laws 0 = .ok (.aload_n 0, 1) := by decide +kernel
theorem d_Model_laws_1 : decode b_Model_laws 1 = .ok (.getfield 123, 3) := by decide +kernel
theorem d_Model_laws_4 : decode b_Model_laws 4 = .ok (.iconst 1, 1) := by decide +kernel
theorem d_Model_laws_5 : decode b_Model_laws 5 = .ok (.aload_n 0, 1) := by decide +kernel
theorem d_Model_laws_6 : decode b_Model_laws 6 = .ok (.iconst 0, 1) := by decide +kernel
theorem d_Model_laws_7 : decode b_Model_laws 7 = .ok (.invokevirtual 294, 3) := by decide +kernel
theorem d_Model_laws_10 : decode b_Model_laws 10 = .ok (.ishl, 1) := by decide +kernel
theorem d_Model_laws_11 : decode b_Model_laws 11 = .ok (.iconst 1, 1) := by decide +kernel
theorem d_Model_laws_12 : decode b_Model_laws 12 = .ok (.isub, 1) := by decide +kernel
theorem d_Model_laws_13 : decode b_Model_laws 13 = .ok (.iand, 1) := by decide +kernel
theorem d_Model_laws_14 : decode b_Model_laws 14 = .ok (.ireturn, 1) := by decide +kernel
set_option maxHeartbeats 4000000 in
set_option maxRecDepth 100000 in
theorem c_Model_laws (l : Launch) {S : St} {r : Int32} (h : f_Model_laws S = some r) : MI mw l y_Model_laws b_Model_laws 1 (some .int) 1 21 0 0 (fun ad => [.ref (ad 0 0)]) aT aE S r S := by
  refine MI_of "LawfulLotsModel" rfl (by decide) (fun _ => Nat.le_of_ble_eq_true rfl) ?_
  intro p e s m args below meth c D ar ad A Q ls hP F hK hA hw hl hQ
  have hl : lv_has ls 1 [(0, .ref (ad 0 0))] := hl
  obtain ⟨X_0, eX_0⟩ : ∃ X : Int32 → Prop, X = (fun q => ∀ (H : Heap) (locs : List Loc) (pc : Nat) (ls : Array Slot), decode b_Model_laws pc = .ok (.ireturn, 1) → Bw mw D ar A s.heap H locs ad S → W p l e (RM 1 21) s m args below meth c H locs 0 0 Q (F0 m pc ls [.int q])) := ⟨_, rfl⟩
  have key : ∀ (H : Heap) (locs : List Loc), Bw mw D ar A s.heap H locs ad S → ∀ o, f_Model_laws S = some o → X_0 o → W p l e (RM 1 21) s m args below meth c H locs 0 0 Q (F0 m 0 ls []) := by
    intro H locs hw o h ho
    unfold f_Model_laws at h
    refine lv_aload_n F.1 F.2.1 d_Model_laws_0 rfl (lv_at hl 0 rfl) ?_
    refine mg_0_52 F hK hw lk_1063 d_Model_laws_1 ?_
    refine lv_iconst (v := 1) F.1 F.2.1 d_Model_laws_4 (by decide) ?_
    refine lv_aload_n F.1 F.2.1 d_Model_laws_5 rfl (lv_at hl 0 rfl) ?_
    refine lv_iconst (v := 0) F.1 F.2.1 d_Model_laws_6 (by decide) ?_
    obtain ⟨v_2, hc_1, h⟩ := bd_ex h
    refine cV_i F hA rfl hK hw (c_Model_tellsOf l hc_1) trivial rfl (good_V lk_976 lk_978 ls_48 lk_10 lk_979) (mr_0 hK hw) hd_Model_tellsOf ⟨Nat.le_of_ble_eq_true rfl, Nat.le_of_ble_eq_true rfl⟩ rfl hl.1 rfl (Nat.le_of_ble_eq_true rfl) d_Model_laws_7 ⟨(Nat.zero_le _), (Nat.zero_le _)⟩ (fun H locs hw => ?_)
    refine lv_ishl F.1 F.2.1 d_Model_laws_10 ?_
    refine lv_iconst (v := 1) F.1 F.2.1 d_Model_laws_11 (by decide) ?_
    refine lv_isub F.1 F.2.1 d_Model_laws_12 ?_
    refine lv_iand F.1 F.2.1 d_Model_laws_13 ?_
    cases h
    have ho : X_0 _ := ho
    rw [eX_0] at ho
    exact ho H locs _ ls d_Model_laws_14 hw
  exact key _ _ hw _ h (by rw [eX_0]; exact fun H locs pc ls hd hw => hQ H locs pc ls ad rfl hd hw)
theorem d_Model_isAny_0 : decode b_Model_isAny 0 = .ok (.iconst 0, 1) := by decide +kernel
theorem d_Model_isAny_1 : decode b_Model_isAny 1 = .ok (.istore_n 3, 1) := by decide +kernel
theorem d_Model_isAny_2 : decode b_Model_isAny 2 = .ok (.iload_n 3, 1) := by decide +kernel
theorem d_Model_isAny_3 : decode b_Model_isAny 3 = .ok (.aload_n 0, 1) := by decide +kernel
theorem d_Model_isAny_4 : decode b_Model_isAny 4 = .ok (.getfield 303, 3) := by decide +kernel
theorem d_Model_isAny_7 : decode b_Model_isAny 7 = .ok (.if_icmp .ge 35, 3) := by decide +kernel
theorem d_Model_isAny_10 : decode b_Model_isAny 10 = .ok (.aload_n 0, 1) := by decide +kernel
theorem d_Model_isAny_11 : decode b_Model_isAny 11 = .ok (.getfield 105, 3) := by decide +kernel
theorem d_Model_isAny_14 : decode b_Model_isAny 14 = .ok (.iload_n 3, 1) := by decide +kernel
theorem d_Model_isAny_15 : decode b_Model_isAny 15 = .ok (.iaload, 1) := by decide +kernel
theorem d_Model_isAny_16 : decode b_Model_isAny 16 = .ok (.iload_n 1, 1) := by decide +kernel
theorem d_Model_isAny_17 : decode b_Model_isAny 17 = .ok (.iand, 1) := by decide +kernel
theorem d_Model_isAny_18 : decode b_Model_isAny 18 = .ok (.iload_n 1, 1) := by decide +kernel
theorem d_Model_isAny_19 : decode b_Model_isAny 19 = .ok (.if_icmp .ne 17, 3) := by decide +kernel
theorem d_Model_isAny_22 : decode b_Model_isAny 22 = .ok (.aload_n 0, 1) := by decide +kernel
theorem d_Model_isAny_23 : decode b_Model_isAny 23 = .ok (.getfield 108, 3) := by decide +kernel
theorem d_Model_isAny_26 : decode b_Model_isAny 26 = .ok (.iload_n 3, 1) := by decide +kernel
theorem d_Model_isAny_27 : decode b_Model_isAny 27 = .ok (.iaload, 1) := by decide +kernel
theorem d_Model_isAny_28 : decode b_Model_isAny 28 = .ok (.iload_n 2, 1) := by decide +kernel
theorem d_Model_isAny_29 : decode b_Model_isAny 29 = .ok (.iand, 1) := by decide +kernel
theorem d_Model_isAny_30 : decode b_Model_isAny 30 = .ok (.iload_n 2, 1) := by decide +kernel
theorem d_Model_isAny_31 : decode b_Model_isAny 31 = .ok (.if_icmp .ne 5, 3) := by decide +kernel
theorem d_Model_isAny_34 : decode b_Model_isAny 34 = .ok (.iconst 1, 1) := by decide +kernel
theorem d_Model_isAny_35 : decode b_Model_isAny 35 = .ok (.ireturn, 1) := by decide +kernel
theorem d_Model_isAny_36 : decode b_Model_isAny 36 = .ok (.iinc 3 1, 3) := by decide +kernel
theorem d_Model_isAny_39 : decode b_Model_isAny 39 = .ok (.goto (-37), 3) := by decide +kernel
theorem d_Model_isAny_42 : decode b_Model_isAny 42 = .ok (.iconst 0, 1) := by decide +kernel
theorem d_Model_isAny_43 : decode b_Model_isAny 43 = .ok (.ireturn, 1) := by decide +kernel
set_option maxHeartbeats 4000000 in
set_option maxRecDepth 100000 in
theorem c_Model_isAny (l : Launch) {S : St} {x1 : Int32} {x2 : Int32} {r : Int32} (h : f_Model_isAny S x1 x2 = some r) : MI mw l y_Model_isAny b_Model_isAny 4 (some .boolean) 0 0 0 0 (fun ad => [.ref (ad 0 0), .int x1, .int x2]) aT aE S r S := by
  refine MZ_of "LawfulLotsModel" rfl (by decide) (fun _ => Nat.le_of_ble_eq_true rfl) ?_
  intro p e s m args below meth c D ar ad A Q ls hP F hK hA hw hl hQ
  have hl : lv_has ls 4 [(0, .ref (ad 0 0)), (1, .int x1), (2, .int x2)] := hl
  obtain ⟨X_0, eX_0⟩ : ∃ X : Int32 → Prop, X = (fun q => ∀ (H : Heap) (locs : List Loc) (pc : Nat) (ls : Array Slot), isB q = true → decode b_Model_isAny pc = .ok (.ireturn, 1) → Bw mw D ar A s.heap H locs ad S → W p l e (RM 0 0) s m args below meth c H locs 0 0 Q (F0 m pc ls [.int q])) := ⟨_, rfl⟩
  have key : ∀ (H : Heap) (locs : List Loc), Bw mw D ar A s.heap H locs ad S → ∀ o, f_Model_isAny S x1 x2 = some o → X_0 o → W p l e (RM 0 0) s m args below meth c H locs 0 0 Q (F0 m 0 ls []) := by
    intro H locs hw o h ho
    unfold f_Model_isAny at h
    refine lv_iconst (v := 0) F.1 F.2.1 d_Model_isAny_0 (by decide) ?_
    refine lv_istore_n (lv' := [(3, .int (0 : Int32)), (0, .ref (ad 0 0)), (1, .int x1), (2, .int x2)]) F.1 F.2.1 d_Model_isAny_1 rfl hl (by decide) rfl (fun ls hl => ?_)
    obtain ⟨P_2, eP_2⟩ : ∃ P : Int32 → Prop, P = (fun q => ∀ (H : Heap) (locs : List Loc) (ls : Array Slot), Bw mw D ar A s.heap H locs ad S → lv_has ls 4 [(0, .ref (ad 0 0)), (1, .int x1), (2, .int x2), (3, .int q)] → W p l e (RM 0 0) s m args below meth c H locs 0 0 Q (F0 m 2 ls [])) := ⟨_, rfl⟩
    have hL_2 : P_2 (0 : Int32) := by
      refine wh_gp (P := P_2) (X := X_0) h ho ?_
      clear h ho
      intro x3 o h ho
      have h : Model_isAny_l2 S x1 x2 x3 = some o := h
      unfold Model_isAny_l2 at h
      rw [eP_2]
      intro H locs ls hw hl
      have J_36_l2 : ∀ (x3 : Int32) (H : Heap) (locs : List Loc) (ls : Array Slot), Bw mw D ar A s.heap H locs ad S → lv_has ls 4 [(0, .ref (ad 0 0)), (1, .int x1), (2, .int x2), (3, .int x3)] → ∀ o, Model_isAny_j36_l2 S x1 x2 x3 = some o → (Sum.elim P_2 X_0) o → W p l e (RM 0 0) s m args below meth c H locs 0 0 Q (F0 m 36 ls []) := by
        intro x3 H locs ls hw hl o h ho
        unfold Model_isAny_j36_l2 at h
        obtain ⟨x3_6, ex3_6, h⟩ := nm_ex h
        refine lv_iinc (v := x3_6) (lv' := [(3, .int x3_6), (0, .ref (ad 0 0)), (1, .int x1), (2, .int x2)]) F.1 F.2.1 d_Model_isAny_36 hl (k := 3) rfl (by rw [ex3_6]; rfl) (by decide) rfl (fun ls hl => ?_)
        refine lv_goto (tgt := 2) F.1 F.2.1 d_Model_isAny_39 (by decide) ?_
        cases h
        have ho : P_2 _ := ho
        rw [eP_2] at ho
        exact ho H locs ls hw (lv_sub hl [1, 2, 3, 0] rfl)
      refine lv_iload_n F.1 F.2.1 d_Model_isAny_2 rfl (lv_at hl 3 rfl) ?_
      refine lv_aload_n F.1 F.2.1 d_Model_isAny_3 rfl (lv_at hl 0 rfl) ?_
      refine mg_0_44 F hK hw lk_1055 d_Model_isAny_4 ?_
      refine lv_icmp_ge (tgt := 42) F.1 F.2.1 d_Model_isAny_7 (by decide) (fun c_1 => ?_) (fun c_1 => ?_)
      · replace h := ip c_1 h
        refine lv_iconst (v := 0) F.1 F.2.1 d_Model_isAny_42 (by decide) ?_
        cases h
        have ho : X_0 _ := ho
        rw [eX_0] at ho
        exact ho H locs _ ls isB0 d_Model_isAny_43 hw
      · replace h := iq c_1 h
        refine lv_aload_n F.1 F.2.1 d_Model_isAny_10 rfl (lv_at hl 0 rfl) ?_
        refine mg_0_46 F hK hw lk_1057 d_Model_isAny_11 ?_
        refine lv_iload_n F.1 F.2.1 d_Model_isAny_14 rfl (lv_at hl 3 rfl) ?_
        obtain ⟨hi_2, h⟩ := gd_ex h
        refine ml_0_46 F hK hw hi_2 d_Model_isAny_15 ?_
        refine lv_iload_n F.1 F.2.1 d_Model_isAny_16 rfl (lv_at hl 1 rfl) ?_
        refine lv_iand F.1 F.2.1 d_Model_isAny_17 ?_
        refine lv_iload_n F.1 F.2.1 d_Model_isAny_18 rfl (lv_at hl 1 rfl) ?_
        refine lv_icmp_ne (tgt := 36) F.1 F.2.1 d_Model_isAny_19 (by decide) (fun c_3 => ?_) (fun c_3 => ?_)
        · replace h := iq c_3 h
          exact J_36_l2 x3 H locs ls hw (lv_sub hl [0, 1, 2, 3] rfl) o h ho
        · replace h := ip c_3 h
          refine lv_aload_n F.1 F.2.1 d_Model_isAny_22 rfl (lv_at hl 0 rfl) ?_
          refine mg_0_47 F hK hw lk_1058 d_Model_isAny_23 ?_
          refine lv_iload_n F.1 F.2.1 d_Model_isAny_26 rfl (lv_at hl 3 rfl) ?_
          obtain ⟨hi_4, h⟩ := gd_ex h
          refine ml_0_47 F hK hw hi_4 d_Model_isAny_27 ?_
          refine lv_iload_n F.1 F.2.1 d_Model_isAny_28 rfl (lv_at hl 2 rfl) ?_
          refine lv_iand F.1 F.2.1 d_Model_isAny_29 ?_
          refine lv_iload_n F.1 F.2.1 d_Model_isAny_30 rfl (lv_at hl 2 rfl) ?_
          refine lv_icmp_ne (tgt := 36) F.1 F.2.1 d_Model_isAny_31 (by decide) (fun c_5 => ?_) (fun c_5 => ?_)
          · replace h := iq c_5 h
            exact J_36_l2 x3 H locs ls hw (lv_sub hl [0, 1, 2, 3] rfl) o h ho
          · replace h := ip c_5 h
            refine lv_iconst (v := 1) F.1 F.2.1 d_Model_isAny_34 (by decide) ?_
            cases h
            have ho : X_0 _ := ho
            rw [eX_0] at ho
            exact ho H locs _ ls isB1 d_Model_isAny_35 hw
    rw [eP_2] at hL_2
    exact hL_2 H locs ls hw (lv_sub hl [1, 2, 3, 0] rfl)
  exact key _ _ hw _ h (by rw [eX_0]; exact fun H locs pc ls hb hd hw => hQ H locs pc ls ad hb rfl hd hw)
theorem d_Model_isLawful_0 : decode b_Model_isLawful 0 = .ok (.aload_n 0, 1) := by decide +kernel
theorem d_Model_isLawful_1 : decode b_Model_isLawful 1 = .ok (.getfield 105, 3) := by decide +kernel
theorem d_Model_isLawful_4 : decode b_Model_isLawful 4 = .ok (.iload_n 1, 1) := by decide +kernel
theorem d_Model_isLawful_5 : decode b_Model_isLawful 5 = .ok (.iaload, 1) := by decide +kernel
theorem d_Model_isLawful_6 : decode b_Model_isLawful 6 = .ok (.aload_n 0, 1) := by decide +kernel
theorem d_Model_isLawful_7 : decode b_Model_isLawful 7 = .ok (.invokevirtual 318, 3) := by decide +kernel
theorem d_Model_isLawful_10 : decode b_Model_isLawful 10 = .ok (.iand, 1) := by decide +kernel
theorem d_Model_isLawful_11 : decode b_Model_isLawful 11 = .ok (.aload_n 0, 1) := by decide +kernel
theorem d_Model_isLawful_12 : decode b_Model_isLawful 12 = .ok (.invokevirtual 318, 3) := by decide +kernel
theorem d_Model_isLawful_15 : decode b_Model_isLawful 15 = .ok (.if_icmp .ne 25, 3) := by decide +kernel
theorem d_Model_isLawful_18 : decode b_Model_isLawful 18 = .ok (.aload_n 0, 1) := by decide +kernel
theorem d_Model_isLawful_19 : decode b_Model_isLawful 19 = .ok (.getfield 108, 3) := by decide +kernel
theorem d_Model_isLawful_22 : decode b_Model_isLawful 22 = .ok (.iload_n 1, 1) := by decide +kernel
theorem d_Model_isLawful_23 : decode b_Model_isLawful 23 = .ok (.iaload, 1) := by decide +kernel
theorem d_Model_isLawful_24 : decode b_Model_isLawful 24 = .ok (.aload_n 0, 1) := by decide +kernel
theorem d_Model_isLawful_25 : decode b_Model_isLawful 25 = .ok (.getfield 315, 3) := by decide +kernel
theorem d_Model_isLawful_28 : decode b_Model_isLawful 28 = .ok (.iand, 1) := by decide +kernel
theorem d_Model_isLawful_29 : decode b_Model_isLawful 29 = .ok (.aload_n 0, 1) := by decide +kernel
theorem d_Model_isLawful_30 : decode b_Model_isLawful 30 = .ok (.getfield 315, 3) := by decide +kernel
theorem d_Model_isLawful_33 : decode b_Model_isLawful 33 = .ok (.if_icmp .ne 7, 3) := by decide +kernel
theorem d_Model_isLawful_36 : decode b_Model_isLawful 36 = .ok (.iconst 1, 1) := by decide +kernel
theorem d_Model_isLawful_37 : decode b_Model_isLawful 37 = .ok (.goto 4, 3) := by decide +kernel
theorem d_Model_isLawful_40 : decode b_Model_isLawful 40 = .ok (.iconst 0, 1) := by decide +kernel
theorem d_Model_isLawful_41 : decode b_Model_isLawful 41 = .ok (.ireturn, 1) := by decide +kernel
set_option maxHeartbeats 4000000 in
set_option maxRecDepth 100000 in
theorem c_Model_isLawful (l : Launch) {S : St} {x1 : Int32} {r : Int32} (h : f_Model_isLawful S x1 = some r) : MI mw l y_Model_isLawful b_Model_isLawful 2 (some .boolean) 2 41 0 0 (fun ad => [.ref (ad 0 0), .int x1]) aT aE S r S := by
  refine MZ_of "LawfulLotsModel" rfl (by decide) (fun _ => Nat.le_of_ble_eq_true rfl) ?_
  intro p e s m args below meth c D ar ad A Q ls hP F hK hA hw hl hQ
  have hl : lv_has ls 2 [(0, .ref (ad 0 0)), (1, .int x1)] := hl
  obtain ⟨X_0, eX_0⟩ : ∃ X : Int32 → Prop, X = (fun q => ∀ (H : Heap) (locs : List Loc) (pc : Nat) (ls : Array Slot), isB q = true → decode b_Model_isLawful pc = .ok (.ireturn, 1) → Bw mw D ar A s.heap H locs ad S → W p l e (RM 2 41) s m args below meth c H locs 0 0 Q (F0 m pc ls [.int q])) := ⟨_, rfl⟩
  have key : ∀ (H : Heap) (locs : List Loc), Bw mw D ar A s.heap H locs ad S → ∀ o, f_Model_isLawful S x1 = some o → X_0 o → W p l e (RM 2 41) s m args below meth c H locs 0 0 Q (F0 m 0 ls []) := by
    intro H locs hw o h ho
    unfold f_Model_isLawful at h
    have J_41 : ∀ (t0 : Int32) (H : Heap) (locs : List Loc) (ls : Array Slot), Bw mw D ar A s.heap H locs ad S → lv_has ls 2 [] → ∀ o, Model_isLawful_j41 S t0 = some o → X_0 o → W p l e (RM 2 41) s m args below meth c H locs 0 0 Q (F0 m 41 ls [.int t0]) := by
      intro t0 H locs ls hw hl o h ho
      unfold Model_isLawful_j41 at h
      obtain ⟨hb_9, h⟩ := gd_ex h
      cases h
      have ho : X_0 _ := ho
      rw [eX_0] at ho
      exact ho H locs _ ls hb_9 d_Model_isLawful_41 hw
    have J_40 : ∀ (H : Heap) (locs : List Loc) (ls : Array Slot), Bw mw D ar A s.heap H locs ad S → lv_has ls 2 [] → ∀ o, Model_isLawful_j40 S = some o → X_0 o → W p l e (RM 2 41) s m args below meth c H locs 0 0 Q (F0 m 40 ls []) := by
      intro H locs ls hw hl o h ho
      unfold Model_isLawful_j40 at h
      refine lv_iconst (v := 0) F.1 F.2.1 d_Model_isLawful_40 (by decide) ?_
      exact J_41 (0 : Int32) H locs ls hw (lv_sub hl [] rfl) o h ho
    refine lv_aload_n F.1 F.2.1 d_Model_isLawful_0 rfl (lv_at hl 0 rfl) ?_
    refine mg_0_46 F hK hw lk_1057 d_Model_isLawful_1 ?_
    refine lv_iload_n F.1 F.2.1 d_Model_isLawful_4 rfl (lv_at hl 1 rfl) ?_
    obtain ⟨hi_1, h⟩ := gd_ex h
    refine ml_0_46 F hK hw hi_1 d_Model_isLawful_5 ?_
    refine lv_aload_n F.1 F.2.1 d_Model_isLawful_6 rfl (lv_at hl 0 rfl) ?_
    obtain ⟨v_3, hc_2, h⟩ := bd_ex h
    refine cV_i F hA rfl hK hw (c_Model_laws l hc_2) trivial rfl (good_V lk_996 lk_998 ls_53 lk_10 lk_999) (mr_0 hK hw) hd_Model_laws ⟨Nat.le_of_ble_eq_true rfl, Nat.le_of_ble_eq_true rfl⟩ rfl hl.1 rfl (Nat.le_of_ble_eq_true rfl) d_Model_isLawful_7 ⟨(Nat.zero_le _), (Nat.zero_le _)⟩ (fun H locs hw => ?_)
    refine lv_iand F.1 F.2.1 d_Model_isLawful_10 ?_
    refine lv_aload_n F.1 F.2.1 d_Model_isLawful_11 rfl (lv_at hl 0 rfl) ?_
    obtain ⟨v_5, hc_4, h⟩ := bd_ex h
    refine cV_i F hA rfl hK hw (c_Model_laws l hc_4) trivial rfl (good_V lk_996 lk_998 ls_53 lk_10 lk_999) (mr_0 hK hw) hd_Model_laws ⟨Nat.le_of_ble_eq_true rfl, Nat.le_of_ble_eq_true rfl⟩ rfl hl.1 rfl (Nat.le_of_ble_eq_true rfl) d_Model_isLawful_12 ⟨(Nat.zero_le _), (Nat.zero_le _)⟩ (fun H locs hw => ?_)
    refine lv_icmp_ne (tgt := 40) F.1 F.2.1 d_Model_isLawful_15 (by decide) (fun c_6 => ?_) (fun c_6 => ?_)
    · replace h := iq c_6 h
      exact J_40 H locs ls hw (lv_sub hl [] rfl) o h ho
    · replace h := ip c_6 h
      refine lv_aload_n F.1 F.2.1 d_Model_isLawful_18 rfl (lv_at hl 0 rfl) ?_
      refine mg_0_47 F hK hw lk_1058 d_Model_isLawful_19 ?_
      refine lv_iload_n F.1 F.2.1 d_Model_isLawful_22 rfl (lv_at hl 1 rfl) ?_
      obtain ⟨hi_7, h⟩ := gd_ex h
      refine ml_0_47 F hK hw hi_7 d_Model_isLawful_23 ?_
      refine lv_aload_n F.1 F.2.1 d_Model_isLawful_24 rfl (lv_at hl 0 rfl) ?_
      refine mg_0_53 F hK hw lk_1064 d_Model_isLawful_25 ?_
      refine lv_iand F.1 F.2.1 d_Model_isLawful_28 ?_
      refine lv_aload_n F.1 F.2.1 d_Model_isLawful_29 rfl (lv_at hl 0 rfl) ?_
      refine mg_0_53 F hK hw lk_1064 d_Model_isLawful_30 ?_
      refine lv_icmp_ne (tgt := 40) F.1 F.2.1 d_Model_isLawful_33 (by decide) (fun c_8 => ?_) (fun c_8 => ?_)
      · replace h := iq c_8 h
        exact J_40 H locs ls hw (lv_sub hl [] rfl) o h ho
      · replace h := ip c_8 h
        refine lv_iconst (v := 1) F.1 F.2.1 d_Model_isLawful_36 (by decide) ?_
        refine lv_goto (tgt := 41) F.1 F.2.1 d_Model_isLawful_37 (by decide) ?_
        exact J_41 (1 : Int32) H locs ls hw (lv_sub hl [] rfl) o h ho
  exact key _ _ hw _ h (by rw [eX_0]; exact fun H locs pc ls hb hd hw => hQ H locs pc ls ad hb rfl hd hw)
theorem d_Model_shareOf_0 : decode b_Model_shareOf 0 = .ok (.aload_n 0, 1) := by decide +kernel
theorem d_Model_shareOf_1 : decode b_Model_shareOf 1 = .ok (.iload_n 1, 1) := by decide +kernel
theorem d_Model_shareOf_2 : decode b_Model_shareOf 2 = .ok (.invokevirtual 306, 3) := by decide +kernel
theorem d_Model_shareOf_5 : decode b_Model_shareOf 5 = .ok (.iconst 0, 1) := by decide +kernel
theorem d_Model_shareOf_6 : decode b_Model_shareOf 6 = .ok (.istore_n 2, 1) := by decide +kernel
theorem d_Model_shareOf_7 : decode b_Model_shareOf 7 = .ok (.iload_n 2, 1) := by decide +kernel
theorem d_Model_shareOf_8 : decode b_Model_shareOf 8 = .ok (.aload_n 0, 1) := by decide +kernel
theorem d_Model_shareOf_9 : decode b_Model_shareOf 9 = .ok (.iconst 4, 1) := by decide +kernel
theorem d_Model_shareOf_10 : decode b_Model_shareOf 10 = .ok (.invokevirtual 294, 3) := by decide +kernel
theorem d_Model_shareOf_13 : decode b_Model_shareOf 13 = .ok (.if_icmp .ge 71, 3) := by decide +kernel
theorem d_Model_shareOf_16 : decode b_Model_shareOf 16 = .ok (.aload_n 0, 1) := by decide +kernel
theorem d_Model_shareOf_17 : decode b_Model_shareOf 17 = .ok (.iconst 4, 1) := by decide +kernel
theorem d_Model_shareOf_18 : decode b_Model_shareOf 18 = .ok (.iload_n 2, 1) := by decide +kernel
theorem d_Model_shareOf_19 : decode b_Model_shareOf 19 = .ok (.invokevirtual 297, 3) := by decide +kernel
theorem d_Model_shareOf_22 : decode b_Model_shareOf 22 = .ok (.istore_n 3, 1) := by decide +kernel
theorem d_Model_shareOf_23 : decode b_Model_shareOf 23 = .ok (.aload_n 0, 1) := by decide +kernel
theorem d_Model_shareOf_24 : decode b_Model_shareOf 24 = .ok (.iload_n 3, 1) := by decide +kernel
theorem d_Model_shareOf_25 : decode b_Model_shareOf 25 = .ok (.invokevirtual 300, 3) := by decide +kernel
theorem d_Model_shareOf_28 : decode b_Model_shareOf 28 = .ok (.ifCond .ne 6, 3) := by decide +kernel
theorem d_Model_shareOf_31 : decode b_Model_shareOf 31 = .ok (.goto 47, 3) := by decide +kernel
theorem d_Model_shareOf_34 : decode b_Model_shareOf 34 = .ok (.aload_n 0, 1) := by decide +kernel
theorem d_Model_shareOf_35 : decode b_Model_shareOf 35 = .ok (.aload_n 0, 1) := by decide +kernel
theorem d_Model_shareOf_36 : decode b_Model_shareOf 36 = .ok (.getfield 64, 3) := by decide +kernel
theorem d_Model_shareOf_39 : decode b_Model_shareOf 39 = .ok (.iload_n 3, 1) := by decide +kernel
theorem d_Model_shareOf_40 : decode b_Model_shareOf 40 = .ok (.iaload, 1) := by decide +kernel
theorem d_Model_shareOf_41 : decode b_Model_shareOf 41 = .ok (.aload_n 0, 1) := by decide +kernel
theorem d_Model_shareOf_42 : decode b_Model_shareOf 42 = .ok (.getfield 67, 3) := by decide +kernel
theorem d_Model_shareOf_45 : decode b_Model_shareOf 45 = .ok (.iload_n 3, 1) := by decide +kernel
theorem d_Model_shareOf_46 : decode b_Model_shareOf 46 = .ok (.iaload, 1) := by decide +kernel
theorem d_Model_shareOf_47 : decode b_Model_shareOf 47 = .ok (.invokevirtual 287, 3) := by decide +kernel
theorem d_Model_shareOf_50 : decode b_Model_shareOf 50 = .ok (.istore 4, 2) := by decide +kernel
theorem d_Model_shareOf_52 : decode b_Model_shareOf 52 = .ok (.iload 4, 2) := by decide +kernel
theorem d_Model_shareOf_54 : decode b_Model_shareOf 54 = .ok (.ifCond .ge 7, 3) := by decide +kernel
theorem d_Model_shareOf_57 : decode b_Model_shareOf 57 = .ok (.iconst 0, 1) := by decide +kernel
theorem d_Model_shareOf_58 : decode b_Model_shareOf 58 = .ok (.goto 19, 3) := by decide +kernel
theorem d_Model_shareOf_61 : decode b_Model_shareOf 61 = .ok (.iload 4, 2) := by decide +kernel
theorem d_Model_shareOf_63 : decode b_Model_shareOf 63 = .ok (.sipush 1000, 3) := by decide +kernel
theorem d_Model_shareOf_66 : decode b_Model_shareOf 66 = .ok (.if_icmp .le 9, 3) := by decide +kernel
theorem d_Model_shareOf_69 : decode b_Model_shareOf 69 = .ok (.sipush 1000, 3) := by decide +kernel
theorem d_Model_shareOf_72 : decode b_Model_shareOf 72 = .ok (.goto 5, 3) := by decide +kernel
theorem d_Model_shareOf_75 : decode b_Model_shareOf 75 = .ok (.iload 4, 2) := by decide +kernel
theorem d_Model_shareOf_77 : decode b_Model_shareOf 77 = .ok (.ireturn, 1) := by decide +kernel
theorem d_Model_shareOf_78 : decode b_Model_shareOf 78 = .ok (.iinc 2 1, 3) := by decide +kernel
theorem d_Model_shareOf_81 : decode b_Model_shareOf 81 = .ok (.goto (-74), 3) := by decide +kernel
theorem d_Model_shareOf_84 : decode b_Model_shareOf 84 = .ok (.iconst 1, 1) := by decide +kernel
theorem d_Model_shareOf_85 : decode b_Model_shareOf 85 = .ok (.ireturn, 1) := by decide +kernel
set_option maxHeartbeats 4000000 in
set_option maxRecDepth 100000 in
theorem c_Model_shareOf (l : Launch) {S : St} {x1 : Int32} {S' : St} {r : Int32} (h : f_Model_shareOf S x1 = some (r, S')) : MI mw l y_Model_shareOf b_Model_shareOf 5 (some .int) 2 54 0 0 (fun ad => [.ref (ad 0 0), .int x1]) aT aE S r S' := by
  refine MI_of "LawfulLotsModel" rfl (by decide) (fun _ => Nat.le_of_ble_eq_true rfl) ?_
  intro p e s m args below meth c D ar ad A Q ls hP F hK hA hw hl hQ
  have hl : lv_has ls 5 [(0, .ref (ad 0 0)), (1, .int x1)] := hl
  obtain ⟨X_0, eX_0⟩ : ∃ X : (Int32 × St) → Prop, X = (fun q => ∀ (H : Heap) (locs : List Loc) (pc : Nat) (ls : Array Slot), decode b_Model_shareOf pc = .ok (.ireturn, 1) → Bw mw D ar A s.heap H locs ad q.2 → W p l e (RM 2 54) s m args below meth c H locs 0 0 Q (F0 m pc ls [.int q.1])) := ⟨_, rfl⟩
  have key : ∀ (H : Heap) (locs : List Loc), Bw mw D ar A s.heap H locs ad S → ∀ o, f_Model_shareOf S x1 = some o → X_0 o → W p l e (RM 2 54) s m args below meth c H locs 0 0 Q (F0 m 0 ls []) := by
    intro H locs hw o h ho
    unfold f_Model_shareOf at h
    refine lv_aload_n F.1 F.2.1 d_Model_shareOf_0 rfl (lv_at hl 0 rfl) ?_
    refine lv_iload_n F.1 F.2.1 d_Model_shareOf_1 rfl (lv_at hl 1 rfl) ?_
    obtain ⟨S_2, hc_1, h⟩ := bd_ex h
    refine cV_v F hA rfl hK hw (c_Model_looksAt l hc_1) trivial rfl (good_V lk_964 lk_966 ls_45 lk_10 lk_967) (mr_0 hK hw) hd_Model_looksAt ⟨Nat.le_of_ble_eq_true rfl, Nat.le_of_ble_eq_true rfl⟩ rfl hl.1 rfl (Nat.le_of_ble_eq_true rfl) d_Model_shareOf_2 ⟨(Nat.zero_le _), (Nat.zero_le _)⟩ (fun H locs hw => ?_)
    refine lv_iconst (v := 0) F.1 F.2.1 d_Model_shareOf_5 (by decide) ?_
    refine lv_istore_n (lv' := [(2, .int (0 : Int32)), (0, .ref (ad 0 0)), (1, .int x1)]) F.1 F.2.1 d_Model_shareOf_6 rfl hl (by decide) rfl (fun ls hl => ?_)
    obtain ⟨P_7, eP_7⟩ : ∃ P : (St × Int32) → Prop, P = (fun q => ∀ (H : Heap) (locs : List Loc) (ls : Array Slot), Bw mw D ar A s.heap H locs ad q.1 → lv_has ls 5 [(0, .ref (ad 0 0)), (2, .int q.2)] → W p l e (RM 2 54) s m args below meth c H locs 0 0 Q (F0 m 7 ls [])) := ⟨_, rfl⟩
    have hL_7 : P_7 (S_2, (0 : Int32)) := by
      refine wh_gp (P := P_7) (X := X_0) h ho ?_
      clear h ho
      intro q o h ho
      obtain ⟨S, x2⟩ := q
      have h : Model_shareOf_l7 S x2 = some o := h
      unfold Model_shareOf_l7 at h
      rw [eP_7]
      intro H locs ls hw hl
      have J_77_l7 : ∀ (S : St) (t0 : Int32) (H : Heap) (locs : List Loc) (ls : Array Slot), Bw mw D ar A s.heap H locs ad S → lv_has ls 5 [] → ∀ o, Model_shareOf_j77_l7 S t0 = some o → (Sum.elim P_7 X_0) o → W p l e (RM 2 54) s m args below meth c H locs 0 0 Q (F0 m 77 ls [.int t0]) := by
        intro S t0 H locs ls hw hl o h ho
        unfold Model_shareOf_j77_l7 at h
        cases h
        have ho : X_0 _ := ho
        rw [eX_0] at ho
        exact ho H locs _ ls d_Model_shareOf_77 hw
      refine lv_iload_n F.1 F.2.1 d_Model_shareOf_7 rfl (lv_at hl 1 rfl) ?_
      refine lv_aload_n F.1 F.2.1 d_Model_shareOf_8 rfl (lv_at hl 0 rfl) ?_
      refine lv_iconst (v := 4) F.1 F.2.1 d_Model_shareOf_9 (by decide) ?_
      obtain ⟨v_4, hc_3, h⟩ := bd_ex h
      refine cV_i F hA rfl hK hw (c_Model_tellsOf l hc_3) trivial rfl (good_V lk_976 lk_978 ls_48 lk_10 lk_979) (mr_0 hK hw) hd_Model_tellsOf ⟨Nat.le_of_ble_eq_true rfl, Nat.le_of_ble_eq_true rfl⟩ rfl hl.1 rfl (Nat.le_of_ble_eq_true rfl) d_Model_shareOf_10 ⟨(Nat.zero_le _), (Nat.zero_le _)⟩ (fun H locs hw => ?_)
      refine lv_icmp_ge (tgt := 84) F.1 F.2.1 d_Model_shareOf_13 (by decide) (fun c_5 => ?_) (fun c_5 => ?_)
      · replace h := ip c_5 h
        refine lv_iconst (v := 1) F.1 F.2.1 d_Model_shareOf_84 (by decide) ?_
        cases h
        have ho : X_0 _ := ho
        rw [eX_0] at ho
        exact ho H locs _ ls d_Model_shareOf_85 hw
      · replace h := iq c_5 h
        refine lv_aload_n F.1 F.2.1 d_Model_shareOf_16 rfl (lv_at hl 0 rfl) ?_
        refine lv_iconst (v := 4) F.1 F.2.1 d_Model_shareOf_17 (by decide) ?_
        refine lv_iload_n F.1 F.2.1 d_Model_shareOf_18 rfl (lv_at hl 1 rfl) ?_
        obtain ⟨v_7, hc_6, h⟩ := bd_ex h
        refine cV_i F hA rfl hK hw (c_Model_condOf l hc_6) trivial rfl (good_V lk_980 lk_982 ls_49 lk_10 lk_983) (mr_0 hK hw) hd_Model_condOf ⟨Nat.le_of_ble_eq_true rfl, Nat.le_of_ble_eq_true rfl⟩ rfl hl.1 rfl (Nat.le_of_ble_eq_true rfl) d_Model_shareOf_19 ⟨(Nat.zero_le _), (Nat.zero_le _)⟩ (fun H locs hw => ?_)
        refine lv_istore_n (lv' := [(3, .int v_7), (0, .ref (ad 0 0)), (2, .int x2)]) F.1 F.2.1 d_Model_shareOf_22 rfl hl (by decide) rfl (fun ls hl => ?_)
        refine lv_aload_n F.1 F.2.1 d_Model_shareOf_23 rfl (lv_at hl 1 rfl) ?_
        refine lv_iload_n F.1 F.2.1 d_Model_shareOf_24 rfl (lv_at hl 0 rfl) ?_
        obtain ⟨v_9, S_10, hc_8, h⟩ := bd2_ex h
        refine cV_i F hA rfl hK hw (c_Model_holds l hc_8) trivial rfl (good_V lk_984 lk_986 ls_50 lk_10 lk_987) (mr_0 hK hw) hd_Model_holds ⟨Nat.le_of_ble_eq_true rfl, Nat.le_of_ble_eq_true rfl⟩ rfl hl.1 rfl (Nat.le_of_ble_eq_true rfl) d_Model_shareOf_25 ⟨(Nat.zero_le _), (Nat.zero_le _)⟩ (fun H locs hw => ?_)
        refine lv_if_ne (tgt := 34) F.1 F.2.1 d_Model_shareOf_28 (by decide) (fun c_11 => ?_) (fun c_11 => ?_)
        · replace h := iq c_11 h
          refine lv_aload_n F.1 F.2.1 d_Model_shareOf_34 rfl (lv_at hl 1 rfl) ?_
          refine lv_aload_n F.1 F.2.1 d_Model_shareOf_35 rfl (lv_at hl 1 rfl) ?_
          refine mg_0_29 F hK hw lk_1040 d_Model_shareOf_36 ?_
          refine lv_iload_n F.1 F.2.1 d_Model_shareOf_39 rfl (lv_at hl 0 rfl) ?_
          obtain ⟨hi_12, h⟩ := gd_ex h
          refine ml_0_29 F hK hw hi_12 d_Model_shareOf_40 ?_
          refine lv_aload_n F.1 F.2.1 d_Model_shareOf_41 rfl (lv_at hl 1 rfl) ?_
          refine mg_0_30 F hK hw lk_1041 d_Model_shareOf_42 ?_
          refine lv_iload_n F.1 F.2.1 d_Model_shareOf_45 rfl (lv_at hl 0 rfl) ?_
          obtain ⟨hi_13, h⟩ := gd_ex h
          refine ml_0_30 F hK hw hi_13 d_Model_shareOf_46 ?_
          obtain ⟨v_15, S_16, hc_14, h⟩ := bd2_ex h
          refine cV_i F hA rfl hK hw (c_Model_termOf l hc_14) trivial rfl (good_V lk_988 lk_990 ls_51 lk_10 lk_991) (mr_0 hK hw) hd_Model_termOf ⟨Nat.le_of_ble_eq_true rfl, Nat.le_of_ble_eq_true rfl⟩ rfl hl.1 rfl (Nat.le_of_ble_eq_true rfl) d_Model_shareOf_47 ⟨(Nat.zero_le _), (Nat.zero_le _)⟩ (fun H locs hw => ?_)
          refine lv_istore (lv' := [(4, .int v_15), (3, .int v_7), (0, .ref (ad 0 0)), (2, .int x2)]) F.1 F.2.1 d_Model_shareOf_50 hl (by decide) rfl (fun ls hl => ?_)
          refine lv_iload F.1 F.2.1 d_Model_shareOf_52 (lv_at hl 0 rfl) ?_
          refine lv_if_ge (tgt := 61) F.1 F.2.1 d_Model_shareOf_54 (by decide) (fun c_17 => ?_) (fun c_17 => ?_)
          · replace h := ip c_17 h
            refine lv_iload F.1 F.2.1 d_Model_shareOf_61 (lv_at hl 0 rfl) ?_
            refine lv_sipush (v := 1000) F.1 F.2.1 d_Model_shareOf_63 (by decide) ?_
            refine lv_icmp_le (tgt := 75) F.1 F.2.1 d_Model_shareOf_66 (by decide) (fun c_18 => ?_) (fun c_18 => ?_)
            · replace h := ip c_18 h
              refine lv_iload F.1 F.2.1 d_Model_shareOf_75 (lv_at hl 0 rfl) ?_
              exact J_77_l7 S_16 v_15 H locs ls hw (lv_sub hl [] rfl) o h ho
            · replace h := iq c_18 h
              refine lv_sipush (v := 1000) F.1 F.2.1 d_Model_shareOf_69 (by decide) ?_
              refine lv_goto (tgt := 77) F.1 F.2.1 d_Model_shareOf_72 (by decide) ?_
              exact J_77_l7 S_16 (1000 : Int32) H locs ls hw (lv_sub hl [] rfl) o h ho
          · replace h := iq c_17 h
            refine lv_iconst (v := 0) F.1 F.2.1 d_Model_shareOf_57 (by decide) ?_
            refine lv_goto (tgt := 77) F.1 F.2.1 d_Model_shareOf_58 (by decide) ?_
            exact J_77_l7 S_16 (0 : Int32) H locs ls hw (lv_sub hl [] rfl) o h ho
        · replace h := ip c_11 h
          refine lv_goto (tgt := 78) F.1 F.2.1 d_Model_shareOf_31 (by decide) ?_
          obtain ⟨x2_19, ex2_19, h⟩ := nm_ex h
          refine lv_iinc (v := x2_19) (lv' := [(2, .int x2_19), (3, .int v_7), (0, .ref (ad 0 0))]) F.1 F.2.1 d_Model_shareOf_78 hl (k := 2) rfl (by rw [ex2_19]; rfl) (by decide) rfl (fun ls hl => ?_)
          refine lv_goto (tgt := 7) F.1 F.2.1 d_Model_shareOf_81 (by decide) ?_
          cases h
          have ho : P_7 _ := ho
          rw [eP_7] at ho
          exact ho H locs ls hw (lv_sub hl [2, 0] rfl)
    rw [eP_7] at hL_7
    exact hL_7 H locs ls hw (lv_sub hl [1, 0] rfl)
  exact key _ _ hw _ h (by rw [eX_0]; exact fun H locs pc ls hd hw => hQ H locs pc ls ad rfl hd hw)
theorem d_Model_settles_0 : decode b_Model_settles 0 = .ok (.aload_n 0, 1) := by decide +kernel
theorem d_Model_settles_1 : decode b_Model_settles 1 = .ok (.iconst 0, 1) := by decide +kernel
theorem d_Model_settles_2 : decode b_Model_settles 2 = .ok (.putfield 315, 3) := by decide +kernel
theorem d_Model_settles_5 : decode b_Model_settles 5 = .ok (.aload_n 0, 1) := by decide +kernel
theorem d_Model_settles_6 : decode b_Model_settles 6 = .ok (.invokevirtual 318, 3) := by decide +kernel
theorem d_Model_settles_9 : decode b_Model_settles 9 = .ok (.istore_n 1, 1) := by decide +kernel
theorem d_Model_settles_10 : decode b_Model_settles 10 = .ok (.iconst 0, 1) := by decide +kernel
theorem d_Model_settles_11 : decode b_Model_settles 11 = .ok (.istore_n 2, 1) := by decide +kernel
theorem d_Model_settles_12 : decode b_Model_settles 12 = .ok (.aload_n 0, 1) := by decide +kernel
theorem d_Model_settles_13 : decode b_Model_settles 13 = .ok (.iload_n 1, 1) := by decide +kernel
theorem d_Model_settles_14 : decode b_Model_settles 14 = .ok (.iconst 0, 1) := by decide +kernel
theorem d_Model_settles_15 : decode b_Model_settles 15 = .ok (.invokevirtual 322, 3) := by decide +kernel
theorem d_Model_settles_18 : decode b_Model_settles 18 = .ok (.istore_n 3, 1) := by decide +kernel
theorem d_Model_settles_19 : decode b_Model_settles 19 = .ok (.iconst 0, 1) := by decide +kernel
theorem d_Model_settles_20 : decode b_Model_settles 20 = .ok (.istore 4, 2) := by decide +kernel
theorem d_Model_settles_22 : decode b_Model_settles 22 = .ok (.iload 4, 2) := by decide +kernel
theorem d_Model_settles_24 : decode b_Model_settles 24 = .ok (.aload_n 0, 1) := by decide +kernel
theorem d_Model_settles_25 : decode b_Model_settles 25 = .ok (.iconst 1, 1) := by decide +kernel
theorem d_Model_settles_26 : decode b_Model_settles 26 = .ok (.invokevirtual 294, 3) := by decide +kernel
theorem d_Model_settles_29 : decode b_Model_settles 29 = .ok (.if_icmp .ge 118, 3) := by decide +kernel
theorem d_Model_settles_32 : decode b_Model_settles 32 = .ok (.iload_n 3, 1) := by decide +kernel
theorem d_Model_settles_33 : decode b_Model_settles 33 = .ok (.ifCond .eq 114, 3) := by decide +kernel
theorem d_Model_settles_36 : decode b_Model_settles 36 = .ok (.iconst (-1), 1) := by decide +kernel
theorem d_Model_settles_37 : decode b_Model_settles 37 = .ok (.istore 5, 2) := by decide +kernel
theorem d_Model_settles_39 : decode b_Model_settles 39 = .ok (.iconst 0, 1) := by decide +kernel
theorem d_Model_settles_40 : decode b_Model_settles 40 = .ok (.istore 6, 2) := by decide +kernel
theorem d_Model_settles_42 : decode b_Model_settles 42 = .ok (.iload 6, 2) := by decide +kernel
theorem d_Model_settles_44 : decode b_Model_settles 44 = .ok (.aload_n 0, 1) := by decide +kernel
theorem d_Model_settles_45 : decode b_Model_settles 45 = .ok (.iconst 1, 1) := by decide +kernel
theorem d_Model_settles_46 : decode b_Model_settles 46 = .ok (.invokevirtual 294, 3) := by decide +kernel
theorem d_Model_settles_49 : decode b_Model_settles 49 = .ok (.if_icmp .ge 55, 3) := by decide +kernel
theorem d_Model_settles_52 : decode b_Model_settles 52 = .ok (.iload_n 2, 1) := by decide +kernel
theorem d_Model_settles_53 : decode b_Model_settles 53 = .ok (.iload 6, 2) := by decide +kernel
theorem d_Model_settles_55 : decode b_Model_settles 55 = .ok (.ishr, 1) := by decide +kernel
theorem d_Model_settles_56 : decode b_Model_settles 56 = .ok (.iconst 1, 1) := by decide +kernel
theorem d_Model_settles_57 : decode b_Model_settles 57 = .ok (.iand, 1) := by decide +kernel
theorem d_Model_settles_58 : decode b_Model_settles 58 = .ok (.ifCond .ne 40, 3) := by decide +kernel
theorem d_Model_settles_61 : decode b_Model_settles 61 = .ok (.iload 5, 2) := by decide +kernel
theorem d_Model_settles_63 : decode b_Model_settles 63 = .ok (.iconst (-1), 1) := by decide +kernel
theorem d_Model_settles_64 : decode b_Model_settles 64 = .ok (.if_icmp .eq 30, 3) := by decide +kernel
theorem d_Model_settles_67 : decode b_Model_settles 67 = .ok (.aload_n 0, 1) := by decide +kernel
theorem d_Model_settles_68 : decode b_Model_settles 68 = .ok (.getfield 55, 3) := by decide +kernel
theorem d_Model_settles_71 : decode b_Model_settles 71 = .ok (.aload_n 0, 1) := by decide +kernel
theorem d_Model_settles_72 : decode b_Model_settles 72 = .ok (.iconst 1, 1) := by decide +kernel
theorem d_Model_settles_73 : decode b_Model_settles 73 = .ok (.iload 6, 2) := by decide +kernel
theorem d_Model_settles_75 : decode b_Model_settles 75 = .ok (.invokevirtual 297, 3) := by decide +kernel
theorem d_Model_settles_78 : decode b_Model_settles 78 = .ok (.iaload, 1) := by decide +kernel
theorem d_Model_settles_79 : decode b_Model_settles 79 = .ok (.aload_n 0, 1) := by decide +kernel
theorem d_Model_settles_80 : decode b_Model_settles 80 = .ok (.getfield 55, 3) := by decide +kernel
theorem d_Model_settles_83 : decode b_Model_settles 83 = .ok (.aload_n 0, 1) := by decide +kernel
theorem d_Model_settles_84 : decode b_Model_settles 84 = .ok (.iconst 1, 1) := by decide +kernel
theorem d_Model_settles_85 : decode b_Model_settles 85 = .ok (.iload 5, 2) := by decide +kernel
theorem d_Model_settles_87 : decode b_Model_settles 87 = .ok (.invokevirtual 297, 3) := by decide +kernel
theorem d_Model_settles_90 : decode b_Model_settles 90 = .ok (.iaload, 1) := by decide +kernel
theorem d_Model_settles_91 : decode b_Model_settles 91 = .ok (.if_icmp .le 7, 3) := by decide +kernel
theorem d_Model_settles_94 : decode b_Model_settles 94 = .ok (.iload 6, 2) := by decide +kernel
theorem d_Model_settles_96 : decode b_Model_settles 96 = .ok (.istore 5, 2) := by decide +kernel
theorem d_Model_settles_98 : decode b_Model_settles 98 = .ok (.iinc 6 1, 3) := by decide +kernel
theorem d_Model_settles_101 : decode b_Model_settles 101 = .ok (.goto (-59), 3) := by decide +kernel
theorem d_Model_settles_104 : decode b_Model_settles 104 = .ok (.iload_n 2, 1) := by decide +kernel
theorem d_Model_settles_105 : decode b_Model_settles 105 = .ok (.iconst 1, 1) := by decide +kernel
theorem d_Model_settles_106 : decode b_Model_settles 106 = .ok (.iload 5, 2) := by decide +kernel
theorem d_Model_settles_108 : decode b_Model_settles 108 = .ok (.ishl, 1) := by decide +kernel
theorem d_Model_settles_109 : decode b_Model_settles 109 = .ok (.ior, 1) := by decide +kernel
theorem d_Model_settles_110 : decode b_Model_settles 110 = .ok (.istore_n 2, 1) := by decide +kernel
theorem d_Model_settles_111 : decode b_Model_settles 111 = .ok (.aload_n 0, 1) := by decide +kernel
theorem d_Model_settles_112 : decode b_Model_settles 112 = .ok (.iload_n 1, 1) := by decide +kernel
theorem d_Model_settles_113 : decode b_Model_settles 113 = .ok (.aload_n 0, 1) := by decide +kernel
theorem d_Model_settles_114 : decode b_Model_settles 114 = .ok (.getfield 315, 3) := by decide +kernel
theorem d_Model_settles_117 : decode b_Model_settles 117 = .ok (.iconst 1, 1) := by decide +kernel
theorem d_Model_settles_118 : decode b_Model_settles 118 = .ok (.iload 5, 2) := by decide +kernel
theorem d_Model_settles_120 : decode b_Model_settles 120 = .ok (.ishl, 1) := by decide +kernel
theorem d_Model_settles_121 : decode b_Model_settles 121 = .ok (.ior, 1) := by decide +kernel
theorem d_Model_settles_122 : decode b_Model_settles 122 = .ok (.invokevirtual 322, 3) := by decide +kernel
theorem d_Model_settles_125 : decode b_Model_settles 125 = .ok (.ifCond .eq 16, 3) := by decide +kernel
theorem d_Model_settles_128 : decode b_Model_settles 128 = .ok (.aload_n 0, 1) := by decide +kernel
theorem d_Model_settles_129 : decode b_Model_settles 129 = .ok (.dup, 1) := by decide +kernel
theorem d_Model_settles_130 : decode b_Model_settles 130 = .ok (.getfield 315, 3) := by decide +kernel
theorem d_Model_settles_133 : decode b_Model_settles 133 = .ok (.iconst 1, 1) := by decide +kernel
theorem d_Model_settles_134 : decode b_Model_settles 134 = .ok (.iload 5, 2) := by decide +kernel
theorem d_Model_settles_136 : decode b_Model_settles 136 = .ok (.ishl, 1) := by decide +kernel
theorem d_Model_settles_137 : decode b_Model_settles 137 = .ok (.ior, 1) := by decide +kernel
theorem d_Model_settles_138 : decode b_Model_settles 138 = .ok (.putfield 315, 3) := by decide +kernel
theorem d_Model_settles_141 : decode b_Model_settles 141 = .ok (.iinc 4 1, 3) := by decide +kernel
theorem d_Model_settles_144 : decode b_Model_settles 144 = .ok (.goto (-122), 3) := by decide +kernel
theorem d_Model_settles_147 : decode b_Model_settles 147 = .ok (.aload_n 0, 1) := by decide +kernel
theorem d_Model_settles_148 : decode b_Model_settles 148 = .ok (.iconst 0, 1) := by decide +kernel
theorem d_Model_settles_149 : decode b_Model_settles 149 = .ok (.putfield 326, 3) := by decide +kernel
theorem d_Model_settles_152 : decode b_Model_settles 152 = .ok (.aload_n 0, 1) := by decide +kernel
theorem d_Model_settles_153 : decode b_Model_settles 153 = .ok (.iconst 0, 1) := by decide +kernel
theorem d_Model_settles_154 : decode b_Model_settles 154 = .ok (.putfield 329, 3) := by decide +kernel
theorem d_Model_settles_157 : decode b_Model_settles 157 = .ok (.iconst 0, 1) := by decide +kernel
theorem d_Model_settles_158 : decode b_Model_settles 158 = .ok (.istore 4, 2) := by decide +kernel
theorem d_Model_settles_160 : decode b_Model_settles 160 = .ok (.iload 4, 2) := by decide +kernel
theorem d_Model_settles_162 : decode b_Model_settles 162 = .ok (.aload_n 0, 1) := by decide +kernel
theorem d_Model_settles_163 : decode b_Model_settles 163 = .ok (.getfield 303, 3) := by decide +kernel
theorem d_Model_settles_166 : decode b_Model_settles 166 = .ok (.if_icmp .ge 75, 3) := by decide +kernel
theorem d_Model_settles_169 : decode b_Model_settles 169 = .ok (.aload_n 0, 1) := by decide +kernel
theorem d_Model_settles_170 : decode b_Model_settles 170 = .ok (.iload 4, 2) := by decide +kernel
theorem d_Model_settles_172 : decode b_Model_settles 172 = .ok (.invokevirtual 332, 3) := by decide +kernel
theorem d_Model_settles_175 : decode b_Model_settles 175 = .ok (.ifCond .ne 6, 3) := by decide +kernel
theorem d_Model_settles_178 : decode b_Model_settles 178 = .ok (.goto 57, 3) := by decide +kernel
theorem d_Model_settles_181 : decode b_Model_settles 181 = .ok (.aload_n 0, 1) := by decide +kernel
theorem d_Model_settles_182 : decode b_Model_settles 182 = .ok (.getfield 126, 3) := by decide +kernel
theorem d_Model_settles_185 : decode b_Model_settles 185 = .ok (.aload_n 0, 1) := by decide +kernel
theorem d_Model_settles_186 : decode b_Model_settles 186 = .ok (.getfield 326, 3) := by decide +kernel
theorem d_Model_settles_189 : decode b_Model_settles 189 = .ok (.iload 4, 2) := by decide +kernel
theorem d_Model_settles_191 : decode b_Model_settles 191 = .ok (.iastore, 1) := by decide +kernel
theorem d_Model_settles_192 : decode b_Model_settles 192 = .ok (.aload_n 0, 1) := by decide +kernel
theorem d_Model_settles_193 : decode b_Model_settles 193 = .ok (.getfield 129, 3) := by decide +kernel
theorem d_Model_settles_196 : decode b_Model_settles 196 = .ok (.aload_n 0, 1) := by decide +kernel
theorem d_Model_settles_197 : decode b_Model_settles 197 = .ok (.getfield 326, 3) := by decide +kernel
theorem d_Model_settles_200 : decode b_Model_settles 200 = .ok (.aload_n 0, 1) := by decide +kernel
theorem d_Model_settles_201 : decode b_Model_settles 201 = .ok (.iload 4, 2) := by decide +kernel
theorem d_Model_settles_203 : decode b_Model_settles 203 = .ok (.invokevirtual 335, 3) := by decide +kernel
theorem d_Model_settles_206 : decode b_Model_settles 206 = .ok (.iastore, 1) := by decide +kernel
theorem d_Model_settles_207 : decode b_Model_settles 207 = .ok (.aload_n 0, 1) := by decide +kernel
theorem d_Model_settles_208 : decode b_Model_settles 208 = .ok (.dup, 1) := by decide +kernel
theorem d_Model_settles_209 : decode b_Model_settles 209 = .ok (.getfield 329, 3) := by decide +kernel
theorem d_Model_settles_212 : decode b_Model_settles 212 = .ok (.aload_n 0, 1) := by decide +kernel
theorem d_Model_settles_213 : decode b_Model_settles 213 = .ok (.getfield 129, 3) := by decide +kernel
theorem d_Model_settles_216 : decode b_Model_settles 216 = .ok (.aload_n 0, 1) := by decide +kernel
theorem d_Model_settles_217 : decode b_Model_settles 217 = .ok (.getfield 326, 3) := by decide +kernel
theorem d_Model_settles_220 : decode b_Model_settles 220 = .ok (.iaload, 1) := by decide +kernel
theorem d_Model_settles_221 : decode b_Model_settles 221 = .ok (.iadd, 1) := by decide +kernel
theorem d_Model_settles_222 : decode b_Model_settles 222 = .ok (.putfield 329, 3) := by decide +kernel
theorem d_Model_settles_225 : decode b_Model_settles 225 = .ok (.aload_n 0, 1) := by decide +kernel
theorem d_Model_settles_226 : decode b_Model_settles 226 = .ok (.dup, 1) := by decide +kernel
theorem d_Model_settles_227 : decode b_Model_settles 227 = .ok (.getfield 326, 3) := by decide +kernel
theorem d_Model_settles_230 : decode b_Model_settles 230 = .ok (.iconst 1, 1) := by decide +kernel
theorem d_Model_settles_231 : decode b_Model_settles 231 = .ok (.iadd, 1) := by decide +kernel
theorem d_Model_settles_232 : decode b_Model_settles 232 = .ok (.putfield 326, 3) := by decide +kernel
theorem d_Model_settles_235 : decode b_Model_settles 235 = .ok (.iinc 4 1, 3) := by decide +kernel
theorem d_Model_settles_238 : decode b_Model_settles 238 = .ok (.goto (-78), 3) := by decide +kernel
theorem d_Model_settles_241 : decode b_Model_settles 241 = .ok (.return_, 1) := by decide +kernel
set_option maxHeartbeats 4000000 in
set_option maxRecDepth 100000 in
theorem c_Model_settles (l : Launch) {S : St} {S' : St} (h : f_Model_settles S = some S') : MV mw l y_Model_settles b_Model_settles 7 none 3 78 0 0 (fun ad => [.ref (ad 0 0)]) aT aE S S' := by
  refine MV_of "LawfulLotsModel" rfl (by decide) (fun _ => Nat.le_of_ble_eq_true rfl) ?_
  intro p e s m args below meth c D ar ad A Q ls hP F hK hA hw hl hQ
  have hl : lv_has ls 7 [(0, .ref (ad 0 0))] := hl
  obtain ⟨X_0, eX_0⟩ : ∃ X : St → Prop, X = (fun q => ∀ (H : Heap) (locs : List Loc) (pc : Nat) (ls : Array Slot), decode b_Model_settles pc = .ok (.return_, 1) → Bw mw D ar A s.heap H locs ad q → W p l e (RM 3 78) s m args below meth c H locs 0 0 Q (F0 m pc ls [])) := ⟨_, rfl⟩
  have key : ∀ (H : Heap) (locs : List Loc), Bw mw D ar A s.heap H locs ad S → ∀ o, f_Model_settles S = some o → X_0 o → W p l e (RM 3 78) s m args below meth c H locs 0 0 Q (F0 m 0 ls []) := by
    intro H locs hw o h ho
    unfold f_Model_settles at h
    have J_147 : ∀ (S : St) (H : Heap) (locs : List Loc) (ls : Array Slot), Bw mw D ar A s.heap H locs ad S → lv_has ls 7 [(0, .ref (ad 0 0))] → ∀ o, Model_settles_j147 S = some o → X_0 o → W p l e (RM 3 78) s m args below meth c H locs 0 0 Q (F0 m 147 ls []) := by
      intro S H locs ls hw hl o h ho
      unfold Model_settles_j147 at h
      refine lv_aload_n F.1 F.2.1 d_Model_settles_147 rfl (lv_at hl 0 rfl) ?_
      refine lv_iconst (v := 0) F.1 F.2.1 d_Model_settles_148 (by decide) ?_
      obtain ⟨S_33, eS_33, h⟩ := nm_ex h
      refine mp_0_54 F hK hw lk_1065 d_Model_settles_149 eS_33 (fun H locs hw => ?_)
      refine lv_aload_n F.1 F.2.1 d_Model_settles_152 rfl (lv_at hl 0 rfl) ?_
      refine lv_iconst (v := 0) F.1 F.2.1 d_Model_settles_153 (by decide) ?_
      obtain ⟨S_34, eS_34, h⟩ := nm_ex h
      refine mp_0_57 F hK hw lk_1068 d_Model_settles_154 eS_34 (fun H locs hw => ?_)
      refine lv_iconst (v := 0) F.1 F.2.1 d_Model_settles_157 (by decide) ?_
      refine lv_istore (lv' := [(4, .int (0 : Int32)), (0, .ref (ad 0 0))]) F.1 F.2.1 d_Model_settles_158 hl (by decide) rfl (fun ls hl => ?_)
      obtain ⟨S_50, hc_51, h⟩ := bd_ex h
      obtain ⟨X_160, eX_160⟩ : ∃ X : St → Prop, X = (fun q => ∀ (H : Heap) (locs : List Loc) (ls : Array Slot), Bw mw D ar A s.heap H locs ad q → lv_has ls 7 [] → W p l e (RM 3 78) s m args below meth c H locs 0 0 Q (F0 m 241 ls [])) := ⟨_, rfl⟩
      have hX_160 : X_160 S_50 := by
        rw [eX_160]
        intro H locs ls hw hl
        cases h
        have ho : X_0 _ := ho
        rw [eX_0] at ho
        exact ho H locs _ ls d_Model_settles_241 hw
      obtain ⟨P_160, eP_160⟩ : ∃ P : (St × Int32) → Prop, P = (fun q => ∀ (H : Heap) (locs : List Loc) (ls : Array Slot), Bw mw D ar A s.heap H locs ad q.1 → lv_has ls 7 [(0, .ref (ad 0 0)), (4, .int q.2)] → W p l e (RM 3 78) s m args below meth c H locs 0 0 Q (F0 m 160 ls [])) := ⟨_, rfl⟩
      have hL_160 : P_160 (S_34, (0 : Int32)) := by
        refine wh_gp (P := P_160) (X := X_160) hc_51 hX_160 ?_
        clear h
        intro q o h ho
        obtain ⟨S, x4⟩ := q
        have h : Model_settles_l160 S x4 = some o := h
        unfold Model_settles_l160 at h
        rw [eP_160]
        intro H locs ls hw hl
        have J_235_l160 : ∀ (S : St) (x4 : Int32) (H : Heap) (locs : List Loc) (ls : Array Slot), Bw mw D ar A s.heap H locs ad S → lv_has ls 7 [(0, .ref (ad 0 0)), (4, .int x4)] → ∀ o, Model_settles_j235_l160 S x4 = some o → (Sum.elim P_160 X_160) o → W p l e (RM 3 78) s m args below meth c H locs 0 0 Q (F0 m 235 ls []) := by
          intro S x4 H locs ls hw hl o h ho
          unfold Model_settles_j235_l160 at h
          obtain ⟨x4_49, ex4_49, h⟩ := nm_ex h
          refine lv_iinc (v := x4_49) (lv' := [(4, .int x4_49), (0, .ref (ad 0 0))]) F.1 F.2.1 d_Model_settles_235 hl (k := 1) rfl (by rw [ex4_49]; rfl) (by decide) rfl (fun ls hl => ?_)
          refine lv_goto (tgt := 160) F.1 F.2.1 d_Model_settles_238 (by decide) ?_
          cases h
          have ho : P_160 _ := ho
          rw [eP_160] at ho
          exact ho H locs ls hw (lv_sub hl [1, 0] rfl)
        refine lv_iload F.1 F.2.1 d_Model_settles_160 (lv_at hl 1 rfl) ?_
        refine lv_aload_n F.1 F.2.1 d_Model_settles_162 rfl (lv_at hl 0 rfl) ?_
        refine mg_0_44 F hK hw lk_1055 d_Model_settles_163 ?_
        refine lv_icmp_ge (tgt := 241) F.1 F.2.1 d_Model_settles_166 (by decide) (fun c_35 => ?_) (fun c_35 => ?_)
        · replace h := ip c_35 h
          cases h
          have ho : X_160 _ := ho
          rw [eX_160] at ho
          exact ho H locs ls hw (lv_sub hl [] rfl)
        · replace h := iq c_35 h
          refine lv_aload_n F.1 F.2.1 d_Model_settles_169 rfl (lv_at hl 0 rfl) ?_
          refine lv_iload F.1 F.2.1 d_Model_settles_170 (lv_at hl 1 rfl) ?_
          obtain ⟨v_37, hc_36, h⟩ := bd_ex h
          refine cV_i F hA rfl hK hw (c_Model_isLawful l hc_36) trivial rfl (good_V lk_1004 lk_1006 ls_55 lk_10 lk_1007) (mr_0 hK hw) hd_Model_isLawful ⟨Nat.le_of_ble_eq_true rfl, Nat.le_of_ble_eq_true rfl⟩ rfl hl.1 rfl (Nat.le_of_ble_eq_true rfl) d_Model_settles_172 ⟨(Nat.zero_le _), (Nat.zero_le _)⟩ (fun H locs hw => ?_)
          refine lv_if_ne (tgt := 181) F.1 F.2.1 d_Model_settles_175 (by decide) (fun c_38 => ?_) (fun c_38 => ?_)
          · replace h := iq c_38 h
            refine lv_aload_n F.1 F.2.1 d_Model_settles_181 rfl (lv_at hl 0 rfl) ?_
            refine mg_0_55 F hK hw lk_1066 d_Model_settles_182 ?_
            refine lv_aload_n F.1 F.2.1 d_Model_settles_185 rfl (lv_at hl 0 rfl) ?_
            refine mg_0_54 F hK hw lk_1065 d_Model_settles_186 ?_
            refine lv_iload F.1 F.2.1 d_Model_settles_189 (lv_at hl 1 rfl) ?_
            obtain ⟨hi_39, h⟩ := gd_ex h
            obtain ⟨S_40, eS_40, h⟩ := nm_ex h
            refine ms_0_55 F hK hw hi_39 d_Model_settles_191 eS_40 (fun H locs hw => ?_)
            refine lv_aload_n F.1 F.2.1 d_Model_settles_192 rfl (lv_at hl 0 rfl) ?_
            refine mg_0_56 F hK hw lk_1067 d_Model_settles_193 ?_
            refine lv_aload_n F.1 F.2.1 d_Model_settles_196 rfl (lv_at hl 0 rfl) ?_
            refine mg_0_54 F hK hw lk_1065 d_Model_settles_197 ?_
            refine lv_aload_n F.1 F.2.1 d_Model_settles_200 rfl (lv_at hl 0 rfl) ?_
            refine lv_iload F.1 F.2.1 d_Model_settles_201 (lv_at hl 1 rfl) ?_
            obtain ⟨v_42, S_43, hc_41, h⟩ := bd2_ex h
            refine cV_i F hA rfl hK hw (c_Model_shareOf l hc_41) trivial rfl (good_V lk_1008 lk_1010 ls_56 lk_10 lk_1011) (mr_0 hK hw) hd_Model_shareOf ⟨Nat.le_of_ble_eq_true rfl, Nat.le_of_ble_eq_true rfl⟩ rfl hl.1 rfl (Nat.le_of_ble_eq_true rfl) d_Model_settles_203 ⟨(Nat.zero_le _), (Nat.zero_le _)⟩ (fun H locs hw => ?_)
            obtain ⟨hi_44, h⟩ := gd_ex h
            obtain ⟨S_45, eS_45, h⟩ := nm_ex h
            refine ms_0_56 F hK hw hi_44 d_Model_settles_206 eS_45 (fun H locs hw => ?_)
            refine lv_aload_n F.1 F.2.1 d_Model_settles_207 rfl (lv_at hl 0 rfl) ?_
            refine lv_dup F.1 F.2.1 d_Model_settles_208 rfl ?_
            refine mg_0_57 F hK hw lk_1068 d_Model_settles_209 ?_
            refine lv_aload_n F.1 F.2.1 d_Model_settles_212 rfl (lv_at hl 0 rfl) ?_
            refine mg_0_56 F hK hw lk_1067 d_Model_settles_213 ?_
            refine lv_aload_n F.1 F.2.1 d_Model_settles_216 rfl (lv_at hl 0 rfl) ?_
            refine mg_0_54 F hK hw lk_1065 d_Model_settles_217 ?_
            obtain ⟨hi_46, h⟩ := gd_ex h
            refine ml_0_56 F hK hw hi_46 d_Model_settles_220 ?_
            refine lv_iadd F.1 F.2.1 d_Model_settles_221 ?_
            obtain ⟨S_47, eS_47, h⟩ := nm_ex h
            refine mp_0_57 F hK hw lk_1068 d_Model_settles_222 eS_47 (fun H locs hw => ?_)
            refine lv_aload_n F.1 F.2.1 d_Model_settles_225 rfl (lv_at hl 0 rfl) ?_
            refine lv_dup F.1 F.2.1 d_Model_settles_226 rfl ?_
            refine mg_0_54 F hK hw lk_1065 d_Model_settles_227 ?_
            refine lv_iconst (v := 1) F.1 F.2.1 d_Model_settles_230 (by decide) ?_
            refine lv_iadd F.1 F.2.1 d_Model_settles_231 ?_
            obtain ⟨S_48, eS_48, h⟩ := nm_ex h
            refine mp_0_54 F hK hw lk_1065 d_Model_settles_232 eS_48 (fun H locs hw => ?_)
            exact J_235_l160 S_48 x4 H locs ls hw (lv_sub hl [0, 1] rfl) o h ho
          · replace h := ip c_38 h
            refine lv_goto (tgt := 235) F.1 F.2.1 d_Model_settles_178 (by decide) ?_
            exact J_235_l160 S x4 H locs ls hw (lv_sub hl [0, 1] rfl) o h ho
      rw [eP_160] at hL_160
      exact hL_160 H locs ls hw (lv_sub hl [1, 0] rfl)
    refine lv_aload_n F.1 F.2.1 d_Model_settles_0 rfl (lv_at hl 0 rfl) ?_
    refine lv_iconst (v := 0) F.1 F.2.1 d_Model_settles_1 (by decide) ?_
    obtain ⟨S_1, eS_1, h⟩ := nm_ex h
    refine mp_0_53 F hK hw lk_1064 d_Model_settles_2 eS_1 (fun H locs hw => ?_)
    refine lv_aload_n F.1 F.2.1 d_Model_settles_5 rfl (lv_at hl 0 rfl) ?_
    obtain ⟨v_3, hc_2, h⟩ := bd_ex h
    refine cV_i F hA rfl hK hw (c_Model_laws l hc_2) trivial rfl (good_V lk_996 lk_998 ls_53 lk_10 lk_999) (mr_0 hK hw) hd_Model_laws ⟨Nat.le_of_ble_eq_true rfl, Nat.le_of_ble_eq_true rfl⟩ rfl hl.1 rfl (Nat.le_of_ble_eq_true rfl) d_Model_settles_6 ⟨(Nat.zero_le _), (Nat.zero_le _)⟩ (fun H locs hw => ?_)
    refine lv_istore_n (lv' := [(1, .int v_3), (0, .ref (ad 0 0))]) F.1 F.2.1 d_Model_settles_9 rfl hl (by decide) rfl (fun ls hl => ?_)
    refine lv_iconst (v := 0) F.1 F.2.1 d_Model_settles_10 (by decide) ?_
    refine lv_istore_n (lv' := [(2, .int (0 : Int32)), (1, .int v_3), (0, .ref (ad 0 0))]) F.1 F.2.1 d_Model_settles_11 rfl hl (by decide) rfl (fun ls hl => ?_)
    refine lv_aload_n F.1 F.2.1 d_Model_settles_12 rfl (lv_at hl 2 rfl) ?_
    refine lv_iload_n F.1 F.2.1 d_Model_settles_13 rfl (lv_at hl 1 rfl) ?_
    refine lv_iconst (v := 0) F.1 F.2.1 d_Model_settles_14 (by decide) ?_
    obtain ⟨v_5, hc_4, h⟩ := bd_ex h
    refine cV_i F hA rfl hK hw (c_Model_isAny l hc_4) trivial rfl (good_V lk_1000 lk_1002 ls_54 lk_10 lk_1003) (mr_0 hK hw) hd_Model_isAny ⟨Nat.le_of_ble_eq_true rfl, Nat.le_of_ble_eq_true rfl⟩ rfl hl.1 rfl (Nat.le_of_ble_eq_true rfl) d_Model_settles_15 ⟨(Nat.zero_le _), (Nat.zero_le _)⟩ (fun H locs hw => ?_)
    refine lv_istore_n (lv' := [(3, .int v_5), (2, .int (0 : Int32)), (1, .int v_3), (0, .ref (ad 0 0))]) F.1 F.2.1 d_Model_settles_18 rfl hl (by decide) rfl (fun ls hl => ?_)
    refine lv_iconst (v := 0) F.1 F.2.1 d_Model_settles_19 (by decide) ?_
    refine lv_istore (lv' := [(4, .int (0 : Int32)), (3, .int v_5), (2, .int (0 : Int32)), (1, .int v_3), (0, .ref (ad 0 0))]) F.1 F.2.1 d_Model_settles_20 hl (by decide) rfl (fun ls hl => ?_)
    obtain ⟨S_31, hc_32, h⟩ := bd_ex h
    obtain ⟨X_22, eX_22⟩ : ∃ X : St → Prop, X = (fun q => ∀ (H : Heap) (locs : List Loc) (ls : Array Slot), Bw mw D ar A s.heap H locs ad q → lv_has ls 7 [(0, .ref (ad 0 0))] → W p l e (RM 3 78) s m args below meth c H locs 0 0 Q (F0 m 147 ls [])) := ⟨_, rfl⟩
    have hX_22 : X_22 S_31 := by
      rw [eX_22]
      intro H locs ls hw hl
      exact J_147 S_31 H locs ls hw (lv_sub hl [0] rfl) o h ho
    obtain ⟨P_22, eP_22⟩ : ∃ P : (St × Int32 × Int32) → Prop, P = (fun q => ∀ (H : Heap) (locs : List Loc) (ls : Array Slot), Bw mw D ar A s.heap H locs ad q.1 → lv_has ls 7 [(0, .ref (ad 0 0)), (1, .int v_3), (2, .int q.2.1), (3, .int v_5), (4, .int q.2.2)] → W p l e (RM 3 78) s m args below meth c H locs 0 0 Q (F0 m 22 ls [])) := ⟨_, rfl⟩
    have hL_22 : P_22 (S_1, (0 : Int32), (0 : Int32)) := by
      refine wh_gp (P := P_22) (X := X_22) hc_32 hX_22 ?_
      clear h
      intro q o h ho
      obtain ⟨S, x2, x4⟩ := q
      have h : Model_settles_l22 v_3 v_5 S x2 x4 = some o := h
      unfold Model_settles_l22 at h
      rw [eP_22]
      intro H locs ls hw hl
      have J_141_l22 : ∀ (S : St) (x2 : Int32) (x4 : Int32) (H : Heap) (locs : List Loc) (ls : Array Slot), Bw mw D ar A s.heap H locs ad S → lv_has ls 7 [(0, .ref (ad 0 0)), (1, .int v_3), (2, .int x2), (3, .int v_5), (4, .int x4)] → ∀ o, Model_settles_j141_l22 S v_3 x2 v_5 x4 = some o → (Sum.elim P_22 X_22) o → W p l e (RM 3 78) s m args below meth c H locs 0 0 Q (F0 m 141 ls []) := by
        intro S x2 x4 H locs ls hw hl o h ho
        unfold Model_settles_j141_l22 at h
        obtain ⟨x4_30, ex4_30, h⟩ := nm_ex h
        refine lv_iinc (v := x4_30) (lv' := [(4, .int x4_30), (0, .ref (ad 0 0)), (1, .int v_3), (2, .int x2), (3, .int v_5)]) F.1 F.2.1 d_Model_settles_141 hl (k := 4) rfl (by rw [ex4_30]; rfl) (by decide) rfl (fun ls hl => ?_)
        refine lv_goto (tgt := 22) F.1 F.2.1 d_Model_settles_144 (by decide) ?_
        cases h
        have ho : P_22 _ := ho
        rw [eP_22] at ho
        exact ho H locs ls hw (lv_sub hl [1, 2, 3, 4, 0] rfl)
      refine lv_iload F.1 F.2.1 d_Model_settles_22 (lv_at hl 4 rfl) ?_
      refine lv_aload_n F.1 F.2.1 d_Model_settles_24 rfl (lv_at hl 0 rfl) ?_
      refine lv_iconst (v := 1) F.1 F.2.1 d_Model_settles_25 (by decide) ?_
      obtain ⟨v_7, hc_6, h⟩ := bd_ex h
      refine cV_i F hA rfl hK hw (c_Model_tellsOf l hc_6) trivial rfl (good_V lk_976 lk_978 ls_48 lk_10 lk_979) (mr_0 hK hw) hd_Model_tellsOf ⟨Nat.le_of_ble_eq_true rfl, Nat.le_of_ble_eq_true rfl⟩ rfl hl.1 rfl (Nat.le_of_ble_eq_true rfl) d_Model_settles_26 ⟨(Nat.zero_le _), (Nat.zero_le _)⟩ (fun H locs hw => ?_)
      refine lv_icmp_ge (tgt := 147) F.1 F.2.1 d_Model_settles_29 (by decide) (fun c_8 => ?_) (fun c_8 => ?_)
      · replace h := ip c_8 h
        cases h
        have ho : X_22 _ := ho
        rw [eX_22] at ho
        exact ho H locs ls hw (lv_sub hl [0] rfl)
      · replace h := iq c_8 h
        refine lv_iload_n F.1 F.2.1 d_Model_settles_32 rfl (lv_at hl 3 rfl) ?_
        refine lv_if_eq (tgt := 147) F.1 F.2.1 d_Model_settles_33 (by decide) (fun c_9 => ?_) (fun c_9 => ?_)
        · replace h := ip c_9 h
          cases h
          have ho : X_22 _ := ho
          rw [eX_22] at ho
          exact ho H locs ls hw (lv_sub hl [0] rfl)
        · replace h := iq c_9 h
          refine lv_iconst (v := -1) F.1 F.2.1 d_Model_settles_36 (by decide) ?_
          refine lv_istore (lv' := [(5, .int (-1 : Int32)), (0, .ref (ad 0 0)), (1, .int v_3), (2, .int x2), (3, .int v_5), (4, .int x4)]) F.1 F.2.1 d_Model_settles_37 hl (by decide) rfl (fun ls hl => ?_)
          refine lv_iconst (v := 0) F.1 F.2.1 d_Model_settles_39 (by decide) ?_
          refine lv_istore (lv' := [(6, .int (0 : Int32)), (5, .int (-1 : Int32)), (0, .ref (ad 0 0)), (1, .int v_3), (2, .int x2), (3, .int v_5), (4, .int x4)]) F.1 F.2.1 d_Model_settles_40 hl (by decide) rfl (fun ls hl => ?_)
          obtain ⟨x5_23, hc_24, h⟩ := bd_ex h
          obtain ⟨X_42, eX_42⟩ : ∃ X : Int32 → Prop, X = (fun q => ∀ (H : Heap) (locs : List Loc) (ls : Array Slot), Bw mw D ar A s.heap H locs ad S → lv_has ls 7 [(0, .ref (ad 0 0)), (1, .int v_3), (2, .int x2), (3, .int v_5), (4, .int x4), (5, .int q)] → W p l e (RM 3 78) s m args below meth c H locs 0 0 Q (F0 m 104 ls [])) := ⟨_, rfl⟩
          have hX_42 : X_42 x5_23 := by
            rw [eX_42]
            intro H locs ls hw hl
            refine lv_iload_n F.1 F.2.1 d_Model_settles_104 rfl (lv_at hl 2 rfl) ?_
            refine lv_iconst (v := 1) F.1 F.2.1 d_Model_settles_105 (by decide) ?_
            refine lv_iload F.1 F.2.1 d_Model_settles_106 (lv_at hl 5 rfl) ?_
            refine lv_ishl F.1 F.2.1 d_Model_settles_108 ?_
            refine lv_ior F.1 F.2.1 d_Model_settles_109 ?_
            obtain ⟨x2_25, ex2_25, h⟩ := nm_ex h
            refine lv_nm ex2_25 ?_
            refine lv_istore_n (lv' := [(2, .int x2_25), (0, .ref (ad 0 0)), (1, .int v_3), (3, .int v_5), (4, .int x4), (5, .int x5_23)]) F.1 F.2.1 d_Model_settles_110 rfl hl (by decide) rfl (fun ls hl => ?_)
            refine lv_aload_n F.1 F.2.1 d_Model_settles_111 rfl (lv_at hl 1 rfl) ?_
            refine lv_iload_n F.1 F.2.1 d_Model_settles_112 rfl (lv_at hl 2 rfl) ?_
            refine lv_aload_n F.1 F.2.1 d_Model_settles_113 rfl (lv_at hl 1 rfl) ?_
            refine mg_0_53 F hK hw lk_1064 d_Model_settles_114 ?_
            refine lv_iconst (v := 1) F.1 F.2.1 d_Model_settles_117 (by decide) ?_
            refine lv_iload F.1 F.2.1 d_Model_settles_118 (lv_at hl 5 rfl) ?_
            refine lv_ishl F.1 F.2.1 d_Model_settles_120 ?_
            refine lv_ior F.1 F.2.1 d_Model_settles_121 ?_
            obtain ⟨v_27, hc_26, h⟩ := bd_ex h
            refine cV_i F hA rfl hK hw (c_Model_isAny l hc_26) trivial rfl (good_V lk_1000 lk_1002 ls_54 lk_10 lk_1003) (mr_0 hK hw) hd_Model_isAny ⟨Nat.le_of_ble_eq_true rfl, Nat.le_of_ble_eq_true rfl⟩ rfl hl.1 rfl (Nat.le_of_ble_eq_true rfl) d_Model_settles_122 ⟨(Nat.zero_le _), (Nat.zero_le _)⟩ (fun H locs hw => ?_)
            refine lv_if_eq (tgt := 141) F.1 F.2.1 d_Model_settles_125 (by decide) (fun c_28 => ?_) (fun c_28 => ?_)
            · replace h := ip c_28 h
              exact J_141_l22 S x2_25 x4 H locs ls hw (lv_sub hl [1, 2, 0, 3, 4] rfl) o h ho
            · replace h := iq c_28 h
              refine lv_aload_n F.1 F.2.1 d_Model_settles_128 rfl (lv_at hl 1 rfl) ?_
              refine lv_dup F.1 F.2.1 d_Model_settles_129 rfl ?_
              refine mg_0_53 F hK hw lk_1064 d_Model_settles_130 ?_
              refine lv_iconst (v := 1) F.1 F.2.1 d_Model_settles_133 (by decide) ?_
              refine lv_iload F.1 F.2.1 d_Model_settles_134 (lv_at hl 5 rfl) ?_
              refine lv_ishl F.1 F.2.1 d_Model_settles_136 ?_
              refine lv_ior F.1 F.2.1 d_Model_settles_137 ?_
              obtain ⟨S_29, eS_29, h⟩ := nm_ex h
              refine mp_0_53 F hK hw lk_1064 d_Model_settles_138 eS_29 (fun H locs hw => ?_)
              exact J_141_l22 S_29 x2_25 x4 H locs ls hw (lv_sub hl [1, 2, 0, 3, 4] rfl) o h ho
          obtain ⟨P_42, eP_42⟩ : ∃ P : (Int32 × Int32) → Prop, P = (fun q => ∀ (H : Heap) (locs : List Loc) (ls : Array Slot), Bw mw D ar A s.heap H locs ad S → lv_has ls 7 [(0, .ref (ad 0 0)), (1, .int v_3), (2, .int x2), (3, .int v_5), (4, .int x4), (5, .int q.1), (6, .int q.2)] → W p l e (RM 3 78) s m args below meth c H locs 0 0 Q (F0 m 42 ls [])) := ⟨_, rfl⟩
          have hL_42 : P_42 ((-1 : Int32), (0 : Int32)) := by
            refine wh_gp (P := P_42) (X := X_42) hc_24 hX_42 ?_
            clear h
            intro q o h ho
            obtain ⟨x5, x6⟩ := q
            have h : Model_settles_l42 S v_3 x2 v_5 x4 x5 x6 = some o := h
            unfold Model_settles_l42 at h
            rw [eP_42]
            intro H locs ls hw hl
            have J_98_l42 : ∀ (x5 : Int32) (x6 : Int32) (H : Heap) (locs : List Loc) (ls : Array Slot), Bw mw D ar A s.heap H locs ad S → lv_has ls 7 [(0, .ref (ad 0 0)), (1, .int v_3), (2, .int x2), (3, .int v_5), (4, .int x4), (5, .int x5), (6, .int x6)] → ∀ o, Model_settles_j98_l42 S v_3 x2 v_5 x4 x5 x6 = some o → (Sum.elim P_42 X_42) o → W p l e (RM 3 78) s m args below meth c H locs 0 0 Q (F0 m 98 ls []) := by
              intro x5 x6 H locs ls hw hl o h ho
              unfold Model_settles_j98_l42 at h
              obtain ⟨x6_22, ex6_22, h⟩ := nm_ex h
              refine lv_iinc (v := x6_22) (lv' := [(6, .int x6_22), (0, .ref (ad 0 0)), (1, .int v_3), (2, .int x2), (3, .int v_5), (4, .int x4), (5, .int x5)]) F.1 F.2.1 d_Model_settles_98 hl (k := 6) rfl (by rw [ex6_22]; rfl) (by decide) rfl (fun ls hl => ?_)
              refine lv_goto (tgt := 42) F.1 F.2.1 d_Model_settles_101 (by decide) ?_
              cases h
              have ho : P_42 _ := ho
              rw [eP_42] at ho
              exact ho H locs ls hw (lv_sub hl [1, 2, 3, 4, 5, 6, 0] rfl)
            have J_94_l42 : ∀ (x6 : Int32) (H : Heap) (locs : List Loc) (ls : Array Slot), Bw mw D ar A s.heap H locs ad S → lv_has ls 7 [(0, .ref (ad 0 0)), (1, .int v_3), (2, .int x2), (3, .int v_5), (4, .int x4), (6, .int x6)] → ∀ o, Model_settles_j94_l42 S v_3 x2 v_5 x4 x6 = some o → (Sum.elim P_42 X_42) o → W p l e (RM 3 78) s m args below meth c H locs 0 0 Q (F0 m 94 ls []) := by
              intro x6 H locs ls hw hl o h ho
              unfold Model_settles_j94_l42 at h
              refine lv_iload F.1 F.2.1 d_Model_settles_94 (lv_at hl 5 rfl) ?_
              refine lv_istore (lv' := [(5, .int x6), (0, .ref (ad 0 0)), (1, .int v_3), (2, .int x2), (3, .int v_5), (4, .int x4), (6, .int x6)]) F.1 F.2.1 d_Model_settles_96 hl (by decide) rfl (fun ls hl => ?_)
              exact J_98_l42 x6 x6 H locs ls hw (lv_sub hl [1, 2, 3, 4, 5, 0, 6] rfl) o h ho
            refine lv_iload F.1 F.2.1 d_Model_settles_42 (lv_at hl 6 rfl) ?_
            refine lv_aload_n F.1 F.2.1 d_Model_settles_44 rfl (lv_at hl 0 rfl) ?_
            refine lv_iconst (v := 1) F.1 F.2.1 d_Model_settles_45 (by decide) ?_
            obtain ⟨v_11, hc_10, h⟩ := bd_ex h
            refine cV_i F hA rfl hK hw (c_Model_tellsOf l hc_10) trivial rfl (good_V lk_976 lk_978 ls_48 lk_10 lk_979) (mr_0 hK hw) hd_Model_tellsOf ⟨Nat.le_of_ble_eq_true rfl, Nat.le_of_ble_eq_true rfl⟩ rfl hl.1 rfl (Nat.le_of_ble_eq_true rfl) d_Model_settles_46 ⟨(Nat.zero_le _), (Nat.zero_le _)⟩ (fun H locs hw => ?_)
            refine lv_icmp_ge (tgt := 104) F.1 F.2.1 d_Model_settles_49 (by decide) (fun c_12 => ?_) (fun c_12 => ?_)
            · replace h := ip c_12 h
              cases h
              have ho : X_42 _ := ho
              rw [eX_42] at ho
              exact ho H locs ls hw (lv_sub hl [0, 1, 2, 3, 4, 5] rfl)
            · replace h := iq c_12 h
              refine lv_iload_n F.1 F.2.1 d_Model_settles_52 rfl (lv_at hl 2 rfl) ?_
              refine lv_iload F.1 F.2.1 d_Model_settles_53 (lv_at hl 6 rfl) ?_
              refine lv_ishr F.1 F.2.1 d_Model_settles_55 ?_
              refine lv_iconst (v := 1) F.1 F.2.1 d_Model_settles_56 (by decide) ?_
              refine lv_iand F.1 F.2.1 d_Model_settles_57 ?_
              refine lv_if_ne (tgt := 98) F.1 F.2.1 d_Model_settles_58 (by decide) (fun c_13 => ?_) (fun c_13 => ?_)
              · replace h := iq c_13 h
                exact J_98_l42 x5 x6 H locs ls hw (lv_sub hl [0, 1, 2, 3, 4, 5, 6] rfl) o h ho
              · replace h := ip c_13 h
                refine lv_iload F.1 F.2.1 d_Model_settles_61 (lv_at hl 5 rfl) ?_
                refine lv_iconst (v := -1) F.1 F.2.1 d_Model_settles_63 (by decide) ?_
                refine lv_icmp_eq (tgt := 94) F.1 F.2.1 d_Model_settles_64 (by decide) (fun c_14 => ?_) (fun c_14 => ?_)
                · replace h := ip c_14 h
                  exact J_94_l42 x6 H locs ls hw (lv_sub hl [0, 1, 2, 3, 4, 6] rfl) o h ho
                · replace h := iq c_14 h
                  refine lv_aload_n F.1 F.2.1 d_Model_settles_67 rfl (lv_at hl 0 rfl) ?_
                  refine mg_0_26 F hK hw lk_1037 d_Model_settles_68 ?_
                  refine lv_aload_n F.1 F.2.1 d_Model_settles_71 rfl (lv_at hl 0 rfl) ?_
                  refine lv_iconst (v := 1) F.1 F.2.1 d_Model_settles_72 (by decide) ?_
                  refine lv_iload F.1 F.2.1 d_Model_settles_73 (lv_at hl 6 rfl) ?_
                  obtain ⟨v_16, hc_15, h⟩ := bd_ex h
                  refine cV_i F hA rfl hK hw (c_Model_condOf l hc_15) trivial rfl (good_V lk_980 lk_982 ls_49 lk_10 lk_983) (mr_0 hK hw) hd_Model_condOf ⟨Nat.le_of_ble_eq_true rfl, Nat.le_of_ble_eq_true rfl⟩ rfl hl.1 rfl (Nat.le_of_ble_eq_true rfl) d_Model_settles_75 ⟨(Nat.zero_le _), (Nat.zero_le _)⟩ (fun H locs hw => ?_)
                  obtain ⟨hi_17, h⟩ := gd_ex h
                  refine ml_0_26 F hK hw hi_17 d_Model_settles_78 ?_
                  refine lv_aload_n F.1 F.2.1 d_Model_settles_79 rfl (lv_at hl 0 rfl) ?_
                  refine mg_0_26 F hK hw lk_1037 d_Model_settles_80 ?_
                  refine lv_aload_n F.1 F.2.1 d_Model_settles_83 rfl (lv_at hl 0 rfl) ?_
                  refine lv_iconst (v := 1) F.1 F.2.1 d_Model_settles_84 (by decide) ?_
                  refine lv_iload F.1 F.2.1 d_Model_settles_85 (lv_at hl 5 rfl) ?_
                  obtain ⟨v_19, hc_18, h⟩ := bd_ex h
                  refine cV_i F hA rfl hK hw (c_Model_condOf l hc_18) trivial rfl (good_V lk_980 lk_982 ls_49 lk_10 lk_983) (mr_0 hK hw) hd_Model_condOf ⟨Nat.le_of_ble_eq_true rfl, Nat.le_of_ble_eq_true rfl⟩ rfl hl.1 rfl (Nat.le_of_ble_eq_true rfl) d_Model_settles_87 ⟨(Nat.zero_le _), (Nat.zero_le _)⟩ (fun H locs hw => ?_)
                  obtain ⟨hi_20, h⟩ := gd_ex h
                  refine ml_0_26 F hK hw hi_20 d_Model_settles_90 ?_
                  refine lv_icmp_le (tgt := 98) F.1 F.2.1 d_Model_settles_91 (by decide) (fun c_21 => ?_) (fun c_21 => ?_)
                  · replace h := ip c_21 h
                    exact J_98_l42 x5 x6 H locs ls hw (lv_sub hl [0, 1, 2, 3, 4, 5, 6] rfl) o h ho
                  · replace h := iq c_21 h
                    exact J_94_l42 x6 H locs ls hw (lv_sub hl [0, 1, 2, 3, 4, 6] rfl) o h ho
          rw [eP_42] at hL_42
          exact hL_42 H locs ls hw (lv_sub hl [2, 3, 4, 5, 6, 1, 0] rfl)
    rw [eP_22] at hL_22
    exact hL_22 H locs ls hw (lv_sub hl [4, 3, 2, 1, 0] rfl)
  exact key _ _ hw _ h (by rw [eX_0]; exact fun H locs pc ls hd hw => hQ H locs pc ls ad rfl hd hw)
theorem d_Model_goesThrough_0 : decode b_Model_goesThrough 0 = .ok (.aload_n 0, 1) := by decide +kernel
theorem d_Model_goesThrough_1 : decode b_Model_goesThrough 1 = .ok (.iconst 1, 1) := by decide +kernel
theorem d_Model_goesThrough_2 : decode b_Model_goesThrough 2 = .ok (.putfield 303, 3) := by decide +kernel
theorem d_Model_goesThrough_5 : decode b_Model_goesThrough 5 = .ok (.aload_n 0, 1) := by decide +kernel
theorem d_Model_goesThrough_6 : decode b_Model_goesThrough 6 = .ok (.getfield 40, 3) := by decide +kernel
theorem d_Model_goesThrough_9 : decode b_Model_goesThrough 9 = .ok (.aload_n 0, 1) := by decide +kernel
theorem d_Model_goesThrough_10 : decode b_Model_goesThrough 10 = .ok (.getfield 228, 3) := by decide +kernel
theorem d_Model_goesThrough_13 : decode b_Model_goesThrough 13 = .ok (.iaload, 1) := by decide +kernel
theorem d_Model_goesThrough_14 : decode b_Model_goesThrough 14 = .ok (.iconst 1, 1) := by decide +kernel
theorem d_Model_goesThrough_15 : decode b_Model_goesThrough 15 = .ok (.isub, 1) := by decide +kernel
theorem d_Model_goesThrough_16 : decode b_Model_goesThrough 16 = .ok (.istore_n 1, 1) := by decide +kernel
theorem d_Model_goesThrough_17 : decode b_Model_goesThrough 17 = .ok (.iload_n 1, 1) := by decide +kernel
theorem d_Model_goesThrough_18 : decode b_Model_goesThrough 18 = .ok (.ifCond .lt 42, 3) := by decide +kernel
theorem d_Model_goesThrough_21 : decode b_Model_goesThrough 21 = .ok (.aload_n 0, 1) := by decide +kernel
theorem d_Model_goesThrough_22 : decode b_Model_goesThrough 22 = .ok (.getfield 101, 3) := by decide +kernel
theorem d_Model_goesThrough_25 : decode b_Model_goesThrough 25 = .ok (.iload_n 1, 1) := by decide +kernel
theorem d_Model_goesThrough_26 : decode b_Model_goesThrough 26 = .ok (.aload_n 0, 1) := by decide +kernel
theorem d_Model_goesThrough_27 : decode b_Model_goesThrough 27 = .ok (.getfield 303, 3) := by decide +kernel
theorem d_Model_goesThrough_30 : decode b_Model_goesThrough 30 = .ok (.iastore, 1) := by decide +kernel
theorem d_Model_goesThrough_31 : decode b_Model_goesThrough 31 = .ok (.aload_n 0, 1) := by decide +kernel
theorem d_Model_goesThrough_32 : decode b_Model_goesThrough 32 = .ok (.dup, 1) := by decide +kernel
theorem d_Model_goesThrough_33 : decode b_Model_goesThrough 33 = .ok (.getfield 303, 3) := by decide +kernel
theorem d_Model_goesThrough_36 : decode b_Model_goesThrough 36 = .ok (.aload_n 0, 1) := by decide +kernel
theorem d_Model_goesThrough_37 : decode b_Model_goesThrough 37 = .ok (.getfield 49, 3) := by decide +kernel
theorem d_Model_goesThrough_40 : decode b_Model_goesThrough 40 = .ok (.bipush 6, 2) := by decide +kernel
theorem d_Model_goesThrough_42 : decode b_Model_goesThrough 42 = .ok (.aload_n 0, 1) := by decide +kernel
theorem d_Model_goesThrough_43 : decode b_Model_goesThrough 43 = .ok (.getfield 228, 3) := by decide +kernel
theorem d_Model_goesThrough_46 : decode b_Model_goesThrough 46 = .ok (.imul, 1) := by decide +kernel
theorem d_Model_goesThrough_47 : decode b_Model_goesThrough 47 = .ok (.iload_n 1, 1) := by decide +kernel
theorem d_Model_goesThrough_48 : decode b_Model_goesThrough 48 = .ok (.iadd, 1) := by decide +kernel
theorem d_Model_goesThrough_49 : decode b_Model_goesThrough 49 = .ok (.iaload, 1) := by decide +kernel
theorem d_Model_goesThrough_50 : decode b_Model_goesThrough 50 = .ok (.imul, 1) := by decide +kernel
theorem d_Model_goesThrough_51 : decode b_Model_goesThrough 51 = .ok (.putfield 303, 3) := by decide +kernel
theorem d_Model_goesThrough_54 : decode b_Model_goesThrough 54 = .ok (.iinc 1 (-1), 3) := by decide +kernel
theorem d_Model_goesThrough_57 : decode b_Model_goesThrough 57 = .ok (.goto (-40), 3) := by decide +kernel
theorem d_Model_goesThrough_60 : decode b_Model_goesThrough 60 = .ok (.iconst 0, 1) := by decide +kernel
theorem d_Model_goesThrough_61 : decode b_Model_goesThrough 61 = .ok (.istore_n 1, 1) := by decide +kernel
theorem d_Model_goesThrough_62 : decode b_Model_goesThrough 62 = .ok (.iload_n 1, 1) := by decide +kernel
theorem d_Model_goesThrough_63 : decode b_Model_goesThrough 63 = .ok (.aload_n 0, 1) := by decide +kernel
theorem d_Model_goesThrough_64 : decode b_Model_goesThrough 64 = .ok (.getfield 303, 3) := by decide +kernel
theorem d_Model_goesThrough_67 : decode b_Model_goesThrough 67 = .ok (.if_icmp .ge 47, 3) := by decide +kernel
theorem d_Model_goesThrough_70 : decode b_Model_goesThrough 70 = .ok (.aload_n 0, 1) := by decide +kernel
theorem d_Model_goesThrough_71 : decode b_Model_goesThrough 71 = .ok (.iload_n 1, 1) := by decide +kernel
theorem d_Model_goesThrough_72 : decode b_Model_goesThrough 72 = .ok (.invokevirtual 306, 3) := by decide +kernel
theorem d_Model_goesThrough_75 : decode b_Model_goesThrough 75 = .ok (.aload_n 0, 1) := by decide +kernel
theorem d_Model_goesThrough_76 : decode b_Model_goesThrough 76 = .ok (.getfield 105, 3) := by decide +kernel
theorem d_Model_goesThrough_79 : decode b_Model_goesThrough 79 = .ok (.iload_n 1, 1) := by decide +kernel
theorem d_Model_goesThrough_80 : decode b_Model_goesThrough 80 = .ok (.aload_n 0, 1) := by decide +kernel
theorem d_Model_goesThrough_81 : decode b_Model_goesThrough 81 = .ok (.iconst 0, 1) := by decide +kernel
theorem d_Model_goesThrough_82 : decode b_Model_goesThrough 82 = .ok (.invokevirtual 309, 3) := by decide +kernel
theorem d_Model_goesThrough_85 : decode b_Model_goesThrough 85 = .ok (.iastore, 1) := by decide +kernel
theorem d_Model_goesThrough_86 : decode b_Model_goesThrough 86 = .ok (.aload_n 0, 1) := by decide +kernel
theorem d_Model_goesThrough_87 : decode b_Model_goesThrough 87 = .ok (.getfield 108, 3) := by decide +kernel
theorem d_Model_goesThrough_90 : decode b_Model_goesThrough 90 = .ok (.iload_n 1, 1) := by decide +kernel
theorem d_Model_goesThrough_91 : decode b_Model_goesThrough 91 = .ok (.aload_n 0, 1) := by decide +kernel
theorem d_Model_goesThrough_92 : decode b_Model_goesThrough 92 = .ok (.iconst 1, 1) := by decide +kernel
theorem d_Model_goesThrough_93 : decode b_Model_goesThrough 93 = .ok (.invokevirtual 309, 3) := by decide +kernel
theorem d_Model_goesThrough_96 : decode b_Model_goesThrough 96 = .ok (.iastore, 1) := by decide +kernel
theorem d_Model_goesThrough_97 : decode b_Model_goesThrough 97 = .ok (.aload_n 0, 1) := by decide +kernel
theorem d_Model_goesThrough_98 : decode b_Model_goesThrough 98 = .ok (.getfield 111, 3) := by decide +kernel
theorem d_Model_goesThrough_101 : decode b_Model_goesThrough 101 = .ok (.iload_n 1, 1) := by decide +kernel
theorem d_Model_goesThrough_102 : decode b_Model_goesThrough 102 = .ok (.aload_n 0, 1) := by decide +kernel
theorem d_Model_goesThrough_103 : decode b_Model_goesThrough 103 = .ok (.iconst 2, 1) := by decide +kernel
theorem d_Model_goesThrough_104 : decode b_Model_goesThrough 104 = .ok (.invokevirtual 309, 3) := by decide +kernel
theorem d_Model_goesThrough_107 : decode b_Model_goesThrough 107 = .ok (.iastore, 1) := by decide +kernel
theorem d_Model_goesThrough_108 : decode b_Model_goesThrough 108 = .ok (.iinc 1 1, 3) := by decide +kernel
theorem d_Model_goesThrough_111 : decode b_Model_goesThrough 111 = .ok (.goto (-49), 3) := by decide +kernel
theorem d_Model_goesThrough_114 : decode b_Model_goesThrough 114 = .ok (.aload_n 0, 1) := by decide +kernel
theorem d_Model_goesThrough_115 : decode b_Model_goesThrough 115 = .ok (.invokevirtual 312, 3) := by decide +kernel
theorem d_Model_goesThrough_118 : decode b_Model_goesThrough 118 = .ok (.return_, 1) := by decide +kernel
set_option maxHeartbeats 4000000 in
set_option maxRecDepth 100000 in
theorem c_Model_goesThrough (l : Launch) {S : St} {S' : St} (h : f_Model_goesThrough S = some S') : MV mw l y_Model_goesThrough b_Model_goesThrough 2 none 4 104 0 0 (fun ad => [.ref (ad 0 0)]) aT aE S S' := by
  refine MV_of "LawfulLotsModel" rfl (by decide) (fun _ => Nat.le_of_ble_eq_true rfl) ?_
  intro p e s m args below meth c D ar ad A Q ls hP F hK hA hw hl hQ
  have hl : lv_has ls 2 [(0, .ref (ad 0 0))] := hl
  obtain ⟨X_0, eX_0⟩ : ∃ X : St → Prop, X = (fun q => ∀ (H : Heap) (locs : List Loc) (pc : Nat) (ls : Array Slot), decode b_Model_goesThrough pc = .ok (.return_, 1) → Bw mw D ar A s.heap H locs ad q → W p l e (RM 4 104) s m args below meth c H locs 0 0 Q (F0 m pc ls [])) := ⟨_, rfl⟩
  have key : ∀ (H : Heap) (locs : List Loc), Bw mw D ar A s.heap H locs ad S → ∀ o, f_Model_goesThrough S = some o → X_0 o → W p l e (RM 4 104) s m args below meth c H locs 0 0 Q (F0 m 0 ls []) := by
    intro H locs hw o h ho
    unfold f_Model_goesThrough at h
    refine lv_aload_n F.1 F.2.1 d_Model_goesThrough_0 rfl (lv_at hl 0 rfl) ?_
    refine lv_iconst (v := 1) F.1 F.2.1 d_Model_goesThrough_1 (by decide) ?_
    obtain ⟨S_1, eS_1, h⟩ := nm_ex h
    refine mp_0_44 F hK hw lk_1055 d_Model_goesThrough_2 eS_1 (fun H locs hw => ?_)
    refine lv_aload_n F.1 F.2.1 d_Model_goesThrough_5 rfl (lv_at hl 0 rfl) ?_
    refine mg_0_20 F hK hw lk_1031 d_Model_goesThrough_6 ?_
    refine lv_aload_n F.1 F.2.1 d_Model_goesThrough_9 rfl (lv_at hl 0 rfl) ?_
    refine mg_0_18 F hK hw lk_1029 d_Model_goesThrough_10 ?_
    obtain ⟨hi_2, h⟩ := gd_ex h
    refine ml_0_20 F hK hw hi_2 d_Model_goesThrough_13 ?_
    refine lv_iconst (v := 1) F.1 F.2.1 d_Model_goesThrough_14 (by decide) ?_
    refine lv_isub F.1 F.2.1 d_Model_goesThrough_15 ?_
    obtain ⟨x1_3, ex1_3, h⟩ := nm_ex h
    refine lv_nm ex1_3 ?_
    refine lv_istore_n (lv' := [(1, .int x1_3), (0, .ref (ad 0 0))]) F.1 F.2.1 d_Model_goesThrough_16 rfl hl (by decide) rfl (fun ls hl => ?_)
    obtain ⟨S_10, hc_11, h⟩ := bd_ex h
    obtain ⟨X_17, eX_17⟩ : ∃ X : St → Prop, X = (fun q => ∀ (H : Heap) (locs : List Loc) (ls : Array Slot), Bw mw D ar A s.heap H locs ad q → lv_has ls 2 [(0, .ref (ad 0 0))] → W p l e (RM 4 104) s m args below meth c H locs 0 0 Q (F0 m 60 ls [])) := ⟨_, rfl⟩
    have hX_17 : X_17 S_10 := by
      rw [eX_17]
      intro H locs ls hw hl
      refine lv_iconst (v := 0) F.1 F.2.1 d_Model_goesThrough_60 (by decide) ?_
      refine lv_istore_n (lv' := [(1, .int (0 : Int32)), (0, .ref (ad 0 0))]) F.1 F.2.1 d_Model_goesThrough_61 rfl hl (by decide) rfl (fun ls hl => ?_)
      obtain ⟨S_31, hc_32, h⟩ := bd_ex h
      obtain ⟨X_62, eX_62⟩ : ∃ X : St → Prop, X = (fun q => ∀ (H : Heap) (locs : List Loc) (ls : Array Slot), Bw mw D ar A s.heap H locs ad q → lv_has ls 2 [(0, .ref (ad 0 0))] → W p l e (RM 4 104) s m args below meth c H locs 0 0 Q (F0 m 114 ls [])) := ⟨_, rfl⟩
      have hX_62 : X_62 S_31 := by
        rw [eX_62]
        intro H locs ls hw hl
        refine lv_aload_n F.1 F.2.1 d_Model_goesThrough_114 rfl (lv_at hl 0 rfl) ?_
        obtain ⟨S_34, hc_33, h⟩ := bd_ex h
        refine cV_v F hA rfl hK hw (c_Model_settles l hc_33) trivial rfl (good_V lk_992 lk_994 ls_52 lk_10 lk_995) (mr_0 hK hw) hd_Model_settles ⟨Nat.le_of_ble_eq_true rfl, Nat.le_of_ble_eq_true rfl⟩ rfl hl.1 rfl (Nat.le_of_ble_eq_true rfl) d_Model_goesThrough_115 ⟨(Nat.zero_le _), (Nat.zero_le _)⟩ (fun H locs hw => ?_)
        cases h
        have ho : X_0 _ := ho
        rw [eX_0] at ho
        exact ho H locs _ ls d_Model_goesThrough_118 hw
      obtain ⟨P_62, eP_62⟩ : ∃ P : (St × Int32) → Prop, P = (fun q => ∀ (H : Heap) (locs : List Loc) (ls : Array Slot), Bw mw D ar A s.heap H locs ad q.1 → lv_has ls 2 [(0, .ref (ad 0 0)), (1, .int q.2)] → W p l e (RM 4 104) s m args below meth c H locs 0 0 Q (F0 m 62 ls [])) := ⟨_, rfl⟩
      have hL_62 : P_62 (S_10, (0 : Int32)) := by
        refine wh_gp (P := P_62) (X := X_62) hc_32 hX_62 ?_
        clear h
        intro q o h ho
        obtain ⟨S, x1⟩ := q
        have h : Model_goesThrough_l62 S x1 = some o := h
        unfold Model_goesThrough_l62 at h
        rw [eP_62]
        intro H locs ls hw hl
        refine lv_iload_n F.1 F.2.1 d_Model_goesThrough_62 rfl (lv_at hl 1 rfl) ?_
        refine lv_aload_n F.1 F.2.1 d_Model_goesThrough_63 rfl (lv_at hl 0 rfl) ?_
        refine mg_0_44 F hK hw lk_1055 d_Model_goesThrough_64 ?_
        refine lv_icmp_ge (tgt := 114) F.1 F.2.1 d_Model_goesThrough_67 (by decide) (fun c_12 => ?_) (fun c_12 => ?_)
        · replace h := ip c_12 h
          cases h
          have ho : X_62 _ := ho
          rw [eX_62] at ho
          exact ho H locs ls hw (lv_sub hl [0] rfl)
        · replace h := iq c_12 h
          refine lv_aload_n F.1 F.2.1 d_Model_goesThrough_70 rfl (lv_at hl 0 rfl) ?_
          refine lv_iload_n F.1 F.2.1 d_Model_goesThrough_71 rfl (lv_at hl 1 rfl) ?_
          obtain ⟨S_14, hc_13, h⟩ := bd_ex h
          refine cV_v F hA rfl hK hw (c_Model_looksAt l hc_13) trivial rfl (good_V lk_964 lk_966 ls_45 lk_10 lk_967) (mr_0 hK hw) hd_Model_looksAt ⟨Nat.le_of_ble_eq_true rfl, Nat.le_of_ble_eq_true rfl⟩ rfl hl.1 rfl (Nat.le_of_ble_eq_true rfl) d_Model_goesThrough_72 ⟨(Nat.zero_le _), (Nat.zero_le _)⟩ (fun H locs hw => ?_)
          refine lv_aload_n F.1 F.2.1 d_Model_goesThrough_75 rfl (lv_at hl 0 rfl) ?_
          refine mg_0_46 F hK hw lk_1057 d_Model_goesThrough_76 ?_
          refine lv_iload_n F.1 F.2.1 d_Model_goesThrough_79 rfl (lv_at hl 1 rfl) ?_
          refine lv_aload_n F.1 F.2.1 d_Model_goesThrough_80 rfl (lv_at hl 0 rfl) ?_
          refine lv_iconst (v := 0) F.1 F.2.1 d_Model_goesThrough_81 (by decide) ?_
          obtain ⟨v_16, S_17, hc_15, h⟩ := bd2_ex h
          refine cV_i F hA rfl hK hw (c_Model_bitsOf l hc_15) trivial rfl (good_V lk_972 lk_974 ls_47 lk_10 lk_975) (mr_0 hK hw) hd_Model_bitsOf ⟨Nat.le_of_ble_eq_true rfl, Nat.le_of_ble_eq_true rfl⟩ rfl hl.1 rfl (Nat.le_of_ble_eq_true rfl) d_Model_goesThrough_82 ⟨(Nat.zero_le _), (Nat.zero_le _)⟩ (fun H locs hw => ?_)
          obtain ⟨hi_18, h⟩ := gd_ex h
          obtain ⟨S_19, eS_19, h⟩ := nm_ex h
          refine ms_0_46 F hK hw hi_18 d_Model_goesThrough_85 eS_19 (fun H locs hw => ?_)
          refine lv_aload_n F.1 F.2.1 d_Model_goesThrough_86 rfl (lv_at hl 0 rfl) ?_
          refine mg_0_47 F hK hw lk_1058 d_Model_goesThrough_87 ?_
          refine lv_iload_n F.1 F.2.1 d_Model_goesThrough_90 rfl (lv_at hl 1 rfl) ?_
          refine lv_aload_n F.1 F.2.1 d_Model_goesThrough_91 rfl (lv_at hl 0 rfl) ?_
          refine lv_iconst (v := 1) F.1 F.2.1 d_Model_goesThrough_92 (by decide) ?_
          obtain ⟨v_21, S_22, hc_20, h⟩ := bd2_ex h
          refine cV_i F hA rfl hK hw (c_Model_bitsOf l hc_20) trivial rfl (good_V lk_972 lk_974 ls_47 lk_10 lk_975) (mr_0 hK hw) hd_Model_bitsOf ⟨Nat.le_of_ble_eq_true rfl, Nat.le_of_ble_eq_true rfl⟩ rfl hl.1 rfl (Nat.le_of_ble_eq_true rfl) d_Model_goesThrough_93 ⟨(Nat.zero_le _), (Nat.zero_le _)⟩ (fun H locs hw => ?_)
          obtain ⟨hi_23, h⟩ := gd_ex h
          obtain ⟨S_24, eS_24, h⟩ := nm_ex h
          refine ms_0_47 F hK hw hi_23 d_Model_goesThrough_96 eS_24 (fun H locs hw => ?_)
          refine lv_aload_n F.1 F.2.1 d_Model_goesThrough_97 rfl (lv_at hl 0 rfl) ?_
          refine mg_0_48 F hK hw lk_1059 d_Model_goesThrough_98 ?_
          refine lv_iload_n F.1 F.2.1 d_Model_goesThrough_101 rfl (lv_at hl 1 rfl) ?_
          refine lv_aload_n F.1 F.2.1 d_Model_goesThrough_102 rfl (lv_at hl 0 rfl) ?_
          refine lv_iconst (v := 2) F.1 F.2.1 d_Model_goesThrough_103 (by decide) ?_
          obtain ⟨v_26, S_27, hc_25, h⟩ := bd2_ex h
          refine cV_i F hA rfl hK hw (c_Model_bitsOf l hc_25) trivial rfl (good_V lk_972 lk_974 ls_47 lk_10 lk_975) (mr_0 hK hw) hd_Model_bitsOf ⟨Nat.le_of_ble_eq_true rfl, Nat.le_of_ble_eq_true rfl⟩ rfl hl.1 rfl (Nat.le_of_ble_eq_true rfl) d_Model_goesThrough_104 ⟨(Nat.zero_le _), (Nat.zero_le _)⟩ (fun H locs hw => ?_)
          obtain ⟨hi_28, h⟩ := gd_ex h
          obtain ⟨S_29, eS_29, h⟩ := nm_ex h
          refine ms_0_48 F hK hw hi_28 d_Model_goesThrough_107 eS_29 (fun H locs hw => ?_)
          obtain ⟨x1_30, ex1_30, h⟩ := nm_ex h
          refine lv_iinc (v := x1_30) (lv' := [(1, .int x1_30), (0, .ref (ad 0 0))]) F.1 F.2.1 d_Model_goesThrough_108 hl (k := 1) rfl (by rw [ex1_30]; rfl) (by decide) rfl (fun ls hl => ?_)
          refine lv_goto (tgt := 62) F.1 F.2.1 d_Model_goesThrough_111 (by decide) ?_
          cases h
          have ho : P_62 _ := ho
          rw [eP_62] at ho
          exact ho H locs ls hw (lv_sub hl [1, 0] rfl)
      rw [eP_62] at hL_62
      exact hL_62 H locs ls hw (lv_sub hl [1, 0] rfl)
    obtain ⟨P_17, eP_17⟩ : ∃ P : (St × Int32) → Prop, P = (fun q => ∀ (H : Heap) (locs : List Loc) (ls : Array Slot), Bw mw D ar A s.heap H locs ad q.1 → lv_has ls 2 [(0, .ref (ad 0 0)), (1, .int q.2)] → W p l e (RM 4 104) s m args below meth c H locs 0 0 Q (F0 m 17 ls [])) := ⟨_, rfl⟩
    have hL_17 : P_17 (S_1, x1_3) := by
      refine wh_gp (P := P_17) (X := X_17) hc_11 hX_17 ?_
      clear h
      intro q o h ho
      obtain ⟨S, x1⟩ := q
      have h : Model_goesThrough_l17 S x1 = some o := h
      unfold Model_goesThrough_l17 at h
      rw [eP_17]
      intro H locs ls hw hl
      refine lv_iload_n F.1 F.2.1 d_Model_goesThrough_17 rfl (lv_at hl 1 rfl) ?_
      refine lv_if_lt (tgt := 60) F.1 F.2.1 d_Model_goesThrough_18 (by decide) (fun c_4 => ?_) (fun c_4 => ?_)
      · replace h := ip c_4 h
        cases h
        have ho : X_17 _ := ho
        rw [eX_17] at ho
        exact ho H locs ls hw (lv_sub hl [0] rfl)
      · replace h := iq c_4 h
        refine lv_aload_n F.1 F.2.1 d_Model_goesThrough_21 rfl (lv_at hl 0 rfl) ?_
        refine mg_0_45 F hK hw lk_1056 d_Model_goesThrough_22 ?_
        refine lv_iload_n F.1 F.2.1 d_Model_goesThrough_25 rfl (lv_at hl 1 rfl) ?_
        refine lv_aload_n F.1 F.2.1 d_Model_goesThrough_26 rfl (lv_at hl 0 rfl) ?_
        refine mg_0_44 F hK hw lk_1055 d_Model_goesThrough_27 ?_
        obtain ⟨hi_5, h⟩ := gd_ex h
        obtain ⟨S_6, eS_6, h⟩ := nm_ex h
        refine ms_0_45 F hK hw hi_5 d_Model_goesThrough_30 eS_6 (fun H locs hw => ?_)
        refine lv_aload_n F.1 F.2.1 d_Model_goesThrough_31 rfl (lv_at hl 0 rfl) ?_
        refine lv_dup F.1 F.2.1 d_Model_goesThrough_32 rfl ?_
        refine mg_0_44 F hK hw lk_1055 d_Model_goesThrough_33 ?_
        refine lv_aload_n F.1 F.2.1 d_Model_goesThrough_36 rfl (lv_at hl 0 rfl) ?_
        refine mg_0_23 F hK hw lk_1034 d_Model_goesThrough_37 ?_
        refine lv_bipush (v := 6) F.1 F.2.1 d_Model_goesThrough_40 (by decide) ?_
        refine lv_aload_n F.1 F.2.1 d_Model_goesThrough_42 rfl (lv_at hl 0 rfl) ?_
        refine mg_0_18 F hK hw lk_1029 d_Model_goesThrough_43 ?_
        refine lv_imul F.1 F.2.1 d_Model_goesThrough_46 ?_
        refine lv_iload_n F.1 F.2.1 d_Model_goesThrough_47 rfl (lv_at hl 1 rfl) ?_
        refine lv_iadd F.1 F.2.1 d_Model_goesThrough_48 ?_
        obtain ⟨hi_7, h⟩ := gd_ex h
        refine ml_0_23 F hK hw hi_7 d_Model_goesThrough_49 ?_
        refine lv_imul F.1 F.2.1 d_Model_goesThrough_50 ?_
        obtain ⟨S_8, eS_8, h⟩ := nm_ex h
        refine mp_0_44 F hK hw lk_1055 d_Model_goesThrough_51 eS_8 (fun H locs hw => ?_)
        obtain ⟨x1_9, ex1_9, h⟩ := nm_ex h
        refine lv_iinc (v := x1_9) (lv' := [(1, .int x1_9), (0, .ref (ad 0 0))]) F.1 F.2.1 d_Model_goesThrough_54 hl (k := 1) rfl (by rw [ex1_9]; rfl) (by decide) rfl (fun ls hl => ?_)
        refine lv_goto (tgt := 17) F.1 F.2.1 d_Model_goesThrough_57 (by decide) ?_
        cases h
        have ho : P_17 _ := ho
        rw [eP_17] at ho
        exact ho H locs ls hw (lv_sub hl [1, 0] rfl)
    rw [eP_17] at hL_17
    exact hL_17 H locs ls hw (lv_sub hl [1, 0] rfl)
  exact key _ _ hw _ h (by rw [eX_0]; exact fun H locs pc ls hd hw => hQ H locs pc ls ad rfl hd hw)
theorem d_Model_read_0 : decode b_Model_read 0 = .ok (.aload_n 0, 1) := by decide +kernel
theorem d_Model_read_1 : decode b_Model_read 1 = .ok (.aload_n 0, 1) := by decide +kernel
theorem d_Model_read_2 : decode b_Model_read 2 = .ok (.getfield 160, 3) := by decide +kernel
theorem d_Model_read_5 : decode b_Model_read 5 = .ok (.putfield 167, 3) := by decide +kernel
theorem d_Model_read_8 : decode b_Model_read 8 = .ok (.iconst 0, 1) := by decide +kernel
theorem d_Model_read_9 : decode b_Model_read 9 = .ok (.istore_n 1, 1) := by decide +kernel
theorem d_Model_read_10 : decode b_Model_read 10 = .ok (.iload_n 1, 1) := by decide +kernel
theorem d_Model_read_11 : decode b_Model_read 11 = .ok (.aload_n 0, 1) := by decide +kernel
theorem d_Model_read_12 : decode b_Model_read 12 = .ok (.getfield 167, 3) := by decide +kernel
theorem d_Model_read_15 : decode b_Model_read 15 = .ok (.if_icmp .ge 21, 3) := by decide +kernel
theorem d_Model_read_18 : decode b_Model_read 18 = .ok (.aload_n 0, 1) := by decide +kernel
theorem d_Model_read_19 : decode b_Model_read 19 = .ok (.getfield 17, 3) := by decide +kernel
theorem d_Model_read_22 : decode b_Model_read 22 = .ok (.iload_n 1, 1) := by decide +kernel
theorem d_Model_read_23 : decode b_Model_read 23 = .ok (.aload_n 0, 1) := by decide +kernel
theorem d_Model_read_24 : decode b_Model_read 24 = .ok (.getfield 13, 3) := by decide +kernel
theorem d_Model_read_27 : decode b_Model_read 27 = .ok (.iload_n 1, 1) := by decide +kernel
theorem d_Model_read_28 : decode b_Model_read 28 = .ok (.baload, 1) := by decide +kernel
theorem d_Model_read_29 : decode b_Model_read 29 = .ok (.bastore, 1) := by decide +kernel
theorem d_Model_read_30 : decode b_Model_read 30 = .ok (.iinc 1 1, 3) := by decide +kernel
theorem d_Model_read_33 : decode b_Model_read 33 = .ok (.goto (-23), 3) := by decide +kernel
theorem d_Model_read_36 : decode b_Model_read 36 = .ok (.aload_n 0, 1) := by decide +kernel
theorem d_Model_read_37 : decode b_Model_read 37 = .ok (.iconst 0, 1) := by decide +kernel
theorem d_Model_read_38 : decode b_Model_read 38 = .ok (.putfield 160, 3) := by decide +kernel
theorem d_Model_read_41 : decode b_Model_read 41 = .ok (.aload_n 0, 1) := by decide +kernel
theorem d_Model_read_42 : decode b_Model_read 42 = .ok (.invokevirtual 222, 3) := by decide +kernel
theorem d_Model_read_45 : decode b_Model_read 45 = .ok (.aload_n 0, 1) := by decide +kernel
theorem d_Model_read_46 : decode b_Model_read 46 = .ok (.iconst 0, 1) := by decide +kernel
theorem d_Model_read_47 : decode b_Model_read 47 = .ok (.putfield 201, 3) := by decide +kernel
theorem d_Model_read_50 : decode b_Model_read 50 = .ok (.aload_n 0, 1) := by decide +kernel
theorem d_Model_read_51 : decode b_Model_read 51 = .ok (.iconst 0, 1) := by decide +kernel
theorem d_Model_read_52 : decode b_Model_read 52 = .ok (.putfield 225, 3) := by decide +kernel
theorem d_Model_read_55 : decode b_Model_read 55 = .ok (.aload_n 0, 1) := by decide +kernel
theorem d_Model_read_56 : decode b_Model_read 56 = .ok (.iconst 0, 1) := by decide +kernel
theorem d_Model_read_57 : decode b_Model_read 57 = .ok (.putfield 198, 3) := by decide +kernel
theorem d_Model_read_60 : decode b_Model_read 60 = .ok (.aload_n 0, 1) := by decide +kernel
theorem d_Model_read_61 : decode b_Model_read 61 = .ok (.iconst 0, 1) := by decide +kernel
theorem d_Model_read_62 : decode b_Model_read 62 = .ok (.putfield 207, 3) := by decide +kernel
theorem d_Model_read_65 : decode b_Model_read 65 = .ok (.aload_n 0, 1) := by decide +kernel
theorem d_Model_read_66 : decode b_Model_read 66 = .ok (.iconst 1, 1) := by decide +kernel
theorem d_Model_read_67 : decode b_Model_read 67 = .ok (.aload_n 0, 1) := by decide +kernel
theorem d_Model_read_68 : decode b_Model_read 68 = .ok (.getfield 228, 3) := by decide +kernel
theorem d_Model_read_71 : decode b_Model_read 71 = .ok (.isub, 1) := by decide +kernel
theorem d_Model_read_72 : decode b_Model_read 72 = .ok (.putfield 231, 3) := by decide +kernel
theorem d_Model_read_75 : decode b_Model_read 75 = .ok (.aload_n 0, 1) := by decide +kernel
theorem d_Model_read_76 : decode b_Model_read 76 = .ok (.getfield 40, 3) := by decide +kernel
theorem d_Model_read_79 : decode b_Model_read 79 = .ok (.aload_n 0, 1) := by decide +kernel
theorem d_Model_read_80 : decode b_Model_read 80 = .ok (.getfield 231, 3) := by decide +kernel
theorem d_Model_read_83 : decode b_Model_read 83 = .ok (.iconst 0, 1) := by decide +kernel
theorem d_Model_read_84 : decode b_Model_read 84 = .ok (.iastore, 1) := by decide +kernel
theorem d_Model_read_85 : decode b_Model_read 85 = .ok (.aload_n 0, 1) := by decide +kernel
theorem d_Model_read_86 : decode b_Model_read 86 = .ok (.lconst 1, 1) := by decide +kernel
theorem d_Model_read_87 : decode b_Model_read 87 = .ok (.putfield 234, 3) := by decide +kernel
theorem d_Model_read_90 : decode b_Model_read 90 = .ok (.iconst 0, 1) := by decide +kernel
theorem d_Model_read_91 : decode b_Model_read 91 = .ok (.istore_n 1, 1) := by decide +kernel
theorem d_Model_read_92 : decode b_Model_read 92 = .ok (.iload_n 1, 1) := by decide +kernel
theorem d_Model_read_93 : decode b_Model_read 93 = .ok (.iconst 5, 1) := by decide +kernel
theorem d_Model_read_94 : decode b_Model_read 94 = .ok (.if_icmp .ge 23, 3) := by decide +kernel
theorem d_Model_read_97 : decode b_Model_read 97 = .ok (.aload_n 0, 1) := by decide +kernel
theorem d_Model_read_98 : decode b_Model_read 98 = .ok (.getfield 52, 3) := by decide +kernel
theorem d_Model_read_101 : decode b_Model_read 101 = .ok (.iconst 5, 1) := by decide +kernel
theorem d_Model_read_102 : decode b_Model_read 102 = .ok (.aload_n 0, 1) := by decide +kernel
theorem d_Model_read_103 : decode b_Model_read 103 = .ok (.getfield 231, 3) := by decide +kernel
theorem d_Model_read_106 : decode b_Model_read 106 = .ok (.imul, 1) := by decide +kernel
theorem d_Model_read_107 : decode b_Model_read 107 = .ok (.iload_n 1, 1) := by decide +kernel
theorem d_Model_read_108 : decode b_Model_read 108 = .ok (.iadd, 1) := by decide +kernel
theorem d_Model_read_109 : decode b_Model_read 109 = .ok (.iconst 0, 1) := by decide +kernel
theorem d_Model_read_110 : decode b_Model_read 110 = .ok (.iastore, 1) := by decide +kernel
theorem d_Model_read_111 : decode b_Model_read 111 = .ok (.iinc 1 1, 3) := by decide +kernel
theorem d_Model_read_114 : decode b_Model_read 114 = .ok (.goto (-22), 3) := by decide +kernel
theorem d_Model_read_117 : decode b_Model_read 117 = .ok (.aload_n 0, 1) := by decide +kernel
theorem d_Model_read_118 : decode b_Model_read 118 = .ok (.getfield 70, 3) := by decide +kernel
theorem d_Model_read_121 : decode b_Model_read 121 = .ok (.aload_n 0, 1) := by decide +kernel
theorem d_Model_read_122 : decode b_Model_read 122 = .ok (.getfield 231, 3) := by decide +kernel
theorem d_Model_read_125 : decode b_Model_read 125 = .ok (.iconst 0, 1) := by decide +kernel
theorem d_Model_read_126 : decode b_Model_read 126 = .ok (.iastore, 1) := by decide +kernel
theorem d_Model_read_127 : decode b_Model_read 127 = .ok (.aload_n 0, 1) := by decide +kernel
theorem d_Model_read_128 : decode b_Model_read 128 = .ok (.sipush 500, 3) := by decide +kernel
theorem d_Model_read_131 : decode b_Model_read 131 = .ok (.aload_n 0, 1) := by decide +kernel
theorem d_Model_read_132 : decode b_Model_read 132 = .ok (.getfield 231, 3) := by decide +kernel
theorem d_Model_read_135 : decode b_Model_read 135 = .ok (.imul, 1) := by decide +kernel
theorem d_Model_read_136 : decode b_Model_read 136 = .ok (.putfield 238, 3) := by decide +kernel
theorem d_Model_read_139 : decode b_Model_read 139 = .ok (.aload_n 0, 1) := by decide +kernel
theorem d_Model_read_140 : decode b_Model_read 140 = .ok (.getfield 198, 3) := by decide +kernel
theorem d_Model_read_143 : decode b_Model_read 143 = .ok (.ifCond .ne 18, 3) := by decide +kernel
theorem d_Model_read_146 : decode b_Model_read 146 = .ok (.aload_n 0, 1) := by decide +kernel
theorem d_Model_read_147 : decode b_Model_read 147 = .ok (.iconst 0, 1) := by decide +kernel
theorem d_Model_read_148 : decode b_Model_read 148 = .ok (.invokevirtual 216, 3) := by decide +kernel
theorem d_Model_read_151 : decode b_Model_read 151 = .ok (.ifCond .ne 10, 3) := by decide +kernel
theorem d_Model_read_154 : decode b_Model_read 154 = .ok (.aload_n 0, 1) := by decide +kernel
theorem d_Model_read_155 : decode b_Model_read 155 = .ok (.invokevirtual 241, 3) := by decide +kernel
theorem d_Model_read_158 : decode b_Model_read 158 = .ok (.goto (-19), 3) := by decide +kernel
theorem d_Model_read_161 : decode b_Model_read 161 = .ok (.aload_n 0, 1) := by decide +kernel
theorem d_Model_read_162 : decode b_Model_read 162 = .ok (.aload_n 0, 1) := by decide +kernel
theorem d_Model_read_163 : decode b_Model_read 163 = .ok (.getfield 198, 3) := by decide +kernel
theorem d_Model_read_166 : decode b_Model_read 166 = .ok (.ifCond .le 10, 3) := by decide +kernel
theorem d_Model_read_169 : decode b_Model_read 169 = .ok (.aload_n 0, 1) := by decide +kernel
theorem d_Model_read_170 : decode b_Model_read 170 = .ok (.getfield 204, 3) := by decide +kernel
theorem d_Model_read_173 : decode b_Model_read 173 = .ok (.goto 18, 3) := by decide +kernel
theorem d_Model_read_176 : decode b_Model_read 176 = .ok (.aload_n 0, 1) := by decide +kernel
theorem d_Model_read_177 : decode b_Model_read 177 = .ok (.getfield 207, 3) := by decide +kernel
theorem d_Model_read_180 : decode b_Model_read 180 = .ok (.ifCond .le 10, 3) := by decide +kernel
theorem d_Model_read_183 : decode b_Model_read 183 = .ok (.aload_n 0, 1) := by decide +kernel
theorem d_Model_read_184 : decode b_Model_read 184 = .ok (.getfield 210, 3) := by decide +kernel
theorem d_Model_read_187 : decode b_Model_read 187 = .ok (.goto 4, 3) := by decide +kernel
theorem d_Model_read_190 : decode b_Model_read 190 = .ok (.iconst (-1), 1) := by decide +kernel
theorem d_Model_read_191 : decode b_Model_read 191 = .ok (.putfield 37, 3) := by decide +kernel
theorem d_Model_read_194 : decode b_Model_read 194 = .ok (.aload_n 0, 1) := by decide +kernel
theorem d_Model_read_195 : decode b_Model_read 195 = .ok (.getfield 198, 3) := by decide +kernel
theorem d_Model_read_198 : decode b_Model_read 198 = .ok (.ifCond .le 8, 3) := by decide +kernel
theorem d_Model_read_201 : decode b_Model_read 201 = .ok (.aload_n 0, 1) := by decide +kernel
theorem d_Model_read_202 : decode b_Model_read 202 = .ok (.getfield 198, 3) := by decide +kernel
theorem d_Model_read_205 : decode b_Model_read 205 = .ok (.ireturn, 1) := by decide +kernel
theorem d_Model_read_206 : decode b_Model_read 206 = .ok (.aload_n 0, 1) := by decide +kernel
theorem d_Model_read_207 : decode b_Model_read 207 = .ok (.getfield 207, 3) := by decide +kernel
theorem d_Model_read_210 : decode b_Model_read 210 = .ok (.ifCond .le 8, 3) := by decide +kernel
theorem d_Model_read_213 : decode b_Model_read 213 = .ok (.aload_n 0, 1) := by decide +kernel
theorem d_Model_read_214 : decode b_Model_read 214 = .ok (.getfield 207, 3) := by decide +kernel
theorem d_Model_read_217 : decode b_Model_read 217 = .ok (.ireturn, 1) := by decide +kernel
theorem d_Model_read_218 : decode b_Model_read 218 = .ok (.aload_n 0, 1) := by decide +kernel
theorem d_Model_read_219 : decode b_Model_read 219 = .ok (.aload_n 0, 1) := by decide +kernel
theorem d_Model_read_220 : decode b_Model_read 220 = .ok (.getfield 231, 3) := by decide +kernel
theorem d_Model_read_223 : decode b_Model_read 223 = .ok (.putfield 228, 3) := by decide +kernel
theorem d_Model_read_226 : decode b_Model_read 226 = .ok (.aload_n 0, 1) := by decide +kernel
theorem d_Model_read_227 : decode b_Model_read 227 = .ok (.sipush 255, 3) := by decide +kernel
theorem d_Model_read_230 : decode b_Model_read 230 = .ok (.putfield 123, 3) := by decide +kernel
theorem d_Model_read_233 : decode b_Model_read 233 = .ok (.aload_n 0, 1) := by decide +kernel
theorem d_Model_read_234 : decode b_Model_read 234 = .ok (.iconst 0, 1) := by decide +kernel
theorem d_Model_read_235 : decode b_Model_read 235 = .ok (.putfield 244, 3) := by decide +kernel
theorem d_Model_read_238 : decode b_Model_read 238 = .ok (.aload_n 0, 1) := by decide +kernel
theorem d_Model_read_239 : decode b_Model_read 239 = .ok (.invokevirtual 157, 3) := by decide +kernel
theorem d_Model_read_242 : decode b_Model_read 242 = .ok (.iconst 0, 1) := by decide +kernel
theorem d_Model_read_243 : decode b_Model_read 243 = .ok (.ireturn, 1) := by decide +kernel
set_option maxHeartbeats 4000000 in
set_option maxRecDepth 100000 in
theorem c_Model_read (l : Launch) {S : St} {S' : St} {r : Int32} (h : f_Model_read S = some (r, S')) : MI mw l y_Model_read b_Model_read 2 (some .int) 7 157 0 0 (fun ad => [.ref (ad 0 0)]) aT aE S r S' := by
  refine MI_of "LawfulLotsModel" rfl (by decide) (fun _ => Nat.le_of_ble_eq_true rfl) ?_
  intro p e s m args below meth c D ar ad A Q ls hP F hK hA hw hl hQ
  have hl : lv_has ls 2 [(0, .ref (ad 0 0))] := hl
  obtain ⟨X_0, eX_0⟩ : ∃ X : (Int32 × St) → Prop, X = (fun q => ∀ (H : Heap) (locs : List Loc) (pc : Nat) (ls : Array Slot), decode b_Model_read pc = .ok (.ireturn, 1) → Bw mw D ar A s.heap H locs ad q.2 → W p l e (RM 7 157) s m args below meth c H locs 0 0 Q (F0 m pc ls [.int q.1])) := ⟨_, rfl⟩
  have key : ∀ (H : Heap) (locs : List Loc), Bw mw D ar A s.heap H locs ad S → ∀ o, f_Model_read S = some o → X_0 o → W p l e (RM 7 157) s m args below meth c H locs 0 0 Q (F0 m 0 ls []) := by
    intro H locs hw o h ho
    unfold f_Model_read at h
    have J_191 : ∀ (S : St) (t1 : Int32) (H : Heap) (locs : List Loc) (ls : Array Slot), Bw mw D ar A s.heap H locs ad S → lv_has ls 2 [(0, .ref (ad 0 0))] → ∀ o, Model_read_j191 S t1 = some o → X_0 o → W p l e (RM 7 157) s m args below meth c H locs 0 0 Q (F0 m 191 ls [.int t1, .ref (ad 0 0)]) := by
      intro S t1 H locs ls hw hl o h ho
      unfold Model_read_j191 at h
      obtain ⟨S_39, eS_39, h⟩ := nm_ex h
      refine mp_0_17 F hK hw lk_1028 d_Model_read_191 eS_39 (fun H locs hw => ?_)
      refine lv_aload_n F.1 F.2.1 d_Model_read_194 rfl (lv_at hl 0 rfl) ?_
      refine mg_0_13 F hK hw lk_1024 d_Model_read_195 ?_
      refine lv_if_le (tgt := 206) F.1 F.2.1 d_Model_read_198 (by decide) (fun c_40 => ?_) (fun c_40 => ?_)
      · replace h := ip c_40 h
        refine lv_aload_n F.1 F.2.1 d_Model_read_206 rfl (lv_at hl 0 rfl) ?_
        refine mg_0_15 F hK hw lk_1026 d_Model_read_207 ?_
        refine lv_if_le (tgt := 218) F.1 F.2.1 d_Model_read_210 (by decide) (fun c_41 => ?_) (fun c_41 => ?_)
        · replace h := ip c_41 h
          refine lv_aload_n F.1 F.2.1 d_Model_read_218 rfl (lv_at hl 0 rfl) ?_
          refine lv_aload_n F.1 F.2.1 d_Model_read_219 rfl (lv_at hl 0 rfl) ?_
          refine mg_0_19 F hK hw lk_1030 d_Model_read_220 ?_
          obtain ⟨S_42, eS_42, h⟩ := nm_ex h
          refine mp_0_18 F hK hw lk_1029 d_Model_read_223 eS_42 (fun H locs hw => ?_)
          refine lv_aload_n F.1 F.2.1 d_Model_read_226 rfl (lv_at hl 0 rfl) ?_
          refine lv_sipush (v := 255) F.1 F.2.1 d_Model_read_227 (by decide) ?_
          obtain ⟨S_43, eS_43, h⟩ := nm_ex h
          refine mp_0_52 F hK hw lk_1063 d_Model_read_230 eS_43 (fun H locs hw => ?_)
          refine lv_aload_n F.1 F.2.1 d_Model_read_233 rfl (lv_at hl 0 rfl) ?_
          refine lv_iconst (v := 0) F.1 F.2.1 d_Model_read_234 (by decide) ?_
          obtain ⟨S_44, eS_44, h⟩ := nm_ex h
          refine mp_0_58 F hK hw lk_1069 d_Model_read_235 eS_44 (fun H locs hw => ?_)
          refine lv_aload_n F.1 F.2.1 d_Model_read_238 rfl (lv_at hl 0 rfl) ?_
          obtain ⟨S_46, hc_45, h⟩ := bd_ex h
          refine cV_v F hA rfl hK hw (c_Model_goesThrough l hc_45) trivial rfl (good_V lk_960 lk_962 ls_44 lk_10 lk_963) (mr_0 hK hw) hd_Model_goesThrough ⟨Nat.le_of_ble_eq_true rfl, Nat.le_of_ble_eq_true rfl⟩ rfl hl.1 rfl (Nat.le_of_ble_eq_true rfl) d_Model_read_239 ⟨(Nat.zero_le _), (Nat.zero_le _)⟩ (fun H locs hw => ?_)
          refine lv_iconst (v := 0) F.1 F.2.1 d_Model_read_242 (by decide) ?_
          cases h
          have ho : X_0 _ := ho
          rw [eX_0] at ho
          exact ho H locs _ ls d_Model_read_243 hw
        · replace h := iq c_41 h
          refine lv_aload_n F.1 F.2.1 d_Model_read_213 rfl (lv_at hl 0 rfl) ?_
          refine mg_0_15 F hK hw lk_1026 d_Model_read_214 ?_
          cases h
          have ho : X_0 _ := ho
          rw [eX_0] at ho
          exact ho H locs _ ls d_Model_read_217 hw
      · replace h := iq c_40 h
        refine lv_aload_n F.1 F.2.1 d_Model_read_201 rfl (lv_at hl 0 rfl) ?_
        refine mg_0_13 F hK hw lk_1024 d_Model_read_202 ?_
        cases h
        have ho : X_0 _ := ho
        rw [eX_0] at ho
        exact ho H locs _ ls d_Model_read_205 hw
    have J_161 : ∀ (S : St) (H : Heap) (locs : List Loc) (ls : Array Slot), Bw mw D ar A s.heap H locs ad S → lv_has ls 2 [(0, .ref (ad 0 0))] → ∀ o, Model_read_j161 S = some o → X_0 o → W p l e (RM 7 157) s m args below meth c H locs 0 0 Q (F0 m 161 ls []) := by
      intro S H locs ls hw hl o h ho
      unfold Model_read_j161 at h
      refine lv_aload_n F.1 F.2.1 d_Model_read_161 rfl (lv_at hl 0 rfl) ?_
      refine lv_aload_n F.1 F.2.1 d_Model_read_162 rfl (lv_at hl 0 rfl) ?_
      refine mg_0_13 F hK hw lk_1024 d_Model_read_163 ?_
      refine lv_if_le (tgt := 176) F.1 F.2.1 d_Model_read_166 (by decide) (fun c_37 => ?_) (fun c_37 => ?_)
      · replace h := ip c_37 h
        refine lv_aload_n F.1 F.2.1 d_Model_read_176 rfl (lv_at hl 0 rfl) ?_
        refine mg_0_15 F hK hw lk_1026 d_Model_read_177 ?_
        refine lv_if_le (tgt := 190) F.1 F.2.1 d_Model_read_180 (by decide) (fun c_38 => ?_) (fun c_38 => ?_)
        · replace h := ip c_38 h
          refine lv_iconst (v := -1) F.1 F.2.1 d_Model_read_190 (by decide) ?_
          exact J_191 S (-1 : Int32) H locs ls hw (lv_sub hl [0] rfl) o h ho
        · replace h := iq c_38 h
          refine lv_aload_n F.1 F.2.1 d_Model_read_183 rfl (lv_at hl 0 rfl) ?_
          refine mg_0_16 F hK hw lk_1027 d_Model_read_184 ?_
          refine lv_goto (tgt := 191) F.1 F.2.1 d_Model_read_187 (by decide) ?_
          exact J_191 S (gI S 0 16) H locs ls hw (lv_sub hl [0] rfl) o h ho
      · replace h := iq c_37 h
        refine lv_aload_n F.1 F.2.1 d_Model_read_169 rfl (lv_at hl 0 rfl) ?_
        refine mg_0_14 F hK hw lk_1025 d_Model_read_170 ?_
        refine lv_goto (tgt := 191) F.1 F.2.1 d_Model_read_173 (by decide) ?_
        exact J_191 S (gI S 0 14) H locs ls hw (lv_sub hl [0] rfl) o h ho
    refine lv_aload_n F.1 F.2.1 d_Model_read_0 rfl (lv_at hl 0 rfl) ?_
    refine lv_aload_n F.1 F.2.1 d_Model_read_1 rfl (lv_at hl 0 rfl) ?_
    refine mg_0_2 F hK hw lk_1013 d_Model_read_2 ?_
    obtain ⟨S_1, eS_1, h⟩ := nm_ex h
    refine mp_0_4 F hK hw lk_1015 d_Model_read_5 eS_1 (fun H locs hw => ?_)
    refine lv_iconst (v := 0) F.1 F.2.1 d_Model_read_8 (by decide) ?_
    refine lv_istore_n (lv' := [(1, .int (0 : Int32)), (0, .ref (ad 0 0))]) F.1 F.2.1 d_Model_read_9 rfl hl (by decide) rfl (fun ls hl => ?_)
    obtain ⟨S_7, hc_8, h⟩ := bd_ex h
    obtain ⟨X_10, eX_10⟩ : ∃ X : St → Prop, X = (fun q => ∀ (H : Heap) (locs : List Loc) (ls : Array Slot), Bw mw D ar A s.heap H locs ad q → lv_has ls 2 [(0, .ref (ad 0 0))] → W p l e (RM 7 157) s m args below meth c H locs 0 0 Q (F0 m 36 ls [])) := ⟨_, rfl⟩
    have hX_10 : X_10 S_7 := by
      rw [eX_10]
      intro H locs ls hw hl
      refine lv_aload_n F.1 F.2.1 d_Model_read_36 rfl (lv_at hl 0 rfl) ?_
      refine lv_iconst (v := 0) F.1 F.2.1 d_Model_read_37 (by decide) ?_
      obtain ⟨S_9, eS_9, h⟩ := nm_ex h
      refine mp_0_2 F hK hw lk_1013 d_Model_read_38 eS_9 (fun H locs hw => ?_)
      refine lv_aload_n F.1 F.2.1 d_Model_read_41 rfl (lv_at hl 0 rfl) ?_
      obtain ⟨S_11, hc_10, h⟩ := bd_ex h
      refine cV_v F hA rfl hK hw (c_Model_cut l hc_10) trivial rfl (good_V lk_1230 lk_1232 ls_58 lk_10 lk_1233) (mr_0 hK hw) hd_Model_cut ⟨Nat.le_of_ble_eq_true rfl, Nat.le_of_ble_eq_true rfl⟩ rfl hl.1 rfl (Nat.le_of_ble_eq_true rfl) d_Model_read_42 ⟨(Nat.zero_le _), (Nat.zero_le _)⟩ (fun H locs hw => ?_)
      refine lv_aload_n F.1 F.2.1 d_Model_read_45 rfl (lv_at hl 0 rfl) ?_
      refine lv_iconst (v := 0) F.1 F.2.1 d_Model_read_46 (by decide) ?_
      obtain ⟨S_12, eS_12, h⟩ := nm_ex h
      refine mp_0_11 F hK hw lk_1022 d_Model_read_47 eS_12 (fun H locs hw => ?_)
      refine lv_aload_n F.1 F.2.1 d_Model_read_50 rfl (lv_at hl 0 rfl) ?_
      refine lv_iconst (v := 0) F.1 F.2.1 d_Model_read_51 (by decide) ?_
      obtain ⟨S_13, eS_13, h⟩ := nm_ex h
      refine mp_0_12 F hK hw lk_1023 d_Model_read_52 eS_13 (fun H locs hw => ?_)
      refine lv_aload_n F.1 F.2.1 d_Model_read_55 rfl (lv_at hl 0 rfl) ?_
      refine lv_iconst (v := 0) F.1 F.2.1 d_Model_read_56 (by decide) ?_
      obtain ⟨S_14, eS_14, h⟩ := nm_ex h
      refine mp_0_13 F hK hw lk_1024 d_Model_read_57 eS_14 (fun H locs hw => ?_)
      refine lv_aload_n F.1 F.2.1 d_Model_read_60 rfl (lv_at hl 0 rfl) ?_
      refine lv_iconst (v := 0) F.1 F.2.1 d_Model_read_61 (by decide) ?_
      obtain ⟨S_15, eS_15, h⟩ := nm_ex h
      refine mp_0_15 F hK hw lk_1026 d_Model_read_62 eS_15 (fun H locs hw => ?_)
      refine lv_aload_n F.1 F.2.1 d_Model_read_65 rfl (lv_at hl 0 rfl) ?_
      refine lv_iconst (v := 1) F.1 F.2.1 d_Model_read_66 (by decide) ?_
      refine lv_aload_n F.1 F.2.1 d_Model_read_67 rfl (lv_at hl 0 rfl) ?_
      refine mg_0_18 F hK hw lk_1029 d_Model_read_68 ?_
      refine lv_isub F.1 F.2.1 d_Model_read_71 ?_
      obtain ⟨S_16, eS_16, h⟩ := nm_ex h
      refine mp_0_19 F hK hw lk_1030 d_Model_read_72 eS_16 (fun H locs hw => ?_)
      refine lv_aload_n F.1 F.2.1 d_Model_read_75 rfl (lv_at hl 0 rfl) ?_
      refine mg_0_20 F hK hw lk_1031 d_Model_read_76 ?_
      refine lv_aload_n F.1 F.2.1 d_Model_read_79 rfl (lv_at hl 0 rfl) ?_
      refine mg_0_19 F hK hw lk_1030 d_Model_read_80 ?_
      refine lv_iconst (v := 0) F.1 F.2.1 d_Model_read_83 (by decide) ?_
      obtain ⟨hi_17, h⟩ := gd_ex h
      obtain ⟨S_18, eS_18, h⟩ := nm_ex h
      refine ms_0_20 F hK hw hi_17 d_Model_read_84 eS_18 (fun H locs hw => ?_)
      refine lv_aload_n F.1 F.2.1 d_Model_read_85 rfl (lv_at hl 0 rfl) ?_
      refine lv_lconst (v := 1) F.1 F.2.1 d_Model_read_86 (by decide) ?_
      obtain ⟨S_19, eS_19, h⟩ := nm_ex h
      refine mp_0_24 F hK hw lk_1035 d_Model_read_87 eS_19 (fun H locs hw => ?_)
      refine lv_iconst (v := 0) F.1 F.2.1 d_Model_read_90 (by decide) ?_
      refine lv_istore_n (lv' := [(1, .int (0 : Int32)), (0, .ref (ad 0 0))]) F.1 F.2.1 d_Model_read_91 rfl hl (by decide) rfl (fun ls hl => ?_)
      obtain ⟨S_24, hc_25, h⟩ := bd_ex h
      obtain ⟨X_92, eX_92⟩ : ∃ X : St → Prop, X = (fun q => ∀ (H : Heap) (locs : List Loc) (ls : Array Slot), Bw mw D ar A s.heap H locs ad q → lv_has ls 2 [(0, .ref (ad 0 0))] → W p l e (RM 7 157) s m args below meth c H locs 0 0 Q (F0 m 117 ls [])) := ⟨_, rfl⟩
      have hX_92 : X_92 S_24 := by
        rw [eX_92]
        intro H locs ls hw hl
        refine lv_aload_n F.1 F.2.1 d_Model_read_117 rfl (lv_at hl 0 rfl) ?_
        refine mg_0_31 F hK hw lk_1042 d_Model_read_118 ?_
        refine lv_aload_n F.1 F.2.1 d_Model_read_121 rfl (lv_at hl 0 rfl) ?_
        refine mg_0_19 F hK hw lk_1030 d_Model_read_122 ?_
        refine lv_iconst (v := 0) F.1 F.2.1 d_Model_read_125 (by decide) ?_
        obtain ⟨hi_26, h⟩ := gd_ex h
        obtain ⟨S_27, eS_27, h⟩ := nm_ex h
        refine ms_0_31 F hK hw hi_26 d_Model_read_126 eS_27 (fun H locs hw => ?_)
        refine lv_aload_n F.1 F.2.1 d_Model_read_127 rfl (lv_at hl 0 rfl) ?_
        refine lv_sipush (v := 500) F.1 F.2.1 d_Model_read_128 (by decide) ?_
        refine lv_aload_n F.1 F.2.1 d_Model_read_131 rfl (lv_at hl 0 rfl) ?_
        refine mg_0_19 F hK hw lk_1030 d_Model_read_132 ?_
        refine lv_imul F.1 F.2.1 d_Model_read_135 ?_
        obtain ⟨S_28, eS_28, h⟩ := nm_ex h
        refine mp_0_38 F hK hw lk_1049 d_Model_read_136 eS_28 (fun H locs hw => ?_)
        obtain ⟨S_35, hc_36, h⟩ := bd_ex h
        obtain ⟨X_139, eX_139⟩ : ∃ X : St → Prop, X = (fun q => ∀ (H : Heap) (locs : List Loc) (ls : Array Slot), Bw mw D ar A s.heap H locs ad q → lv_has ls 2 [(0, .ref (ad 0 0))] → W p l e (RM 7 157) s m args below meth c H locs 0 0 Q (F0 m 161 ls [])) := ⟨_, rfl⟩
        have hX_139 : X_139 S_35 := by
          rw [eX_139]
          intro H locs ls hw hl
          exact J_161 S_35 H locs ls hw (lv_sub hl [0] rfl) o h ho
        obtain ⟨P_139, eP_139⟩ : ∃ P : St → Prop, P = (fun q => ∀ (H : Heap) (locs : List Loc) (ls : Array Slot), Bw mw D ar A s.heap H locs ad q → lv_has ls 2 [(0, .ref (ad 0 0))] → W p l e (RM 7 157) s m args below meth c H locs 0 0 Q (F0 m 139 ls [])) := ⟨_, rfl⟩
        have hL_139 : P_139 S_28 := by
          refine wh_gp (P := P_139) (X := X_139) hc_36 hX_139 ?_
          clear h
          intro S o h ho
          have h : Model_read_l139 S = some o := h
          unfold Model_read_l139 at h
          rw [eP_139]
          intro H locs ls hw hl
          refine lv_aload_n F.1 F.2.1 d_Model_read_139 rfl (lv_at hl 0 rfl) ?_
          refine mg_0_13 F hK hw lk_1024 d_Model_read_140 ?_
          refine lv_if_ne (tgt := 161) F.1 F.2.1 d_Model_read_143 (by decide) (fun c_29 => ?_) (fun c_29 => ?_)
          · replace h := iq c_29 h
            cases h
            have ho : X_139 _ := ho
            rw [eX_139] at ho
            exact ho H locs ls hw (lv_sub hl [0] rfl)
          · replace h := ip c_29 h
            refine lv_aload_n F.1 F.2.1 d_Model_read_146 rfl (lv_at hl 0 rfl) ?_
            refine lv_iconst (v := 0) F.1 F.2.1 d_Model_read_147 (by decide) ?_
            obtain ⟨v_31, hc_30, h⟩ := bd_ex h
            refine cV_i F hA rfl hK hw (c_Model_is l hc_30) trivial rfl (good_V lk_1249 lk_1251 ls_62 lk_10 lk_1252) (mr_0 hK hw) hd_Model_is ⟨Nat.le_of_ble_eq_true rfl, Nat.le_of_ble_eq_true rfl⟩ rfl hl.1 rfl (Nat.le_of_ble_eq_true rfl) d_Model_read_148 ⟨(Nat.zero_le _), (Nat.zero_le _)⟩ (fun H locs hw => ?_)
            refine lv_if_ne (tgt := 161) F.1 F.2.1 d_Model_read_151 (by decide) (fun c_32 => ?_) (fun c_32 => ?_)
            · replace h := iq c_32 h
              cases h
              have ho : X_139 _ := ho
              rw [eX_139] at ho
              exact ho H locs ls hw (lv_sub hl [0] rfl)
            · replace h := ip c_32 h
              refine lv_aload_n F.1 F.2.1 d_Model_read_154 rfl (lv_at hl 0 rfl) ?_
              obtain ⟨S_34, hc_33, h⟩ := bd_ex h
              refine cV_v F hA rfl hK hw (c_Model_tell l hc_33) trivial rfl (good_V lk_1253 lk_1255 ls_63 lk_10 lk_1256) (mr_0 hK hw) hd_Model_tell ⟨Nat.le_of_ble_eq_true rfl, Nat.le_of_ble_eq_true rfl⟩ rfl hl.1 rfl (Nat.le_of_ble_eq_true rfl) d_Model_read_155 ⟨(Nat.zero_le _), (Nat.zero_le _)⟩ (fun H locs hw => ?_)
              refine lv_goto (tgt := 139) F.1 F.2.1 d_Model_read_158 (by decide) ?_
              cases h
              have ho : P_139 _ := ho
              rw [eP_139] at ho
              exact ho H locs ls hw (lv_sub hl [0] rfl)
        rw [eP_139] at hL_139
        exact hL_139 H locs ls hw (lv_sub hl [0] rfl)
      obtain ⟨P_92, eP_92⟩ : ∃ P : (St × Int32) → Prop, P = (fun q => ∀ (H : Heap) (locs : List Loc) (ls : Array Slot), Bw mw D ar A s.heap H locs ad q.1 → lv_has ls 2 [(0, .ref (ad 0 0)), (1, .int q.2)] → W p l e (RM 7 157) s m args below meth c H locs 0 0 Q (F0 m 92 ls [])) := ⟨_, rfl⟩
      have hL_92 : P_92 (S_19, (0 : Int32)) := by
        refine wh_gp (P := P_92) (X := X_92) hc_25 hX_92 ?_
        clear h
        intro q o h ho
        obtain ⟨S, x1⟩ := q
        have h : Model_read_l92 S x1 = some o := h
        unfold Model_read_l92 at h
        rw [eP_92]
        intro H locs ls hw hl
        refine lv_iload_n F.1 F.2.1 d_Model_read_92 rfl (lv_at hl 1 rfl) ?_
        refine lv_iconst (v := 5) F.1 F.2.1 d_Model_read_93 (by decide) ?_
        refine lv_icmp_ge (tgt := 117) F.1 F.2.1 d_Model_read_94 (by decide) (fun c_20 => ?_) (fun c_20 => ?_)
        · replace h := ip c_20 h
          cases h
          have ho : X_92 _ := ho
          rw [eX_92] at ho
          exact ho H locs ls hw (lv_sub hl [0] rfl)
        · replace h := iq c_20 h
          refine lv_aload_n F.1 F.2.1 d_Model_read_97 rfl (lv_at hl 0 rfl) ?_
          refine mg_0_25 F hK hw lk_1036 d_Model_read_98 ?_
          refine lv_iconst (v := 5) F.1 F.2.1 d_Model_read_101 (by decide) ?_
          refine lv_aload_n F.1 F.2.1 d_Model_read_102 rfl (lv_at hl 0 rfl) ?_
          refine mg_0_19 F hK hw lk_1030 d_Model_read_103 ?_
          refine lv_imul F.1 F.2.1 d_Model_read_106 ?_
          refine lv_iload_n F.1 F.2.1 d_Model_read_107 rfl (lv_at hl 1 rfl) ?_
          refine lv_iadd F.1 F.2.1 d_Model_read_108 ?_
          refine lv_iconst (v := 0) F.1 F.2.1 d_Model_read_109 (by decide) ?_
          obtain ⟨hi_21, h⟩ := gd_ex h
          obtain ⟨S_22, eS_22, h⟩ := nm_ex h
          refine ms_0_25 F hK hw hi_21 d_Model_read_110 eS_22 (fun H locs hw => ?_)
          obtain ⟨x1_23, ex1_23, h⟩ := nm_ex h
          refine lv_iinc (v := x1_23) (lv' := [(1, .int x1_23), (0, .ref (ad 0 0))]) F.1 F.2.1 d_Model_read_111 hl (k := 1) rfl (by rw [ex1_23]; rfl) (by decide) rfl (fun ls hl => ?_)
          refine lv_goto (tgt := 92) F.1 F.2.1 d_Model_read_114 (by decide) ?_
          cases h
          have ho : P_92 _ := ho
          rw [eP_92] at ho
          exact ho H locs ls hw (lv_sub hl [1, 0] rfl)
      rw [eP_92] at hL_92
      exact hL_92 H locs ls hw (lv_sub hl [1, 0] rfl)
    obtain ⟨P_10, eP_10⟩ : ∃ P : (St × Int32) → Prop, P = (fun q => ∀ (H : Heap) (locs : List Loc) (ls : Array Slot), Bw mw D ar A s.heap H locs ad q.1 → lv_has ls 2 [(0, .ref (ad 0 0)), (1, .int q.2)] → W p l e (RM 7 157) s m args below meth c H locs 0 0 Q (F0 m 10 ls [])) := ⟨_, rfl⟩
    have hL_10 : P_10 (S_1, (0 : Int32)) := by
      refine wh_gp (P := P_10) (X := X_10) hc_8 hX_10 ?_
      clear h
      intro q o h ho
      obtain ⟨S, x1⟩ := q
      have h : Model_read_l10 S x1 = some o := h
      unfold Model_read_l10 at h
      rw [eP_10]
      intro H locs ls hw hl
      refine lv_iload_n F.1 F.2.1 d_Model_read_10 rfl (lv_at hl 1 rfl) ?_
      refine lv_aload_n F.1 F.2.1 d_Model_read_11 rfl (lv_at hl 0 rfl) ?_
      refine mg_0_4 F hK hw lk_1015 d_Model_read_12 ?_
      refine lv_icmp_ge (tgt := 36) F.1 F.2.1 d_Model_read_15 (by decide) (fun c_2 => ?_) (fun c_2 => ?_)
      · replace h := ip c_2 h
        cases h
        have ho : X_10 _ := ho
        rw [eX_10] at ho
        exact ho H locs ls hw (lv_sub hl [0] rfl)
      · replace h := iq c_2 h
        refine lv_aload_n F.1 F.2.1 d_Model_read_18 rfl (lv_at hl 0 rfl) ?_
        refine mg_0_3 F hK hw lk_1014 d_Model_read_19 ?_
        refine lv_iload_n F.1 F.2.1 d_Model_read_22 rfl (lv_at hl 1 rfl) ?_
        refine lv_aload_n F.1 F.2.1 d_Model_read_23 rfl (lv_at hl 0 rfl) ?_
        refine mg_0_1 F hK hw lk_1012 d_Model_read_24 ?_
        refine lv_iload_n F.1 F.2.1 d_Model_read_27 rfl (lv_at hl 1 rfl) ?_
        obtain ⟨hi_3, h⟩ := gd_ex h
        refine ml_0_1 F hK hw hi_3 d_Model_read_28 ?_
        obtain ⟨hi_4, h⟩ := gd_ex h
        obtain ⟨S_5, eS_5, h⟩ := nm_ex h
        refine ms_0_3 F hK hw hi_4 d_Model_read_29 eS_5 (fun H locs hw => ?_)
        obtain ⟨x1_6, ex1_6, h⟩ := nm_ex h
        refine lv_iinc (v := x1_6) (lv' := [(1, .int x1_6), (0, .ref (ad 0 0))]) F.1 F.2.1 d_Model_read_30 hl (k := 1) rfl (by rw [ex1_6]; rfl) (by decide) rfl (fun ls hl => ?_)
        refine lv_goto (tgt := 10) F.1 F.2.1 d_Model_read_33 (by decide) ?_
        cases h
        have ho : P_10 _ := ho
        rw [eP_10] at ho
        exact ho H locs ls hw (lv_sub hl [1, 0] rfl)
    rw [eP_10] at hL_10
    exact hL_10 H locs ls hw (lv_sub hl [1, 0] rfl)
  exact key _ _ hw _ h (by rw [eX_0]; exact fun H locs pc ls hd hw => hQ H locs pc ls ad rfl hd hw)
theorem d_Model_place_0 : decode b_Model_place 0 = .ok (.aload_n 0, 1) := by decide +kernel
theorem d_Model_place_1 : decode b_Model_place 1 = .ok (.getfield 37, 3) := by decide +kernel
theorem d_Model_place_4 : decode b_Model_place 4 = .ok (.ireturn, 1) := by decide +kernel
set_option maxHeartbeats 4000000 in
set_option maxRecDepth 100000 in
theorem c_Model_place (l : Launch) {S : St} {r : Int32} (h : f_Model_place S = some r) : MI mw l y_Model_place b_Model_place 1 (some .int) 0 0 0 0 (fun ad => [.ref (ad 0 0)]) aT aE S r S := by
  refine MI_of "LawfulLotsModel" rfl (by decide) (fun _ => Nat.le_of_ble_eq_true rfl) ?_
  intro p e s m args below meth c D ar ad A Q ls hP F hK hA hw hl hQ
  have hl : lv_has ls 1 [(0, .ref (ad 0 0))] := hl
  obtain ⟨X_0, eX_0⟩ : ∃ X : Int32 → Prop, X = (fun q => ∀ (H : Heap) (locs : List Loc) (pc : Nat) (ls : Array Slot), decode b_Model_place pc = .ok (.ireturn, 1) → Bw mw D ar A s.heap H locs ad S → W p l e (RM 0 0) s m args below meth c H locs 0 0 Q (F0 m pc ls [.int q])) := ⟨_, rfl⟩
  have key : ∀ (H : Heap) (locs : List Loc), Bw mw D ar A s.heap H locs ad S → ∀ o, f_Model_place S = some o → X_0 o → W p l e (RM 0 0) s m args below meth c H locs 0 0 Q (F0 m 0 ls []) := by
    intro H locs hw o h ho
    unfold f_Model_place at h
    refine lv_aload_n F.1 F.2.1 d_Model_place_0 rfl (lv_at hl 0 rfl) ?_
    refine mg_0_17 F hK hw lk_1028 d_Model_place_1 ?_
    cases h
    have ho : X_0 _ := ho
    rw [eX_0] at ho
    exact ho H locs _ ls d_Model_place_4 hw
  exact key _ _ hw _ h (by rw [eX_0]; exact fun H locs pc ls hd hw => hQ H locs pc ls ad rfl hd hw)
theorem d_Model_turn_0 : decode b_Model_turn 0 = .ok (.iload_n 1, 1) := by decide +kernel
theorem d_Model_turn_1 : decode b_Model_turn 1 = .ok (.ifCond .lt 33, 3) := by decide +kernel
theorem d_Model_turn_4 : decode b_Model_turn 4 = .ok (.iload_n 1, 1) := by decide +kernel
theorem d_Model_turn_5 : decode b_Model_turn 5 = .ok (.aload_n 0, 1) := by decide +kernel
theorem d_Model_turn_6 : decode b_Model_turn 6 = .ok (.iconst 0, 1) := by decide +kernel
theorem d_Model_turn_7 : decode b_Model_turn 7 = .ok (.invokevirtual 294, 3) := by decide +kernel
theorem d_Model_turn_10 : decode b_Model_turn 10 = .ok (.if_icmp .ge 24, 3) := by decide +kernel
theorem d_Model_turn_13 : decode b_Model_turn 13 = .ok (.aload_n 0, 1) := by decide +kernel
theorem d_Model_turn_14 : decode b_Model_turn 14 = .ok (.getfield 123, 3) := by decide +kernel
theorem d_Model_turn_17 : decode b_Model_turn 17 = .ok (.iload_n 1, 1) := by decide +kernel
theorem d_Model_turn_18 : decode b_Model_turn 18 = .ok (.ishr, 1) := by decide +kernel
theorem d_Model_turn_19 : decode b_Model_turn 19 = .ok (.iconst 1, 1) := by decide +kernel
theorem d_Model_turn_20 : decode b_Model_turn 20 = .ok (.iand, 1) := by decide +kernel
theorem d_Model_turn_21 : decode b_Model_turn 21 = .ok (.iconst 1, 1) := by decide +kernel
theorem d_Model_turn_22 : decode b_Model_turn 22 = .ok (.if_icmp .ne 7, 3) := by decide +kernel
theorem d_Model_turn_25 : decode b_Model_turn 25 = .ok (.iconst 1, 1) := by decide +kernel
theorem d_Model_turn_26 : decode b_Model_turn 26 = .ok (.goto 4, 3) := by decide +kernel
theorem d_Model_turn_29 : decode b_Model_turn 29 = .ok (.iconst 0, 1) := by decide +kernel
theorem d_Model_turn_30 : decode b_Model_turn 30 = .ok (.iload_n 2, 1) := by decide +kernel
theorem d_Model_turn_31 : decode b_Model_turn 31 = .ok (.if_icmp .ne 5, 3) := by decide +kernel
theorem d_Model_turn_34 : decode b_Model_turn 34 = .ok (.iconst 0, 1) := by decide +kernel
theorem d_Model_turn_35 : decode b_Model_turn 35 = .ok (.ireturn, 1) := by decide +kernel
theorem d_Model_turn_36 : decode b_Model_turn 36 = .ok (.aload_n 0, 1) := by decide +kernel
theorem d_Model_turn_37 : decode b_Model_turn 37 = .ok (.dup, 1) := by decide +kernel
theorem d_Model_turn_38 : decode b_Model_turn 38 = .ok (.getfield 123, 3) := by decide +kernel
theorem d_Model_turn_41 : decode b_Model_turn 41 = .ok (.iconst 1, 1) := by decide +kernel
theorem d_Model_turn_42 : decode b_Model_turn 42 = .ok (.iload_n 1, 1) := by decide +kernel
theorem d_Model_turn_43 : decode b_Model_turn 43 = .ok (.ishl, 1) := by decide +kernel
theorem d_Model_turn_44 : decode b_Model_turn 44 = .ok (.ixor, 1) := by decide +kernel
theorem d_Model_turn_45 : decode b_Model_turn 45 = .ok (.putfield 123, 3) := by decide +kernel
theorem d_Model_turn_48 : decode b_Model_turn 48 = .ok (.aload_n 0, 1) := by decide +kernel
theorem d_Model_turn_49 : decode b_Model_turn 49 = .ok (.invokevirtual 312, 3) := by decide +kernel
theorem d_Model_turn_52 : decode b_Model_turn 52 = .ok (.iconst 1, 1) := by decide +kernel
theorem d_Model_turn_53 : decode b_Model_turn 53 = .ok (.ireturn, 1) := by decide +kernel
set_option maxHeartbeats 4000000 in
set_option maxRecDepth 100000 in
theorem c_Model_turn (l : Launch) {S : St} {x1 : Int32} {x2 : Int32} {S' : St} {r : Int32} (h : f_Model_turn S x1 x2 = some (r, S')) : MI mw l y_Model_turn b_Model_turn 3 (some .boolean) 4 104 0 0 (fun ad => [.ref (ad 0 0), .int x1, .int x2]) aT aE S r S' := by
  refine MZ_of "LawfulLotsModel" rfl (by decide) (fun _ => Nat.le_of_ble_eq_true rfl) ?_
  intro p e s m args below meth c D ar ad A Q ls hP F hK hA hw hl hQ
  have hl : lv_has ls 3 [(0, .ref (ad 0 0)), (1, .int x1), (2, .int x2)] := hl
  obtain ⟨X_0, eX_0⟩ : ∃ X : (Int32 × St) → Prop, X = (fun q => ∀ (H : Heap) (locs : List Loc) (pc : Nat) (ls : Array Slot), isB q.1 = true → decode b_Model_turn pc = .ok (.ireturn, 1) → Bw mw D ar A s.heap H locs ad q.2 → W p l e (RM 4 104) s m args below meth c H locs 0 0 Q (F0 m pc ls [.int q.1])) := ⟨_, rfl⟩
  have key : ∀ (H : Heap) (locs : List Loc), Bw mw D ar A s.heap H locs ad S → ∀ o, f_Model_turn S x1 x2 = some o → X_0 o → W p l e (RM 4 104) s m args below meth c H locs 0 0 Q (F0 m 0 ls []) := by
    intro H locs hw o h ho
    unfold f_Model_turn at h
    have J_34 : ∀ (S : St) (H : Heap) (locs : List Loc) (ls : Array Slot), Bw mw D ar A s.heap H locs ad S → lv_has ls 3 [] → ∀ o, Model_turn_j34 S = some o → X_0 o → W p l e (RM 4 104) s m args below meth c H locs 0 0 Q (F0 m 34 ls []) := by
      intro S H locs ls hw hl o h ho
      unfold Model_turn_j34 at h
      refine lv_iconst (v := 0) F.1 F.2.1 d_Model_turn_34 (by decide) ?_
      cases h
      have ho : X_0 _ := ho
      rw [eX_0] at ho
      exact ho H locs _ ls isB0 d_Model_turn_35 hw
    have J_30 : ∀ (S : St) (t0 : Int32) (H : Heap) (locs : List Loc) (ls : Array Slot), Bw mw D ar A s.heap H locs ad S → lv_has ls 3 [(0, .ref (ad 0 0)), (1, .int x1), (2, .int x2)] → ∀ o, Model_turn_j30 S x1 x2 t0 = some o → X_0 o → W p l e (RM 4 104) s m args below meth c H locs 0 0 Q (F0 m 30 ls [.int t0]) := by
      intro S t0 H locs ls hw hl o h ho
      unfold Model_turn_j30 at h
      refine lv_iload_n F.1 F.2.1 d_Model_turn_30 rfl (lv_at hl 2 rfl) ?_
      refine lv_icmp_ne (tgt := 36) F.1 F.2.1 d_Model_turn_31 (by decide) (fun c_6 => ?_) (fun c_6 => ?_)
      · replace h := iq c_6 h
        refine lv_aload_n F.1 F.2.1 d_Model_turn_36 rfl (lv_at hl 0 rfl) ?_
        refine lv_dup F.1 F.2.1 d_Model_turn_37 rfl ?_
        refine mg_0_52 F hK hw lk_1063 d_Model_turn_38 ?_
        refine lv_iconst (v := 1) F.1 F.2.1 d_Model_turn_41 (by decide) ?_
        refine lv_iload_n F.1 F.2.1 d_Model_turn_42 rfl (lv_at hl 1 rfl) ?_
        refine lv_ishl F.1 F.2.1 d_Model_turn_43 ?_
        refine lv_ixor F.1 F.2.1 d_Model_turn_44 ?_
        obtain ⟨S_7, eS_7, h⟩ := nm_ex h
        refine mp_0_52 F hK hw lk_1063 d_Model_turn_45 eS_7 (fun H locs hw => ?_)
        refine lv_aload_n F.1 F.2.1 d_Model_turn_48 rfl (lv_at hl 0 rfl) ?_
        obtain ⟨S_9, hc_8, h⟩ := bd_ex h
        refine cV_v F hA rfl hK hw (c_Model_settles l hc_8) trivial rfl (good_V lk_992 lk_994 ls_52 lk_10 lk_995) (mr_0 hK hw) hd_Model_settles ⟨Nat.le_of_ble_eq_true rfl, Nat.le_of_ble_eq_true rfl⟩ rfl hl.1 rfl (Nat.le_of_ble_eq_true rfl) d_Model_turn_49 ⟨(Nat.zero_le _), (Nat.zero_le _)⟩ (fun H locs hw => ?_)
        refine lv_iconst (v := 1) F.1 F.2.1 d_Model_turn_52 (by decide) ?_
        cases h
        have ho : X_0 _ := ho
        rw [eX_0] at ho
        exact ho H locs _ ls isB1 d_Model_turn_53 hw
      · replace h := ip c_6 h
        exact J_34 S H locs ls hw (lv_sub hl [] rfl) o h ho
    refine lv_iload_n F.1 F.2.1 d_Model_turn_0 rfl (lv_at hl 1 rfl) ?_
    refine lv_if_lt (tgt := 34) F.1 F.2.1 d_Model_turn_1 (by decide) (fun c_1 => ?_) (fun c_1 => ?_)
    · replace h := ip c_1 h
      exact J_34 S H locs ls hw (lv_sub hl [] rfl) o h ho
    · replace h := iq c_1 h
      refine lv_iload_n F.1 F.2.1 d_Model_turn_4 rfl (lv_at hl 1 rfl) ?_
      refine lv_aload_n F.1 F.2.1 d_Model_turn_5 rfl (lv_at hl 0 rfl) ?_
      refine lv_iconst (v := 0) F.1 F.2.1 d_Model_turn_6 (by decide) ?_
      obtain ⟨v_3, hc_2, h⟩ := bd_ex h
      refine cV_i F hA rfl hK hw (c_Model_tellsOf l hc_2) trivial rfl (good_V lk_976 lk_978 ls_48 lk_10 lk_979) (mr_0 hK hw) hd_Model_tellsOf ⟨Nat.le_of_ble_eq_true rfl, Nat.le_of_ble_eq_true rfl⟩ rfl hl.1 rfl (Nat.le_of_ble_eq_true rfl) d_Model_turn_7 ⟨(Nat.zero_le _), (Nat.zero_le _)⟩ (fun H locs hw => ?_)
      refine lv_icmp_ge (tgt := 34) F.1 F.2.1 d_Model_turn_10 (by decide) (fun c_4 => ?_) (fun c_4 => ?_)
      · replace h := ip c_4 h
        exact J_34 S H locs ls hw (lv_sub hl [] rfl) o h ho
      · replace h := iq c_4 h
        refine lv_aload_n F.1 F.2.1 d_Model_turn_13 rfl (lv_at hl 0 rfl) ?_
        refine mg_0_52 F hK hw lk_1063 d_Model_turn_14 ?_
        refine lv_iload_n F.1 F.2.1 d_Model_turn_17 rfl (lv_at hl 1 rfl) ?_
        refine lv_ishr F.1 F.2.1 d_Model_turn_18 ?_
        refine lv_iconst (v := 1) F.1 F.2.1 d_Model_turn_19 (by decide) ?_
        refine lv_iand F.1 F.2.1 d_Model_turn_20 ?_
        refine lv_iconst (v := 1) F.1 F.2.1 d_Model_turn_21 (by decide) ?_
        refine lv_icmp_ne (tgt := 29) F.1 F.2.1 d_Model_turn_22 (by decide) (fun c_5 => ?_) (fun c_5 => ?_)
        · replace h := iq c_5 h
          refine lv_iconst (v := 0) F.1 F.2.1 d_Model_turn_29 (by decide) ?_
          exact J_30 S (0 : Int32) H locs ls hw (lv_sub hl [0, 1, 2] rfl) o h ho
        · replace h := ip c_5 h
          refine lv_iconst (v := 1) F.1 F.2.1 d_Model_turn_25 (by decide) ?_
          refine lv_goto (tgt := 30) F.1 F.2.1 d_Model_turn_26 (by decide) ?_
          exact J_30 S (1 : Int32) H locs ls hw (lv_sub hl [0, 1, 2] rfl) o h ho
  exact key _ _ hw _ h (by rw [eX_0]; exact fun H locs pc ls hb hd hw => hQ H locs pc ls ad hb rfl hd hw)
theorem d_Model_lawful_0 : decode b_Model_lawful 0 = .ok (.aload_n 0, 1) := by decide +kernel
theorem d_Model_lawful_1 : decode b_Model_lawful 1 = .ok (.getfield 326, 3) := by decide +kernel
theorem d_Model_lawful_4 : decode b_Model_lawful 4 = .ok (.ireturn, 1) := by decide +kernel
set_option maxHeartbeats 4000000 in
set_option maxRecDepth 100000 in
theorem c_Model_lawful (l : Launch) {S : St} {r : Int32} (h : f_Model_lawful S = some r) : MI mw l y_Model_lawful b_Model_lawful 1 (some .int) 0 0 0 0 (fun ad => [.ref (ad 0 0)]) aT aE S r S := by
  refine MI_of "LawfulLotsModel" rfl (by decide) (fun _ => Nat.le_of_ble_eq_true rfl) ?_
  intro p e s m args below meth c D ar ad A Q ls hP F hK hA hw hl hQ
  have hl : lv_has ls 1 [(0, .ref (ad 0 0))] := hl
  obtain ⟨X_0, eX_0⟩ : ∃ X : Int32 → Prop, X = (fun q => ∀ (H : Heap) (locs : List Loc) (pc : Nat) (ls : Array Slot), decode b_Model_lawful pc = .ok (.ireturn, 1) → Bw mw D ar A s.heap H locs ad S → W p l e (RM 0 0) s m args below meth c H locs 0 0 Q (F0 m pc ls [.int q])) := ⟨_, rfl⟩
  have key : ∀ (H : Heap) (locs : List Loc), Bw mw D ar A s.heap H locs ad S → ∀ o, f_Model_lawful S = some o → X_0 o → W p l e (RM 0 0) s m args below meth c H locs 0 0 Q (F0 m 0 ls []) := by
    intro H locs hw o h ho
    unfold f_Model_lawful at h
    refine lv_aload_n F.1 F.2.1 d_Model_lawful_0 rfl (lv_at hl 0 rfl) ?_
    refine mg_0_54 F hK hw lk_1065 d_Model_lawful_1 ?_
    cases h
    have ho : X_0 _ := ho
    rw [eX_0] at ho
    exact ho H locs _ ls d_Model_lawful_4 hw
  exact key _ _ hw _ h (by rw [eX_0]; exact fun H locs pc ls hd hw => hQ H locs pc ls ad rfl hd hw)
theorem d_Model_kept_0 : decode b_Model_kept 0 = .ok (.aload_n 0, 1) := by decide +kernel
theorem d_Model_kept_1 : decode b_Model_kept 1 = .ok (.getfield 315, 3) := by decide +kernel
theorem d_Model_kept_4 : decode b_Model_kept 4 = .ok (.ireturn, 1) := by decide +kernel
set_option maxHeartbeats 4000000 in
set_option maxRecDepth 100000 in
theorem c_Model_kept (l : Launch) {S : St} {r : Int32} (h : f_Model_kept S = some r) : MI mw l y_Model_kept b_Model_kept 1 (some .int) 0 0 0 0 (fun ad => [.ref (ad 0 0)]) aT aE S r S := by
  refine MI_of "LawfulLotsModel" rfl (by decide) (fun _ => Nat.le_of_ble_eq_true rfl) ?_
  intro p e s m args below meth c D ar ad A Q ls hP F hK hA hw hl hQ
  have hl : lv_has ls 1 [(0, .ref (ad 0 0))] := hl
  obtain ⟨X_0, eX_0⟩ : ∃ X : Int32 → Prop, X = (fun q => ∀ (H : Heap) (locs : List Loc) (pc : Nat) (ls : Array Slot), decode b_Model_kept pc = .ok (.ireturn, 1) → Bw mw D ar A s.heap H locs ad S → W p l e (RM 0 0) s m args below meth c H locs 0 0 Q (F0 m pc ls [.int q])) := ⟨_, rfl⟩
  have key : ∀ (H : Heap) (locs : List Loc), Bw mw D ar A s.heap H locs ad S → ∀ o, f_Model_kept S = some o → X_0 o → W p l e (RM 0 0) s m args below meth c H locs 0 0 Q (F0 m 0 ls []) := by
    intro H locs hw o h ho
    unfold f_Model_kept at h
    refine lv_aload_n F.1 F.2.1 d_Model_kept_0 rfl (lv_at hl 0 rfl) ?_
    refine mg_0_53 F hK hw lk_1064 d_Model_kept_1 ?_
    cases h
    have ho : X_0 _ := ho
    rw [eX_0] at ho
    exact ho H locs _ ls d_Model_kept_4 hw
  exact key _ _ hw _ h (by rw [eX_0]; exact fun H locs pc ls hd hw => hQ H locs pc ls ad rfl hd hw)
theorem d_Model_isNumber_0 : decode b_Model_isNumber 0 = .ok (.iload_n 1, 1) := by decide +kernel
theorem d_Model_isNumber_1 : decode b_Model_isNumber 1 = .ok (.ifCond .lt 15, 3) := by decide +kernel
theorem d_Model_isNumber_4 : decode b_Model_isNumber 4 = .ok (.iload_n 1, 1) := by decide +kernel
theorem d_Model_isNumber_5 : decode b_Model_isNumber 5 = .ok (.aload_n 0, 1) := by decide +kernel
theorem d_Model_isNumber_6 : decode b_Model_isNumber 6 = .ok (.getfield 326, 3) := by decide +kernel
theorem d_Model_isNumber_9 : decode b_Model_isNumber 9 = .ok (.if_icmp .ge 7, 3) := by decide +kernel
theorem d_Model_isNumber_12 : decode b_Model_isNumber 12 = .ok (.iconst 1, 1) := by decide +kernel
theorem d_Model_isNumber_13 : decode b_Model_isNumber 13 = .ok (.goto 4, 3) := by decide +kernel
theorem d_Model_isNumber_16 : decode b_Model_isNumber 16 = .ok (.iconst 0, 1) := by decide +kernel
theorem d_Model_isNumber_17 : decode b_Model_isNumber 17 = .ok (.ireturn, 1) := by decide +kernel
set_option maxHeartbeats 4000000 in
set_option maxRecDepth 100000 in
theorem c_Model_isNumber (l : Launch) {S : St} {x1 : Int32} {r : Int32} (h : f_Model_isNumber S x1 = some r) : MI mw l y_Model_isNumber b_Model_isNumber 2 (some .boolean) 0 0 0 0 (fun ad => [.ref (ad 0 0), .int x1]) aT aE S r S := by
  refine MZ_of "LawfulLotsModel" rfl (by decide) (fun _ => Nat.le_of_ble_eq_true rfl) ?_
  intro p e s m args below meth c D ar ad A Q ls hP F hK hA hw hl hQ
  have hl : lv_has ls 2 [(0, .ref (ad 0 0)), (1, .int x1)] := hl
  obtain ⟨X_0, eX_0⟩ : ∃ X : Int32 → Prop, X = (fun q => ∀ (H : Heap) (locs : List Loc) (pc : Nat) (ls : Array Slot), isB q = true → decode b_Model_isNumber pc = .ok (.ireturn, 1) → Bw mw D ar A s.heap H locs ad S → W p l e (RM 0 0) s m args below meth c H locs 0 0 Q (F0 m pc ls [.int q])) := ⟨_, rfl⟩
  have key : ∀ (H : Heap) (locs : List Loc), Bw mw D ar A s.heap H locs ad S → ∀ o, f_Model_isNumber S x1 = some o → X_0 o → W p l e (RM 0 0) s m args below meth c H locs 0 0 Q (F0 m 0 ls []) := by
    intro H locs hw o h ho
    unfold f_Model_isNumber at h
    have J_17 : ∀ (t0 : Int32) (H : Heap) (locs : List Loc) (ls : Array Slot), Bw mw D ar A s.heap H locs ad S → lv_has ls 2 [] → ∀ o, Model_isNumber_j17 S t0 = some o → X_0 o → W p l e (RM 0 0) s m args below meth c H locs 0 0 Q (F0 m 17 ls [.int t0]) := by
      intro t0 H locs ls hw hl o h ho
      unfold Model_isNumber_j17 at h
      obtain ⟨hb_3, h⟩ := gd_ex h
      cases h
      have ho : X_0 _ := ho
      rw [eX_0] at ho
      exact ho H locs _ ls hb_3 d_Model_isNumber_17 hw
    have J_16 : ∀ (H : Heap) (locs : List Loc) (ls : Array Slot), Bw mw D ar A s.heap H locs ad S → lv_has ls 2 [] → ∀ o, Model_isNumber_j16 S = some o → X_0 o → W p l e (RM 0 0) s m args below meth c H locs 0 0 Q (F0 m 16 ls []) := by
      intro H locs ls hw hl o h ho
      unfold Model_isNumber_j16 at h
      refine lv_iconst (v := 0) F.1 F.2.1 d_Model_isNumber_16 (by decide) ?_
      exact J_17 (0 : Int32) H locs ls hw (lv_sub hl [] rfl) o h ho
    refine lv_iload_n F.1 F.2.1 d_Model_isNumber_0 rfl (lv_at hl 1 rfl) ?_
    refine lv_if_lt (tgt := 16) F.1 F.2.1 d_Model_isNumber_1 (by decide) (fun c_1 => ?_) (fun c_1 => ?_)
    · replace h := ip c_1 h
      exact J_16 H locs ls hw (lv_sub hl [] rfl) o h ho
    · replace h := iq c_1 h
      refine lv_iload_n F.1 F.2.1 d_Model_isNumber_4 rfl (lv_at hl 1 rfl) ?_
      refine lv_aload_n F.1 F.2.1 d_Model_isNumber_5 rfl (lv_at hl 0 rfl) ?_
      refine mg_0_54 F hK hw lk_1065 d_Model_isNumber_6 ?_
      refine lv_icmp_ge (tgt := 16) F.1 F.2.1 d_Model_isNumber_9 (by decide) (fun c_2 => ?_) (fun c_2 => ?_)
      · replace h := ip c_2 h
        exact J_16 H locs ls hw (lv_sub hl [] rfl) o h ho
      · replace h := iq c_2 h
        refine lv_iconst (v := 1) F.1 F.2.1 d_Model_isNumber_12 (by decide) ?_
        refine lv_goto (tgt := 17) F.1 F.2.1 d_Model_isNumber_13 (by decide) ?_
        exact J_17 (1 : Int32) H locs ls hw (lv_sub hl [] rfl) o h ho
  exact key _ _ hw _ h (by rw [eX_0]; exact fun H locs pc ls hb hd hw => hQ H locs pc ls ad hb rfl hd hw)
theorem d_Model_isField_0 : decode b_Model_isField 0 = .ok (.iload_n 1, 1) := by decide +kernel
theorem d_Model_isField_1 : decode b_Model_isField 1 = .ok (.ifCond .lt 20, 3) := by decide +kernel
theorem d_Model_isField_4 : decode b_Model_isField 4 = .ok (.iload_n 1, 1) := by decide +kernel
theorem d_Model_isField_5 : decode b_Model_isField 5 = .ok (.aload_n 0, 1) := by decide +kernel
theorem d_Model_isField_6 : decode b_Model_isField 6 = .ok (.getfield 40, 3) := by decide +kernel
theorem d_Model_isField_9 : decode b_Model_isField 9 = .ok (.aload_n 0, 1) := by decide +kernel
theorem d_Model_isField_10 : decode b_Model_isField 10 = .ok (.getfield 228, 3) := by decide +kernel
theorem d_Model_isField_13 : decode b_Model_isField 13 = .ok (.iaload, 1) := by decide +kernel
theorem d_Model_isField_14 : decode b_Model_isField 14 = .ok (.if_icmp .ge 7, 3) := by decide +kernel
theorem d_Model_isField_17 : decode b_Model_isField 17 = .ok (.iconst 1, 1) := by decide +kernel
theorem d_Model_isField_18 : decode b_Model_isField 18 = .ok (.goto 4, 3) := by decide +kernel
theorem d_Model_isField_21 : decode b_Model_isField 21 = .ok (.iconst 0, 1) := by decide +kernel
theorem d_Model_isField_22 : decode b_Model_isField 22 = .ok (.ireturn, 1) := by decide +kernel
set_option maxHeartbeats 4000000 in
set_option maxRecDepth 100000 in
theorem c_Model_isField (l : Launch) {S : St} {x1 : Int32} {r : Int32} (h : f_Model_isField S x1 = some r) : MI mw l y_Model_isField b_Model_isField 2 (some .boolean) 0 0 0 0 (fun ad => [.ref (ad 0 0), .int x1]) aT aE S r S := by
  refine MZ_of "LawfulLotsModel" rfl (by decide) (fun _ => Nat.le_of_ble_eq_true rfl) ?_
  intro p e s m args below meth c D ar ad A Q ls hP F hK hA hw hl hQ
  have hl : lv_has ls 2 [(0, .ref (ad 0 0)), (1, .int x1)] := hl
  obtain ⟨X_0, eX_0⟩ : ∃ X : Int32 → Prop, X = (fun q => ∀ (H : Heap) (locs : List Loc) (pc : Nat) (ls : Array Slot), isB q = true → decode b_Model_isField pc = .ok (.ireturn, 1) → Bw mw D ar A s.heap H locs ad S → W p l e (RM 0 0) s m args below meth c H locs 0 0 Q (F0 m pc ls [.int q])) := ⟨_, rfl⟩
  have key : ∀ (H : Heap) (locs : List Loc), Bw mw D ar A s.heap H locs ad S → ∀ o, f_Model_isField S x1 = some o → X_0 o → W p l e (RM 0 0) s m args below meth c H locs 0 0 Q (F0 m 0 ls []) := by
    intro H locs hw o h ho
    unfold f_Model_isField at h
    have J_22 : ∀ (t0 : Int32) (H : Heap) (locs : List Loc) (ls : Array Slot), Bw mw D ar A s.heap H locs ad S → lv_has ls 2 [] → ∀ o, Model_isField_j22 S t0 = some o → X_0 o → W p l e (RM 0 0) s m args below meth c H locs 0 0 Q (F0 m 22 ls [.int t0]) := by
      intro t0 H locs ls hw hl o h ho
      unfold Model_isField_j22 at h
      obtain ⟨hb_4, h⟩ := gd_ex h
      cases h
      have ho : X_0 _ := ho
      rw [eX_0] at ho
      exact ho H locs _ ls hb_4 d_Model_isField_22 hw
    have J_21 : ∀ (H : Heap) (locs : List Loc) (ls : Array Slot), Bw mw D ar A s.heap H locs ad S → lv_has ls 2 [] → ∀ o, Model_isField_j21 S = some o → X_0 o → W p l e (RM 0 0) s m args below meth c H locs 0 0 Q (F0 m 21 ls []) := by
      intro H locs ls hw hl o h ho
      unfold Model_isField_j21 at h
      refine lv_iconst (v := 0) F.1 F.2.1 d_Model_isField_21 (by decide) ?_
      exact J_22 (0 : Int32) H locs ls hw (lv_sub hl [] rfl) o h ho
    refine lv_iload_n F.1 F.2.1 d_Model_isField_0 rfl (lv_at hl 1 rfl) ?_
    refine lv_if_lt (tgt := 21) F.1 F.2.1 d_Model_isField_1 (by decide) (fun c_1 => ?_) (fun c_1 => ?_)
    · replace h := ip c_1 h
      exact J_21 H locs ls hw (lv_sub hl [] rfl) o h ho
    · replace h := iq c_1 h
      refine lv_iload_n F.1 F.2.1 d_Model_isField_4 rfl (lv_at hl 1 rfl) ?_
      refine lv_aload_n F.1 F.2.1 d_Model_isField_5 rfl (lv_at hl 0 rfl) ?_
      refine mg_0_20 F hK hw lk_1031 d_Model_isField_6 ?_
      refine lv_aload_n F.1 F.2.1 d_Model_isField_9 rfl (lv_at hl 0 rfl) ?_
      refine mg_0_18 F hK hw lk_1029 d_Model_isField_10 ?_
      obtain ⟨hi_2, h⟩ := gd_ex h
      refine ml_0_20 F hK hw hi_2 d_Model_isField_13 ?_
      refine lv_icmp_ge (tgt := 21) F.1 F.2.1 d_Model_isField_14 (by decide) (fun c_3 => ?_) (fun c_3 => ?_)
      · replace h := ip c_3 h
        exact J_21 H locs ls hw (lv_sub hl [] rfl) o h ho
      · replace h := iq c_3 h
        refine lv_iconst (v := 1) F.1 F.2.1 d_Model_isField_17 (by decide) ?_
        refine lv_goto (tgt := 22) F.1 F.2.1 d_Model_isField_18 (by decide) ?_
        exact J_22 (1 : Int32) H locs ls hw (lv_sub hl [] rfl) o h ho
  exact key _ _ hw _ h (by rw [eX_0]; exact fun H locs pc ls hb hd hw => hQ H locs pc ls ad hb rfl hd hw)
theorem d_Model_isBin_0 : decode b_Model_isBin 0 = .ok (.iload_n 1, 1) := by decide +kernel
theorem d_Model_isBin_1 : decode b_Model_isBin 1 = .ok (.ifCond .lt 16, 3) := by decide +kernel
theorem d_Model_isBin_4 : decode b_Model_isBin 4 = .ok (.iload_n 1, 1) := by decide +kernel
theorem d_Model_isBin_5 : decode b_Model_isBin 5 = .ok (.aload_n 0, 1) := by decide +kernel
theorem d_Model_isBin_6 : decode b_Model_isBin 6 = .ok (.iconst 2, 1) := by decide +kernel
theorem d_Model_isBin_7 : decode b_Model_isBin 7 = .ok (.invokevirtual 294, 3) := by decide +kernel
theorem d_Model_isBin_10 : decode b_Model_isBin 10 = .ok (.if_icmp .ge 7, 3) := by decide +kernel
theorem d_Model_isBin_13 : decode b_Model_isBin 13 = .ok (.iconst 1, 1) := by decide +kernel
theorem d_Model_isBin_14 : decode b_Model_isBin 14 = .ok (.goto 4, 3) := by decide +kernel
theorem d_Model_isBin_17 : decode b_Model_isBin 17 = .ok (.iconst 0, 1) := by decide +kernel
theorem d_Model_isBin_18 : decode b_Model_isBin 18 = .ok (.ireturn, 1) := by decide +kernel
set_option maxHeartbeats 4000000 in
set_option maxRecDepth 100000 in
theorem c_Model_isBin (l : Launch) {S : St} {x1 : Int32} {r : Int32} (h : f_Model_isBin S x1 = some r) : MI mw l y_Model_isBin b_Model_isBin 2 (some .boolean) 1 21 0 0 (fun ad => [.ref (ad 0 0), .int x1]) aT aE S r S := by
  refine MZ_of "LawfulLotsModel" rfl (by decide) (fun _ => Nat.le_of_ble_eq_true rfl) ?_
  intro p e s m args below meth c D ar ad A Q ls hP F hK hA hw hl hQ
  have hl : lv_has ls 2 [(0, .ref (ad 0 0)), (1, .int x1)] := hl
  obtain ⟨X_0, eX_0⟩ : ∃ X : Int32 → Prop, X = (fun q => ∀ (H : Heap) (locs : List Loc) (pc : Nat) (ls : Array Slot), isB q = true → decode b_Model_isBin pc = .ok (.ireturn, 1) → Bw mw D ar A s.heap H locs ad S → W p l e (RM 1 21) s m args below meth c H locs 0 0 Q (F0 m pc ls [.int q])) := ⟨_, rfl⟩
  have key : ∀ (H : Heap) (locs : List Loc), Bw mw D ar A s.heap H locs ad S → ∀ o, f_Model_isBin S x1 = some o → X_0 o → W p l e (RM 1 21) s m args below meth c H locs 0 0 Q (F0 m 0 ls []) := by
    intro H locs hw o h ho
    unfold f_Model_isBin at h
    have J_18 : ∀ (t0 : Int32) (H : Heap) (locs : List Loc) (ls : Array Slot), Bw mw D ar A s.heap H locs ad S → lv_has ls 2 [] → ∀ o, Model_isBin_j18 S t0 = some o → X_0 o → W p l e (RM 1 21) s m args below meth c H locs 0 0 Q (F0 m 18 ls [.int t0]) := by
      intro t0 H locs ls hw hl o h ho
      unfold Model_isBin_j18 at h
      obtain ⟨hb_5, h⟩ := gd_ex h
      cases h
      have ho : X_0 _ := ho
      rw [eX_0] at ho
      exact ho H locs _ ls hb_5 d_Model_isBin_18 hw
    have J_17 : ∀ (H : Heap) (locs : List Loc) (ls : Array Slot), Bw mw D ar A s.heap H locs ad S → lv_has ls 2 [] → ∀ o, Model_isBin_j17 S = some o → X_0 o → W p l e (RM 1 21) s m args below meth c H locs 0 0 Q (F0 m 17 ls []) := by
      intro H locs ls hw hl o h ho
      unfold Model_isBin_j17 at h
      refine lv_iconst (v := 0) F.1 F.2.1 d_Model_isBin_17 (by decide) ?_
      exact J_18 (0 : Int32) H locs ls hw (lv_sub hl [] rfl) o h ho
    refine lv_iload_n F.1 F.2.1 d_Model_isBin_0 rfl (lv_at hl 1 rfl) ?_
    refine lv_if_lt (tgt := 17) F.1 F.2.1 d_Model_isBin_1 (by decide) (fun c_1 => ?_) (fun c_1 => ?_)
    · replace h := ip c_1 h
      exact J_17 H locs ls hw (lv_sub hl [] rfl) o h ho
    · replace h := iq c_1 h
      refine lv_iload_n F.1 F.2.1 d_Model_isBin_4 rfl (lv_at hl 1 rfl) ?_
      refine lv_aload_n F.1 F.2.1 d_Model_isBin_5 rfl (lv_at hl 0 rfl) ?_
      refine lv_iconst (v := 2) F.1 F.2.1 d_Model_isBin_6 (by decide) ?_
      obtain ⟨v_3, hc_2, h⟩ := bd_ex h
      refine cV_i F hA rfl hK hw (c_Model_tellsOf l hc_2) trivial rfl (good_V lk_976 lk_978 ls_48 lk_10 lk_979) (mr_0 hK hw) hd_Model_tellsOf ⟨Nat.le_of_ble_eq_true rfl, Nat.le_of_ble_eq_true rfl⟩ rfl hl.1 rfl (Nat.le_of_ble_eq_true rfl) d_Model_isBin_7 ⟨(Nat.zero_le _), (Nat.zero_le _)⟩ (fun H locs hw => ?_)
      refine lv_icmp_ge (tgt := 17) F.1 F.2.1 d_Model_isBin_10 (by decide) (fun c_4 => ?_) (fun c_4 => ?_)
      · replace h := ip c_4 h
        exact J_17 H locs ls hw (lv_sub hl [] rfl) o h ho
      · replace h := iq c_4 h
        refine lv_iconst (v := 1) F.1 F.2.1 d_Model_isBin_13 (by decide) ?_
        refine lv_goto (tgt := 18) F.1 F.2.1 d_Model_isBin_14 (by decide) ?_
        exact J_18 (1 : Int32) H locs ls hw (lv_sub hl [] rfl) o h ho
  exact key _ _ hw _ h (by rw [eX_0]; exact fun H locs pc ls hb hd hw => hQ H locs pc ls ad hb rfl hd hw)
theorem d_Model_value_0 : decode b_Model_value 0 = .ok (.aload_n 0, 1) := by decide +kernel
theorem d_Model_value_1 : decode b_Model_value 1 = .ok (.iload_n 1, 1) := by decide +kernel
theorem d_Model_value_2 : decode b_Model_value 2 = .ok (.invokevirtual 338, 3) := by decide +kernel
theorem d_Model_value_5 : decode b_Model_value 5 = .ok (.ifCond .eq 25, 3) := by decide +kernel
theorem d_Model_value_8 : decode b_Model_value 8 = .ok (.aload_n 0, 1) := by decide +kernel
theorem d_Model_value_9 : decode b_Model_value 9 = .ok (.iload_n 2, 1) := by decide +kernel
theorem d_Model_value_10 : decode b_Model_value 10 = .ok (.invokevirtual 341, 3) := by decide +kernel
theorem d_Model_value_13 : decode b_Model_value 13 = .ok (.ifCond .eq 17, 3) := by decide +kernel
theorem d_Model_value_16 : decode b_Model_value 16 = .ok (.aload_n 0, 1) := by decide +kernel
theorem d_Model_value_17 : decode b_Model_value 17 = .ok (.aload_n 0, 1) := by decide +kernel
theorem d_Model_value_18 : decode b_Model_value 18 = .ok (.getfield 126, 3) := by decide +kernel
theorem d_Model_value_21 : decode b_Model_value 21 = .ok (.iload_n 1, 1) := by decide +kernel
theorem d_Model_value_22 : decode b_Model_value 22 = .ok (.iaload, 1) := by decide +kernel
theorem d_Model_value_23 : decode b_Model_value 23 = .ok (.iload_n 2, 1) := by decide +kernel
theorem d_Model_value_24 : decode b_Model_value 24 = .ok (.invokevirtual 291, 3) := by decide +kernel
theorem d_Model_value_27 : decode b_Model_value 27 = .ok (.goto 4, 3) := by decide +kernel
theorem d_Model_value_30 : decode b_Model_value 30 = .ok (.iconst (-1), 1) := by decide +kernel
theorem d_Model_value_31 : decode b_Model_value 31 = .ok (.ireturn, 1) := by decide +kernel
set_option maxHeartbeats 4000000 in
set_option maxRecDepth 100000 in
theorem c_Model_value (l : Launch) {S : St} {x1 : Int32} {x2 : Int32} {r : Int32} (h : f_Model_value S x1 x2 = some r) : MI mw l y_Model_value b_Model_value 3 (some .int) 1 22 0 0 (fun ad => [.ref (ad 0 0), .int x1, .int x2]) aT aE S r S := by
  refine MI_of "LawfulLotsModel" rfl (by decide) (fun _ => Nat.le_of_ble_eq_true rfl) ?_
  intro p e s m args below meth c D ar ad A Q ls hP F hK hA hw hl hQ
  have hl : lv_has ls 3 [(0, .ref (ad 0 0)), (1, .int x1), (2, .int x2)] := hl
  obtain ⟨X_0, eX_0⟩ : ∃ X : Int32 → Prop, X = (fun q => ∀ (H : Heap) (locs : List Loc) (pc : Nat) (ls : Array Slot), decode b_Model_value pc = .ok (.ireturn, 1) → Bw mw D ar A s.heap H locs ad S → W p l e (RM 1 22) s m args below meth c H locs 0 0 Q (F0 m pc ls [.int q])) := ⟨_, rfl⟩
  have key : ∀ (H : Heap) (locs : List Loc), Bw mw D ar A s.heap H locs ad S → ∀ o, f_Model_value S x1 x2 = some o → X_0 o → W p l e (RM 1 22) s m args below meth c H locs 0 0 Q (F0 m 0 ls []) := by
    intro H locs hw o h ho
    unfold f_Model_value at h
    have J_31 : ∀ (t0 : Int32) (H : Heap) (locs : List Loc) (ls : Array Slot), Bw mw D ar A s.heap H locs ad S → lv_has ls 3 [] → ∀ o, Model_value_j31 S t0 = some o → X_0 o → W p l e (RM 1 22) s m args below meth c H locs 0 0 Q (F0 m 31 ls [.int t0]) := by
      intro t0 H locs ls hw hl o h ho
      unfold Model_value_j31 at h
      cases h
      have ho : X_0 _ := ho
      rw [eX_0] at ho
      exact ho H locs _ ls d_Model_value_31 hw
    have J_30 : ∀ (H : Heap) (locs : List Loc) (ls : Array Slot), Bw mw D ar A s.heap H locs ad S → lv_has ls 3 [] → ∀ o, Model_value_j30 S = some o → X_0 o → W p l e (RM 1 22) s m args below meth c H locs 0 0 Q (F0 m 30 ls []) := by
      intro H locs ls hw hl o h ho
      unfold Model_value_j30 at h
      refine lv_iconst (v := -1) F.1 F.2.1 d_Model_value_30 (by decide) ?_
      exact J_31 (-1 : Int32) H locs ls hw (lv_sub hl [] rfl) o h ho
    refine lv_aload_n F.1 F.2.1 d_Model_value_0 rfl (lv_at hl 0 rfl) ?_
    refine lv_iload_n F.1 F.2.1 d_Model_value_1 rfl (lv_at hl 1 rfl) ?_
    obtain ⟨v_2, hc_1, h⟩ := bd_ex h
    refine cV_i F hA rfl hK hw (c_Model_isNumber l hc_1) trivial rfl (good_V lk_1323 lk_1325 ls_75 lk_10 lk_1326) (mr_0 hK hw) hd_Model_isNumber ⟨Nat.le_of_ble_eq_true rfl, Nat.le_of_ble_eq_true rfl⟩ rfl hl.1 rfl (Nat.le_of_ble_eq_true rfl) d_Model_value_2 ⟨(Nat.zero_le _), (Nat.zero_le _)⟩ (fun H locs hw => ?_)
    refine lv_if_eq (tgt := 30) F.1 F.2.1 d_Model_value_5 (by decide) (fun c_3 => ?_) (fun c_3 => ?_)
    · replace h := ip c_3 h
      exact J_30 H locs ls hw (lv_sub hl [] rfl) o h ho
    · replace h := iq c_3 h
      refine lv_aload_n F.1 F.2.1 d_Model_value_8 rfl (lv_at hl 0 rfl) ?_
      refine lv_iload_n F.1 F.2.1 d_Model_value_9 rfl (lv_at hl 2 rfl) ?_
      obtain ⟨v_5, hc_4, h⟩ := bd_ex h
      refine cV_i F hA rfl hK hw (c_Model_isField l hc_4) trivial rfl (good_V lk_1327 lk_1329 ls_76 lk_10 lk_1330) (mr_0 hK hw) hd_Model_isField ⟨Nat.le_of_ble_eq_true rfl, Nat.le_of_ble_eq_true rfl⟩ rfl hl.1 rfl (Nat.le_of_ble_eq_true rfl) d_Model_value_10 ⟨(Nat.zero_le _), (Nat.zero_le _)⟩ (fun H locs hw => ?_)
      refine lv_if_eq (tgt := 30) F.1 F.2.1 d_Model_value_13 (by decide) (fun c_6 => ?_) (fun c_6 => ?_)
      · replace h := ip c_6 h
        exact J_30 H locs ls hw (lv_sub hl [] rfl) o h ho
      · replace h := iq c_6 h
        refine lv_aload_n F.1 F.2.1 d_Model_value_16 rfl (lv_at hl 0 rfl) ?_
        refine lv_aload_n F.1 F.2.1 d_Model_value_17 rfl (lv_at hl 0 rfl) ?_
        refine mg_0_55 F hK hw lk_1066 d_Model_value_18 ?_
        refine lv_iload_n F.1 F.2.1 d_Model_value_21 rfl (lv_at hl 1 rfl) ?_
        obtain ⟨hi_7, h⟩ := gd_ex h
        refine ml_0_55 F hK hw hi_7 d_Model_value_22 ?_
        refine lv_iload_n F.1 F.2.1 d_Model_value_23 rfl (lv_at hl 2 rfl) ?_
        obtain ⟨v_9, hc_8, h⟩ := bd_ex h
        refine cV_i F hA rfl hK hw (c_Model_valueOf l hc_8) trivial rfl (good_V lk_968 lk_970 ls_46 lk_10 lk_971) (mr_0 hK hw) hd_Model_valueOf ⟨Nat.le_of_ble_eq_true rfl, Nat.le_of_ble_eq_true rfl⟩ rfl hl.1 rfl (Nat.le_of_ble_eq_true rfl) d_Model_value_24 ⟨(Nat.zero_le _), (Nat.zero_le _)⟩ (fun H locs hw => ?_)
        refine lv_goto (tgt := 31) F.1 F.2.1 d_Model_value_27 (by decide) ?_
        exact J_31 v_9 H locs ls hw (lv_sub hl [] rfl) o h ho
  exact key _ _ hw _ h (by rw [eX_0]; exact fun H locs pc ls hd hw => hQ H locs pc ls ad rfl hd hw)
theorem d_Model_share_0 : decode b_Model_share 0 = .ok (.aload_n 0, 1) := by decide +kernel
theorem d_Model_share_1 : decode b_Model_share 1 = .ok (.iload_n 1, 1) := by decide +kernel
theorem d_Model_share_2 : decode b_Model_share 2 = .ok (.invokevirtual 338, 3) := by decide +kernel
theorem d_Model_share_5 : decode b_Model_share 5 = .ok (.ifCond .eq 12, 3) := by decide +kernel
theorem d_Model_share_8 : decode b_Model_share 8 = .ok (.aload_n 0, 1) := by decide +kernel
theorem d_Model_share_9 : decode b_Model_share 9 = .ok (.getfield 129, 3) := by decide +kernel
theorem d_Model_share_12 : decode b_Model_share 12 = .ok (.iload_n 1, 1) := by decide +kernel
theorem d_Model_share_13 : decode b_Model_share 13 = .ok (.iaload, 1) := by decide +kernel
theorem d_Model_share_14 : decode b_Model_share 14 = .ok (.goto 4, 3) := by decide +kernel
theorem d_Model_share_17 : decode b_Model_share 17 = .ok (.iconst (-1), 1) := by decide +kernel
theorem d_Model_share_18 : decode b_Model_share 18 = .ok (.ireturn, 1) := by decide +kernel
set_option maxHeartbeats 4000000 in
set_option maxRecDepth 100000 in
theorem c_Model_share (l : Launch) {S : St} {x1 : Int32} {r : Int32} (h : f_Model_share S x1 = some r) : MI mw l y_Model_share b_Model_share 2 (some .int) 1 21 0 0 (fun ad => [.ref (ad 0 0), .int x1]) aT aE S r S := by
  refine MI_of "LawfulLotsModel" rfl (by decide) (fun _ => Nat.le_of_ble_eq_true rfl) ?_
  intro p e s m args below meth c D ar ad A Q ls hP F hK hA hw hl hQ
  have hl : lv_has ls 2 [(0, .ref (ad 0 0)), (1, .int x1)] := hl
  obtain ⟨X_0, eX_0⟩ : ∃ X : Int32 → Prop, X = (fun q => ∀ (H : Heap) (locs : List Loc) (pc : Nat) (ls : Array Slot), decode b_Model_share pc = .ok (.ireturn, 1) → Bw mw D ar A s.heap H locs ad S → W p l e (RM 1 21) s m args below meth c H locs 0 0 Q (F0 m pc ls [.int q])) := ⟨_, rfl⟩
  have key : ∀ (H : Heap) (locs : List Loc), Bw mw D ar A s.heap H locs ad S → ∀ o, f_Model_share S x1 = some o → X_0 o → W p l e (RM 1 21) s m args below meth c H locs 0 0 Q (F0 m 0 ls []) := by
    intro H locs hw o h ho
    unfold f_Model_share at h
    have J_18 : ∀ (t0 : Int32) (H : Heap) (locs : List Loc) (ls : Array Slot), Bw mw D ar A s.heap H locs ad S → lv_has ls 2 [] → ∀ o, Model_share_j18 S t0 = some o → X_0 o → W p l e (RM 1 21) s m args below meth c H locs 0 0 Q (F0 m 18 ls [.int t0]) := by
      intro t0 H locs ls hw hl o h ho
      unfold Model_share_j18 at h
      cases h
      have ho : X_0 _ := ho
      rw [eX_0] at ho
      exact ho H locs _ ls d_Model_share_18 hw
    refine lv_aload_n F.1 F.2.1 d_Model_share_0 rfl (lv_at hl 0 rfl) ?_
    refine lv_iload_n F.1 F.2.1 d_Model_share_1 rfl (lv_at hl 1 rfl) ?_
    obtain ⟨v_2, hc_1, h⟩ := bd_ex h
    refine cV_i F hA rfl hK hw (c_Model_isNumber l hc_1) trivial rfl (good_V lk_1323 lk_1325 ls_75 lk_10 lk_1326) (mr_0 hK hw) hd_Model_isNumber ⟨Nat.le_of_ble_eq_true rfl, Nat.le_of_ble_eq_true rfl⟩ rfl hl.1 rfl (Nat.le_of_ble_eq_true rfl) d_Model_share_2 ⟨(Nat.zero_le _), (Nat.zero_le _)⟩ (fun H locs hw => ?_)
    refine lv_if_eq (tgt := 17) F.1 F.2.1 d_Model_share_5 (by decide) (fun c_3 => ?_) (fun c_3 => ?_)
    · replace h := ip c_3 h
      refine lv_iconst (v := -1) F.1 F.2.1 d_Model_share_17 (by decide) ?_
      exact J_18 (-1 : Int32) H locs ls hw (lv_sub hl [] rfl) o h ho
    · replace h := iq c_3 h
      refine lv_aload_n F.1 F.2.1 d_Model_share_8 rfl (lv_at hl 0 rfl) ?_
      refine mg_0_56 F hK hw lk_1067 d_Model_share_9 ?_
      refine lv_iload_n F.1 F.2.1 d_Model_share_12 rfl (lv_at hl 1 rfl) ?_
      obtain ⟨hi_4, h⟩ := gd_ex h
      refine ml_0_56 F hK hw hi_4 d_Model_share_13 ?_
      refine lv_goto (tgt := 18) F.1 F.2.1 d_Model_share_14 (by decide) ?_
      exact J_18 (gA S 0 56 x1.toNatClampNeg) H locs ls hw (lv_sub hl [] rfl) o h ho
  exact key _ _ hw _ h (by rw [eX_0]; exact fun H locs pc ls hd hw => hQ H locs pc ls ad rfl hd hw)
theorem d_Model_sum_0 : decode b_Model_sum 0 = .ok (.aload_n 0, 1) := by decide +kernel
theorem d_Model_sum_1 : decode b_Model_sum 1 = .ok (.getfield 329, 3) := by decide +kernel
theorem d_Model_sum_4 : decode b_Model_sum 4 = .ok (.ireturn, 1) := by decide +kernel
set_option maxHeartbeats 4000000 in
set_option maxRecDepth 100000 in
theorem c_Model_sum (l : Launch) {S : St} {r : Int32} (h : f_Model_sum S = some r) : MI mw l y_Model_sum b_Model_sum 1 (some .int) 0 0 0 0 (fun ad => [.ref (ad 0 0)]) aT aE S r S := by
  refine MI_of "LawfulLotsModel" rfl (by decide) (fun _ => Nat.le_of_ble_eq_true rfl) ?_
  intro p e s m args below meth c D ar ad A Q ls hP F hK hA hw hl hQ
  have hl : lv_has ls 1 [(0, .ref (ad 0 0))] := hl
  obtain ⟨X_0, eX_0⟩ : ∃ X : Int32 → Prop, X = (fun q => ∀ (H : Heap) (locs : List Loc) (pc : Nat) (ls : Array Slot), decode b_Model_sum pc = .ok (.ireturn, 1) → Bw mw D ar A s.heap H locs ad S → W p l e (RM 0 0) s m args below meth c H locs 0 0 Q (F0 m pc ls [.int q])) := ⟨_, rfl⟩
  have key : ∀ (H : Heap) (locs : List Loc), Bw mw D ar A s.heap H locs ad S → ∀ o, f_Model_sum S = some o → X_0 o → W p l e (RM 0 0) s m args below meth c H locs 0 0 Q (F0 m 0 ls []) := by
    intro H locs hw o h ho
    unfold f_Model_sum at h
    refine lv_aload_n F.1 F.2.1 d_Model_sum_0 rfl (lv_at hl 0 rfl) ?_
    refine mg_0_57 F hK hw lk_1068 d_Model_sum_1 ?_
    cases h
    have ho : X_0 _ := ho
    rw [eX_0] at ho
    exact ho H locs _ ls d_Model_sum_4 hw
  exact key _ _ hw _ h (by rw [eX_0]; exact fun H locs pc ls hd hw => hQ H locs pc ls ad rfl hd hw)
theorem d_Model_picked_0 : decode b_Model_picked 0 = .ok (.iconst 0, 1) := by decide +kernel
theorem d_Model_picked_1 : decode b_Model_picked 1 = .ok (.istore_n 2, 1) := by decide +kernel
theorem d_Model_picked_2 : decode b_Model_picked 2 = .ok (.iconst 0, 1) := by decide +kernel
theorem d_Model_picked_3 : decode b_Model_picked 3 = .ok (.istore_n 3, 1) := by decide +kernel
theorem d_Model_picked_4 : decode b_Model_picked 4 = .ok (.iload_n 3, 1) := by decide +kernel
theorem d_Model_picked_5 : decode b_Model_picked 5 = .ok (.aload_n 0, 1) := by decide +kernel
theorem d_Model_picked_6 : decode b_Model_picked 6 = .ok (.getfield 326, 3) := by decide +kernel
theorem d_Model_picked_9 : decode b_Model_picked 9 = .ok (.if_icmp .ge 25, 3) := by decide +kernel
theorem d_Model_picked_12 : decode b_Model_picked 12 = .ok (.iload_n 2, 1) := by decide +kernel
theorem d_Model_picked_13 : decode b_Model_picked 13 = .ok (.aload_n 0, 1) := by decide +kernel
theorem d_Model_picked_14 : decode b_Model_picked 14 = .ok (.getfield 129, 3) := by decide +kernel
theorem d_Model_picked_17 : decode b_Model_picked 17 = .ok (.iload_n 3, 1) := by decide +kernel
theorem d_Model_picked_18 : decode b_Model_picked 18 = .ok (.iaload, 1) := by decide +kernel
theorem d_Model_picked_19 : decode b_Model_picked 19 = .ok (.iadd, 1) := by decide +kernel
theorem d_Model_picked_20 : decode b_Model_picked 20 = .ok (.istore_n 2, 1) := by decide +kernel
theorem d_Model_picked_21 : decode b_Model_picked 21 = .ok (.iload_n 2, 1) := by decide +kernel
theorem d_Model_picked_22 : decode b_Model_picked 22 = .ok (.iload_n 1, 1) := by decide +kernel
theorem d_Model_picked_23 : decode b_Model_picked 23 = .ok (.if_icmp .le 5, 3) := by decide +kernel
theorem d_Model_picked_26 : decode b_Model_picked 26 = .ok (.iload_n 3, 1) := by decide +kernel
theorem d_Model_picked_27 : decode b_Model_picked 27 = .ok (.ireturn, 1) := by decide +kernel
theorem d_Model_picked_28 : decode b_Model_picked 28 = .ok (.iinc 3 1, 3) := by decide +kernel
theorem d_Model_picked_31 : decode b_Model_picked 31 = .ok (.goto (-27), 3) := by decide +kernel
theorem d_Model_picked_34 : decode b_Model_picked 34 = .ok (.iconst (-1), 1) := by decide +kernel
theorem d_Model_picked_35 : decode b_Model_picked 35 = .ok (.ireturn, 1) := by decide +kernel
set_option maxHeartbeats 4000000 in
set_option maxRecDepth 100000 in
theorem c_Model_picked (l : Launch) {S : St} {x1 : Int32} {r : Int32} (h : f_Model_picked S x1 = some r) : MI mw l y_Model_picked b_Model_picked 4 (some .int) 0 0 0 0 (fun ad => [.ref (ad 0 0), .int x1]) aT aE S r S := by
  refine MI_of "LawfulLotsModel" rfl (by decide) (fun _ => Nat.le_of_ble_eq_true rfl) ?_
  intro p e s m args below meth c D ar ad A Q ls hP F hK hA hw hl hQ
  have hl : lv_has ls 4 [(0, .ref (ad 0 0)), (1, .int x1)] := hl
  obtain ⟨X_0, eX_0⟩ : ∃ X : Int32 → Prop, X = (fun q => ∀ (H : Heap) (locs : List Loc) (pc : Nat) (ls : Array Slot), decode b_Model_picked pc = .ok (.ireturn, 1) → Bw mw D ar A s.heap H locs ad S → W p l e (RM 0 0) s m args below meth c H locs 0 0 Q (F0 m pc ls [.int q])) := ⟨_, rfl⟩
  have key : ∀ (H : Heap) (locs : List Loc), Bw mw D ar A s.heap H locs ad S → ∀ o, f_Model_picked S x1 = some o → X_0 o → W p l e (RM 0 0) s m args below meth c H locs 0 0 Q (F0 m 0 ls []) := by
    intro H locs hw o h ho
    unfold f_Model_picked at h
    refine lv_iconst (v := 0) F.1 F.2.1 d_Model_picked_0 (by decide) ?_
    refine lv_istore_n (lv' := [(2, .int (0 : Int32)), (0, .ref (ad 0 0)), (1, .int x1)]) F.1 F.2.1 d_Model_picked_1 rfl hl (by decide) rfl (fun ls hl => ?_)
    refine lv_iconst (v := 0) F.1 F.2.1 d_Model_picked_2 (by decide) ?_
    refine lv_istore_n (lv' := [(3, .int (0 : Int32)), (2, .int (0 : Int32)), (0, .ref (ad 0 0)), (1, .int x1)]) F.1 F.2.1 d_Model_picked_3 rfl hl (by decide) rfl (fun ls hl => ?_)
    obtain ⟨P_4, eP_4⟩ : ∃ P : (Int32 × Int32) → Prop, P = (fun q => ∀ (H : Heap) (locs : List Loc) (ls : Array Slot), Bw mw D ar A s.heap H locs ad S → lv_has ls 4 [(0, .ref (ad 0 0)), (1, .int x1), (2, .int q.1), (3, .int q.2)] → W p l e (RM 0 0) s m args below meth c H locs 0 0 Q (F0 m 4 ls [])) := ⟨_, rfl⟩
    have hL_4 : P_4 ((0 : Int32), (0 : Int32)) := by
      refine wh_gp (P := P_4) (X := X_0) h ho ?_
      clear h ho
      intro q o h ho
      obtain ⟨x2, x3⟩ := q
      have h : Model_picked_l4 S x1 x2 x3 = some o := h
      unfold Model_picked_l4 at h
      rw [eP_4]
      intro H locs ls hw hl
      refine lv_iload_n F.1 F.2.1 d_Model_picked_4 rfl (lv_at hl 3 rfl) ?_
      refine lv_aload_n F.1 F.2.1 d_Model_picked_5 rfl (lv_at hl 0 rfl) ?_
      refine mg_0_54 F hK hw lk_1065 d_Model_picked_6 ?_
      refine lv_icmp_ge (tgt := 34) F.1 F.2.1 d_Model_picked_9 (by decide) (fun c_1 => ?_) (fun c_1 => ?_)
      · replace h := ip c_1 h
        refine lv_iconst (v := -1) F.1 F.2.1 d_Model_picked_34 (by decide) ?_
        cases h
        have ho : X_0 _ := ho
        rw [eX_0] at ho
        exact ho H locs _ ls d_Model_picked_35 hw
      · replace h := iq c_1 h
        refine lv_iload_n F.1 F.2.1 d_Model_picked_12 rfl (lv_at hl 2 rfl) ?_
        refine lv_aload_n F.1 F.2.1 d_Model_picked_13 rfl (lv_at hl 0 rfl) ?_
        refine mg_0_56 F hK hw lk_1067 d_Model_picked_14 ?_
        refine lv_iload_n F.1 F.2.1 d_Model_picked_17 rfl (lv_at hl 3 rfl) ?_
        obtain ⟨hi_2, h⟩ := gd_ex h
        refine ml_0_56 F hK hw hi_2 d_Model_picked_18 ?_
        refine lv_iadd F.1 F.2.1 d_Model_picked_19 ?_
        obtain ⟨x2_3, ex2_3, h⟩ := nm_ex h
        refine lv_nm ex2_3 ?_
        refine lv_istore_n (lv' := [(2, .int x2_3), (0, .ref (ad 0 0)), (1, .int x1), (3, .int x3)]) F.1 F.2.1 d_Model_picked_20 rfl hl (by decide) rfl (fun ls hl => ?_)
        refine lv_iload_n F.1 F.2.1 d_Model_picked_21 rfl (lv_at hl 0 rfl) ?_
        refine lv_iload_n F.1 F.2.1 d_Model_picked_22 rfl (lv_at hl 2 rfl) ?_
        refine lv_icmp_le (tgt := 28) F.1 F.2.1 d_Model_picked_23 (by decide) (fun c_4 => ?_) (fun c_4 => ?_)
        · replace h := ip c_4 h
          obtain ⟨x3_5, ex3_5, h⟩ := nm_ex h
          refine lv_iinc (v := x3_5) (lv' := [(3, .int x3_5), (2, .int x2_3), (0, .ref (ad 0 0)), (1, .int x1)]) F.1 F.2.1 d_Model_picked_28 hl (k := 3) rfl (by rw [ex3_5]; rfl) (by decide) rfl (fun ls hl => ?_)
          refine lv_goto (tgt := 4) F.1 F.2.1 d_Model_picked_31 (by decide) ?_
          cases h
          have ho : P_4 _ := ho
          rw [eP_4] at ho
          exact ho H locs ls hw (lv_sub hl [2, 3, 1, 0] rfl)
        · replace h := iq c_4 h
          refine lv_iload_n F.1 F.2.1 d_Model_picked_26 rfl (lv_at hl 3 rfl) ?_
          cases h
          have ho : X_0 _ := ho
          rw [eX_0] at ho
          exact ho H locs _ ls d_Model_picked_27 hw
    rw [eP_4] at hL_4
    exact hL_4 H locs ls hw (lv_sub hl [2, 3, 1, 0] rfl)
  exact key _ _ hw _ h (by rw [eX_0]; exact fun H locs pc ls hd hw => hQ H locs pc ls ad rfl hd hw)
theorem d_Model_pick_0 : decode b_Model_pick 0 = .ok (.iload_n 1, 1) := by decide +kernel
theorem d_Model_pick_1 : decode b_Model_pick 1 = .ok (.ifCond .lt 11, 3) := by decide +kernel
theorem d_Model_pick_4 : decode b_Model_pick 4 = .ok (.iload_n 1, 1) := by decide +kernel
theorem d_Model_pick_5 : decode b_Model_pick 5 = .ok (.aload_n 0, 1) := by decide +kernel
theorem d_Model_pick_6 : decode b_Model_pick 6 = .ok (.getfield 329, 3) := by decide +kernel
theorem d_Model_pick_9 : decode b_Model_pick 9 = .ok (.if_icmp .lt 7, 3) := by decide +kernel
theorem d_Model_pick_12 : decode b_Model_pick 12 = .ok (.iconst (-1), 1) := by decide +kernel
theorem d_Model_pick_13 : decode b_Model_pick 13 = .ok (.goto 8, 3) := by decide +kernel
theorem d_Model_pick_16 : decode b_Model_pick 16 = .ok (.aload_n 0, 1) := by decide +kernel
theorem d_Model_pick_17 : decode b_Model_pick 17 = .ok (.iload_n 1, 1) := by decide +kernel
theorem d_Model_pick_18 : decode b_Model_pick 18 = .ok (.invokevirtual 344, 3) := by decide +kernel
theorem d_Model_pick_21 : decode b_Model_pick 21 = .ok (.ireturn, 1) := by decide +kernel
set_option maxHeartbeats 4000000 in
set_option maxRecDepth 100000 in
theorem c_Model_pick (l : Launch) {S : St} {x1 : Int32} {r : Int32} (h : f_Model_pick S x1 = some r) : MI mw l y_Model_pick b_Model_pick 2 (some .int) 1 23 0 0 (fun ad => [.ref (ad 0 0), .int x1]) aT aE S r S := by
  refine MI_of "LawfulLotsModel" rfl (by decide) (fun _ => Nat.le_of_ble_eq_true rfl) ?_
  intro p e s m args below meth c D ar ad A Q ls hP F hK hA hw hl hQ
  have hl : lv_has ls 2 [(0, .ref (ad 0 0)), (1, .int x1)] := hl
  obtain ⟨X_0, eX_0⟩ : ∃ X : Int32 → Prop, X = (fun q => ∀ (H : Heap) (locs : List Loc) (pc : Nat) (ls : Array Slot), decode b_Model_pick pc = .ok (.ireturn, 1) → Bw mw D ar A s.heap H locs ad S → W p l e (RM 1 23) s m args below meth c H locs 0 0 Q (F0 m pc ls [.int q])) := ⟨_, rfl⟩
  have key : ∀ (H : Heap) (locs : List Loc), Bw mw D ar A s.heap H locs ad S → ∀ o, f_Model_pick S x1 = some o → X_0 o → W p l e (RM 1 23) s m args below meth c H locs 0 0 Q (F0 m 0 ls []) := by
    intro H locs hw o h ho
    unfold f_Model_pick at h
    have J_21 : ∀ (t0 : Int32) (H : Heap) (locs : List Loc) (ls : Array Slot), Bw mw D ar A s.heap H locs ad S → lv_has ls 2 [] → ∀ o, Model_pick_j21 S t0 = some o → X_0 o → W p l e (RM 1 23) s m args below meth c H locs 0 0 Q (F0 m 21 ls [.int t0]) := by
      intro t0 H locs ls hw hl o h ho
      unfold Model_pick_j21 at h
      cases h
      have ho : X_0 _ := ho
      rw [eX_0] at ho
      exact ho H locs _ ls d_Model_pick_21 hw
    have J_12 : ∀ (H : Heap) (locs : List Loc) (ls : Array Slot), Bw mw D ar A s.heap H locs ad S → lv_has ls 2 [] → ∀ o, Model_pick_j12 S = some o → X_0 o → W p l e (RM 1 23) s m args below meth c H locs 0 0 Q (F0 m 12 ls []) := by
      intro H locs ls hw hl o h ho
      unfold Model_pick_j12 at h
      refine lv_iconst (v := -1) F.1 F.2.1 d_Model_pick_12 (by decide) ?_
      refine lv_goto (tgt := 21) F.1 F.2.1 d_Model_pick_13 (by decide) ?_
      exact J_21 (-1 : Int32) H locs ls hw (lv_sub hl [] rfl) o h ho
    refine lv_iload_n F.1 F.2.1 d_Model_pick_0 rfl (lv_at hl 1 rfl) ?_
    refine lv_if_lt (tgt := 12) F.1 F.2.1 d_Model_pick_1 (by decide) (fun c_1 => ?_) (fun c_1 => ?_)
    · replace h := ip c_1 h
      exact J_12 H locs ls hw (lv_sub hl [] rfl) o h ho
    · replace h := iq c_1 h
      refine lv_iload_n F.1 F.2.1 d_Model_pick_4 rfl (lv_at hl 1 rfl) ?_
      refine lv_aload_n F.1 F.2.1 d_Model_pick_5 rfl (lv_at hl 0 rfl) ?_
      refine mg_0_57 F hK hw lk_1068 d_Model_pick_6 ?_
      refine lv_icmp_lt (tgt := 16) F.1 F.2.1 d_Model_pick_9 (by decide) (fun c_2 => ?_) (fun c_2 => ?_)
      · replace h := ip c_2 h
        refine lv_aload_n F.1 F.2.1 d_Model_pick_16 rfl (lv_at hl 0 rfl) ?_
        refine lv_iload_n F.1 F.2.1 d_Model_pick_17 rfl (lv_at hl 1 rfl) ?_
        obtain ⟨v_4, hc_3, h⟩ := bd_ex h
        refine cV_i F hA rfl hK hw (c_Model_picked l hc_3) trivial rfl (good_V lk_1343 lk_1345 ls_77 lk_10 lk_1346) (mr_0 hK hw) hd_Model_picked ⟨Nat.le_of_ble_eq_true rfl, Nat.le_of_ble_eq_true rfl⟩ rfl hl.1 rfl (Nat.le_of_ble_eq_true rfl) d_Model_pick_18 ⟨(Nat.zero_le _), (Nat.zero_le _)⟩ (fun H locs hw => ?_)
        exact J_21 v_4 H locs ls hw (lv_sub hl [] rfl) o h ho
      · replace h := iq c_2 h
        exact J_12 H locs ls hw (lv_sub hl [] rfl) o h ho
  exact key _ _ hw _ h (by rw [eX_0]; exact fun H locs pc ls hd hw => hQ H locs pc ls ad rfl hd hw)
theorem d_Model_draw_0 : decode b_Model_draw 0 = .ok (.aload_n 0, 1) := by decide +kernel
theorem d_Model_draw_1 : decode b_Model_draw 1 = .ok (.getfield 329, 3) := by decide +kernel
theorem d_Model_draw_4 : decode b_Model_draw 4 = .ok (.ifCond .eq 7, 3) := by decide +kernel
theorem d_Model_draw_7 : decode b_Model_draw 7 = .ok (.iload_n 3, 1) := by decide +kernel
theorem d_Model_draw_8 : decode b_Model_draw 8 = .ok (.ifCond .ge 5, 3) := by decide +kernel
theorem d_Model_draw_11 : decode b_Model_draw 11 = .ok (.iconst (-1), 1) := by decide +kernel
theorem d_Model_draw_12 : decode b_Model_draw 12 = .ok (.ireturn, 1) := by decide +kernel
theorem d_Model_draw_13 : decode b_Model_draw 13 = .ok (.lload_n 1, 1) := by decide +kernel
theorem d_Model_draw_14 : decode b_Model_draw 14 = .ok (.ldc2_w 347, 3) := by decide +kernel
theorem d_Model_draw_17 : decode b_Model_draw 17 = .ok (.lmul, 1) := by decide +kernel
theorem d_Model_draw_18 : decode b_Model_draw 18 = .ok (.iload_n 3, 1) := by decide +kernel
theorem d_Model_draw_19 : decode b_Model_draw 19 = .ok (.i2l, 1) := by decide +kernel
theorem d_Model_draw_20 : decode b_Model_draw 20 = .ok (.ladd, 1) := by decide +kernel
theorem d_Model_draw_21 : decode b_Model_draw 21 = .ok (.lconst 1, 1) := by decide +kernel
theorem d_Model_draw_22 : decode b_Model_draw 22 = .ok (.ladd, 1) := by decide +kernel
theorem d_Model_draw_23 : decode b_Model_draw 23 = .ok (.ldc2_w 349, 3) := by decide +kernel
theorem d_Model_draw_26 : decode b_Model_draw 26 = .ok (.lmul, 1) := by decide +kernel
theorem d_Model_draw_27 : decode b_Model_draw 27 = .ok (.lstore 4, 2) := by decide +kernel
theorem d_Model_draw_29 : decode b_Model_draw 29 = .ok (.lload 4, 2) := by decide +kernel
theorem d_Model_draw_31 : decode b_Model_draw 31 = .ok (.lload 4, 2) := by decide +kernel
theorem d_Model_draw_33 : decode b_Model_draw 33 = .ok (.bipush 29, 2) := by decide +kernel
theorem d_Model_draw_35 : decode b_Model_draw 35 = .ok (.lushr, 1) := by decide +kernel
theorem d_Model_draw_36 : decode b_Model_draw 36 = .ok (.lxor, 1) := by decide +kernel
theorem d_Model_draw_37 : decode b_Model_draw 37 = .ok (.lstore 6, 2) := by decide +kernel
theorem d_Model_draw_39 : decode b_Model_draw 39 = .ok (.aload_n 0, 1) := by decide +kernel
theorem d_Model_draw_40 : decode b_Model_draw 40 = .ok (.lload 6, 2) := by decide +kernel
theorem d_Model_draw_42 : decode b_Model_draw 42 = .ok (.iconst 1, 1) := by decide +kernel
theorem d_Model_draw_43 : decode b_Model_draw 43 = .ok (.lushr, 1) := by decide +kernel
theorem d_Model_draw_44 : decode b_Model_draw 44 = .ok (.aload_n 0, 1) := by decide +kernel
theorem d_Model_draw_45 : decode b_Model_draw 45 = .ok (.getfield 329, 3) := by decide +kernel
theorem d_Model_draw_48 : decode b_Model_draw 48 = .ok (.i2l, 1) := by decide +kernel
theorem d_Model_draw_49 : decode b_Model_draw 49 = .ok (.lrem, 1) := by decide +kernel
theorem d_Model_draw_50 : decode b_Model_draw 50 = .ok (.l2i, 1) := by decide +kernel
theorem d_Model_draw_51 : decode b_Model_draw 51 = .ok (.invokevirtual 344, 3) := by decide +kernel
theorem d_Model_draw_54 : decode b_Model_draw 54 = .ok (.istore 8, 2) := by decide +kernel
theorem d_Model_draw_56 : decode b_Model_draw 56 = .ok (.aload_n 0, 1) := by decide +kernel
theorem d_Model_draw_57 : decode b_Model_draw 57 = .ok (.getfield 244, 3) := by decide +kernel
theorem d_Model_draw_60 : decode b_Model_draw 60 = .ok (.sipush 200, 3) := by decide +kernel
theorem d_Model_draw_63 : decode b_Model_draw 63 = .ok (.if_icmp .ge 29, 3) := by decide +kernel
theorem d_Model_draw_66 : decode b_Model_draw 66 = .ok (.aload_n 0, 1) := by decide +kernel
theorem d_Model_draw_67 : decode b_Model_draw 67 = .ok (.getfield 132, 3) := by decide +kernel
theorem d_Model_draw_70 : decode b_Model_draw 70 = .ok (.aload_n 0, 1) := by decide +kernel
theorem d_Model_draw_71 : decode b_Model_draw 71 = .ok (.getfield 244, 3) := by decide +kernel
theorem d_Model_draw_74 : decode b_Model_draw 74 = .ok (.aload_n 0, 1) := by decide +kernel
theorem d_Model_draw_75 : decode b_Model_draw 75 = .ok (.getfield 126, 3) := by decide +kernel
theorem d_Model_draw_78 : decode b_Model_draw 78 = .ok (.iload 8, 2) := by decide +kernel
theorem d_Model_draw_80 : decode b_Model_draw 80 = .ok (.iaload, 1) := by decide +kernel
theorem d_Model_draw_81 : decode b_Model_draw 81 = .ok (.iastore, 1) := by decide +kernel
theorem d_Model_draw_82 : decode b_Model_draw 82 = .ok (.aload_n 0, 1) := by decide +kernel
theorem d_Model_draw_83 : decode b_Model_draw 83 = .ok (.dup, 1) := by decide +kernel
theorem d_Model_draw_84 : decode b_Model_draw 84 = .ok (.getfield 244, 3) := by decide +kernel
theorem d_Model_draw_87 : decode b_Model_draw 87 = .ok (.iconst 1, 1) := by decide +kernel
theorem d_Model_draw_88 : decode b_Model_draw 88 = .ok (.iadd, 1) := by decide +kernel
theorem d_Model_draw_89 : decode b_Model_draw 89 = .ok (.putfield 244, 3) := by decide +kernel
theorem d_Model_draw_92 : decode b_Model_draw 92 = .ok (.iload 8, 2) := by decide +kernel
theorem d_Model_draw_94 : decode b_Model_draw 94 = .ok (.ireturn, 1) := by decide +kernel
set_option maxHeartbeats 4000000 in
set_option maxRecDepth 100000 in
theorem c_Model_draw (l : Launch) {S : St} {x1 : Int64} {x3 : Int32} {S' : St} {r : Int32} (h : f_Model_draw S x1 x3 = some (r, S')) : MI mw l y_Model_draw b_Model_draw 9 (some .int) 1 23 0 0 (fun ad => [.ref (ad 0 0), .long x1, .int x3]) aT aE S r S' := by
  refine MI_of "LawfulLotsModel" rfl (by decide) (fun _ => Nat.le_of_ble_eq_true rfl) ?_
  intro p e s m args below meth c D ar ad A Q ls hP F hK hA hw hl hQ
  have hl : lv_has ls 9 [(0, .ref (ad 0 0)), (1, .long x1), (3, .int x3)] := hl
  obtain ⟨X_0, eX_0⟩ : ∃ X : (Int32 × St) → Prop, X = (fun q => ∀ (H : Heap) (locs : List Loc) (pc : Nat) (ls : Array Slot), decode b_Model_draw pc = .ok (.ireturn, 1) → Bw mw D ar A s.heap H locs ad q.2 → W p l e (RM 1 23) s m args below meth c H locs 0 0 Q (F0 m pc ls [.int q.1])) := ⟨_, rfl⟩
  have key : ∀ (H : Heap) (locs : List Loc), Bw mw D ar A s.heap H locs ad S → ∀ o, f_Model_draw S x1 x3 = some o → X_0 o → W p l e (RM 1 23) s m args below meth c H locs 0 0 Q (F0 m 0 ls []) := by
    intro H locs hw o h ho
    unfold f_Model_draw at h
    have J_92 : ∀ (S : St) (x8 : Int32) (H : Heap) (locs : List Loc) (ls : Array Slot), Bw mw D ar A s.heap H locs ad S → lv_has ls 9 [(8, .int x8)] → ∀ o, Model_draw_j92 S x8 = some o → X_0 o → W p l e (RM 1 23) s m args below meth c H locs 0 0 Q (F0 m 92 ls []) := by
      intro S x8 H locs ls hw hl o h ho
      unfold Model_draw_j92 at h
      refine lv_iload F.1 F.2.1 d_Model_draw_92 (lv_at hl 0 rfl) ?_
      cases h
      have ho : X_0 _ := ho
      rw [eX_0] at ho
      exact ho H locs _ ls d_Model_draw_94 hw
    have J_11 : ∀ (S : St) (H : Heap) (locs : List Loc) (ls : Array Slot), Bw mw D ar A s.heap H locs ad S → lv_has ls 9 [] → ∀ o, Model_draw_j11 S = some o → X_0 o → W p l e (RM 1 23) s m args below meth c H locs 0 0 Q (F0 m 11 ls []) := by
      intro S H locs ls hw hl o h ho
      unfold Model_draw_j11 at h
      refine lv_iconst (v := -1) F.1 F.2.1 d_Model_draw_11 (by decide) ?_
      cases h
      have ho : X_0 _ := ho
      rw [eX_0] at ho
      exact ho H locs _ ls d_Model_draw_12 hw
    refine lv_aload_n F.1 F.2.1 d_Model_draw_0 rfl (lv_at hl 0 rfl) ?_
    refine mg_0_57 F hK hw lk_1068 d_Model_draw_1 ?_
    refine lv_if_eq (tgt := 11) F.1 F.2.1 d_Model_draw_4 (by decide) (fun c_1 => ?_) (fun c_1 => ?_)
    · replace h := ip c_1 h
      exact J_11 S H locs ls hw (lv_sub hl [] rfl) o h ho
    · replace h := iq c_1 h
      refine lv_iload_n F.1 F.2.1 d_Model_draw_7 rfl (lv_at hl 2 rfl) ?_
      refine lv_if_ge (tgt := 13) F.1 F.2.1 d_Model_draw_8 (by decide) (fun c_2 => ?_) (fun c_2 => ?_)
      · replace h := ip c_2 h
        refine lv_lload_n F.1 F.2.1 d_Model_draw_13 rfl (lv_at hl 1 rfl) ?_
        refine lv_ldc2 F.1 F.2.1 F.2.2.2.1 (F.2.2.2.2 _ lk_1351) d_Model_draw_14 ?_
        refine lv_lmul F.1 F.2.1 d_Model_draw_17 ?_
        refine lv_iload_n F.1 F.2.1 d_Model_draw_18 rfl (lv_at hl 2 rfl) ?_
        refine lv_i2l F.1 F.2.1 d_Model_draw_19 rfl ?_
        refine lv_ladd F.1 F.2.1 d_Model_draw_20 ?_
        refine lv_lconst (v := 1) F.1 F.2.1 d_Model_draw_21 (by decide) ?_
        refine lv_ladd F.1 F.2.1 d_Model_draw_22 ?_
        refine lv_ldc2 F.1 F.2.1 F.2.2.2.1 (F.2.2.2.2 _ lk_1352) d_Model_draw_23 ?_
        refine lv_lmul F.1 F.2.1 d_Model_draw_26 ?_
        obtain ⟨x4_3, ex4_3, h⟩ := nm_ex h
        refine lv_nmL ex4_3 ?_
        refine lv_lstore (lv' := [(4, .long x4_3), (0, .ref (ad 0 0)), (1, .long x1), (3, .int x3)]) F.1 F.2.1 d_Model_draw_27 hl (by decide) rfl (fun ls hl => ?_)
        refine lv_lload F.1 F.2.1 d_Model_draw_29 (lv_at hl 0 rfl) ?_
        refine lv_lload F.1 F.2.1 d_Model_draw_31 (lv_at hl 0 rfl) ?_
        refine lv_bipush (v := 29) F.1 F.2.1 d_Model_draw_33 (by decide) ?_
        refine lv_lushr F.1 F.2.1 d_Model_draw_35 rfl ?_
        refine lv_lxor F.1 F.2.1 d_Model_draw_36 ?_
        obtain ⟨x6_4, ex6_4, h⟩ := nm_ex h
        refine lv_nmL ex6_4 ?_
        refine lv_lstore (lv' := [(6, .long x6_4), (4, .long x4_3), (0, .ref (ad 0 0)), (1, .long x1), (3, .int x3)]) F.1 F.2.1 d_Model_draw_37 hl (by decide) rfl (fun ls hl => ?_)
        refine lv_aload_n F.1 F.2.1 d_Model_draw_39 rfl (lv_at hl 2 rfl) ?_
        refine lv_lload F.1 F.2.1 d_Model_draw_40 (lv_at hl 0 rfl) ?_
        refine lv_iconst (v := 1) F.1 F.2.1 d_Model_draw_42 (by decide) ?_
        refine lv_lushr F.1 F.2.1 d_Model_draw_43 rfl ?_
        refine lv_aload_n F.1 F.2.1 d_Model_draw_44 rfl (lv_at hl 2 rfl) ?_
        refine mg_0_57 F hK hw lk_1068 d_Model_draw_45 ?_
        refine lv_i2l F.1 F.2.1 d_Model_draw_48 rfl ?_
        obtain ⟨hz_5, h⟩ := gd_ex h
        refine lv_lrem F.1 F.2.1 d_Model_draw_49 (of_decide_eq_true hz_5) ?_
        refine lv_l2i F.1 F.2.1 d_Model_draw_50 rfl ?_
        obtain ⟨v_7, hc_6, h⟩ := bd_ex h
        refine cV_i F hA rfl hK hw (c_Model_picked l hc_6) trivial rfl (good_V lk_1343 lk_1345 ls_77 lk_10 lk_1346) (mr_0 hK hw) hd_Model_picked ⟨Nat.le_of_ble_eq_true rfl, Nat.le_of_ble_eq_true rfl⟩ rfl hl.1 rfl (Nat.le_of_ble_eq_true rfl) d_Model_draw_51 ⟨(Nat.zero_le _), (Nat.zero_le _)⟩ (fun H locs hw => ?_)
        refine lv_istore (lv' := [(8, .int v_7), (6, .long x6_4), (4, .long x4_3), (0, .ref (ad 0 0)), (1, .long x1), (3, .int x3)]) F.1 F.2.1 d_Model_draw_54 hl (by decide) rfl (fun ls hl => ?_)
        refine lv_aload_n F.1 F.2.1 d_Model_draw_56 rfl (lv_at hl 3 rfl) ?_
        refine mg_0_58 F hK hw lk_1069 d_Model_draw_57 ?_
        refine lv_sipush (v := 200) F.1 F.2.1 d_Model_draw_60 (by decide) ?_
        refine lv_icmp_ge (tgt := 92) F.1 F.2.1 d_Model_draw_63 (by decide) (fun c_8 => ?_) (fun c_8 => ?_)
        · replace h := ip c_8 h
          exact J_92 S v_7 H locs ls hw (lv_sub hl [0] rfl) o h ho
        · replace h := iq c_8 h
          refine lv_aload_n F.1 F.2.1 d_Model_draw_66 rfl (lv_at hl 3 rfl) ?_
          refine mg_0_59 F hK hw lk_1070 d_Model_draw_67 ?_
          refine lv_aload_n F.1 F.2.1 d_Model_draw_70 rfl (lv_at hl 3 rfl) ?_
          refine mg_0_58 F hK hw lk_1069 d_Model_draw_71 ?_
          refine lv_aload_n F.1 F.2.1 d_Model_draw_74 rfl (lv_at hl 3 rfl) ?_
          refine mg_0_55 F hK hw lk_1066 d_Model_draw_75 ?_
          refine lv_iload F.1 F.2.1 d_Model_draw_78 (lv_at hl 0 rfl) ?_
          obtain ⟨hi_9, h⟩ := gd_ex h
          refine ml_0_55 F hK hw hi_9 d_Model_draw_80 ?_
          obtain ⟨hi_10, h⟩ := gd_ex h
          obtain ⟨S_11, eS_11, h⟩ := nm_ex h
          refine ms_0_59 F hK hw hi_10 d_Model_draw_81 eS_11 (fun H locs hw => ?_)
          refine lv_aload_n F.1 F.2.1 d_Model_draw_82 rfl (lv_at hl 3 rfl) ?_
          refine lv_dup F.1 F.2.1 d_Model_draw_83 rfl ?_
          refine mg_0_58 F hK hw lk_1069 d_Model_draw_84 ?_
          refine lv_iconst (v := 1) F.1 F.2.1 d_Model_draw_87 (by decide) ?_
          refine lv_iadd F.1 F.2.1 d_Model_draw_88 ?_
          obtain ⟨S_12, eS_12, h⟩ := nm_ex h
          refine mp_0_58 F hK hw lk_1069 d_Model_draw_89 eS_12 (fun H locs hw => ?_)
          exact J_92 S_12 v_7 H locs ls hw (lv_sub hl [0] rfl) o h ho
      · replace h := iq c_2 h
        exact J_11 S H locs ls hw (lv_sub hl [] rfl) o h ho
  exact key _ _ hw _ h (by rw [eX_0]; exact fun H locs pc ls hd hw => hQ H locs pc ls ad rfl hd hw)
theorem d_Model_logged_0 : decode b_Model_logged 0 = .ok (.iload_n 1, 1) := by decide +kernel
theorem d_Model_logged_1 : decode b_Model_logged 1 = .ok (.ifCond .lt 33, 3) := by decide +kernel
theorem d_Model_logged_4 : decode b_Model_logged 4 = .ok (.iload_n 1, 1) := by decide +kernel
theorem d_Model_logged_5 : decode b_Model_logged 5 = .ok (.aload_n 0, 1) := by decide +kernel
theorem d_Model_logged_6 : decode b_Model_logged 6 = .ok (.getfield 244, 3) := by decide +kernel
theorem d_Model_logged_9 : decode b_Model_logged 9 = .ok (.if_icmp .ge 25, 3) := by decide +kernel
theorem d_Model_logged_12 : decode b_Model_logged 12 = .ok (.aload_n 0, 1) := by decide +kernel
theorem d_Model_logged_13 : decode b_Model_logged 13 = .ok (.iload_n 2, 1) := by decide +kernel
theorem d_Model_logged_14 : decode b_Model_logged 14 = .ok (.invokevirtual 341, 3) := by decide +kernel
theorem d_Model_logged_17 : decode b_Model_logged 17 = .ok (.ifCond .eq 17, 3) := by decide +kernel
theorem d_Model_logged_20 : decode b_Model_logged 20 = .ok (.aload_n 0, 1) := by decide +kernel
theorem d_Model_logged_21 : decode b_Model_logged 21 = .ok (.aload_n 0, 1) := by decide +kernel
theorem d_Model_logged_22 : decode b_Model_logged 22 = .ok (.getfield 132, 3) := by decide +kernel
theorem d_Model_logged_25 : decode b_Model_logged 25 = .ok (.iload_n 1, 1) := by decide +kernel
theorem d_Model_logged_26 : decode b_Model_logged 26 = .ok (.iaload, 1) := by decide +kernel
theorem d_Model_logged_27 : decode b_Model_logged 27 = .ok (.iload_n 2, 1) := by decide +kernel
theorem d_Model_logged_28 : decode b_Model_logged 28 = .ok (.invokevirtual 291, 3) := by decide +kernel
theorem d_Model_logged_31 : decode b_Model_logged 31 = .ok (.goto 4, 3) := by decide +kernel
theorem d_Model_logged_34 : decode b_Model_logged 34 = .ok (.iconst (-1), 1) := by decide +kernel
theorem d_Model_logged_35 : decode b_Model_logged 35 = .ok (.ireturn, 1) := by decide +kernel
set_option maxHeartbeats 4000000 in
set_option maxRecDepth 100000 in
theorem c_Model_logged (l : Launch) {S : St} {x1 : Int32} {x2 : Int32} {r : Int32} (h : f_Model_logged S x1 x2 = some r) : MI mw l y_Model_logged b_Model_logged 3 (some .int) 1 22 0 0 (fun ad => [.ref (ad 0 0), .int x1, .int x2]) aT aE S r S := by
  refine MI_of "LawfulLotsModel" rfl (by decide) (fun _ => Nat.le_of_ble_eq_true rfl) ?_
  intro p e s m args below meth c D ar ad A Q ls hP F hK hA hw hl hQ
  have hl : lv_has ls 3 [(0, .ref (ad 0 0)), (1, .int x1), (2, .int x2)] := hl
  obtain ⟨X_0, eX_0⟩ : ∃ X : Int32 → Prop, X = (fun q => ∀ (H : Heap) (locs : List Loc) (pc : Nat) (ls : Array Slot), decode b_Model_logged pc = .ok (.ireturn, 1) → Bw mw D ar A s.heap H locs ad S → W p l e (RM 1 22) s m args below meth c H locs 0 0 Q (F0 m pc ls [.int q])) := ⟨_, rfl⟩
  have key : ∀ (H : Heap) (locs : List Loc), Bw mw D ar A s.heap H locs ad S → ∀ o, f_Model_logged S x1 x2 = some o → X_0 o → W p l e (RM 1 22) s m args below meth c H locs 0 0 Q (F0 m 0 ls []) := by
    intro H locs hw o h ho
    unfold f_Model_logged at h
    have J_35 : ∀ (t0 : Int32) (H : Heap) (locs : List Loc) (ls : Array Slot), Bw mw D ar A s.heap H locs ad S → lv_has ls 3 [] → ∀ o, Model_logged_j35 S t0 = some o → X_0 o → W p l e (RM 1 22) s m args below meth c H locs 0 0 Q (F0 m 35 ls [.int t0]) := by
      intro t0 H locs ls hw hl o h ho
      unfold Model_logged_j35 at h
      cases h
      have ho : X_0 _ := ho
      rw [eX_0] at ho
      exact ho H locs _ ls d_Model_logged_35 hw
    have J_34 : ∀ (H : Heap) (locs : List Loc) (ls : Array Slot), Bw mw D ar A s.heap H locs ad S → lv_has ls 3 [] → ∀ o, Model_logged_j34 S = some o → X_0 o → W p l e (RM 1 22) s m args below meth c H locs 0 0 Q (F0 m 34 ls []) := by
      intro H locs ls hw hl o h ho
      unfold Model_logged_j34 at h
      refine lv_iconst (v := -1) F.1 F.2.1 d_Model_logged_34 (by decide) ?_
      exact J_35 (-1 : Int32) H locs ls hw (lv_sub hl [] rfl) o h ho
    refine lv_iload_n F.1 F.2.1 d_Model_logged_0 rfl (lv_at hl 1 rfl) ?_
    refine lv_if_lt (tgt := 34) F.1 F.2.1 d_Model_logged_1 (by decide) (fun c_1 => ?_) (fun c_1 => ?_)
    · replace h := ip c_1 h
      exact J_34 H locs ls hw (lv_sub hl [] rfl) o h ho
    · replace h := iq c_1 h
      refine lv_iload_n F.1 F.2.1 d_Model_logged_4 rfl (lv_at hl 1 rfl) ?_
      refine lv_aload_n F.1 F.2.1 d_Model_logged_5 rfl (lv_at hl 0 rfl) ?_
      refine mg_0_58 F hK hw lk_1069 d_Model_logged_6 ?_
      refine lv_icmp_ge (tgt := 34) F.1 F.2.1 d_Model_logged_9 (by decide) (fun c_2 => ?_) (fun c_2 => ?_)
      · replace h := ip c_2 h
        exact J_34 H locs ls hw (lv_sub hl [] rfl) o h ho
      · replace h := iq c_2 h
        refine lv_aload_n F.1 F.2.1 d_Model_logged_12 rfl (lv_at hl 0 rfl) ?_
        refine lv_iload_n F.1 F.2.1 d_Model_logged_13 rfl (lv_at hl 2 rfl) ?_
        obtain ⟨v_4, hc_3, h⟩ := bd_ex h
        refine cV_i F hA rfl hK hw (c_Model_isField l hc_3) trivial rfl (good_V lk_1327 lk_1329 ls_76 lk_10 lk_1330) (mr_0 hK hw) hd_Model_isField ⟨Nat.le_of_ble_eq_true rfl, Nat.le_of_ble_eq_true rfl⟩ rfl hl.1 rfl (Nat.le_of_ble_eq_true rfl) d_Model_logged_14 ⟨(Nat.zero_le _), (Nat.zero_le _)⟩ (fun H locs hw => ?_)
        refine lv_if_eq (tgt := 34) F.1 F.2.1 d_Model_logged_17 (by decide) (fun c_5 => ?_) (fun c_5 => ?_)
        · replace h := ip c_5 h
          exact J_34 H locs ls hw (lv_sub hl [] rfl) o h ho
        · replace h := iq c_5 h
          refine lv_aload_n F.1 F.2.1 d_Model_logged_20 rfl (lv_at hl 0 rfl) ?_
          refine lv_aload_n F.1 F.2.1 d_Model_logged_21 rfl (lv_at hl 0 rfl) ?_
          refine mg_0_59 F hK hw lk_1070 d_Model_logged_22 ?_
          refine lv_iload_n F.1 F.2.1 d_Model_logged_25 rfl (lv_at hl 1 rfl) ?_
          obtain ⟨hi_6, h⟩ := gd_ex h
          refine ml_0_59 F hK hw hi_6 d_Model_logged_26 ?_
          refine lv_iload_n F.1 F.2.1 d_Model_logged_27 rfl (lv_at hl 2 rfl) ?_
          obtain ⟨v_8, hc_7, h⟩ := bd_ex h
          refine cV_i F hA rfl hK hw (c_Model_valueOf l hc_7) trivial rfl (good_V lk_968 lk_970 ls_46 lk_10 lk_971) (mr_0 hK hw) hd_Model_valueOf ⟨Nat.le_of_ble_eq_true rfl, Nat.le_of_ble_eq_true rfl⟩ rfl hl.1 rfl (Nat.le_of_ble_eq_true rfl) d_Model_logged_28 ⟨(Nat.zero_le _), (Nat.zero_le _)⟩ (fun H locs hw => ?_)
          refine lv_goto (tgt := 35) F.1 F.2.1 d_Model_logged_31 (by decide) ?_
          exact J_35 v_8 H locs ls hw (lv_sub hl [] rfl) o h ho
  exact key _ _ hw _ h (by rw [eX_0]; exact fun H locs pc ls hd hw => hQ H locs pc ls ad rfl hd hw)
theorem d_Model_fallen_0 : decode b_Model_fallen 0 = .ok (.iload_n 1, 1) := by decide +kernel
theorem d_Model_fallen_1 : decode b_Model_fallen 1 = .ok (.ifCond .ge 5, 3) := by decide +kernel
theorem d_Model_fallen_4 : decode b_Model_fallen 4 = .ok (.iconst (-1), 1) := by decide +kernel
theorem d_Model_fallen_5 : decode b_Model_fallen 5 = .ok (.ireturn, 1) := by decide +kernel
theorem d_Model_fallen_6 : decode b_Model_fallen 6 = .ok (.iload_n 1, 1) := by decide +kernel
theorem d_Model_fallen_7 : decode b_Model_fallen 7 = .ok (.istore_n 2, 1) := by decide +kernel
theorem d_Model_fallen_8 : decode b_Model_fallen 8 = .ok (.iconst 0, 1) := by decide +kernel
theorem d_Model_fallen_9 : decode b_Model_fallen 9 = .ok (.istore_n 3, 1) := by decide +kernel
theorem d_Model_fallen_10 : decode b_Model_fallen 10 = .ok (.iload_n 3, 1) := by decide +kernel
theorem d_Model_fallen_11 : decode b_Model_fallen 11 = .ok (.aload_n 0, 1) := by decide +kernel
theorem d_Model_fallen_12 : decode b_Model_fallen 12 = .ok (.getfield 244, 3) := by decide +kernel
theorem d_Model_fallen_15 : decode b_Model_fallen 15 = .ok (.if_icmp .ge 34, 3) := by decide +kernel
theorem d_Model_fallen_18 : decode b_Model_fallen 18 = .ok (.aload_n 0, 1) := by decide +kernel
theorem d_Model_fallen_19 : decode b_Model_fallen 19 = .ok (.aload_n 0, 1) := by decide +kernel
theorem d_Model_fallen_20 : decode b_Model_fallen 20 = .ok (.getfield 132, 3) := by decide +kernel
theorem d_Model_fallen_23 : decode b_Model_fallen 23 = .ok (.iload_n 3, 1) := by decide +kernel
theorem d_Model_fallen_24 : decode b_Model_fallen 24 = .ok (.iaload, 1) := by decide +kernel
theorem d_Model_fallen_25 : decode b_Model_fallen 25 = .ok (.invokevirtual 332, 3) := by decide +kernel
theorem d_Model_fallen_28 : decode b_Model_fallen 28 = .ok (.ifCond .eq 6, 3) := by decide +kernel
theorem d_Model_fallen_31 : decode b_Model_fallen 31 = .ok (.goto 12, 3) := by decide +kernel
theorem d_Model_fallen_34 : decode b_Model_fallen 34 = .ok (.iload_n 2, 1) := by decide +kernel
theorem d_Model_fallen_35 : decode b_Model_fallen 35 = .ok (.ifCond .ne 5, 3) := by decide +kernel
theorem d_Model_fallen_38 : decode b_Model_fallen 38 = .ok (.iload_n 3, 1) := by decide +kernel
theorem d_Model_fallen_39 : decode b_Model_fallen 39 = .ok (.ireturn, 1) := by decide +kernel
theorem d_Model_fallen_40 : decode b_Model_fallen 40 = .ok (.iinc 2 (-1), 3) := by decide +kernel
theorem d_Model_fallen_43 : decode b_Model_fallen 43 = .ok (.iinc 3 1, 3) := by decide +kernel
theorem d_Model_fallen_46 : decode b_Model_fallen 46 = .ok (.goto (-36), 3) := by decide +kernel
theorem d_Model_fallen_49 : decode b_Model_fallen 49 = .ok (.iconst (-1), 1) := by decide +kernel
theorem d_Model_fallen_50 : decode b_Model_fallen 50 = .ok (.ireturn, 1) := by decide +kernel
set_option maxHeartbeats 4000000 in
set_option maxRecDepth 100000 in
theorem c_Model_fallen (l : Launch) {S : St} {x1 : Int32} {r : Int32} (h : f_Model_fallen S x1 = some r) : MI mw l y_Model_fallen b_Model_fallen 4 (some .int) 3 62 0 0 (fun ad => [.ref (ad 0 0), .int x1]) aT aE S r S := by
  refine MI_of "LawfulLotsModel" rfl (by decide) (fun _ => Nat.le_of_ble_eq_true rfl) ?_
  intro p e s m args below meth c D ar ad A Q ls hP F hK hA hw hl hQ
  have hl : lv_has ls 4 [(0, .ref (ad 0 0)), (1, .int x1)] := hl
  obtain ⟨X_0, eX_0⟩ : ∃ X : Int32 → Prop, X = (fun q => ∀ (H : Heap) (locs : List Loc) (pc : Nat) (ls : Array Slot), decode b_Model_fallen pc = .ok (.ireturn, 1) → Bw mw D ar A s.heap H locs ad S → W p l e (RM 3 62) s m args below meth c H locs 0 0 Q (F0 m pc ls [.int q])) := ⟨_, rfl⟩
  have key : ∀ (H : Heap) (locs : List Loc), Bw mw D ar A s.heap H locs ad S → ∀ o, f_Model_fallen S x1 = some o → X_0 o → W p l e (RM 3 62) s m args below meth c H locs 0 0 Q (F0 m 0 ls []) := by
    intro H locs hw o h ho
    unfold f_Model_fallen at h
    refine lv_iload_n F.1 F.2.1 d_Model_fallen_0 rfl (lv_at hl 1 rfl) ?_
    refine lv_if_ge (tgt := 6) F.1 F.2.1 d_Model_fallen_1 (by decide) (fun c_1 => ?_) (fun c_1 => ?_)
    · replace h := ip c_1 h
      refine lv_iload_n F.1 F.2.1 d_Model_fallen_6 rfl (lv_at hl 1 rfl) ?_
      refine lv_istore_n (lv' := [(2, .int x1), (0, .ref (ad 0 0)), (1, .int x1)]) F.1 F.2.1 d_Model_fallen_7 rfl hl (by decide) rfl (fun ls hl => ?_)
      refine lv_iconst (v := 0) F.1 F.2.1 d_Model_fallen_8 (by decide) ?_
      refine lv_istore_n (lv' := [(3, .int (0 : Int32)), (2, .int x1), (0, .ref (ad 0 0)), (1, .int x1)]) F.1 F.2.1 d_Model_fallen_9 rfl hl (by decide) rfl (fun ls hl => ?_)
      obtain ⟨P_10, eP_10⟩ : ∃ P : (Int32 × Int32) → Prop, P = (fun q => ∀ (H : Heap) (locs : List Loc) (ls : Array Slot), Bw mw D ar A s.heap H locs ad S → lv_has ls 4 [(0, .ref (ad 0 0)), (2, .int q.1), (3, .int q.2)] → W p l e (RM 3 62) s m args below meth c H locs 0 0 Q (F0 m 10 ls [])) := ⟨_, rfl⟩
      have hL_10 : P_10 (x1, (0 : Int32)) := by
        refine wh_gp (P := P_10) (X := X_0) h ho ?_
        clear h ho
        intro q o h ho
        obtain ⟨x2, x3⟩ := q
        have h : Model_fallen_l10 S x2 x3 = some o := h
        unfold Model_fallen_l10 at h
        rw [eP_10]
        intro H locs ls hw hl
        have J_43_l10 : ∀ (x2 : Int32) (x3 : Int32) (H : Heap) (locs : List Loc) (ls : Array Slot), Bw mw D ar A s.heap H locs ad S → lv_has ls 4 [(0, .ref (ad 0 0)), (2, .int x2), (3, .int x3)] → ∀ o, Model_fallen_j43_l10 S x2 x3 = some o → (Sum.elim P_10 X_0) o → W p l e (RM 3 62) s m args below meth c H locs 0 0 Q (F0 m 43 ls []) := by
          intro x2 x3 H locs ls hw hl o h ho
          unfold Model_fallen_j43_l10 at h
          obtain ⟨x3_9, ex3_9, h⟩ := nm_ex h
          refine lv_iinc (v := x3_9) (lv' := [(3, .int x3_9), (0, .ref (ad 0 0)), (2, .int x2)]) F.1 F.2.1 d_Model_fallen_43 hl (k := 2) rfl (by rw [ex3_9]; rfl) (by decide) rfl (fun ls hl => ?_)
          refine lv_goto (tgt := 10) F.1 F.2.1 d_Model_fallen_46 (by decide) ?_
          cases h
          have ho : P_10 _ := ho
          rw [eP_10] at ho
          exact ho H locs ls hw (lv_sub hl [1, 2, 0] rfl)
        refine lv_iload_n F.1 F.2.1 d_Model_fallen_10 rfl (lv_at hl 2 rfl) ?_
        refine lv_aload_n F.1 F.2.1 d_Model_fallen_11 rfl (lv_at hl 0 rfl) ?_
        refine mg_0_58 F hK hw lk_1069 d_Model_fallen_12 ?_
        refine lv_icmp_ge (tgt := 49) F.1 F.2.1 d_Model_fallen_15 (by decide) (fun c_2 => ?_) (fun c_2 => ?_)
        · replace h := ip c_2 h
          refine lv_iconst (v := -1) F.1 F.2.1 d_Model_fallen_49 (by decide) ?_
          cases h
          have ho : X_0 _ := ho
          rw [eX_0] at ho
          exact ho H locs _ ls d_Model_fallen_50 hw
        · replace h := iq c_2 h
          refine lv_aload_n F.1 F.2.1 d_Model_fallen_18 rfl (lv_at hl 0 rfl) ?_
          refine lv_aload_n F.1 F.2.1 d_Model_fallen_19 rfl (lv_at hl 0 rfl) ?_
          refine mg_0_59 F hK hw lk_1070 d_Model_fallen_20 ?_
          refine lv_iload_n F.1 F.2.1 d_Model_fallen_23 rfl (lv_at hl 2 rfl) ?_
          obtain ⟨hi_3, h⟩ := gd_ex h
          refine ml_0_59 F hK hw hi_3 d_Model_fallen_24 ?_
          obtain ⟨v_5, hc_4, h⟩ := bd_ex h
          refine cV_i F hA rfl hK hw (c_Model_isLawful l hc_4) trivial rfl (good_V lk_1004 lk_1006 ls_55 lk_10 lk_1007) (mr_0 hK hw) hd_Model_isLawful ⟨Nat.le_of_ble_eq_true rfl, Nat.le_of_ble_eq_true rfl⟩ rfl hl.1 rfl (Nat.le_of_ble_eq_true rfl) d_Model_fallen_25 ⟨(Nat.zero_le _), (Nat.zero_le _)⟩ (fun H locs hw => ?_)
          refine lv_if_eq (tgt := 34) F.1 F.2.1 d_Model_fallen_28 (by decide) (fun c_6 => ?_) (fun c_6 => ?_)
          · replace h := ip c_6 h
            refine lv_iload_n F.1 F.2.1 d_Model_fallen_34 rfl (lv_at hl 1 rfl) ?_
            refine lv_if_ne (tgt := 40) F.1 F.2.1 d_Model_fallen_35 (by decide) (fun c_7 => ?_) (fun c_7 => ?_)
            · replace h := iq c_7 h
              obtain ⟨x2_8, ex2_8, h⟩ := nm_ex h
              refine lv_iinc (v := x2_8) (lv' := [(2, .int x2_8), (0, .ref (ad 0 0)), (3, .int x3)]) F.1 F.2.1 d_Model_fallen_40 hl (k := 1) rfl (by rw [ex2_8]; rfl) (by decide) rfl (fun ls hl => ?_)
              exact J_43_l10 x2_8 x3 H locs ls hw (lv_sub hl [1, 0, 2] rfl) o h ho
            · replace h := ip c_7 h
              refine lv_iload_n F.1 F.2.1 d_Model_fallen_38 rfl (lv_at hl 2 rfl) ?_
              cases h
              have ho : X_0 _ := ho
              rw [eX_0] at ho
              exact ho H locs _ ls d_Model_fallen_39 hw
          · replace h := iq c_6 h
            refine lv_goto (tgt := 43) F.1 F.2.1 d_Model_fallen_31 (by decide) ?_
            exact J_43_l10 x2 x3 H locs ls hw (lv_sub hl [0, 1, 2] rfl) o h ho
      rw [eP_10] at hL_10
      exact hL_10 H locs ls hw (lv_sub hl [2, 1, 0] rfl)
    · replace h := iq c_1 h
      refine lv_iconst (v := -1) F.1 F.2.1 d_Model_fallen_4 (by decide) ?_
      cases h
      have ho : X_0 _ := ho
      rw [eX_0] at ho
      exact ho H locs _ ls d_Model_fallen_5 hw
  exact key _ _ hw _ h (by rw [eX_0]; exact fun H locs pc ls hd hw => hQ H locs pc ls ad rfl hd hw)
theorem d_Model_bits_0 : decode b_Model_bits 0 = .ok (.iconst 0, 1) := by decide +kernel
theorem d_Model_bits_1 : decode b_Model_bits 1 = .ok (.istore_n 1, 1) := by decide +kernel
theorem d_Model_bits_2 : decode b_Model_bits 2 = .ok (.iconst 0, 1) := by decide +kernel
theorem d_Model_bits_3 : decode b_Model_bits 3 = .ok (.istore_n 2, 1) := by decide +kernel
theorem d_Model_bits_4 : decode b_Model_bits 4 = .ok (.iload_n 2, 1) := by decide +kernel
theorem d_Model_bits_5 : decode b_Model_bits 5 = .ok (.bipush 8, 2) := by decide +kernel
theorem d_Model_bits_7 : decode b_Model_bits 7 = .ok (.if_icmp .ge 17, 3) := by decide +kernel
theorem d_Model_bits_10 : decode b_Model_bits 10 = .ok (.iload_n 1, 1) := by decide +kernel
theorem d_Model_bits_11 : decode b_Model_bits 11 = .ok (.iload_n 0, 1) := by decide +kernel
theorem d_Model_bits_12 : decode b_Model_bits 12 = .ok (.iload_n 2, 1) := by decide +kernel
theorem d_Model_bits_13 : decode b_Model_bits 13 = .ok (.ishr, 1) := by decide +kernel
theorem d_Model_bits_14 : decode b_Model_bits 14 = .ok (.iconst 1, 1) := by decide +kernel
theorem d_Model_bits_15 : decode b_Model_bits 15 = .ok (.iand, 1) := by decide +kernel
theorem d_Model_bits_16 : decode b_Model_bits 16 = .ok (.iadd, 1) := by decide +kernel
theorem d_Model_bits_17 : decode b_Model_bits 17 = .ok (.istore_n 1, 1) := by decide +kernel
theorem d_Model_bits_18 : decode b_Model_bits 18 = .ok (.iinc 2 1, 3) := by decide +kernel
theorem d_Model_bits_21 : decode b_Model_bits 21 = .ok (.goto (-17), 3) := by decide +kernel
theorem d_Model_bits_24 : decode b_Model_bits 24 = .ok (.iload_n 1, 1) := by decide +kernel
theorem d_Model_bits_25 : decode b_Model_bits 25 = .ok (.ireturn, 1) := by decide +kernel
set_option maxHeartbeats 4000000 in
set_option maxRecDepth 100000 in
theorem c_Model_bits (l : Launch) (S : St) {x0 : Int32} {r : Int32} (h : f_Model_bits x0 = some r) : MI mw l y_Model_bits b_Model_bits 3 (some .int) 0 0 0 0 (fun ad => [.int x0]) aT aE S r S := by
  refine MI_of "LawfulLotsModel" rfl (by decide) (fun _ => Nat.le_of_ble_eq_true rfl) ?_
  intro p e s m args below meth c D ar ad A Q ls hP F hK hA hw hl hQ
  have hl : lv_has ls 3 [(0, .int x0)] := hl
  obtain ⟨X_0, eX_0⟩ : ∃ X : Int32 → Prop, X = (fun q => ∀ (H : Heap) (locs : List Loc) (pc : Nat) (ls : Array Slot), decode b_Model_bits pc = .ok (.ireturn, 1) → Bw mw D ar A s.heap H locs ad S → W p l e (RM 0 0) s m args below meth c H locs 0 0 Q (F0 m pc ls [.int q])) := ⟨_, rfl⟩
  have key : ∀ (H : Heap) (locs : List Loc), Bw mw D ar A s.heap H locs ad S → ∀ o, f_Model_bits x0 = some o → X_0 o → W p l e (RM 0 0) s m args below meth c H locs 0 0 Q (F0 m 0 ls []) := by
    intro H locs hw o h ho
    unfold f_Model_bits at h
    refine lv_iconst (v := 0) F.1 F.2.1 d_Model_bits_0 (by decide) ?_
    refine lv_istore_n (lv' := [(1, .int (0 : Int32)), (0, .int x0)]) F.1 F.2.1 d_Model_bits_1 rfl hl (by decide) rfl (fun ls hl => ?_)
    refine lv_iconst (v := 0) F.1 F.2.1 d_Model_bits_2 (by decide) ?_
    refine lv_istore_n (lv' := [(2, .int (0 : Int32)), (1, .int (0 : Int32)), (0, .int x0)]) F.1 F.2.1 d_Model_bits_3 rfl hl (by decide) rfl (fun ls hl => ?_)
    obtain ⟨x1_4, hc_5, h⟩ := bd_ex h
    obtain ⟨X_4, eX_4⟩ : ∃ X : Int32 → Prop, X = (fun q => ∀ (H : Heap) (locs : List Loc) (ls : Array Slot), Bw mw D ar A s.heap H locs ad S → lv_has ls 3 [(1, .int q)] → W p l e (RM 0 0) s m args below meth c H locs 0 0 Q (F0 m 24 ls [])) := ⟨_, rfl⟩
    have hX_4 : X_4 x1_4 := by
      rw [eX_4]
      intro H locs ls hw hl
      refine lv_iload_n F.1 F.2.1 d_Model_bits_24 rfl (lv_at hl 0 rfl) ?_
      cases h
      have ho : X_0 _ := ho
      rw [eX_0] at ho
      exact ho H locs _ ls d_Model_bits_25 hw
    obtain ⟨P_4, eP_4⟩ : ∃ P : (Int32 × Int32) → Prop, P = (fun q => ∀ (H : Heap) (locs : List Loc) (ls : Array Slot), Bw mw D ar A s.heap H locs ad S → lv_has ls 3 [(0, .int x0), (1, .int q.1), (2, .int q.2)] → W p l e (RM 0 0) s m args below meth c H locs 0 0 Q (F0 m 4 ls [])) := ⟨_, rfl⟩
    have hL_4 : P_4 ((0 : Int32), (0 : Int32)) := by
      refine wh_gp (P := P_4) (X := X_4) hc_5 hX_4 ?_
      clear h
      intro q o h ho
      obtain ⟨x1, x2⟩ := q
      have h : Model_bits_l4 x0 x1 x2 = some o := h
      unfold Model_bits_l4 at h
      rw [eP_4]
      intro H locs ls hw hl
      refine lv_iload_n F.1 F.2.1 d_Model_bits_4 rfl (lv_at hl 2 rfl) ?_
      refine lv_bipush (v := 8) F.1 F.2.1 d_Model_bits_5 (by decide) ?_
      refine lv_icmp_ge (tgt := 24) F.1 F.2.1 d_Model_bits_7 (by decide) (fun c_1 => ?_) (fun c_1 => ?_)
      · replace h := ip c_1 h
        cases h
        have ho : X_4 _ := ho
        rw [eX_4] at ho
        exact ho H locs ls hw (lv_sub hl [1] rfl)
      · replace h := iq c_1 h
        refine lv_iload_n F.1 F.2.1 d_Model_bits_10 rfl (lv_at hl 1 rfl) ?_
        refine lv_iload_n F.1 F.2.1 d_Model_bits_11 rfl (lv_at hl 0 rfl) ?_
        refine lv_iload_n F.1 F.2.1 d_Model_bits_12 rfl (lv_at hl 2 rfl) ?_
        refine lv_ishr F.1 F.2.1 d_Model_bits_13 ?_
        refine lv_iconst (v := 1) F.1 F.2.1 d_Model_bits_14 (by decide) ?_
        refine lv_iand F.1 F.2.1 d_Model_bits_15 ?_
        refine lv_iadd F.1 F.2.1 d_Model_bits_16 ?_
        obtain ⟨x1_2, ex1_2, h⟩ := nm_ex h
        refine lv_nm ex1_2 ?_
        refine lv_istore_n (lv' := [(1, .int x1_2), (0, .int x0), (2, .int x2)]) F.1 F.2.1 d_Model_bits_17 rfl hl (by decide) rfl (fun ls hl => ?_)
        obtain ⟨x2_3, ex2_3, h⟩ := nm_ex h
        refine lv_iinc (v := x2_3) (lv' := [(2, .int x2_3), (1, .int x1_2), (0, .int x0)]) F.1 F.2.1 d_Model_bits_18 hl (k := 2) rfl (by rw [ex2_3]; rfl) (by decide) rfl (fun ls hl => ?_)
        refine lv_goto (tgt := 4) F.1 F.2.1 d_Model_bits_21 (by decide) ?_
        cases h
        have ho : P_4 _ := ho
        rw [eP_4] at ho
        exact ho H locs ls hw (lv_sub hl [2, 1, 0] rfl)
    rw [eP_4] at hL_4
    exact hL_4 H locs ls hw (lv_sub hl [2, 1, 0] rfl)
  exact key _ _ hw _ h (by rw [eX_0]; exact fun H locs pc ls hd hw => hQ H locs pc ls ad rfl hd hw)
