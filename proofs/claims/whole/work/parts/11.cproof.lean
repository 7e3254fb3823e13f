theorem d_Lots_append_0 : decode b_Lots_append 0 = .ok (.bipush 24, 2) := by decide +kernel
theorem d_Lots_append_2 : decode b_Lots_append 2 = .ok (.istore_n 2, 1) := by decide +kernel
theorem d_Lots_append_3 : decode b_Lots_append 3 = .ok (.iload_n 2, 1) := by decide +kernel
theorem d_Lots_append_4 : decode b_Lots_append 4 = .ok (.ifCond .lt 44, 3) := by decide +kernel
theorem d_Lots_append_7 : decode b_Lots_append 7 = .ok (.aload_n 0, 1) := by decide +kernel
theorem d_Lots_append_8 : decode b_Lots_append 8 = .ok (.getfield 48, 3) := by decide +kernel
theorem d_Lots_append_11 : decode b_Lots_append 11 = .ok (.aload_n 0, 1) := by decide +kernel
theorem d_Lots_append_12 : decode b_Lots_append 12 = .ok (.getfield 9, 3) := by decide +kernel
theorem d_Lots_append_15 : decode b_Lots_append 15 = .ok (.arraylength, 1) := by decide +kernel
theorem d_Lots_append_16 : decode b_Lots_append 16 = .ok (.if_icmp .ge 26, 3) := by decide +kernel
theorem d_Lots_append_19 : decode b_Lots_append 19 = .ok (.aload_n 0, 1) := by decide +kernel
theorem d_Lots_append_20 : decode b_Lots_append 20 = .ok (.getfield 9, 3) := by decide +kernel
theorem d_Lots_append_23 : decode b_Lots_append 23 = .ok (.aload_n 0, 1) := by decide +kernel
theorem d_Lots_append_24 : decode b_Lots_append 24 = .ok (.getfield 48, 3) := by decide +kernel
theorem d_Lots_append_27 : decode b_Lots_append 27 = .ok (.iload_n 1, 1) := by decide +kernel
theorem d_Lots_append_28 : decode b_Lots_append 28 = .ok (.iload_n 2, 1) := by decide +kernel
theorem d_Lots_append_29 : decode b_Lots_append 29 = .ok (.iushr, 1) := by decide +kernel
theorem d_Lots_append_30 : decode b_Lots_append 30 = .ok (.i2b, 1) := by decide +kernel
theorem d_Lots_append_31 : decode b_Lots_append 31 = .ok (.bastore, 1) := by decide +kernel
theorem d_Lots_append_32 : decode b_Lots_append 32 = .ok (.aload_n 0, 1) := by decide +kernel
theorem d_Lots_append_33 : decode b_Lots_append 33 = .ok (.dup, 1) := by decide +kernel
theorem d_Lots_append_34 : decode b_Lots_append 34 = .ok (.getfield 48, 3) := by decide +kernel
theorem d_Lots_append_37 : decode b_Lots_append 37 = .ok (.iconst 1, 1) := by decide +kernel
theorem d_Lots_append_38 : decode b_Lots_append 38 = .ok (.iadd, 1) := by decide +kernel
theorem d_Lots_append_39 : decode b_Lots_append 39 = .ok (.putfield 48, 3) := by decide +kernel
theorem d_Lots_append_42 : decode b_Lots_append 42 = .ok (.iinc 2 (-8), 3) := by decide +kernel
theorem d_Lots_append_45 : decode b_Lots_append 45 = .ok (.goto (-42), 3) := by decide +kernel
theorem d_Lots_append_48 : decode b_Lots_append 48 = .ok (.return_, 1) := by decide +kernel
set_option maxHeartbeats 4000000 in
set_option maxRecDepth 100000 in
theorem c_Lots_append (l : Launch) {S : St} {x1 : Int32} {S' : St} (h : f_Lots_append S x1 = some S') : MV cw l y_Lots_append b_Lots_append 3 none 0 0 0 0 (fun ad => [.ref (ad 0 0), .int x1]) aT aE S S' := by
  refine MV_of "LawfulLots" rfl (by decide) (fun _ => Nat.le_of_ble_eq_true rfl) ?_
  intro p e s m args below meth c D ar ad A Q ls hP F hK hA hw hl hQ
  have hl : lv_has ls 3 [(0, .ref (ad 0 0)), (1, .int x1)] := hl
  obtain ⟨X_0, eX_0⟩ : ∃ X : St → Prop, X = (fun q => ∀ (H : Heap) (locs : List Loc) (pc : Nat) (ls : Array Slot), decode b_Lots_append pc = .ok (.return_, 1) → Bw cw D ar A s.heap H locs ad q → W p l e (RM 0 0) s m args below meth c H locs 0 0 Q (F0 m pc ls [])) := ⟨_, rfl⟩
  have key : ∀ (H : Heap) (locs : List Loc), Bw cw D ar A s.heap H locs ad S → ∀ o, f_Lots_append S x1 = some o → X_0 o → W p l e (RM 0 0) s m args below meth c H locs 0 0 Q (F0 m 0 ls []) := by
    intro H locs hw o h ho
    unfold f_Lots_append at h
    refine lv_bipush (v := 24) F.1 F.2.1 d_Lots_append_0 (by decide) ?_
    refine lv_istore_n (lv' := [(2, .int (24 : Int32)), (0, .ref (ad 0 0)), (1, .int x1)]) F.1 F.2.1 d_Lots_append_2 rfl hl (by decide) rfl (fun ls hl => ?_)
    obtain ⟨S_7, hc_8, h⟩ := bd_ex h
    obtain ⟨X_3, eX_3⟩ : ∃ X : St → Prop, X = (fun q => ∀ (H : Heap) (locs : List Loc) (ls : Array Slot), Bw cw D ar A s.heap H locs ad q → lv_has ls 3 [] → W p l e (RM 0 0) s m args below meth c H locs 0 0 Q (F0 m 48 ls [])) := ⟨_, rfl⟩
    have hX_3 : X_3 S_7 := by
      rw [eX_3]
      intro H locs ls hw hl
      cases h
      have ho : X_0 _ := ho
      rw [eX_0] at ho
      exact ho H locs _ ls d_Lots_append_48 hw
    obtain ⟨P_3, eP_3⟩ : ∃ P : (St × Int32) → Prop, P = (fun q => ∀ (H : Heap) (locs : List Loc) (ls : Array Slot), Bw cw D ar A s.heap H locs ad q.1 → lv_has ls 3 [(0, .ref (ad 0 0)), (1, .int x1), (2, .int q.2)] → W p l e (RM 0 0) s m args below meth c H locs 0 0 Q (F0 m 3 ls [])) := ⟨_, rfl⟩
    have hL_3 : P_3 (S, (24 : Int32)) := by
      refine wh_gp (P := P_3) (X := X_3) hc_8 hX_3 ?_
      clear h
      intro q o h ho
      obtain ⟨S, x2⟩ := q
      have h : Lots_append_l3 x1 S x2 = some o := h
      unfold Lots_append_l3 at h
      rw [eP_3]
      intro H locs ls hw hl
      have J_42_l3 : ∀ (S : St) (x2 : Int32) (H : Heap) (locs : List Loc) (ls : Array Slot), Bw cw D ar A s.heap H locs ad S → lv_has ls 3 [(0, .ref (ad 0 0)), (1, .int x1), (2, .int x2)] → ∀ o, Lots_append_j42_l3 S x1 x2 = some o → (Sum.elim P_3 X_3) o → W p l e (RM 0 0) s m args below meth c H locs 0 0 Q (F0 m 42 ls []) := by
        intro S x2 H locs ls hw hl o h ho
        unfold Lots_append_j42_l3 at h
        obtain ⟨x2_6, ex2_6, h⟩ := nm_ex h
        refine lv_iinc (v := x2_6) (lv' := [(2, .int x2_6), (0, .ref (ad 0 0)), (1, .int x1)]) F.1 F.2.1 d_Lots_append_42 hl (k := 2) rfl (by rw [ex2_6]; rfl) (by decide) rfl (fun ls hl => ?_)
        refine lv_goto (tgt := 3) F.1 F.2.1 d_Lots_append_45 (by decide) ?_
        cases h
        have ho : P_3 _ := ho
        rw [eP_3] at ho
        exact ho H locs ls hw (lv_sub hl [1, 2, 0] rfl)
      refine lv_iload_n F.1 F.2.1 d_Lots_append_3 rfl (lv_at hl 2 rfl) ?_
      refine lv_if_lt (tgt := 48) F.1 F.2.1 d_Lots_append_4 (by decide) (fun c_1 => ?_) (fun c_1 => ?_)
      · replace h := ip c_1 h
        cases h
        have ho : X_3 _ := ho
        rw [eX_3] at ho
        exact ho H locs ls hw (lv_sub hl [] rfl)
      · replace h := iq c_1 h
        refine lv_aload_n F.1 F.2.1 d_Lots_append_7 rfl (lv_at hl 0 rfl) ?_
        refine cg_0_6 F hK hw lk_346 d_Lots_append_8 ?_
        refine lv_aload_n F.1 F.2.1 d_Lots_append_11 rfl (lv_at hl 0 rfl) ?_
        refine cg_0_0 F hK hw lk_340 d_Lots_append_12 ?_
        refine cn_0_0 F hK hw d_Lots_append_15 ?_
        refine lv_icmp_ge (tgt := 42) F.1 F.2.1 d_Lots_append_16 (by decide) (fun c_2 => ?_) (fun c_2 => ?_)
        · replace h := ip c_2 h
          exact J_42_l3 S x2 H locs ls hw (lv_sub hl [0, 1, 2] rfl) o h ho
        · replace h := iq c_2 h
          refine lv_aload_n F.1 F.2.1 d_Lots_append_19 rfl (lv_at hl 0 rfl) ?_
          refine cg_0_0 F hK hw lk_340 d_Lots_append_20 ?_
          refine lv_aload_n F.1 F.2.1 d_Lots_append_23 rfl (lv_at hl 0 rfl) ?_
          refine cg_0_6 F hK hw lk_346 d_Lots_append_24 ?_
          refine lv_iload_n F.1 F.2.1 d_Lots_append_27 rfl (lv_at hl 1 rfl) ?_
          refine lv_iload_n F.1 F.2.1 d_Lots_append_28 rfl (lv_at hl 2 rfl) ?_
          refine lv_iushr F.1 F.2.1 d_Lots_append_29 rfl ?_
          refine lv_i2b F.1 F.2.1 d_Lots_append_30 rfl ?_
          obtain ⟨hi_3, h⟩ := gd_ex h
          obtain ⟨S_4, eS_4, h⟩ := nm_ex h
          refine cs_0_0 F hK hw hi_3 d_Lots_append_31 eS_4 (fun H locs hw => ?_)
          refine lv_aload_n F.1 F.2.1 d_Lots_append_32 rfl (lv_at hl 0 rfl) ?_
          refine lv_dup F.1 F.2.1 d_Lots_append_33 rfl ?_
          refine cg_0_6 F hK hw lk_346 d_Lots_append_34 ?_
          refine lv_iconst (v := 1) F.1 F.2.1 d_Lots_append_37 (by decide) ?_
          refine lv_iadd F.1 F.2.1 d_Lots_append_38 ?_
          obtain ⟨S_5, eS_5, h⟩ := nm_ex h
          refine cp_0_6 F hK hw lk_346 d_Lots_append_39 eS_5 (fun H locs hw => ?_)
          exact J_42_l3 S_5 x2 H locs ls hw (lv_sub hl [0, 1, 2] rfl) o h ho
    rw [eP_3] at hL_3
    exact hL_3 H locs ls hw (lv_sub hl [1, 2, 0] rfl)
  exact key _ _ hw _ h (by rw [eX_0]; exact fun H locs pc ls hd hw => hQ H locs pc ls ad rfl hd hw)
theorem d_Lots_feed_0 : decode b_Lots_feed 0 = .ok (.aload_n 0, 1) := by decide +kernel
theorem d_Lots_feed_1 : decode b_Lots_feed 1 = .ok (.getfield 48, 3) := by decide +kernel
theorem d_Lots_feed_4 : decode b_Lots_feed 4 = .ok (.bipush 20, 2) := by decide +kernel
theorem d_Lots_feed_6 : decode b_Lots_feed 6 = .ok (.iadd, 1) := by decide +kernel
theorem d_Lots_feed_7 : decode b_Lots_feed 7 = .ok (.sipush 2000, 3) := by decide +kernel
theorem d_Lots_feed_10 : decode b_Lots_feed 10 = .ok (.if_icmp .le 5, 3) := by decide +kernel
theorem d_Lots_feed_13 : decode b_Lots_feed 13 = .ok (.iconst (-1), 1) := by decide +kernel
theorem d_Lots_feed_14 : decode b_Lots_feed 14 = .ok (.ireturn, 1) := by decide +kernel
theorem d_Lots_feed_15 : decode b_Lots_feed 15 = .ok (.aload_n 0, 1) := by decide +kernel
theorem d_Lots_feed_16 : decode b_Lots_feed 16 = .ok (.iload_n 1, 1) := by decide +kernel
theorem d_Lots_feed_17 : decode b_Lots_feed 17 = .ok (.invokevirtual 55, 3) := by decide +kernel
theorem d_Lots_feed_20 : decode b_Lots_feed 20 = .ok (.aload_n 0, 1) := by decide +kernel
theorem d_Lots_feed_21 : decode b_Lots_feed 21 = .ok (.iload_n 2, 1) := by decide +kernel
theorem d_Lots_feed_22 : decode b_Lots_feed 22 = .ok (.invokevirtual 55, 3) := by decide +kernel
theorem d_Lots_feed_25 : decode b_Lots_feed 25 = .ok (.aload_n 0, 1) := by decide +kernel
theorem d_Lots_feed_26 : decode b_Lots_feed 26 = .ok (.iload_n 3, 1) := by decide +kernel
theorem d_Lots_feed_27 : decode b_Lots_feed 27 = .ok (.invokevirtual 55, 3) := by decide +kernel
theorem d_Lots_feed_30 : decode b_Lots_feed 30 = .ok (.aload_n 0, 1) := by decide +kernel
theorem d_Lots_feed_31 : decode b_Lots_feed 31 = .ok (.iload 4, 2) := by decide +kernel
theorem d_Lots_feed_33 : decode b_Lots_feed 33 = .ok (.invokevirtual 55, 3) := by decide +kernel
theorem d_Lots_feed_36 : decode b_Lots_feed 36 = .ok (.aload_n 0, 1) := by decide +kernel
theorem d_Lots_feed_37 : decode b_Lots_feed 37 = .ok (.iload 5, 2) := by decide +kernel
theorem d_Lots_feed_39 : decode b_Lots_feed 39 = .ok (.invokevirtual 55, 3) := by decide +kernel
theorem d_Lots_feed_42 : decode b_Lots_feed 42 = .ok (.aload_n 0, 1) := by decide +kernel
theorem d_Lots_feed_43 : decode b_Lots_feed 43 = .ok (.getfield 48, 3) := by decide +kernel
theorem d_Lots_feed_46 : decode b_Lots_feed 46 = .ok (.ireturn, 1) := by decide +kernel
set_option maxHeartbeats 4000000 in
set_option maxRecDepth 100000 in
theorem c_Lots_feed (l : Launch) {S : St} {x1 : Int32} {x2 : Int32} {x3 : Int32} {x4 : Int32} {x5 : Int32} {S' : St} {r : Int32} (h : f_Lots_feed S x1 x2 x3 x4 x5 = some (r, S')) : MI cw l y_Lots_feed b_Lots_feed 6 (some .int) 1 22 0 0 (fun ad => [.ref (ad 0 0), .int x1, .int x2, .int x3, .int x4, .int x5]) aT aE S r S' := by
  refine MI_of "LawfulLots" rfl (by decide) (fun _ => Nat.le_of_ble_eq_true rfl) ?_
  intro p e s m args below meth c D ar ad A Q ls hP F hK hA hw hl hQ
  have hl : lv_has ls 6 [(0, .ref (ad 0 0)), (1, .int x1), (2, .int x2), (3, .int x3), (4, .int x4), (5, .int x5)] := hl
  obtain ⟨X_0, eX_0⟩ : ∃ X : (Int32 × St) → Prop, X = (fun q => ∀ (H : Heap) (locs : List Loc) (pc : Nat) (ls : Array Slot), decode b_Lots_feed pc = .ok (.ireturn, 1) → Bw cw D ar A s.heap H locs ad q.2 → W p l e (RM 1 22) s m args below meth c H locs 0 0 Q (F0 m pc ls [.int q.1])) := ⟨_, rfl⟩
  have key : ∀ (H : Heap) (locs : List Loc), Bw cw D ar A s.heap H locs ad S → ∀ o, f_Lots_feed S x1 x2 x3 x4 x5 = some o → X_0 o → W p l e (RM 1 22) s m args below meth c H locs 0 0 Q (F0 m 0 ls []) := by
    intro H locs hw o h ho
    unfold f_Lots_feed at h
    refine lv_aload_n F.1 F.2.1 d_Lots_feed_0 rfl (lv_at hl 0 rfl) ?_
    refine cg_0_6 F hK hw lk_346 d_Lots_feed_1 ?_
    refine lv_bipush (v := 20) F.1 F.2.1 d_Lots_feed_4 (by decide) ?_
    refine lv_iadd F.1 F.2.1 d_Lots_feed_6 ?_
    refine lv_sipush (v := 2000) F.1 F.2.1 d_Lots_feed_7 (by decide) ?_
    refine lv_icmp_le (tgt := 15) F.1 F.2.1 d_Lots_feed_10 (by decide) (fun c_1 => ?_) (fun c_1 => ?_)
    · replace h := ip c_1 h
      refine lv_aload_n F.1 F.2.1 d_Lots_feed_15 rfl (lv_at hl 0 rfl) ?_
      refine lv_iload_n F.1 F.2.1 d_Lots_feed_16 rfl (lv_at hl 1 rfl) ?_
      obtain ⟨S_3, hc_2, h⟩ := bd_ex h
      refine cV_v F hA rfl hK hw (c_Lots_append l hc_2) trivial rfl (good_V lk_369 lk_371 ls_0 lk_1 lk_372) (cr_0 hK hw) hd_Lots_append ⟨Nat.le_of_ble_eq_true rfl, Nat.le_of_ble_eq_true rfl⟩ rfl hl.1 rfl (Nat.le_of_ble_eq_true rfl) d_Lots_feed_17 ⟨(Nat.zero_le _), (Nat.zero_le _)⟩ (fun H locs hw => ?_)
      refine lv_aload_n F.1 F.2.1 d_Lots_feed_20 rfl (lv_at hl 0 rfl) ?_
      refine lv_iload_n F.1 F.2.1 d_Lots_feed_21 rfl (lv_at hl 2 rfl) ?_
      obtain ⟨S_5, hc_4, h⟩ := bd_ex h
      refine cV_v F hA rfl hK hw (c_Lots_append l hc_4) trivial rfl (good_V lk_369 lk_371 ls_0 lk_1 lk_372) (cr_0 hK hw) hd_Lots_append ⟨Nat.le_of_ble_eq_true rfl, Nat.le_of_ble_eq_true rfl⟩ rfl hl.1 rfl (Nat.le_of_ble_eq_true rfl) d_Lots_feed_22 ⟨(Nat.zero_le _), (Nat.zero_le _)⟩ (fun H locs hw => ?_)
      refine lv_aload_n F.1 F.2.1 d_Lots_feed_25 rfl (lv_at hl 0 rfl) ?_
      refine lv_iload_n F.1 F.2.1 d_Lots_feed_26 rfl (lv_at hl 3 rfl) ?_
      obtain ⟨S_7, hc_6, h⟩ := bd_ex h
      refine cV_v F hA rfl hK hw (c_Lots_append l hc_6) trivial rfl (good_V lk_369 lk_371 ls_0 lk_1 lk_372) (cr_0 hK hw) hd_Lots_append ⟨Nat.le_of_ble_eq_true rfl, Nat.le_of_ble_eq_true rfl⟩ rfl hl.1 rfl (Nat.le_of_ble_eq_true rfl) d_Lots_feed_27 ⟨(Nat.zero_le _), (Nat.zero_le _)⟩ (fun H locs hw => ?_)
      refine lv_aload_n F.1 F.2.1 d_Lots_feed_30 rfl (lv_at hl 0 rfl) ?_
      refine lv_iload F.1 F.2.1 d_Lots_feed_31 (lv_at hl 4 rfl) ?_
      obtain ⟨S_9, hc_8, h⟩ := bd_ex h
      refine cV_v F hA rfl hK hw (c_Lots_append l hc_8) trivial rfl (good_V lk_369 lk_371 ls_0 lk_1 lk_372) (cr_0 hK hw) hd_Lots_append ⟨Nat.le_of_ble_eq_true rfl, Nat.le_of_ble_eq_true rfl⟩ rfl hl.1 rfl (Nat.le_of_ble_eq_true rfl) d_Lots_feed_33 ⟨(Nat.zero_le _), (Nat.zero_le _)⟩ (fun H locs hw => ?_)
      refine lv_aload_n F.1 F.2.1 d_Lots_feed_36 rfl (lv_at hl 0 rfl) ?_
      refine lv_iload F.1 F.2.1 d_Lots_feed_37 (lv_at hl 5 rfl) ?_
      obtain ⟨S_11, hc_10, h⟩ := bd_ex h
      refine cV_v F hA rfl hK hw (c_Lots_append l hc_10) trivial rfl (good_V lk_369 lk_371 ls_0 lk_1 lk_372) (cr_0 hK hw) hd_Lots_append ⟨Nat.le_of_ble_eq_true rfl, Nat.le_of_ble_eq_true rfl⟩ rfl hl.1 rfl (Nat.le_of_ble_eq_true rfl) d_Lots_feed_39 ⟨(Nat.zero_le _), (Nat.zero_le _)⟩ (fun H locs hw => ?_)
      refine lv_aload_n F.1 F.2.1 d_Lots_feed_42 rfl (lv_at hl 0 rfl) ?_
      refine cg_0_6 F hK hw lk_346 d_Lots_feed_43 ?_
      cases h
      have ho : X_0 _ := ho
      rw [eX_0] at ho
      exact ho H locs _ ls d_Lots_feed_46 hw
    · replace h := iq c_1 h
      refine lv_iconst (v := -1) F.1 F.2.1 d_Lots_feed_13 (by decide) ?_
      cases h
      have ho : X_0 _ := ho
      rw [eX_0] at ho
      exact ho H locs _ ls d_Lots_feed_14 hw
  exact key _ _ hw _ h (by rw [eX_0]; exact fun H locs pc ls hd hw => hQ H locs pc ls ad rfl hd hw)
theorem d_Lots_back_0 : decode b_Lots_back 0 = .ok (.iload_n 1, 1) := by decide +kernel
theorem d_Lots_back_1 : decode b_Lots_back 1 = .ok (.ifCond .lt 11, 3) := by decide +kernel
theorem d_Lots_back_4 : decode b_Lots_back 4 = .ok (.iload_n 1, 1) := by decide +kernel
theorem d_Lots_back_5 : decode b_Lots_back 5 = .ok (.aload_n 0, 1) := by decide +kernel
theorem d_Lots_back_6 : decode b_Lots_back 6 = .ok (.getfield 48, 3) := by decide +kernel
theorem d_Lots_back_9 : decode b_Lots_back 9 = .ok (.if_icmp .le 5, 3) := by decide +kernel
theorem d_Lots_back_12 : decode b_Lots_back 12 = .ok (.iconst (-1), 1) := by decide +kernel
theorem d_Lots_back_13 : decode b_Lots_back 13 = .ok (.ireturn, 1) := by decide +kernel
theorem d_Lots_back_14 : decode b_Lots_back 14 = .ok (.aload_n 0, 1) := by decide +kernel
theorem d_Lots_back_15 : decode b_Lots_back 15 = .ok (.dup, 1) := by decide +kernel
theorem d_Lots_back_16 : decode b_Lots_back 16 = .ok (.getfield 48, 3) := by decide +kernel
theorem d_Lots_back_19 : decode b_Lots_back 19 = .ok (.iload_n 1, 1) := by decide +kernel
theorem d_Lots_back_20 : decode b_Lots_back 20 = .ok (.isub, 1) := by decide +kernel
theorem d_Lots_back_21 : decode b_Lots_back 21 = .ok (.putfield 48, 3) := by decide +kernel
theorem d_Lots_back_24 : decode b_Lots_back 24 = .ok (.aload_n 0, 1) := by decide +kernel
theorem d_Lots_back_25 : decode b_Lots_back 25 = .ok (.getfield 48, 3) := by decide +kernel
theorem d_Lots_back_28 : decode b_Lots_back 28 = .ok (.ireturn, 1) := by decide +kernel
set_option maxHeartbeats 4000000 in
set_option maxRecDepth 100000 in
theorem c_Lots_back (l : Launch) {S : St} {x1 : Int32} {S' : St} {r : Int32} (h : f_Lots_back S x1 = some (r, S')) : MI cw l y_Lots_back b_Lots_back 2 (some .int) 0 0 0 0 (fun ad => [.ref (ad 0 0), .int x1]) aT aE S r S' := by
  refine MI_of "LawfulLots" rfl (by decide) (fun _ => Nat.le_of_ble_eq_true rfl) ?_
  intro p e s m args below meth c D ar ad A Q ls hP F hK hA hw hl hQ
  have hl : lv_has ls 2 [(0, .ref (ad 0 0)), (1, .int x1)] := hl
  obtain ⟨X_0, eX_0⟩ : ∃ X : (Int32 × St) → Prop, X = (fun q => ∀ (H : Heap) (locs : List Loc) (pc : Nat) (ls : Array Slot), decode b_Lots_back pc = .ok (.ireturn, 1) → Bw cw D ar A s.heap H locs ad q.2 → W p l e (RM 0 0) s m args below meth c H locs 0 0 Q (F0 m pc ls [.int q.1])) := ⟨_, rfl⟩
  have key : ∀ (H : Heap) (locs : List Loc), Bw cw D ar A s.heap H locs ad S → ∀ o, f_Lots_back S x1 = some o → X_0 o → W p l e (RM 0 0) s m args below meth c H locs 0 0 Q (F0 m 0 ls []) := by
    intro H locs hw o h ho
    unfold f_Lots_back at h
    have J_12 : ∀ (S : St) (H : Heap) (locs : List Loc) (ls : Array Slot), Bw cw D ar A s.heap H locs ad S → lv_has ls 2 [] → ∀ o, Lots_back_j12 S = some o → X_0 o → W p l e (RM 0 0) s m args below meth c H locs 0 0 Q (F0 m 12 ls []) := by
      intro S H locs ls hw hl o h ho
      unfold Lots_back_j12 at h
      refine lv_iconst (v := -1) F.1 F.2.1 d_Lots_back_12 (by decide) ?_
      cases h
      have ho : X_0 _ := ho
      rw [eX_0] at ho
      exact ho H locs _ ls d_Lots_back_13 hw
    refine lv_iload_n F.1 F.2.1 d_Lots_back_0 rfl (lv_at hl 1 rfl) ?_
    refine lv_if_lt (tgt := 12) F.1 F.2.1 d_Lots_back_1 (by decide) (fun c_1 => ?_) (fun c_1 => ?_)
    · replace h := ip c_1 h
      exact J_12 S H locs ls hw (lv_sub hl [] rfl) o h ho
    · replace h := iq c_1 h
      refine lv_iload_n F.1 F.2.1 d_Lots_back_4 rfl (lv_at hl 1 rfl) ?_
      refine lv_aload_n F.1 F.2.1 d_Lots_back_5 rfl (lv_at hl 0 rfl) ?_
      refine cg_0_6 F hK hw lk_346 d_Lots_back_6 ?_
      refine lv_icmp_le (tgt := 14) F.1 F.2.1 d_Lots_back_9 (by decide) (fun c_2 => ?_) (fun c_2 => ?_)
      · replace h := ip c_2 h
        refine lv_aload_n F.1 F.2.1 d_Lots_back_14 rfl (lv_at hl 0 rfl) ?_
        refine lv_dup F.1 F.2.1 d_Lots_back_15 rfl ?_
        refine cg_0_6 F hK hw lk_346 d_Lots_back_16 ?_
        refine lv_iload_n F.1 F.2.1 d_Lots_back_19 rfl (lv_at hl 1 rfl) ?_
        refine lv_isub F.1 F.2.1 d_Lots_back_20 ?_
        obtain ⟨S_3, eS_3, h⟩ := nm_ex h
        refine cp_0_6 F hK hw lk_346 d_Lots_back_21 eS_3 (fun H locs hw => ?_)
        refine lv_aload_n F.1 F.2.1 d_Lots_back_24 rfl (lv_at hl 0 rfl) ?_
        refine cg_0_6 F hK hw lk_346 d_Lots_back_25 ?_
        cases h
        have ho : X_0 _ := ho
        rw [eX_0] at ho
        exact ho H locs _ ls d_Lots_back_28 hw
      · replace h := iq c_2 h
        exact J_12 S H locs ls hw (lv_sub hl [] rfl) o h ho
  exact key _ _ hw _ h (by rw [eX_0]; exact fun H locs pc ls hd hw => hQ H locs pc ls ad rfl hd hw)
theorem d_Bins_forget_0 : decode b_Bins_forget 0 = .ok (.aload_n 0, 1) := by decide +kernel
theorem d_Bins_forget_1 : decode b_Bins_forget 1 = .ok (.iconst 0, 1) := by decide +kernel
theorem d_Bins_forget_2 : decode b_Bins_forget 2 = .ok (.putfield 37, 3) := by decide +kernel
theorem d_Bins_forget_5 : decode b_Bins_forget 5 = .ok (.aload_n 0, 1) := by decide +kernel
theorem d_Bins_forget_6 : decode b_Bins_forget 6 = .ok (.iconst 0, 1) := by decide +kernel
theorem d_Bins_forget_7 : decode b_Bins_forget 7 = .ok (.putfield 41, 3) := by decide +kernel
theorem d_Bins_forget_10 : decode b_Bins_forget 10 = .ok (.aload_n 0, 1) := by decide +kernel
theorem d_Bins_forget_11 : decode b_Bins_forget 11 = .ok (.iconst 0, 1) := by decide +kernel
theorem d_Bins_forget_12 : decode b_Bins_forget 12 = .ok (.putfield 44, 3) := by decide +kernel
theorem d_Bins_forget_15 : decode b_Bins_forget 15 = .ok (.return_, 1) := by decide +kernel
set_option maxHeartbeats 4000000 in
set_option maxRecDepth 100000 in
theorem c_Bins_forget (l : Launch) {S : St} {S' : St} (h : f_Bins_forget S = some S') : MV cw l y_Bins_forget b_Bins_forget 1 none 0 0 0 0 (fun ad => [.ref (ad 8 0)]) aT aE S S' := by
  refine MV_of "LawfulLots$BinTable" rfl (by decide) (fun _ => Nat.le_of_ble_eq_true rfl) ?_
  intro p e s m args below meth c D ar ad A Q ls hP F hK hA hw hl hQ
  have hl : lv_has ls 1 [(0, .ref (ad 8 0))] := hl
  obtain ⟨X_0, eX_0⟩ : ∃ X : St → Prop, X = (fun q => ∀ (H : Heap) (locs : List Loc) (pc : Nat) (ls : Array Slot), decode b_Bins_forget pc = .ok (.return_, 1) → Bw cw D ar A s.heap H locs ad q → W p l e (RM 0 0) s m args below meth c H locs 0 0 Q (F0 m pc ls [])) := ⟨_, rfl⟩
  have key : ∀ (H : Heap) (locs : List Loc), Bw cw D ar A s.heap H locs ad S → ∀ o, f_Bins_forget S = some o → X_0 o → W p l e (RM 0 0) s m args below meth c H locs 0 0 Q (F0 m 0 ls []) := by
    intro H locs hw o h ho
    unfold f_Bins_forget at h
    refine lv_aload_n F.1 F.2.1 d_Bins_forget_0 rfl (lv_at hl 0 rfl) ?_
    refine lv_iconst (v := 0) F.1 F.2.1 d_Bins_forget_1 (by decide) ?_
    obtain ⟨S_1, eS_1, h⟩ := nm_ex h
    refine cp_8_8 F hK hw isB0 lk_282 d_Bins_forget_2 eS_1 (fun H locs hw => ?_)
    refine lv_aload_n F.1 F.2.1 d_Bins_forget_5 rfl (lv_at hl 0 rfl) ?_
    refine lv_iconst (v := 0) F.1 F.2.1 d_Bins_forget_6 (by decide) ?_
    obtain ⟨S_2, eS_2, h⟩ := nm_ex h
    refine cp_8_9 F hK hw isB0 lk_283 d_Bins_forget_7 eS_2 (fun H locs hw => ?_)
    refine lv_aload_n F.1 F.2.1 d_Bins_forget_10 rfl (lv_at hl 0 rfl) ?_
    refine lv_iconst (v := 0) F.1 F.2.1 d_Bins_forget_11 (by decide) ?_
    obtain ⟨S_3, eS_3, h⟩ := nm_ex h
    refine cp_8_10 F hK hw isB0 lk_284 d_Bins_forget_12 eS_3 (fun H locs hw => ?_)
    cases h
    have ho : X_0 _ := ho
    rw [eX_0] at ho
    exact ho H locs _ ls d_Bins_forget_15 hw
  exact key _ _ hw _ h (by rw [eX_0]; exact fun H locs pc ls hd hw => hQ H locs pc ls ad rfl hd hw)
theorem d_Lots_forgetLawful_0 : decode b_Lots_forgetLawful 0 = .ok (.aload_n 0, 1) := by decide +kernel
theorem d_Lots_forgetLawful_1 : decode b_Lots_forgetLawful 1 = .ok (.getfield 37, 3) := by decide +kernel
theorem d_Lots_forgetLawful_4 : decode b_Lots_forgetLawful 4 = .ok (.invokevirtual 78, 3) := by decide +kernel
theorem d_Lots_forgetLawful_7 : decode b_Lots_forgetLawful 7 = .ok (.aload_n 0, 1) := by decide +kernel
theorem d_Lots_forgetLawful_8 : decode b_Lots_forgetLawful 8 = .ok (.getfield 44, 3) := by decide +kernel
theorem d_Lots_forgetLawful_11 : decode b_Lots_forgetLawful 11 = .ok (.iconst 0, 1) := by decide +kernel
theorem d_Lots_forgetLawful_12 : decode b_Lots_forgetLawful 12 = .ok (.putfield 81, 3) := by decide +kernel
theorem d_Lots_forgetLawful_15 : decode b_Lots_forgetLawful 15 = .ok (.return_, 1) := by decide +kernel
set_option maxHeartbeats 4000000 in
set_option maxRecDepth 100000 in
theorem c_Lots_forgetLawful (l : Launch) {S : St} {S' : St} (h : f_Lots_forgetLawful S = some S') : MV cw l y_Lots_forgetLawful b_Lots_forgetLawful 1 none 1 20 0 0 (fun ad => [.ref (ad 0 0)]) aT aE S S' := by
  refine MV_of "LawfulLots" rfl (by decide) (fun _ => Nat.le_of_ble_eq_true rfl) ?_
  intro p e s m args below meth c D ar ad A Q ls hP F hK hA hw hl hQ
  have hl : lv_has ls 1 [(0, .ref (ad 0 0))] := hl
  obtain ⟨X_0, eX_0⟩ : ∃ X : St → Prop, X = (fun q => ∀ (H : Heap) (locs : List Loc) (pc : Nat) (ls : Array Slot), decode b_Lots_forgetLawful pc = .ok (.return_, 1) → Bw cw D ar A s.heap H locs ad q → W p l e (RM 1 20) s m args below meth c H locs 0 0 Q (F0 m pc ls [])) := ⟨_, rfl⟩
  have key : ∀ (H : Heap) (locs : List Loc), Bw cw D ar A s.heap H locs ad S → ∀ o, f_Lots_forgetLawful S = some o → X_0 o → W p l e (RM 1 20) s m args below meth c H locs 0 0 Q (F0 m 0 ls []) := by
    intro H locs hw o h ho
    unfold f_Lots_forgetLawful at h
    refine lv_aload_n F.1 F.2.1 d_Lots_forgetLawful_0 rfl (lv_at hl 0 rfl) ?_
    refine cg_0_4 F hK hw lk_344 d_Lots_forgetLawful_1 ?_
    obtain ⟨S_2, hc_1, h⟩ := bd_ex h
    refine cV_v F hA rfl hK hw (c_Bins_forget l hc_1) trivial rfl (good_V lk_561 lk_562 lk_563 lk_8 lk_564) (cr_8 hK hw) hd_Bins_forget ⟨Nat.le_of_ble_eq_true rfl, Nat.le_of_ble_eq_true rfl⟩ rfl hl.1 rfl (Nat.le_of_ble_eq_true rfl) d_Lots_forgetLawful_4 ⟨(Nat.zero_le _), (Nat.zero_le _)⟩ (fun H locs hw => ?_)
    refine lv_aload_n F.1 F.2.1 d_Lots_forgetLawful_7 rfl (lv_at hl 0 rfl) ?_
    refine cg_0_5 F hK hw lk_345 d_Lots_forgetLawful_8 ?_
    refine lv_iconst (v := 0) F.1 F.2.1 d_Lots_forgetLawful_11 (by decide) ?_
    obtain ⟨S_3, eS_3, h⟩ := nm_ex h
    refine cp_9_6 F hK hw isB0 lk_324 d_Lots_forgetLawful_12 eS_3 (fun H locs hw => ?_)
    cases h
    have ho : X_0 _ := ho
    rw [eX_0] at ho
    exact ho H locs _ ls d_Lots_forgetLawful_15 hw
  exact key _ _ hw _ h (by rw [eX_0]; exact fun H locs pc ls hd hw => hQ H locs pc ls ad rfl hd hw)
theorem d_Lots_place_0 : decode b_Lots_place 0 = .ok (.aload_n 0, 1) := by decide +kernel
theorem d_Lots_place_1 : decode b_Lots_place 1 = .ok (.getfield 52, 3) := by decide +kernel
theorem d_Lots_place_4 : decode b_Lots_place 4 = .ok (.ireturn, 1) := by decide +kernel
set_option maxHeartbeats 4000000 in
set_option maxRecDepth 100000 in
theorem c_Lots_place (l : Launch) {S : St} {r : Int32} (h : f_Lots_place S = some r) : MI cw l y_Lots_place b_Lots_place 1 (some .int) 0 0 0 0 (fun ad => [.ref (ad 0 0)]) aT aE S r S := by
  refine MI_of "LawfulLots" rfl (by decide) (fun _ => Nat.le_of_ble_eq_true rfl) ?_
  intro p e s m args below meth c D ar ad A Q ls hP F hK hA hw hl hQ
  have hl : lv_has ls 1 [(0, .ref (ad 0 0))] := hl
  obtain ⟨X_0, eX_0⟩ : ∃ X : Int32 → Prop, X = (fun q => ∀ (H : Heap) (locs : List Loc) (pc : Nat) (ls : Array Slot), decode b_Lots_place pc = .ok (.ireturn, 1) → Bw cw D ar A s.heap H locs ad S → W p l e (RM 0 0) s m args below meth c H locs 0 0 Q (F0 m pc ls [.int q])) := ⟨_, rfl⟩
  have key : ∀ (H : Heap) (locs : List Loc), Bw cw D ar A s.heap H locs ad S → ∀ o, f_Lots_place S = some o → X_0 o → W p l e (RM 0 0) s m args below meth c H locs 0 0 Q (F0 m 0 ls []) := by
    intro H locs hw o h ho
    unfold f_Lots_place at h
    refine lv_aload_n F.1 F.2.1 d_Lots_place_0 rfl (lv_at hl 0 rfl) ?_
    refine cg_0_7 F hK hw lk_347 d_Lots_place_1 ?_
    cases h
    have ho : X_0 _ := ho
    rw [eX_0] at ho
    exact ho H locs _ ls d_Lots_place_4 hw
  exact key _ _ hw _ h (by rw [eX_0]; exact fun H locs pc ls hd hw => hQ H locs pc ls ad rfl hd hw)
theorem d_Book_toldOf_0 : decode b_Book_toldOf 0 = .ok (.iload_n 1, 1) := by decide +kernel
theorem d_Book_toldOf_1 : decode b_Book_toldOf 1 = .ok (.ifCond .lt 21, 3) := by decide +kernel
theorem d_Book_toldOf_4 : decode b_Book_toldOf 4 = .ok (.iload_n 1, 1) := by decide +kernel
theorem d_Book_toldOf_5 : decode b_Book_toldOf 5 = .ok (.aload_n 0, 1) := by decide +kernel
theorem d_Book_toldOf_6 : decode b_Book_toldOf 6 = .ok (.getfield 25, 3) := by decide +kernel
theorem d_Book_toldOf_9 : decode b_Book_toldOf 9 = .ok (.arraylength, 1) := by decide +kernel
theorem d_Book_toldOf_10 : decode b_Book_toldOf 10 = .ok (.if_icmp .ge 12, 3) := by decide +kernel
theorem d_Book_toldOf_13 : decode b_Book_toldOf 13 = .ok (.aload_n 0, 1) := by decide +kernel
theorem d_Book_toldOf_14 : decode b_Book_toldOf 14 = .ok (.getfield 25, 3) := by decide +kernel
theorem d_Book_toldOf_17 : decode b_Book_toldOf 17 = .ok (.iload_n 1, 1) := by decide +kernel
theorem d_Book_toldOf_18 : decode b_Book_toldOf 18 = .ok (.iaload, 1) := by decide +kernel
theorem d_Book_toldOf_19 : decode b_Book_toldOf 19 = .ok (.goto 4, 3) := by decide +kernel
theorem d_Book_toldOf_22 : decode b_Book_toldOf 22 = .ok (.iconst 0, 1) := by decide +kernel
theorem d_Book_toldOf_23 : decode b_Book_toldOf 23 = .ok (.ireturn, 1) := by decide +kernel
set_option maxHeartbeats 4000000 in
set_option maxRecDepth 100000 in
theorem c_Book_toldOf_5 (l : Launch) {S : St} {x1 : Int32} {r : Int32} (h : f_Book_toldOf 5 S x1 = some r) : MI cw l y_Book_toldOf b_Book_toldOf 2 (some .int) 0 0 0 0 (fun ad => [.ref (ad 5 0), .int x1]) aT aE S r S := by
  refine MI_of "LawfulLots$Book" rfl (by decide) (fun _ => Nat.le_of_ble_eq_true rfl) ?_
  intro p e s m args below meth c D ar ad A Q ls hP F hK hA hw hl hQ
  have hl : lv_has ls 2 [(0, .ref (ad 5 0)), (1, .int x1)] := hl
  obtain ⟨X_0, eX_0⟩ : ∃ X : Int32 → Prop, X = (fun q => ∀ (H : Heap) (locs : List Loc) (pc : Nat) (ls : Array Slot), decode b_Book_toldOf pc = .ok (.ireturn, 1) → Bw cw D ar A s.heap H locs ad S → W p l e (RM 0 0) s m args below meth c H locs 0 0 Q (F0 m pc ls [.int q])) := ⟨_, rfl⟩
  have key : ∀ (H : Heap) (locs : List Loc), Bw cw D ar A s.heap H locs ad S → ∀ o, f_Book_toldOf 5 S x1 = some o → X_0 o → W p l e (RM 0 0) s m args below meth c H locs 0 0 Q (F0 m 0 ls []) := by
    intro H locs hw o h ho
    unfold f_Book_toldOf at h
    have J_23 : ∀ (t0 : Int32) (H : Heap) (locs : List Loc) (ls : Array Slot), Bw cw D ar A s.heap H locs ad S → lv_has ls 2 [] → ∀ o, Book_toldOf_j23 5 S t0 = some o → X_0 o → W p l e (RM 0 0) s m args below meth c H locs 0 0 Q (F0 m 23 ls [.int t0]) := by
      intro t0 H locs ls hw hl o h ho
      unfold Book_toldOf_j23 at h
      cases h
      have ho : X_0 _ := ho
      rw [eX_0] at ho
      exact ho H locs _ ls d_Book_toldOf_23 hw
    have J_22 : ∀ (H : Heap) (locs : List Loc) (ls : Array Slot), Bw cw D ar A s.heap H locs ad S → lv_has ls 2 [] → ∀ o, Book_toldOf_j22 5 S = some o → X_0 o → W p l e (RM 0 0) s m args below meth c H locs 0 0 Q (F0 m 22 ls []) := by
      intro H locs ls hw hl o h ho
      unfold Book_toldOf_j22 at h
      refine lv_iconst (v := 0) F.1 F.2.1 d_Book_toldOf_22 (by decide) ?_
      exact J_23 (0 : Int32) H locs ls hw (lv_sub hl [] rfl) o h ho
    refine lv_iload_n F.1 F.2.1 d_Book_toldOf_0 rfl (lv_at hl 1 rfl) ?_
    refine lv_if_lt (tgt := 22) F.1 F.2.1 d_Book_toldOf_1 (by decide) (fun c_1 => ?_) (fun c_1 => ?_)
    · replace h := ip c_1 h
      exact J_22 H locs ls hw (lv_sub hl [] rfl) o h ho
    · replace h := iq c_1 h
      refine lv_iload_n F.1 F.2.1 d_Book_toldOf_4 rfl (lv_at hl 1 rfl) ?_
      refine lv_aload_n F.1 F.2.1 d_Book_toldOf_5 rfl (lv_at hl 0 rfl) ?_
      refine cg_5_4 F hK hw lk_71 d_Book_toldOf_6 ?_
      refine cn_5_4 F hK hw d_Book_toldOf_9 ?_
      refine lv_icmp_ge (tgt := 22) F.1 F.2.1 d_Book_toldOf_10 (by decide) (fun c_2 => ?_) (fun c_2 => ?_)
      · replace h := ip c_2 h
        exact J_22 H locs ls hw (lv_sub hl [] rfl) o h ho
      · replace h := iq c_2 h
        refine lv_aload_n F.1 F.2.1 d_Book_toldOf_13 rfl (lv_at hl 0 rfl) ?_
        refine cg_5_4 F hK hw lk_71 d_Book_toldOf_14 ?_
        refine lv_iload_n F.1 F.2.1 d_Book_toldOf_17 rfl (lv_at hl 1 rfl) ?_
        obtain ⟨hi_3, h⟩ := gd_ex h
        refine cl_5_4 F hK hw hi_3 d_Book_toldOf_18 ?_
        refine lv_goto (tgt := 23) F.1 F.2.1 d_Book_toldOf_19 (by decide) ?_
        exact J_23 (gA S 5 4 x1.toNatClampNeg) H locs ls hw (lv_sub hl [] rfl) o h ho
  exact key _ _ hw _ h (by rw [eX_0]; exact fun H locs pc ls hd hw => hQ H locs pc ls ad rfl hd hw)
theorem d_Book_has_0 : decode b_Book_has 0 = .ok (.iload_n 2, 1) := by decide +kernel
theorem d_Book_has_1 : decode b_Book_has 1 = .ok (.ifCond .lt 16, 3) := by decide +kernel
theorem d_Book_has_4 : decode b_Book_has 4 = .ok (.iload_n 2, 1) := by decide +kernel
theorem d_Book_has_5 : decode b_Book_has 5 = .ok (.aload_n 0, 1) := by decide +kernel
theorem d_Book_has_6 : decode b_Book_has 6 = .ok (.iload_n 1, 1) := by decide +kernel
theorem d_Book_has_7 : decode b_Book_has 7 = .ok (.invokevirtual 69, 3) := by decide +kernel
theorem d_Book_has_10 : decode b_Book_has 10 = .ok (.if_icmp .ge 7, 3) := by decide +kernel
theorem d_Book_has_13 : decode b_Book_has 13 = .ok (.iconst 1, 1) := by decide +kernel
theorem d_Book_has_14 : decode b_Book_has 14 = .ok (.goto 4, 3) := by decide +kernel
theorem d_Book_has_17 : decode b_Book_has 17 = .ok (.iconst 0, 1) := by decide +kernel
theorem d_Book_has_18 : decode b_Book_has 18 = .ok (.ireturn, 1) := by decide +kernel
set_option maxHeartbeats 4000000 in
set_option maxRecDepth 100000 in
theorem c_Book_has (l : Launch) {S : St} {x1 : Int32} {x2 : Int32} {r : Int32} (h : f_Book_has S x1 x2 = some r) : MI cw l y_Book_has b_Book_has 3 (some .boolean) 1 21 0 0 (fun ad => [.ref (ad 5 0), .int x1, .int x2]) aT aE S r S := by
  refine MZ_of "LawfulLots$Book" rfl (by decide) (fun _ => Nat.le_of_ble_eq_true rfl) ?_
  intro p e s m args below meth c D ar ad A Q ls hP F hK hA hw hl hQ
  have hl : lv_has ls 3 [(0, .ref (ad 5 0)), (1, .int x1), (2, .int x2)] := hl
  obtain ⟨X_0, eX_0⟩ : ∃ X : Int32 → Prop, X = (fun q => ∀ (H : Heap) (locs : List Loc) (pc : Nat) (ls : Array Slot), isB q = true → decode b_Book_has pc = .ok (.ireturn, 1) → Bw cw D ar A s.heap H locs ad S → W p l e (RM 1 21) s m args below meth c H locs 0 0 Q (F0 m pc ls [.int q])) := ⟨_, rfl⟩
  have key : ∀ (H : Heap) (locs : List Loc), Bw cw D ar A s.heap H locs ad S → ∀ o, f_Book_has S x1 x2 = some o → X_0 o → W p l e (RM 1 21) s m args below meth c H locs 0 0 Q (F0 m 0 ls []) := by
    intro H locs hw o h ho
    unfold f_Book_has at h
    have J_18 : ∀ (t0 : Int32) (H : Heap) (locs : List Loc) (ls : Array Slot), Bw cw D ar A s.heap H locs ad S → lv_has ls 3 [] → ∀ o, Book_has_j18 S t0 = some o → X_0 o → W p l e (RM 1 21) s m args below meth c H locs 0 0 Q (F0 m 18 ls [.int t0]) := by
      intro t0 H locs ls hw hl o h ho
      unfold Book_has_j18 at h
      obtain ⟨hb_5, h⟩ := gd_ex h
      cases h
      have ho : X_0 _ := ho
      rw [eX_0] at ho
      exact ho H locs _ ls hb_5 d_Book_has_18 hw
    have J_17 : ∀ (H : Heap) (locs : List Loc) (ls : Array Slot), Bw cw D ar A s.heap H locs ad S → lv_has ls 3 [] → ∀ o, Book_has_j17 S = some o → X_0 o → W p l e (RM 1 21) s m args below meth c H locs 0 0 Q (F0 m 17 ls []) := by
      intro H locs ls hw hl o h ho
      unfold Book_has_j17 at h
      refine lv_iconst (v := 0) F.1 F.2.1 d_Book_has_17 (by decide) ?_
      exact J_18 (0 : Int32) H locs ls hw (lv_sub hl [] rfl) o h ho
    refine lv_iload_n F.1 F.2.1 d_Book_has_0 rfl (lv_at hl 2 rfl) ?_
    refine lv_if_lt (tgt := 17) F.1 F.2.1 d_Book_has_1 (by decide) (fun c_1 => ?_) (fun c_1 => ?_)
    · replace h := ip c_1 h
      exact J_17 H locs ls hw (lv_sub hl [] rfl) o h ho
    · replace h := iq c_1 h
      refine lv_iload_n F.1 F.2.1 d_Book_has_4 rfl (lv_at hl 2 rfl) ?_
      refine lv_aload_n F.1 F.2.1 d_Book_has_5 rfl (lv_at hl 0 rfl) ?_
      refine lv_iload_n F.1 F.2.1 d_Book_has_6 rfl (lv_at hl 1 rfl) ?_
      obtain ⟨v_3, hc_2, h⟩ := bd_ex h
      refine cV_i F hA rfl hK hw (c_Book_toldOf_5 l hc_2) trivial rfl (good_V lk_577 lk_452 lk_453 lk_4 lk_454) (cr_5 hK hw) hd_Book_toldOf ⟨Nat.le_of_ble_eq_true rfl, Nat.le_of_ble_eq_true rfl⟩ rfl hl.1 rfl (Nat.le_of_ble_eq_true rfl) d_Book_has_7 ⟨(Nat.zero_le _), (Nat.zero_le _)⟩ (fun H locs hw => ?_)
      refine lv_icmp_ge (tgt := 17) F.1 F.2.1 d_Book_has_10 (by decide) (fun c_4 => ?_) (fun c_4 => ?_)
      · replace h := ip c_4 h
        exact J_17 H locs ls hw (lv_sub hl [] rfl) o h ho
      · replace h := iq c_4 h
        refine lv_iconst (v := 1) F.1 F.2.1 d_Book_has_13 (by decide) ?_
        refine lv_goto (tgt := 18) F.1 F.2.1 d_Book_has_14 (by decide) ?_
        exact J_18 (1 : Int32) H locs ls hw (lv_sub hl [] rfl) o h ho
  exact key _ _ hw _ h (by rw [eX_0]; exact fun H locs pc ls hb hd hw => hQ H locs pc ls ad hb rfl hd hw)
theorem d_Chart_isOn_0 : decode b_Chart_isOn 0 = .ok (.aload_n 0, 1) := by decide +kernel
theorem d_Chart_isOn_1 : decode b_Chart_isOn 1 = .ok (.getfield 57, 3) := by decide +kernel
theorem d_Chart_isOn_4 : decode b_Chart_isOn 4 = .ok (.iload_n 1, 1) := by decide +kernel
theorem d_Chart_isOn_5 : decode b_Chart_isOn 5 = .ok (.ishr, 1) := by decide +kernel
theorem d_Chart_isOn_6 : decode b_Chart_isOn 6 = .ok (.iconst 1, 1) := by decide +kernel
theorem d_Chart_isOn_7 : decode b_Chart_isOn 7 = .ok (.iand, 1) := by decide +kernel
theorem d_Chart_isOn_8 : decode b_Chart_isOn 8 = .ok (.ifCond .eq 7, 3) := by decide +kernel
theorem d_Chart_isOn_11 : decode b_Chart_isOn 11 = .ok (.iconst 1, 1) := by decide +kernel
theorem d_Chart_isOn_12 : decode b_Chart_isOn 12 = .ok (.goto 4, 3) := by decide +kernel
theorem d_Chart_isOn_15 : decode b_Chart_isOn 15 = .ok (.iconst 0, 1) := by decide +kernel
theorem d_Chart_isOn_16 : decode b_Chart_isOn 16 = .ok (.ireturn, 1) := by decide +kernel
set_option maxHeartbeats 4000000 in
set_option maxRecDepth 100000 in
theorem c_Chart_isOn (l : Launch) {S : St} {x1 : Int32} {r : Int32} (h : f_Chart_isOn S x1 = some r) : MI cw l y_Chart_isOn b_Chart_isOn 2 (some .boolean) 0 0 0 0 (fun ad => [.ref (ad 4 0), .int x1]) aT aE S r S := by
  refine MZ_of "LawfulLots$Chart" rfl (by decide) (fun _ => Nat.le_of_ble_eq_true rfl) ?_
  intro p e s m args below meth c D ar ad A Q ls hP F hK hA hw hl hQ
  have hl : lv_has ls 2 [(0, .ref (ad 4 0)), (1, .int x1)] := hl
  obtain ⟨X_0, eX_0⟩ : ∃ X : Int32 → Prop, X = (fun q => ∀ (H : Heap) (locs : List Loc) (pc : Nat) (ls : Array Slot), isB q = true → decode b_Chart_isOn pc = .ok (.ireturn, 1) → Bw cw D ar A s.heap H locs ad S → W p l e (RM 0 0) s m args below meth c H locs 0 0 Q (F0 m pc ls [.int q])) := ⟨_, rfl⟩
  have key : ∀ (H : Heap) (locs : List Loc), Bw cw D ar A s.heap H locs ad S → ∀ o, f_Chart_isOn S x1 = some o → X_0 o → W p l e (RM 0 0) s m args below meth c H locs 0 0 Q (F0 m 0 ls []) := by
    intro H locs hw o h ho
    unfold f_Chart_isOn at h
    have J_16 : ∀ (t0 : Int32) (H : Heap) (locs : List Loc) (ls : Array Slot), Bw cw D ar A s.heap H locs ad S → lv_has ls 2 [] → ∀ o, Chart_isOn_j16 S t0 = some o → X_0 o → W p l e (RM 0 0) s m args below meth c H locs 0 0 Q (F0 m 16 ls [.int t0]) := by
      intro t0 H locs ls hw hl o h ho
      unfold Chart_isOn_j16 at h
      obtain ⟨hb_2, h⟩ := gd_ex h
      cases h
      have ho : X_0 _ := ho
      rw [eX_0] at ho
      exact ho H locs _ ls hb_2 d_Chart_isOn_16 hw
    refine lv_aload_n F.1 F.2.1 d_Chart_isOn_0 rfl (lv_at hl 0 rfl) ?_
    refine cg_4_12 F hK hw lk_211 d_Chart_isOn_1 ?_
    refine lv_iload_n F.1 F.2.1 d_Chart_isOn_4 rfl (lv_at hl 1 rfl) ?_
    refine lv_ishr F.1 F.2.1 d_Chart_isOn_5 ?_
    refine lv_iconst (v := 1) F.1 F.2.1 d_Chart_isOn_6 (by decide) ?_
    refine lv_iand F.1 F.2.1 d_Chart_isOn_7 ?_
    refine lv_if_eq (tgt := 15) F.1 F.2.1 d_Chart_isOn_8 (by decide) (fun c_1 => ?_) (fun c_1 => ?_)
    · replace h := ip c_1 h
      refine lv_iconst (v := 0) F.1 F.2.1 d_Chart_isOn_15 (by decide) ?_
      exact J_16 (0 : Int32) H locs ls hw (lv_sub hl [] rfl) o h ho
    · replace h := iq c_1 h
      refine lv_iconst (v := 1) F.1 F.2.1 d_Chart_isOn_11 (by decide) ?_
      refine lv_goto (tgt := 16) F.1 F.2.1 d_Chart_isOn_12 (by decide) ?_
      exact J_16 (1 : Int32) H locs ls hw (lv_sub hl [] rfl) o h ho
  exact key _ _ hw _ h (by rw [eX_0]; exact fun H locs pc ls hb hd hw => hQ H locs pc ls ad hb rfl hd hw)
theorem d_Chart_swapLaw_0 : decode b_Chart_swapLaw 0 = .ok (.aload_n 0, 1) := by decide +kernel
theorem d_Chart_swapLaw_1 : decode b_Chart_swapLaw 1 = .ok (.dup, 1) := by decide +kernel
theorem d_Chart_swapLaw_2 : decode b_Chart_swapLaw 2 = .ok (.getfield 57, 3) := by decide +kernel
theorem d_Chart_swapLaw_5 : decode b_Chart_swapLaw 5 = .ok (.iconst 1, 1) := by decide +kernel
theorem d_Chart_swapLaw_6 : decode b_Chart_swapLaw 6 = .ok (.iload_n 1, 1) := by decide +kernel
theorem d_Chart_swapLaw_7 : decode b_Chart_swapLaw 7 = .ok (.ishl, 1) := by decide +kernel
theorem d_Chart_swapLaw_8 : decode b_Chart_swapLaw 8 = .ok (.ixor, 1) := by decide +kernel
theorem d_Chart_swapLaw_9 : decode b_Chart_swapLaw 9 = .ok (.putfield 57, 3) := by decide +kernel
theorem d_Chart_swapLaw_12 : decode b_Chart_swapLaw 12 = .ok (.aload_n 0, 1) := by decide +kernel
theorem d_Chart_swapLaw_13 : decode b_Chart_swapLaw 13 = .ok (.iconst 0, 1) := by decide +kernel
theorem d_Chart_swapLaw_14 : decode b_Chart_swapLaw 14 = .ok (.putfield 70, 3) := by decide +kernel
theorem d_Chart_swapLaw_17 : decode b_Chart_swapLaw 17 = .ok (.aload_n 0, 1) := by decide +kernel
theorem d_Chart_swapLaw_18 : decode b_Chart_swapLaw 18 = .ok (.iconst 0, 1) := by decide +kernel
theorem d_Chart_swapLaw_19 : decode b_Chart_swapLaw 19 = .ok (.putfield 73, 3) := by decide +kernel
theorem d_Chart_swapLaw_22 : decode b_Chart_swapLaw 22 = .ok (.return_, 1) := by decide +kernel
set_option maxHeartbeats 4000000 in
set_option maxRecDepth 100000 in
theorem c_Chart_swapLaw (l : Launch) {S : St} {x1 : Int32} {S' : St} (h : f_Chart_swapLaw S x1 = some S') : MV cw l y_Chart_swapLaw b_Chart_swapLaw 2 none 0 0 0 0 (fun ad => [.ref (ad 4 0), .int x1]) aT aE S S' := by
  refine MV_of "LawfulLots$Chart" rfl (by decide) (fun _ => Nat.le_of_ble_eq_true rfl) ?_
  intro p e s m args below meth c D ar ad A Q ls hP F hK hA hw hl hQ
  have hl : lv_has ls 2 [(0, .ref (ad 4 0)), (1, .int x1)] := hl
  obtain ⟨X_0, eX_0⟩ : ∃ X : St → Prop, X = (fun q => ∀ (H : Heap) (locs : List Loc) (pc : Nat) (ls : Array Slot), decode b_Chart_swapLaw pc = .ok (.return_, 1) → Bw cw D ar A s.heap H locs ad q → W p l e (RM 0 0) s m args below meth c H locs 0 0 Q (F0 m pc ls [])) := ⟨_, rfl⟩
  have key : ∀ (H : Heap) (locs : List Loc), Bw cw D ar A s.heap H locs ad S → ∀ o, f_Chart_swapLaw S x1 = some o → X_0 o → W p l e (RM 0 0) s m args below meth c H locs 0 0 Q (F0 m 0 ls []) := by
    intro H locs hw o h ho
    unfold f_Chart_swapLaw at h
    refine lv_aload_n F.1 F.2.1 d_Chart_swapLaw_0 rfl (lv_at hl 0 rfl) ?_
    refine lv_dup F.1 F.2.1 d_Chart_swapLaw_1 rfl ?_
    refine cg_4_12 F hK hw lk_211 d_Chart_swapLaw_2 ?_
    refine lv_iconst (v := 1) F.1 F.2.1 d_Chart_swapLaw_5 (by decide) ?_
    refine lv_iload_n F.1 F.2.1 d_Chart_swapLaw_6 rfl (lv_at hl 1 rfl) ?_
    refine lv_ishl F.1 F.2.1 d_Chart_swapLaw_7 ?_
    refine lv_ixor F.1 F.2.1 d_Chart_swapLaw_8 ?_
    obtain ⟨S_1, eS_1, h⟩ := nm_ex h
    refine cp_4_12 F hK hw lk_211 d_Chart_swapLaw_9 eS_1 (fun H locs hw => ?_)
    refine lv_aload_n F.1 F.2.1 d_Chart_swapLaw_12 rfl (lv_at hl 0 rfl) ?_
    refine lv_iconst (v := 0) F.1 F.2.1 d_Chart_swapLaw_13 (by decide) ?_
    obtain ⟨S_2, eS_2, h⟩ := nm_ex h
    refine cp_4_16 F hK hw isB0 lk_215 d_Chart_swapLaw_14 eS_2 (fun H locs hw => ?_)
    refine lv_aload_n F.1 F.2.1 d_Chart_swapLaw_17 rfl (lv_at hl 0 rfl) ?_
    refine lv_iconst (v := 0) F.1 F.2.1 d_Chart_swapLaw_18 (by decide) ?_
    obtain ⟨S_3, eS_3, h⟩ := nm_ex h
    refine cp_4_17 F hK hw isB0 lk_216 d_Chart_swapLaw_19 eS_3 (fun H locs hw => ?_)
    cases h
    have ho : X_0 _ := ho
    rw [eX_0] at ho
    exact ho H locs _ ls d_Chart_swapLaw_22 hw
  exact key _ _ hw _ h (by rw [eX_0]; exact fun H locs pc ls hd hw => hQ H locs pc ls ad rfl hd hw)
theorem d_Lots_turn_0 : decode b_Lots_turn 0 = .ok (.aload_n 0, 1) := by decide +kernel
theorem d_Lots_turn_1 : decode b_Lots_turn 1 = .ok (.getfield 23, 3) := by decide +kernel
theorem d_Lots_turn_4 : decode b_Lots_turn 4 = .ok (.getfield 85, 3) := by decide +kernel
theorem d_Lots_turn_7 : decode b_Lots_turn 7 = .ok (.iconst 0, 1) := by decide +kernel
theorem d_Lots_turn_8 : decode b_Lots_turn 8 = .ok (.iload_n 1, 1) := by decide +kernel
theorem d_Lots_turn_9 : decode b_Lots_turn 9 = .ok (.invokevirtual 88, 3) := by decide +kernel
theorem d_Lots_turn_12 : decode b_Lots_turn 12 = .ok (.ifCond .eq 15, 3) := by decide +kernel
theorem d_Lots_turn_15 : decode b_Lots_turn 15 = .ok (.aload_n 0, 1) := by decide +kernel
theorem d_Lots_turn_16 : decode b_Lots_turn 16 = .ok (.getfield 23, 3) := by decide +kernel
theorem d_Lots_turn_19 : decode b_Lots_turn 19 = .ok (.iload_n 1, 1) := by decide +kernel
theorem d_Lots_turn_20 : decode b_Lots_turn 20 = .ok (.invokevirtual 94, 3) := by decide +kernel
theorem d_Lots_turn_23 : decode b_Lots_turn 23 = .ok (.iload_n 2, 1) := by decide +kernel
theorem d_Lots_turn_24 : decode b_Lots_turn 24 = .ok (.if_icmp .ne 5, 3) := by decide +kernel
theorem d_Lots_turn_27 : decode b_Lots_turn 27 = .ok (.iconst 0, 1) := by decide +kernel
theorem d_Lots_turn_28 : decode b_Lots_turn 28 = .ok (.ireturn, 1) := by decide +kernel
theorem d_Lots_turn_29 : decode b_Lots_turn 29 = .ok (.aload_n 0, 1) := by decide +kernel
theorem d_Lots_turn_30 : decode b_Lots_turn 30 = .ok (.getfield 23, 3) := by decide +kernel
theorem d_Lots_turn_33 : decode b_Lots_turn 33 = .ok (.iload_n 1, 1) := by decide +kernel
theorem d_Lots_turn_34 : decode b_Lots_turn 34 = .ok (.invokevirtual 98, 3) := by decide +kernel
theorem d_Lots_turn_37 : decode b_Lots_turn 37 = .ok (.aload_n 0, 1) := by decide +kernel
theorem d_Lots_turn_38 : decode b_Lots_turn 38 = .ok (.invokevirtual 75, 3) := by decide +kernel
theorem d_Lots_turn_41 : decode b_Lots_turn 41 = .ok (.iconst 1, 1) := by decide +kernel
theorem d_Lots_turn_42 : decode b_Lots_turn 42 = .ok (.ireturn, 1) := by decide +kernel
set_option maxHeartbeats 4000000 in
set_option maxRecDepth 100000 in
theorem c_Lots_turn (l : Launch) {S : St} {x1 : Int32} {x2 : Int32} {S' : St} {r : Int32} (h : f_Lots_turn S x1 x2 = some (r, S')) : MI cw l y_Lots_turn b_Lots_turn 3 (some .boolean) 2 43 0 0 (fun ad => [.ref (ad 0 0), .int x1, .int x2]) aT aE S r S' := by
  refine MZ_of "LawfulLots" rfl (by decide) (fun _ => Nat.le_of_ble_eq_true rfl) ?_
  intro p e s m args below meth c D ar ad A Q ls hP F hK hA hw hl hQ
  have hl : lv_has ls 3 [(0, .ref (ad 0 0)), (1, .int x1), (2, .int x2)] := hl
  obtain ⟨X_0, eX_0⟩ : ∃ X : (Int32 × St) → Prop, X = (fun q => ∀ (H : Heap) (locs : List Loc) (pc : Nat) (ls : Array Slot), isB q.1 = true → decode b_Lots_turn pc = .ok (.ireturn, 1) → Bw cw D ar A s.heap H locs ad q.2 → W p l e (RM 2 43) s m args below meth c H locs 0 0 Q (F0 m pc ls [.int q.1])) := ⟨_, rfl⟩
  have key : ∀ (H : Heap) (locs : List Loc), Bw cw D ar A s.heap H locs ad S → ∀ o, f_Lots_turn S x1 x2 = some o → X_0 o → W p l e (RM 2 43) s m args below meth c H locs 0 0 Q (F0 m 0 ls []) := by
    intro H locs hw o h ho
    unfold f_Lots_turn at h
    have J_27 : ∀ (S : St) (H : Heap) (locs : List Loc) (ls : Array Slot), Bw cw D ar A s.heap H locs ad S → lv_has ls 3 [] → ∀ o, Lots_turn_j27 S = some o → X_0 o → W p l e (RM 2 43) s m args below meth c H locs 0 0 Q (F0 m 27 ls []) := by
      intro S H locs ls hw hl o h ho
      unfold Lots_turn_j27 at h
      refine lv_iconst (v := 0) F.1 F.2.1 d_Lots_turn_27 (by decide) ?_
      cases h
      have ho : X_0 _ := ho
      rw [eX_0] at ho
      exact ho H locs _ ls isB0 d_Lots_turn_28 hw
    refine lv_aload_n F.1 F.2.1 d_Lots_turn_0 rfl (lv_at hl 0 rfl) ?_
    refine cg_0_2 F hK hw lk_342 d_Lots_turn_1 ?_
    refine cg_4_8 F hK hw lk_202 d_Lots_turn_4 ?_
    refine lv_iconst (v := 0) F.1 F.2.1 d_Lots_turn_7 (by decide) ?_
    refine lv_iload_n F.1 F.2.1 d_Lots_turn_8 rfl (lv_at hl 1 rfl) ?_
    obtain ⟨v_2, hc_1, h⟩ := bd_ex h
    refine cV_i F hA rfl hK hw (c_Book_has l hc_1) trivial rfl (good_V lk_573 lk_574 lk_575 lk_4 lk_576) (cr_5 hK hw) hd_Book_has ⟨Nat.le_of_ble_eq_true rfl, Nat.le_of_ble_eq_true rfl⟩ rfl hl.1 rfl (Nat.le_of_ble_eq_true rfl) d_Lots_turn_9 ⟨(Nat.zero_le _), (Nat.zero_le _)⟩ (fun H locs hw => ?_)
    refine lv_if_eq (tgt := 27) F.1 F.2.1 d_Lots_turn_12 (by decide) (fun c_3 => ?_) (fun c_3 => ?_)
    · replace h := ip c_3 h
      exact J_27 S H locs ls hw (lv_sub hl [] rfl) o h ho
    · replace h := iq c_3 h
      refine lv_aload_n F.1 F.2.1 d_Lots_turn_15 rfl (lv_at hl 0 rfl) ?_
      refine cg_0_2 F hK hw lk_342 d_Lots_turn_16 ?_
      refine lv_iload_n F.1 F.2.1 d_Lots_turn_19 rfl (lv_at hl 1 rfl) ?_
      obtain ⟨v_5, hc_4, h⟩ := bd_ex h
      refine cV_i F hA rfl hK hw (c_Chart_isOn l hc_4) trivial rfl (good_V lk_578 lk_579 lk_580 lk_5 lk_581) (cr_4 hK hw) hd_Chart_isOn ⟨Nat.le_of_ble_eq_true rfl, Nat.le_of_ble_eq_true rfl⟩ rfl hl.1 rfl (Nat.le_of_ble_eq_true rfl) d_Lots_turn_20 ⟨(Nat.zero_le _), (Nat.zero_le _)⟩ (fun H locs hw => ?_)
      refine lv_iload_n F.1 F.2.1 d_Lots_turn_23 rfl (lv_at hl 2 rfl) ?_
      refine lv_icmp_ne (tgt := 29) F.1 F.2.1 d_Lots_turn_24 (by decide) (fun c_6 => ?_) (fun c_6 => ?_)
      · replace h := iq c_6 h
        refine lv_aload_n F.1 F.2.1 d_Lots_turn_29 rfl (lv_at hl 0 rfl) ?_
        refine cg_0_2 F hK hw lk_342 d_Lots_turn_30 ?_
        refine lv_iload_n F.1 F.2.1 d_Lots_turn_33 rfl (lv_at hl 1 rfl) ?_
        obtain ⟨S_8, hc_7, h⟩ := bd_ex h
        refine cV_v F hA rfl hK hw (c_Chart_swapLaw l hc_7) trivial rfl (good_V lk_582 lk_583 lk_584 lk_5 lk_585) (cr_4 hK hw) hd_Chart_swapLaw ⟨Nat.le_of_ble_eq_true rfl, Nat.le_of_ble_eq_true rfl⟩ rfl hl.1 rfl (Nat.le_of_ble_eq_true rfl) d_Lots_turn_34 ⟨(Nat.zero_le _), (Nat.zero_le _)⟩ (fun H locs hw => ?_)
        refine lv_aload_n F.1 F.2.1 d_Lots_turn_37 rfl (lv_at hl 0 rfl) ?_
        obtain ⟨S_10, hc_9, h⟩ := bd_ex h
        refine cV_v F hA rfl hK hw (c_Lots_forgetLawful l hc_9) trivial rfl (good_V lk_557 lk_559 ls_23 lk_1 lk_560) (cr_0 hK hw) hd_Lots_forgetLawful ⟨Nat.le_of_ble_eq_true rfl, Nat.le_of_ble_eq_true rfl⟩ rfl hl.1 rfl (Nat.le_of_ble_eq_true rfl) d_Lots_turn_38 ⟨(Nat.zero_le _), (Nat.zero_le _)⟩ (fun H locs hw => ?_)
        refine lv_iconst (v := 1) F.1 F.2.1 d_Lots_turn_41 (by decide) ?_
        cases h
        have ho : X_0 _ := ho
        rw [eX_0] at ho
        exact ho H locs _ ls isB1 d_Lots_turn_42 hw
      · replace h := ip c_6 h
        exact J_27 S H locs ls hw (lv_sub hl [] rfl) o h ho
  exact key _ _ hw _ h (by rw [eX_0]; exact fun H locs pc ls hb hd hw => hQ H locs pc ls ad hb rfl hd hw)
theorem d_Log_inputOf_0 : decode b_Log_inputOf 0 = .ok (.iload_n 1, 1) := by decide +kernel
theorem d_Log_inputOf_1 : decode b_Log_inputOf 1 = .ok (.ifCond .lt 29, 3) := by decide +kernel
theorem d_Log_inputOf_4 : decode b_Log_inputOf 4 = .ok (.iload_n 1, 1) := by decide +kernel
theorem d_Log_inputOf_5 : decode b_Log_inputOf 5 = .ok (.aload_n 0, 1) := by decide +kernel
theorem d_Log_inputOf_6 : decode b_Log_inputOf 6 = .ok (.getfield 15, 3) := by decide +kernel
theorem d_Log_inputOf_9 : decode b_Log_inputOf 9 = .ok (.if_icmp .ge 21, 3) := by decide +kernel
theorem d_Log_inputOf_12 : decode b_Log_inputOf 12 = .ok (.iload_n 1, 1) := by decide +kernel
theorem d_Log_inputOf_13 : decode b_Log_inputOf 13 = .ok (.aload_n 0, 1) := by decide +kernel
theorem d_Log_inputOf_14 : decode b_Log_inputOf 14 = .ok (.getfield 9, 3) := by decide +kernel
theorem d_Log_inputOf_17 : decode b_Log_inputOf 17 = .ok (.arraylength, 1) := by decide +kernel
theorem d_Log_inputOf_18 : decode b_Log_inputOf 18 = .ok (.if_icmp .ge 12, 3) := by decide +kernel
theorem d_Log_inputOf_21 : decode b_Log_inputOf 21 = .ok (.aload_n 0, 1) := by decide +kernel
theorem d_Log_inputOf_22 : decode b_Log_inputOf 22 = .ok (.getfield 9, 3) := by decide +kernel
theorem d_Log_inputOf_25 : decode b_Log_inputOf 25 = .ok (.iload_n 1, 1) := by decide +kernel
theorem d_Log_inputOf_26 : decode b_Log_inputOf 26 = .ok (.iaload, 1) := by decide +kernel
theorem d_Log_inputOf_27 : decode b_Log_inputOf 27 = .ok (.goto 4, 3) := by decide +kernel
theorem d_Log_inputOf_30 : decode b_Log_inputOf 30 = .ok (.iconst 0, 1) := by decide +kernel
theorem d_Log_inputOf_31 : decode b_Log_inputOf 31 = .ok (.ireturn, 1) := by decide +kernel
set_option maxHeartbeats 4000000 in
set_option maxRecDepth 100000 in
theorem c_Log_inputOf (l : Launch) {S : St} {x1 : Int32} {r : Int32} (h : f_Log_inputOf S x1 = some r) : MI cw l y_Log_inputOf b_Log_inputOf 2 (some .int) 0 0 0 0 (fun ad => [.ref (ad 7 0), .int x1]) aT aE S r S := by
  refine MI_of "LawfulLots$Log" rfl (by decide) (fun _ => Nat.le_of_ble_eq_true rfl) ?_
  intro p e s m args below meth c D ar ad A Q ls hP F hK hA hw hl hQ
  have hl : lv_has ls 2 [(0, .ref (ad 7 0)), (1, .int x1)] := hl
  obtain ⟨X_0, eX_0⟩ : ∃ X : Int32 → Prop, X = (fun q => ∀ (H : Heap) (locs : List Loc) (pc : Nat) (ls : Array Slot), decode b_Log_inputOf pc = .ok (.ireturn, 1) → Bw cw D ar A s.heap H locs ad S → W p l e (RM 0 0) s m args below meth c H locs 0 0 Q (F0 m pc ls [.int q])) := ⟨_, rfl⟩
  have key : ∀ (H : Heap) (locs : List Loc), Bw cw D ar A s.heap H locs ad S → ∀ o, f_Log_inputOf S x1 = some o → X_0 o → W p l e (RM 0 0) s m args below meth c H locs 0 0 Q (F0 m 0 ls []) := by
    intro H locs hw o h ho
    unfold f_Log_inputOf at h
    have J_31 : ∀ (t0 : Int32) (H : Heap) (locs : List Loc) (ls : Array Slot), Bw cw D ar A s.heap H locs ad S → lv_has ls 2 [] → ∀ o, Log_inputOf_j31 S t0 = some o → X_0 o → W p l e (RM 0 0) s m args below meth c H locs 0 0 Q (F0 m 31 ls [.int t0]) := by
      intro t0 H locs ls hw hl o h ho
      unfold Log_inputOf_j31 at h
      cases h
      have ho : X_0 _ := ho
      rw [eX_0] at ho
      exact ho H locs _ ls d_Log_inputOf_31 hw
    have J_30 : ∀ (H : Heap) (locs : List Loc) (ls : Array Slot), Bw cw D ar A s.heap H locs ad S → lv_has ls 2 [] → ∀ o, Log_inputOf_j30 S = some o → X_0 o → W p l e (RM 0 0) s m args below meth c H locs 0 0 Q (F0 m 30 ls []) := by
      intro H locs ls hw hl o h ho
      unfold Log_inputOf_j30 at h
      refine lv_iconst (v := 0) F.1 F.2.1 d_Log_inputOf_30 (by decide) ?_
      exact J_31 (0 : Int32) H locs ls hw (lv_sub hl [] rfl) o h ho
    refine lv_iload_n F.1 F.2.1 d_Log_inputOf_0 rfl (lv_at hl 1 rfl) ?_
    refine lv_if_lt (tgt := 30) F.1 F.2.1 d_Log_inputOf_1 (by decide) (fun c_1 => ?_) (fun c_1 => ?_)
    · replace h := ip c_1 h
      exact J_30 H locs ls hw (lv_sub hl [] rfl) o h ho
    · replace h := iq c_1 h
      refine lv_iload_n F.1 F.2.1 d_Log_inputOf_4 rfl (lv_at hl 1 rfl) ?_
      refine lv_aload_n F.1 F.2.1 d_Log_inputOf_5 rfl (lv_at hl 0 rfl) ?_
      refine cg_7_1 F hK hw lk_261 d_Log_inputOf_6 ?_
      refine lv_icmp_ge (tgt := 30) F.1 F.2.1 d_Log_inputOf_9 (by decide) (fun c_2 => ?_) (fun c_2 => ?_)
      · replace h := ip c_2 h
        exact J_30 H locs ls hw (lv_sub hl [] rfl) o h ho
      · replace h := iq c_2 h
        refine lv_iload_n F.1 F.2.1 d_Log_inputOf_12 rfl (lv_at hl 1 rfl) ?_
        refine lv_aload_n F.1 F.2.1 d_Log_inputOf_13 rfl (lv_at hl 0 rfl) ?_
        refine cg_7_0 F hK hw lk_260 d_Log_inputOf_14 ?_
        refine cn_7_0 F hK hw d_Log_inputOf_17 ?_
        refine lv_icmp_ge (tgt := 30) F.1 F.2.1 d_Log_inputOf_18 (by decide) (fun c_3 => ?_) (fun c_3 => ?_)
        · replace h := ip c_3 h
          exact J_30 H locs ls hw (lv_sub hl [] rfl) o h ho
        · replace h := iq c_3 h
          refine lv_aload_n F.1 F.2.1 d_Log_inputOf_21 rfl (lv_at hl 0 rfl) ?_
          refine cg_7_0 F hK hw lk_260 d_Log_inputOf_22 ?_
          refine lv_iload_n F.1 F.2.1 d_Log_inputOf_25 rfl (lv_at hl 1 rfl) ?_
          obtain ⟨hi_4, h⟩ := gd_ex h
          refine cl_7_0 F hK hw hi_4 d_Log_inputOf_26 ?_
          refine lv_goto (tgt := 31) F.1 F.2.1 d_Log_inputOf_27 (by decide) ?_
          exact J_31 (gA S 7 0 x1.toNatClampNeg) H locs ls hw (lv_sub hl [] rfl) o h ho
  exact key _ _ hw _ h (by rw [eX_0]; exact fun H locs pc ls hd hw => hQ H locs pc ls ad rfl hd hw)
theorem d_Book_valueIn_0 : decode b_Book_valueIn 0 = .ok (.iload_n 2, 1) := by decide +kernel
theorem d_Book_valueIn_1 : decode b_Book_valueIn 1 = .ok (.ifCond .lt 17, 3) := by decide +kernel
theorem d_Book_valueIn_4 : decode b_Book_valueIn 4 = .ok (.iload_n 2, 1) := by decide +kernel
theorem d_Book_valueIn_5 : decode b_Book_valueIn 5 = .ok (.aload_n 0, 1) := by decide +kernel
theorem d_Book_valueIn_6 : decode b_Book_valueIn 6 = .ok (.getfield 43, 3) := by decide +kernel
theorem d_Book_valueIn_9 : decode b_Book_valueIn 9 = .ok (.if_icmp .ge 9, 3) := by decide +kernel
theorem d_Book_valueIn_12 : decode b_Book_valueIn 12 = .ok (.iload_n 2, 1) := by decide +kernel
theorem d_Book_valueIn_13 : decode b_Book_valueIn 13 = .ok (.bipush 6, 2) := by decide +kernel
theorem d_Book_valueIn_15 : decode b_Book_valueIn 15 = .ok (.if_icmp .lt 5, 3) := by decide +kernel
theorem d_Book_valueIn_18 : decode b_Book_valueIn 18 = .ok (.iconst (-1), 1) := by decide +kernel
theorem d_Book_valueIn_19 : decode b_Book_valueIn 19 = .ok (.ireturn, 1) := by decide +kernel
theorem d_Book_valueIn_20 : decode b_Book_valueIn 20 = .ok (.aload_n 0, 1) := by decide +kernel
theorem d_Book_valueIn_21 : decode b_Book_valueIn 21 = .ok (.getfield 19, 3) := by decide +kernel
theorem d_Book_valueIn_24 : decode b_Book_valueIn 24 = .ok (.iload_n 2, 1) := by decide +kernel
theorem d_Book_valueIn_25 : decode b_Book_valueIn 25 = .ok (.iaload, 1) := by decide +kernel
theorem d_Book_valueIn_26 : decode b_Book_valueIn 26 = .ok (.aload_n 0, 1) := by decide +kernel
theorem d_Book_valueIn_27 : decode b_Book_valueIn 27 = .ok (.getfield 15, 3) := by decide +kernel
theorem d_Book_valueIn_30 : decode b_Book_valueIn 30 = .ok (.iload_n 2, 1) := by decide +kernel
theorem d_Book_valueIn_31 : decode b_Book_valueIn 31 = .ok (.iaload, 1) := by decide +kernel
theorem d_Book_valueIn_32 : decode b_Book_valueIn 32 = .ok (.isub, 1) := by decide +kernel
theorem d_Book_valueIn_33 : decode b_Book_valueIn 33 = .ok (.iconst 1, 1) := by decide +kernel
theorem d_Book_valueIn_34 : decode b_Book_valueIn 34 = .ok (.iadd, 1) := by decide +kernel
theorem d_Book_valueIn_35 : decode b_Book_valueIn 35 = .ok (.istore_n 3, 1) := by decide +kernel
theorem d_Book_valueIn_36 : decode b_Book_valueIn 36 = .ok (.aload_n 0, 1) := by decide +kernel
theorem d_Book_valueIn_37 : decode b_Book_valueIn 37 = .ok (.getfield 15, 3) := by decide +kernel
theorem d_Book_valueIn_40 : decode b_Book_valueIn 40 = .ok (.iload_n 2, 1) := by decide +kernel
theorem d_Book_valueIn_41 : decode b_Book_valueIn 41 = .ok (.iaload, 1) := by decide +kernel
theorem d_Book_valueIn_42 : decode b_Book_valueIn 42 = .ok (.aload_n 0, 1) := by decide +kernel
theorem d_Book_valueIn_43 : decode b_Book_valueIn 43 = .ok (.getfield 22, 3) := by decide +kernel
theorem d_Book_valueIn_46 : decode b_Book_valueIn 46 = .ok (.iload_n 2, 1) := by decide +kernel
theorem d_Book_valueIn_47 : decode b_Book_valueIn 47 = .ok (.iaload, 1) := by decide +kernel
theorem d_Book_valueIn_48 : decode b_Book_valueIn 48 = .ok (.ifCond .le 20, 3) := by decide +kernel
theorem d_Book_valueIn_51 : decode b_Book_valueIn 51 = .ok (.iload_n 3, 1) := by decide +kernel
theorem d_Book_valueIn_52 : decode b_Book_valueIn 52 = .ok (.ifCond .le 16, 3) := by decide +kernel
theorem d_Book_valueIn_55 : decode b_Book_valueIn 55 = .ok (.iload_n 1, 1) := by decide +kernel
theorem d_Book_valueIn_56 : decode b_Book_valueIn 56 = .ok (.aload_n 0, 1) := by decide +kernel
theorem d_Book_valueIn_57 : decode b_Book_valueIn 57 = .ok (.getfield 22, 3) := by decide +kernel
theorem d_Book_valueIn_60 : decode b_Book_valueIn 60 = .ok (.iload_n 2, 1) := by decide +kernel
theorem d_Book_valueIn_61 : decode b_Book_valueIn 61 = .ok (.iaload, 1) := by decide +kernel
theorem d_Book_valueIn_62 : decode b_Book_valueIn 62 = .ok (.idiv, 1) := by decide +kernel
theorem d_Book_valueIn_63 : decode b_Book_valueIn 63 = .ok (.iload_n 3, 1) := by decide +kernel
theorem d_Book_valueIn_64 : decode b_Book_valueIn 64 = .ok (.irem, 1) := by decide +kernel
theorem d_Book_valueIn_65 : decode b_Book_valueIn 65 = .ok (.goto 4, 3) := by decide +kernel
theorem d_Book_valueIn_68 : decode b_Book_valueIn 68 = .ok (.iconst 0, 1) := by decide +kernel
theorem d_Book_valueIn_69 : decode b_Book_valueIn 69 = .ok (.iadd, 1) := by decide +kernel
theorem d_Book_valueIn_70 : decode b_Book_valueIn 70 = .ok (.ireturn, 1) := by decide +kernel
set_option maxHeartbeats 4000000 in
set_option maxRecDepth 100000 in
theorem c_Book_valueIn (l : Launch) {S : St} {x1 : Int32} {x2 : Int32} {r : Int32} (h : f_Book_valueIn S x1 x2 = some r) : MI cw l y_Book_valueIn b_Book_valueIn 4 (some .int) 0 0 0 0 (fun ad => [.ref (ad 5 0), .int x1, .int x2]) aT aE S r S := by
  refine MI_of "LawfulLots$Book" rfl (by decide) (fun _ => Nat.le_of_ble_eq_true rfl) ?_
  intro p e s m args below meth c D ar ad A Q ls hP F hK hA hw hl hQ
  have hl : lv_has ls 4 [(0, .ref (ad 5 0)), (1, .int x1), (2, .int x2)] := hl
  obtain ⟨X_0, eX_0⟩ : ∃ X : Int32 → Prop, X = (fun q => ∀ (H : Heap) (locs : List Loc) (pc : Nat) (ls : Array Slot), decode b_Book_valueIn pc = .ok (.ireturn, 1) → Bw cw D ar A s.heap H locs ad S → W p l e (RM 0 0) s m args below meth c H locs 0 0 Q (F0 m pc ls [.int q])) := ⟨_, rfl⟩
  have key : ∀ (H : Heap) (locs : List Loc), Bw cw D ar A s.heap H locs ad S → ∀ o, f_Book_valueIn S x1 x2 = some o → X_0 o → W p l e (RM 0 0) s m args below meth c H locs 0 0 Q (F0 m 0 ls []) := by
    intro H locs hw o h ho
    unfold f_Book_valueIn at h
    have J_69 : ∀ (t0 : Int32) (t1 : Int32) (H : Heap) (locs : List Loc) (ls : Array Slot), Bw cw D ar A s.heap H locs ad S → lv_has ls 4 [] → ∀ o, Book_valueIn_j69 S t0 t1 = some o → X_0 o → W p l e (RM 0 0) s m args below meth c H locs 0 0 Q (F0 m 69 ls [.int t1, .int t0]) := by
      intro t0 t1 H locs ls hw hl o h ho
      unfold Book_valueIn_j69 at h
      refine lv_iadd F.1 F.2.1 d_Book_valueIn_69 ?_
      cases h
      have ho : X_0 _ := ho
      rw [eX_0] at ho
      exact ho H locs _ ls d_Book_valueIn_70 hw
    have J_68 : ∀ (t0 : Int32) (H : Heap) (locs : List Loc) (ls : Array Slot), Bw cw D ar A s.heap H locs ad S → lv_has ls 4 [] → ∀ o, Book_valueIn_j68 S t0 = some o → X_0 o → W p l e (RM 0 0) s m args below meth c H locs 0 0 Q (F0 m 68 ls [.int t0]) := by
      intro t0 H locs ls hw hl o h ho
      unfold Book_valueIn_j68 at h
      refine lv_iconst (v := 0) F.1 F.2.1 d_Book_valueIn_68 (by decide) ?_
      exact J_69 t0 (0 : Int32) H locs ls hw (lv_sub hl [] rfl) o h ho
    have J_18 : ∀ (H : Heap) (locs : List Loc) (ls : Array Slot), Bw cw D ar A s.heap H locs ad S → lv_has ls 4 [] → ∀ o, Book_valueIn_j18 S = some o → X_0 o → W p l e (RM 0 0) s m args below meth c H locs 0 0 Q (F0 m 18 ls []) := by
      intro H locs ls hw hl o h ho
      unfold Book_valueIn_j18 at h
      refine lv_iconst (v := -1) F.1 F.2.1 d_Book_valueIn_18 (by decide) ?_
      cases h
      have ho : X_0 _ := ho
      rw [eX_0] at ho
      exact ho H locs _ ls d_Book_valueIn_19 hw
    refine lv_iload_n F.1 F.2.1 d_Book_valueIn_0 rfl (lv_at hl 2 rfl) ?_
    refine lv_if_lt (tgt := 18) F.1 F.2.1 d_Book_valueIn_1 (by decide) (fun c_1 => ?_) (fun c_1 => ?_)
    · replace h := ip c_1 h
      exact J_18 H locs ls hw (lv_sub hl [] rfl) o h ho
    · replace h := iq c_1 h
      refine lv_iload_n F.1 F.2.1 d_Book_valueIn_4 rfl (lv_at hl 2 rfl) ?_
      refine lv_aload_n F.1 F.2.1 d_Book_valueIn_5 rfl (lv_at hl 0 rfl) ?_
      refine cg_5_10 F hK hw lk_82 d_Book_valueIn_6 ?_
      refine lv_icmp_ge (tgt := 18) F.1 F.2.1 d_Book_valueIn_9 (by decide) (fun c_2 => ?_) (fun c_2 => ?_)
      · replace h := ip c_2 h
        exact J_18 H locs ls hw (lv_sub hl [] rfl) o h ho
      · replace h := iq c_2 h
        refine lv_iload_n F.1 F.2.1 d_Book_valueIn_12 rfl (lv_at hl 2 rfl) ?_
        refine lv_bipush (v := 6) F.1 F.2.1 d_Book_valueIn_13 (by decide) ?_
        refine lv_icmp_lt (tgt := 20) F.1 F.2.1 d_Book_valueIn_15 (by decide) (fun c_3 => ?_) (fun c_3 => ?_)
        · replace h := ip c_3 h
          refine lv_aload_n F.1 F.2.1 d_Book_valueIn_20 rfl (lv_at hl 0 rfl) ?_
          refine cg_5_2 F hK hw lk_69 d_Book_valueIn_21 ?_
          refine lv_iload_n F.1 F.2.1 d_Book_valueIn_24 rfl (lv_at hl 2 rfl) ?_
          obtain ⟨hi_4, h⟩ := gd_ex h
          refine cl_5_2 F hK hw hi_4 d_Book_valueIn_25 ?_
          refine lv_aload_n F.1 F.2.1 d_Book_valueIn_26 rfl (lv_at hl 0 rfl) ?_
          refine cg_5_1 F hK hw lk_68 d_Book_valueIn_27 ?_
          refine lv_iload_n F.1 F.2.1 d_Book_valueIn_30 rfl (lv_at hl 2 rfl) ?_
          obtain ⟨hi_5, h⟩ := gd_ex h
          refine cl_5_1 F hK hw hi_5 d_Book_valueIn_31 ?_
          refine lv_isub F.1 F.2.1 d_Book_valueIn_32 ?_
          refine lv_iconst (v := 1) F.1 F.2.1 d_Book_valueIn_33 (by decide) ?_
          refine lv_iadd F.1 F.2.1 d_Book_valueIn_34 ?_
          obtain ⟨x3_6, ex3_6, h⟩ := nm_ex h
          refine lv_nm ex3_6 ?_
          refine lv_istore_n (lv' := [(3, .int x3_6), (0, .ref (ad 5 0)), (1, .int x1), (2, .int x2)]) F.1 F.2.1 d_Book_valueIn_35 rfl hl (by decide) rfl (fun ls hl => ?_)
          refine lv_aload_n F.1 F.2.1 d_Book_valueIn_36 rfl (lv_at hl 1 rfl) ?_
          refine cg_5_1 F hK hw lk_68 d_Book_valueIn_37 ?_
          refine lv_iload_n F.1 F.2.1 d_Book_valueIn_40 rfl (lv_at hl 3 rfl) ?_
          obtain ⟨hi_7, h⟩ := gd_ex h
          refine cl_5_1 F hK hw hi_7 d_Book_valueIn_41 ?_
          refine lv_aload_n F.1 F.2.1 d_Book_valueIn_42 rfl (lv_at hl 1 rfl) ?_
          refine cg_5_3 F hK hw lk_70 d_Book_valueIn_43 ?_
          refine lv_iload_n F.1 F.2.1 d_Book_valueIn_46 rfl (lv_at hl 3 rfl) ?_
          obtain ⟨hi_8, h⟩ := gd_ex h
          refine cl_5_3 F hK hw hi_8 d_Book_valueIn_47 ?_
          refine lv_if_le (tgt := 68) F.1 F.2.1 d_Book_valueIn_48 (by decide) (fun c_9 => ?_) (fun c_9 => ?_)
          · replace h := ip c_9 h
            exact J_68 (gA S 5 1 x2.toNatClampNeg) H locs ls hw (lv_sub hl [] rfl) o h ho
          · replace h := iq c_9 h
            refine lv_iload_n F.1 F.2.1 d_Book_valueIn_51 rfl (lv_at hl 0 rfl) ?_
            refine lv_if_le (tgt := 68) F.1 F.2.1 d_Book_valueIn_52 (by decide) (fun c_10 => ?_) (fun c_10 => ?_)
            · replace h := ip c_10 h
              exact J_68 (gA S 5 1 x2.toNatClampNeg) H locs ls hw (lv_sub hl [] rfl) o h ho
            · replace h := iq c_10 h
              refine lv_iload_n F.1 F.2.1 d_Book_valueIn_55 rfl (lv_at hl 2 rfl) ?_
              refine lv_aload_n F.1 F.2.1 d_Book_valueIn_56 rfl (lv_at hl 1 rfl) ?_
              refine cg_5_3 F hK hw lk_70 d_Book_valueIn_57 ?_
              refine lv_iload_n F.1 F.2.1 d_Book_valueIn_60 rfl (lv_at hl 3 rfl) ?_
              obtain ⟨hi_11, h⟩ := gd_ex h
              refine cl_5_3 F hK hw hi_11 d_Book_valueIn_61 ?_
              obtain ⟨hz_12, h⟩ := gd_ex h
              refine lv_idiv F.1 F.2.1 d_Book_valueIn_62 (of_decide_eq_true hz_12) ?_
              refine lv_iload_n F.1 F.2.1 d_Book_valueIn_63 rfl (lv_at hl 0 rfl) ?_
              obtain ⟨hz_13, h⟩ := gd_ex h
              refine lv_irem F.1 F.2.1 d_Book_valueIn_64 (of_decide_eq_true hz_13) ?_
              refine lv_goto (tgt := 69) F.1 F.2.1 d_Book_valueIn_65 (by decide) ?_
              exact J_69 (gA S 5 1 x2.toNatClampNeg) ((x1 / (gA S 5 3 x2.toNatClampNeg)) - (x1 / (gA S 5 3 x2.toNatClampNeg)) / x3_6 * x3_6) H locs ls hw (lv_sub hl [] rfl) o h ho
        · replace h := iq c_3 h
          exact J_18 H locs ls hw (lv_sub hl [] rfl) o h ho
  exact key _ _ hw _ h (by rw [eX_0]; exact fun H locs pc ls hd hw => hQ H locs pc ls ad rfl hd hw)
theorem d_Lots_logged_0 : decode b_Lots_logged 0 = .ok (.iload_n 1, 1) := by decide +kernel
theorem d_Lots_logged_1 : decode b_Lots_logged 1 = .ok (.ifCond .lt 14, 3) := by decide +kernel
theorem d_Lots_logged_4 : decode b_Lots_logged 4 = .ok (.iload_n 1, 1) := by decide +kernel
theorem d_Lots_logged_5 : decode b_Lots_logged 5 = .ok (.aload_n 0, 1) := by decide +kernel
theorem d_Lots_logged_6 : decode b_Lots_logged 6 = .ok (.getfield 30, 3) := by decide +kernel
theorem d_Lots_logged_9 : decode b_Lots_logged 9 = .ok (.getfield 72, 3) := by decide +kernel
theorem d_Lots_logged_12 : decode b_Lots_logged 12 = .ok (.if_icmp .lt 7, 3) := by decide +kernel
theorem d_Lots_logged_15 : decode b_Lots_logged 15 = .ok (.iconst (-1), 1) := by decide +kernel
theorem d_Lots_logged_16 : decode b_Lots_logged 16 = .ok (.goto 22, 3) := by decide +kernel
theorem d_Lots_logged_19 : decode b_Lots_logged 19 = .ok (.aload_n 0, 1) := by decide +kernel
theorem d_Lots_logged_20 : decode b_Lots_logged 20 = .ok (.getfield 23, 3) := by decide +kernel
theorem d_Lots_logged_23 : decode b_Lots_logged 23 = .ok (.getfield 85, 3) := by decide +kernel
theorem d_Lots_logged_26 : decode b_Lots_logged 26 = .ok (.aload_n 0, 1) := by decide +kernel
theorem d_Lots_logged_27 : decode b_Lots_logged 27 = .ok (.getfield 30, 3) := by decide +kernel
theorem d_Lots_logged_30 : decode b_Lots_logged 30 = .ok (.iload_n 1, 1) := by decide +kernel
theorem d_Lots_logged_31 : decode b_Lots_logged 31 = .ok (.invokevirtual 182, 3) := by decide +kernel
theorem d_Lots_logged_34 : decode b_Lots_logged 34 = .ok (.iload_n 2, 1) := by decide +kernel
theorem d_Lots_logged_35 : decode b_Lots_logged 35 = .ok (.invokevirtual 112, 3) := by decide +kernel
theorem d_Lots_logged_38 : decode b_Lots_logged 38 = .ok (.ireturn, 1) := by decide +kernel
set_option maxHeartbeats 4000000 in
set_option maxRecDepth 100000 in
theorem c_Lots_logged (l : Launch) {S : St} {x1 : Int32} {x2 : Int32} {r : Int32} (h : f_Lots_logged S x1 x2 = some r) : MI cw l y_Lots_logged b_Lots_logged 3 (some .int) 1 23 0 0 (fun ad => [.ref (ad 0 0), .int x1, .int x2]) aT aE S r S := by
  refine MI_of "LawfulLots" rfl (by decide) (fun _ => Nat.le_of_ble_eq_true rfl) ?_
  intro p e s m args below meth c D ar ad A Q ls hP F hK hA hw hl hQ
  have hl : lv_has ls 3 [(0, .ref (ad 0 0)), (1, .int x1), (2, .int x2)] := hl
  obtain ⟨X_0, eX_0⟩ : ∃ X : Int32 → Prop, X = (fun q => ∀ (H : Heap) (locs : List Loc) (pc : Nat) (ls : Array Slot), decode b_Lots_logged pc = .ok (.ireturn, 1) → Bw cw D ar A s.heap H locs ad S → W p l e (RM 1 23) s m args below meth c H locs 0 0 Q (F0 m pc ls [.int q])) := ⟨_, rfl⟩
  have key : ∀ (H : Heap) (locs : List Loc), Bw cw D ar A s.heap H locs ad S → ∀ o, f_Lots_logged S x1 x2 = some o → X_0 o → W p l e (RM 1 23) s m args below meth c H locs 0 0 Q (F0 m 0 ls []) := by
    intro H locs hw o h ho
    unfold f_Lots_logged at h
    have J_38 : ∀ (t0 : Int32) (H : Heap) (locs : List Loc) (ls : Array Slot), Bw cw D ar A s.heap H locs ad S → lv_has ls 3 [] → ∀ o, Lots_logged_j38 S t0 = some o → X_0 o → W p l e (RM 1 23) s m args below meth c H locs 0 0 Q (F0 m 38 ls [.int t0]) := by
      intro t0 H locs ls hw hl o h ho
      unfold Lots_logged_j38 at h
      cases h
      have ho : X_0 _ := ho
      rw [eX_0] at ho
      exact ho H locs _ ls d_Lots_logged_38 hw
    have J_15 : ∀ (H : Heap) (locs : List Loc) (ls : Array Slot), Bw cw D ar A s.heap H locs ad S → lv_has ls 3 [] → ∀ o, Lots_logged_j15 S = some o → X_0 o → W p l e (RM 1 23) s m args below meth c H locs 0 0 Q (F0 m 15 ls []) := by
      intro H locs ls hw hl o h ho
      unfold Lots_logged_j15 at h
      refine lv_iconst (v := -1) F.1 F.2.1 d_Lots_logged_15 (by decide) ?_
      refine lv_goto (tgt := 38) F.1 F.2.1 d_Lots_logged_16 (by decide) ?_
      exact J_38 (-1 : Int32) H locs ls hw (lv_sub hl [] rfl) o h ho
    refine lv_iload_n F.1 F.2.1 d_Lots_logged_0 rfl (lv_at hl 1 rfl) ?_
    refine lv_if_lt (tgt := 15) F.1 F.2.1 d_Lots_logged_1 (by decide) (fun c_1 => ?_) (fun c_1 => ?_)
    · replace h := ip c_1 h
      exact J_15 H locs ls hw (lv_sub hl [] rfl) o h ho
    · replace h := iq c_1 h
      refine lv_iload_n F.1 F.2.1 d_Lots_logged_4 rfl (lv_at hl 1 rfl) ?_
      refine lv_aload_n F.1 F.2.1 d_Lots_logged_5 rfl (lv_at hl 0 rfl) ?_
      refine cg_0_3 F hK hw lk_343 d_Lots_logged_6 ?_
      refine cg_7_1 F hK hw lk_262 d_Lots_logged_9 ?_
      refine lv_icmp_lt (tgt := 19) F.1 F.2.1 d_Lots_logged_12 (by decide) (fun c_2 => ?_) (fun c_2 => ?_)
      · replace h := ip c_2 h
        refine lv_aload_n F.1 F.2.1 d_Lots_logged_19 rfl (lv_at hl 0 rfl) ?_
        refine cg_0_2 F hK hw lk_342 d_Lots_logged_20 ?_
        refine cg_4_8 F hK hw lk_202 d_Lots_logged_23 ?_
        refine lv_aload_n F.1 F.2.1 d_Lots_logged_26 rfl (lv_at hl 0 rfl) ?_
        refine cg_0_3 F hK hw lk_343 d_Lots_logged_27 ?_
        refine lv_iload_n F.1 F.2.1 d_Lots_logged_30 rfl (lv_at hl 1 rfl) ?_
        obtain ⟨v_4, hc_3, h⟩ := bd_ex h
        refine cV_i F hA rfl hK hw (c_Log_inputOf l hc_3) trivial rfl (good_V lk_874 lk_799 lk_800 lk_7 lk_801) (cr_7 hK hw) hd_Log_inputOf ⟨Nat.le_of_ble_eq_true rfl, Nat.le_of_ble_eq_true rfl⟩ rfl hl.1 rfl (Nat.le_of_ble_eq_true rfl) d_Lots_logged_31 ⟨(Nat.zero_le _), (Nat.zero_le _)⟩ (fun H locs hw => ?_)
        refine lv_iload_n F.1 F.2.1 d_Lots_logged_34 rfl (lv_at hl 2 rfl) ?_
        obtain ⟨v_6, hc_5, h⟩ := bd_ex h
        refine cV_i F hA rfl hK hw (c_Book_valueIn l hc_5) trivial rfl (good_V lk_664 lk_665 lk_666 lk_4 lk_667) (cr_5 hK hw) hd_Book_valueIn ⟨Nat.le_of_ble_eq_true rfl, Nat.le_of_ble_eq_true rfl⟩ rfl hl.1 rfl (Nat.le_of_ble_eq_true rfl) d_Lots_logged_35 ⟨(Nat.zero_le _), (Nat.zero_le _)⟩ (fun H locs hw => ?_)
        exact J_38 v_6 H locs ls hw (lv_sub hl [] rfl) o h ho
      · replace h := iq c_2 h
        exact J_15 H locs ls hw (lv_sub hl [] rfl) o h ho
  exact key _ _ hw _ h (by rw [eX_0]; exact fun H locs pc ls hd hw => hQ H locs pc ls ad rfl hd hw)
theorem d_Lots_count_0 : decode b_Lots_count 0 = .ok (.iload_n 1, 1) := by decide +kernel
theorem d_Lots_count_1 : decode b_Lots_count 1 = .ok (.tableswitch 146 0 8 #[51, 62, 74, 86, 98, 110, 122, 133, 141], 51) := by decide +kernel
theorem d_Lots_count_52 : decode b_Lots_count 52 = .ok (.aload_n 0, 1) := by decide +kernel
theorem d_Lots_count_53 : decode b_Lots_count 53 = .ok (.getfield 23, 3) := by decide +kernel
theorem d_Lots_count_56 : decode b_Lots_count 56 = .ok (.getfield 85, 3) := by decide +kernel
theorem d_Lots_count_59 : decode b_Lots_count 59 = .ok (.getfield 200, 3) := by decide +kernel
theorem d_Lots_count_62 : decode b_Lots_count 62 = .ok (.ireturn, 1) := by decide +kernel
theorem d_Lots_count_63 : decode b_Lots_count 63 = .ok (.aload_n 0, 1) := by decide +kernel
theorem d_Lots_count_64 : decode b_Lots_count 64 = .ok (.getfield 23, 3) := by decide +kernel
theorem d_Lots_count_67 : decode b_Lots_count 67 = .ok (.getfield 85, 3) := by decide +kernel
theorem d_Lots_count_70 : decode b_Lots_count 70 = .ok (.iconst 0, 1) := by decide +kernel
theorem d_Lots_count_71 : decode b_Lots_count 71 = .ok (.invokevirtual 203, 3) := by decide +kernel
theorem d_Lots_count_74 : decode b_Lots_count 74 = .ok (.ireturn, 1) := by decide +kernel
theorem d_Lots_count_75 : decode b_Lots_count 75 = .ok (.aload_n 0, 1) := by decide +kernel
theorem d_Lots_count_76 : decode b_Lots_count 76 = .ok (.getfield 23, 3) := by decide +kernel
theorem d_Lots_count_79 : decode b_Lots_count 79 = .ok (.getfield 85, 3) := by decide +kernel
theorem d_Lots_count_82 : decode b_Lots_count 82 = .ok (.iconst 1, 1) := by decide +kernel
theorem d_Lots_count_83 : decode b_Lots_count 83 = .ok (.invokevirtual 203, 3) := by decide +kernel
theorem d_Lots_count_86 : decode b_Lots_count 86 = .ok (.ireturn, 1) := by decide +kernel
theorem d_Lots_count_87 : decode b_Lots_count 87 = .ok (.aload_n 0, 1) := by decide +kernel
theorem d_Lots_count_88 : decode b_Lots_count 88 = .ok (.getfield 23, 3) := by decide +kernel
theorem d_Lots_count_91 : decode b_Lots_count 91 = .ok (.getfield 85, 3) := by decide +kernel
theorem d_Lots_count_94 : decode b_Lots_count 94 = .ok (.iconst 2, 1) := by decide +kernel
theorem d_Lots_count_95 : decode b_Lots_count 95 = .ok (.invokevirtual 203, 3) := by decide +kernel
theorem d_Lots_count_98 : decode b_Lots_count 98 = .ok (.ireturn, 1) := by decide +kernel
theorem d_Lots_count_99 : decode b_Lots_count 99 = .ok (.aload_n 0, 1) := by decide +kernel
theorem d_Lots_count_100 : decode b_Lots_count 100 = .ok (.getfield 23, 3) := by decide +kernel
theorem d_Lots_count_103 : decode b_Lots_count 103 = .ok (.getfield 85, 3) := by decide +kernel
theorem d_Lots_count_106 : decode b_Lots_count 106 = .ok (.iconst 3, 1) := by decide +kernel
theorem d_Lots_count_107 : decode b_Lots_count 107 = .ok (.invokevirtual 203, 3) := by decide +kernel
theorem d_Lots_count_110 : decode b_Lots_count 110 = .ok (.ireturn, 1) := by decide +kernel
theorem d_Lots_count_111 : decode b_Lots_count 111 = .ok (.aload_n 0, 1) := by decide +kernel
theorem d_Lots_count_112 : decode b_Lots_count 112 = .ok (.getfield 23, 3) := by decide +kernel
theorem d_Lots_count_115 : decode b_Lots_count 115 = .ok (.getfield 85, 3) := by decide +kernel
theorem d_Lots_count_118 : decode b_Lots_count 118 = .ok (.iconst 4, 1) := by decide +kernel
theorem d_Lots_count_119 : decode b_Lots_count 119 = .ok (.invokevirtual 203, 3) := by decide +kernel
theorem d_Lots_count_122 : decode b_Lots_count 122 = .ok (.ireturn, 1) := by decide +kernel
theorem d_Lots_count_123 : decode b_Lots_count 123 = .ok (.aload_n 0, 1) := by decide +kernel
theorem d_Lots_count_124 : decode b_Lots_count 124 = .ok (.getfield 23, 3) := by decide +kernel
theorem d_Lots_count_127 : decode b_Lots_count 127 = .ok (.getfield 85, 3) := by decide +kernel
theorem d_Lots_count_130 : decode b_Lots_count 130 = .ok (.getfield 206, 3) := by decide +kernel
theorem d_Lots_count_133 : decode b_Lots_count 133 = .ok (.ireturn, 1) := by decide +kernel
theorem d_Lots_count_134 : decode b_Lots_count 134 = .ok (.aload_n 0, 1) := by decide +kernel
theorem d_Lots_count_135 : decode b_Lots_count 135 = .ok (.getfield 30, 3) := by decide +kernel
theorem d_Lots_count_138 : decode b_Lots_count 138 = .ok (.getfield 72, 3) := by decide +kernel
theorem d_Lots_count_141 : decode b_Lots_count 141 = .ok (.ireturn, 1) := by decide +kernel
theorem d_Lots_count_142 : decode b_Lots_count 142 = .ok (.aload_n 0, 1) := by decide +kernel
theorem d_Lots_count_143 : decode b_Lots_count 143 = .ok (.getfield 48, 3) := by decide +kernel
theorem d_Lots_count_146 : decode b_Lots_count 146 = .ok (.ireturn, 1) := by decide +kernel
theorem d_Lots_count_147 : decode b_Lots_count 147 = .ok (.iconst (-1), 1) := by decide +kernel
theorem d_Lots_count_148 : decode b_Lots_count 148 = .ok (.ireturn, 1) := by decide +kernel
set_option maxHeartbeats 4000000 in
set_option maxRecDepth 100000 in
theorem c_Lots_count (l : Launch) {S : St} {x1 : Int32} {r : Int32} (h : f_Lots_count S x1 = some r) : MI cw l y_Lots_count b_Lots_count 2 (some .int) 1 21 0 0 (fun ad => [.ref (ad 0 0), .int x1]) aT aE S r S := by
  refine MI_of "LawfulLots" rfl (by decide) (fun _ => Nat.le_of_ble_eq_true rfl) ?_
  intro p e s m args below meth c D ar ad A Q ls hP F hK hA hw hl hQ
  have hl : lv_has ls 2 [(0, .ref (ad 0 0)), (1, .int x1)] := hl
  obtain ⟨X_0, eX_0⟩ : ∃ X : Int32 → Prop, X = (fun q => ∀ (H : Heap) (locs : List Loc) (pc : Nat) (ls : Array Slot), decode b_Lots_count pc = .ok (.ireturn, 1) → Bw cw D ar A s.heap H locs ad S → W p l e (RM 1 21) s m args below meth c H locs 0 0 Q (F0 m pc ls [.int q])) := ⟨_, rfl⟩
  have key : ∀ (H : Heap) (locs : List Loc), Bw cw D ar A s.heap H locs ad S → ∀ o, f_Lots_count S x1 = some o → X_0 o → W p l e (RM 1 21) s m args below meth c H locs 0 0 Q (F0 m 0 ls []) := by
    intro H locs hw o h ho
    unfold f_Lots_count at h
    refine lv_iload_n F.1 F.2.1 d_Lots_count_0 rfl (lv_at hl 1 rfl) ?_
    rcases Decidable.em (x1 = (0 : Int32)) with c_1 | c_1
    · replace h := ip c_1 h
      refine lv_tableIn (off := 51) (tgt := 52) F.1 F.2.1 d_Lots_count_1 (by rw [c_1]; decide) (by rw [c_1]; decide) (by rw [c_1]; decide) (by decide) ?_
      refine lv_aload_n F.1 F.2.1 d_Lots_count_52 rfl (lv_at hl 0 rfl) ?_
      refine cg_0_2 F hK hw lk_342 d_Lots_count_53 ?_
      refine cg_4_8 F hK hw lk_202 d_Lots_count_56 ?_
      refine cg_5_10 F hK hw lk_84 d_Lots_count_59 ?_
      cases h
      have ho : X_0 _ := ho
      rw [eX_0] at ho
      exact ho H locs _ ls d_Lots_count_62 hw
    replace h := iq c_1 h
    rcases Decidable.em (x1 = (1 : Int32)) with c_2 | c_2
    · replace h := ip c_2 h
      refine lv_tableIn (off := 62) (tgt := 63) F.1 F.2.1 d_Lots_count_1 (by rw [c_2]; decide) (by rw [c_2]; decide) (by rw [c_2]; decide) (by decide) ?_
      refine lv_aload_n F.1 F.2.1 d_Lots_count_63 rfl (lv_at hl 0 rfl) ?_
      refine cg_0_2 F hK hw lk_342 d_Lots_count_64 ?_
      refine cg_4_8 F hK hw lk_202 d_Lots_count_67 ?_
      refine lv_iconst (v := 0) F.1 F.2.1 d_Lots_count_70 (by decide) ?_
      obtain ⟨v_4, hc_3, h⟩ := bd_ex h
      refine cV_i F hA rfl hK hw (c_Book_toldOf_5 l hc_3) trivial rfl (good_V lk_942 lk_452 lk_453 lk_4 lk_454) (cr_5 hK hw) hd_Book_toldOf ⟨Nat.le_of_ble_eq_true rfl, Nat.le_of_ble_eq_true rfl⟩ rfl hl.1 rfl (Nat.le_of_ble_eq_true rfl) d_Lots_count_71 ⟨(Nat.zero_le _), (Nat.zero_le _)⟩ (fun H locs hw => ?_)
      cases h
      have ho : X_0 _ := ho
      rw [eX_0] at ho
      exact ho H locs _ ls d_Lots_count_74 hw
    replace h := iq c_2 h
    rcases Decidable.em (x1 = (2 : Int32)) with c_5 | c_5
    · replace h := ip c_5 h
      refine lv_tableIn (off := 74) (tgt := 75) F.1 F.2.1 d_Lots_count_1 (by rw [c_5]; decide) (by rw [c_5]; decide) (by rw [c_5]; decide) (by decide) ?_
      refine lv_aload_n F.1 F.2.1 d_Lots_count_75 rfl (lv_at hl 0 rfl) ?_
      refine cg_0_2 F hK hw lk_342 d_Lots_count_76 ?_
      refine cg_4_8 F hK hw lk_202 d_Lots_count_79 ?_
      refine lv_iconst (v := 1) F.1 F.2.1 d_Lots_count_82 (by decide) ?_
      obtain ⟨v_7, hc_6, h⟩ := bd_ex h
      refine cV_i F hA rfl hK hw (c_Book_toldOf_5 l hc_6) trivial rfl (good_V lk_942 lk_452 lk_453 lk_4 lk_454) (cr_5 hK hw) hd_Book_toldOf ⟨Nat.le_of_ble_eq_true rfl, Nat.le_of_ble_eq_true rfl⟩ rfl hl.1 rfl (Nat.le_of_ble_eq_true rfl) d_Lots_count_83 ⟨(Nat.zero_le _), (Nat.zero_le _)⟩ (fun H locs hw => ?_)
      cases h
      have ho : X_0 _ := ho
      rw [eX_0] at ho
      exact ho H locs _ ls d_Lots_count_86 hw
    replace h := iq c_5 h
    rcases Decidable.em (x1 = (3 : Int32)) with c_8 | c_8
    · replace h := ip c_8 h
      refine lv_tableIn (off := 86) (tgt := 87) F.1 F.2.1 d_Lots_count_1 (by rw [c_8]; decide) (by rw [c_8]; decide) (by rw [c_8]; decide) (by decide) ?_
      refine lv_aload_n F.1 F.2.1 d_Lots_count_87 rfl (lv_at hl 0 rfl) ?_
      refine cg_0_2 F hK hw lk_342 d_Lots_count_88 ?_
      refine cg_4_8 F hK hw lk_202 d_Lots_count_91 ?_
      refine lv_iconst (v := 2) F.1 F.2.1 d_Lots_count_94 (by decide) ?_
      obtain ⟨v_10, hc_9, h⟩ := bd_ex h
      refine cV_i F hA rfl hK hw (c_Book_toldOf_5 l hc_9) trivial rfl (good_V lk_942 lk_452 lk_453 lk_4 lk_454) (cr_5 hK hw) hd_Book_toldOf ⟨Nat.le_of_ble_eq_true rfl, Nat.le_of_ble_eq_true rfl⟩ rfl hl.1 rfl (Nat.le_of_ble_eq_true rfl) d_Lots_count_95 ⟨(Nat.zero_le _), (Nat.zero_le _)⟩ (fun H locs hw => ?_)
      cases h
      have ho : X_0 _ := ho
      rw [eX_0] at ho
      exact ho H locs _ ls d_Lots_count_98 hw
    replace h := iq c_8 h
    rcases Decidable.em (x1 = (4 : Int32)) with c_11 | c_11
    · replace h := ip c_11 h
      refine lv_tableIn (off := 98) (tgt := 99) F.1 F.2.1 d_Lots_count_1 (by rw [c_11]; decide) (by rw [c_11]; decide) (by rw [c_11]; decide) (by decide) ?_
      refine lv_aload_n F.1 F.2.1 d_Lots_count_99 rfl (lv_at hl 0 rfl) ?_
      refine cg_0_2 F hK hw lk_342 d_Lots_count_100 ?_
      refine cg_4_8 F hK hw lk_202 d_Lots_count_103 ?_
      refine lv_iconst (v := 3) F.1 F.2.1 d_Lots_count_106 (by decide) ?_
      obtain ⟨v_13, hc_12, h⟩ := bd_ex h
      refine cV_i F hA rfl hK hw (c_Book_toldOf_5 l hc_12) trivial rfl (good_V lk_942 lk_452 lk_453 lk_4 lk_454) (cr_5 hK hw) hd_Book_toldOf ⟨Nat.le_of_ble_eq_true rfl, Nat.le_of_ble_eq_true rfl⟩ rfl hl.1 rfl (Nat.le_of_ble_eq_true rfl) d_Lots_count_107 ⟨(Nat.zero_le _), (Nat.zero_le _)⟩ (fun H locs hw => ?_)
      cases h
      have ho : X_0 _ := ho
      rw [eX_0] at ho
      exact ho H locs _ ls d_Lots_count_110 hw
    replace h := iq c_11 h
    rcases Decidable.em (x1 = (5 : Int32)) with c_14 | c_14
    · replace h := ip c_14 h
      refine lv_tableIn (off := 110) (tgt := 111) F.1 F.2.1 d_Lots_count_1 (by rw [c_14]; decide) (by rw [c_14]; decide) (by rw [c_14]; decide) (by decide) ?_
      refine lv_aload_n F.1 F.2.1 d_Lots_count_111 rfl (lv_at hl 0 rfl) ?_
      refine cg_0_2 F hK hw lk_342 d_Lots_count_112 ?_
      refine cg_4_8 F hK hw lk_202 d_Lots_count_115 ?_
      refine lv_iconst (v := 4) F.1 F.2.1 d_Lots_count_118 (by decide) ?_
      obtain ⟨v_16, hc_15, h⟩ := bd_ex h
      refine cV_i F hA rfl hK hw (c_Book_toldOf_5 l hc_15) trivial rfl (good_V lk_942 lk_452 lk_453 lk_4 lk_454) (cr_5 hK hw) hd_Book_toldOf ⟨Nat.le_of_ble_eq_true rfl, Nat.le_of_ble_eq_true rfl⟩ rfl hl.1 rfl (Nat.le_of_ble_eq_true rfl) d_Lots_count_119 ⟨(Nat.zero_le _), (Nat.zero_le _)⟩ (fun H locs hw => ?_)
      cases h
      have ho : X_0 _ := ho
      rw [eX_0] at ho
      exact ho H locs _ ls d_Lots_count_122 hw
    replace h := iq c_14 h
    rcases Decidable.em (x1 = (6 : Int32)) with c_17 | c_17
    · replace h := ip c_17 h
      refine lv_tableIn (off := 122) (tgt := 123) F.1 F.2.1 d_Lots_count_1 (by rw [c_17]; decide) (by rw [c_17]; decide) (by rw [c_17]; decide) (by decide) ?_
      refine lv_aload_n F.1 F.2.1 d_Lots_count_123 rfl (lv_at hl 0 rfl) ?_
      refine cg_0_2 F hK hw lk_342 d_Lots_count_124 ?_
      refine cg_4_8 F hK hw lk_202 d_Lots_count_127 ?_
      refine cg_5_11 F hK hw lk_88 d_Lots_count_130 ?_
      cases h
      have ho : X_0 _ := ho
      rw [eX_0] at ho
      exact ho H locs _ ls d_Lots_count_133 hw
    replace h := iq c_17 h
    rcases Decidable.em (x1 = (7 : Int32)) with c_18 | c_18
    · replace h := ip c_18 h
      refine lv_tableIn (off := 133) (tgt := 134) F.1 F.2.1 d_Lots_count_1 (by rw [c_18]; decide) (by rw [c_18]; decide) (by rw [c_18]; decide) (by decide) ?_
      refine lv_aload_n F.1 F.2.1 d_Lots_count_134 rfl (lv_at hl 0 rfl) ?_
      refine cg_0_3 F hK hw lk_343 d_Lots_count_135 ?_
      refine cg_7_1 F hK hw lk_262 d_Lots_count_138 ?_
      cases h
      have ho : X_0 _ := ho
      rw [eX_0] at ho
      exact ho H locs _ ls d_Lots_count_141 hw
    replace h := iq c_18 h
    rcases Decidable.em (x1 = (8 : Int32)) with c_19 | c_19
    · replace h := ip c_19 h
      refine lv_tableIn (off := 141) (tgt := 142) F.1 F.2.1 d_Lots_count_1 (by rw [c_19]; decide) (by rw [c_19]; decide) (by rw [c_19]; decide) (by decide) ?_
      refine lv_aload_n F.1 F.2.1 d_Lots_count_142 rfl (lv_at hl 0 rfl) ?_
      refine cg_0_6 F hK hw lk_346 d_Lots_count_143 ?_
      cases h
      have ho : X_0 _ := ho
      rw [eX_0] at ho
      exact ho H locs _ ls d_Lots_count_146 hw
    replace h := iq c_19 h
    have zc_1 := lv_neT (a := 0) c_1 rfl
    have zc_2 := lv_neT (a := 1) c_2 rfl
    have zc_5 := lv_neT (a := 2) c_5 rfl
    have zc_8 := lv_neT (a := 3) c_8 rfl
    have zc_11 := lv_neT (a := 4) c_11 rfl
    have zc_14 := lv_neT (a := 5) c_14 rfl
    have zc_17 := lv_neT (a := 6) c_17 rfl
    have zc_18 := lv_neT (a := 7) c_18 rfl
    have zc_19 := lv_neT (a := 8) c_19 rfl
    refine lv_tableOut (tgt := 147) F.1 F.2.1 d_Lots_count_1 (by omega) (by decide) ?_
    refine lv_iconst (v := -1) F.1 F.2.1 d_Lots_count_147 (by decide) ?_
    cases h
    have ho : X_0 _ := ho
    rw [eX_0] at ho
    exact ho H locs _ ls d_Lots_count_148 hw
  exact key _ _ hw _ h (by rw [eX_0]; exact fun H locs pc ls hd hw => hQ H locs pc ls ad rfl hd hw)
theorem d_Arrays_fill_0 : decode b_Arrays_fill 0 = .ok (.iconst 0, 1) := by decide +kernel
theorem d_Arrays_fill_1 : decode b_Arrays_fill 1 = .ok (.istore_n 2, 1) := by decide +kernel
theorem d_Arrays_fill_2 : decode b_Arrays_fill 2 = .ok (.aload_n 0, 1) := by decide +kernel
theorem d_Arrays_fill_3 : decode b_Arrays_fill 3 = .ok (.arraylength, 1) := by decide +kernel
theorem d_Arrays_fill_4 : decode b_Arrays_fill 4 = .ok (.istore_n 3, 1) := by decide +kernel
theorem d_Arrays_fill_5 : decode b_Arrays_fill 5 = .ok (.iload_n 2, 1) := by decide +kernel
theorem d_Arrays_fill_6 : decode b_Arrays_fill 6 = .ok (.iload_n 3, 1) := by decide +kernel
theorem d_Arrays_fill_7 : decode b_Arrays_fill 7 = .ok (.if_icmp .ge 13, 3) := by decide +kernel
theorem d_Arrays_fill_10 : decode b_Arrays_fill 10 = .ok (.aload_n 0, 1) := by decide +kernel
theorem d_Arrays_fill_11 : decode b_Arrays_fill 11 = .ok (.iload_n 2, 1) := by decide +kernel
theorem d_Arrays_fill_12 : decode b_Arrays_fill 12 = .ok (.iload_n 1, 1) := by decide +kernel
theorem d_Arrays_fill_13 : decode b_Arrays_fill 13 = .ok (.iastore, 1) := by decide +kernel
theorem d_Arrays_fill_14 : decode b_Arrays_fill 14 = .ok (.iinc 2 1, 3) := by decide +kernel
theorem d_Arrays_fill_17 : decode b_Arrays_fill 17 = .ok (.goto (-12), 3) := by decide +kernel
theorem d_Arrays_fill_20 : decode b_Arrays_fill 20 = .ok (.return_, 1) := by decide +kernel
set_option maxHeartbeats 4000000 in
set_option maxRecDepth 100000 in
theorem c_Arrays_fill_8_0 (l : Launch) {S : St} {x1 : Int32} {S' : St} (h : f_Arrays_fill 8 0 S x1 = some S') : MV cw l y_Arrays_fill b_Arrays_fill 4 none 0 0 0 0 (fun ad => [.ref (ad 8 1), .int x1]) aT aE S S' := by
  refine MV_of "java/util/Arrays" rfl (by decide) (fun _ => Nat.le_of_ble_eq_true rfl) ?_
  intro p e s m args below meth c D ar ad A Q ls hP F hK hA hw hl hQ
  have hl : lv_has ls 4 [(0, .ref (ad 8 1)), (1, .int x1)] := hl
  obtain ⟨X_0, eX_0⟩ : ∃ X : St → Prop, X = (fun q => ∀ (H : Heap) (locs : List Loc) (pc : Nat) (ls : Array Slot), decode b_Arrays_fill pc = .ok (.return_, 1) → Bw cw D ar A s.heap H locs ad q → W p l e (RM 0 0) s m args below meth c H locs 0 0 Q (F0 m pc ls [])) := ⟨_, rfl⟩
  have key : ∀ (H : Heap) (locs : List Loc), Bw cw D ar A s.heap H locs ad S → ∀ o, f_Arrays_fill 8 0 S x1 = some o → X_0 o → W p l e (RM 0 0) s m args below meth c H locs 0 0 Q (F0 m 0 ls []) := by
    intro H locs hw o h ho
    unfold f_Arrays_fill at h
    refine lv_iconst (v := 0) F.1 F.2.1 d_Arrays_fill_0 (by decide) ?_
    refine lv_istore_n (lv' := [(2, .int (0 : Int32)), (0, .ref (ad 8 1)), (1, .int x1)]) F.1 F.2.1 d_Arrays_fill_1 rfl hl (by decide) rfl (fun ls hl => ?_)
    refine lv_aload_n F.1 F.2.1 d_Arrays_fill_2 rfl (lv_at hl 1 rfl) ?_
    refine cn_8_0 F hK hw d_Arrays_fill_3 ?_
    obtain ⟨x3_1, ex3_1, h⟩ := nm_ex h
    refine lv_nm ex3_1 ?_
    refine lv_istore_n (lv' := [(3, .int x3_1), (2, .int (0 : Int32)), (0, .ref (ad 8 1)), (1, .int x1)]) F.1 F.2.1 d_Arrays_fill_4 rfl hl (by decide) rfl (fun ls hl => ?_)
    obtain ⟨S_6, hc_7, h⟩ := bd_ex h
    obtain ⟨X_5, eX_5⟩ : ∃ X : St → Prop, X = (fun q => ∀ (H : Heap) (locs : List Loc) (ls : Array Slot), Bw cw D ar A s.heap H locs ad q → lv_has ls 4 [] → W p l e (RM 0 0) s m args below meth c H locs 0 0 Q (F0 m 20 ls [])) := ⟨_, rfl⟩
    have hX_5 : X_5 S_6 := by
      rw [eX_5]
      intro H locs ls hw hl
      cases h
      have ho : X_0 _ := ho
      rw [eX_0] at ho
      exact ho H locs _ ls d_Arrays_fill_20 hw
    obtain ⟨P_5, eP_5⟩ : ∃ P : (St × Int32) → Prop, P = (fun q => ∀ (H : Heap) (locs : List Loc) (ls : Array Slot), Bw cw D ar A s.heap H locs ad q.1 → lv_has ls 4 [(0, .ref (ad 8 1)), (1, .int x1), (2, .int q.2), (3, .int x3_1)] → W p l e (RM 0 0) s m args below meth c H locs 0 0 Q (F0 m 5 ls [])) := ⟨_, rfl⟩
    have hL_5 : P_5 (S, (0 : Int32)) := by
      refine wh_gp (P := P_5) (X := X_5) hc_7 hX_5 ?_
      clear h
      intro q o h ho
      obtain ⟨S, x2⟩ := q
      have h : Arrays_fill_l5 8 0 x1 x3_1 S x2 = some o := h
      unfold Arrays_fill_l5 at h
      rw [eP_5]
      intro H locs ls hw hl
      refine lv_iload_n F.1 F.2.1 d_Arrays_fill_5 rfl (lv_at hl 2 rfl) ?_
      refine lv_iload_n F.1 F.2.1 d_Arrays_fill_6 rfl (lv_at hl 3 rfl) ?_
      refine lv_icmp_ge (tgt := 20) F.1 F.2.1 d_Arrays_fill_7 (by decide) (fun c_2 => ?_) (fun c_2 => ?_)
      · replace h := ip c_2 h
        cases h
        have ho : X_5 _ := ho
        rw [eX_5] at ho
        exact ho H locs ls hw (lv_sub hl [] rfl)
      · replace h := iq c_2 h
        refine lv_aload_n F.1 F.2.1 d_Arrays_fill_10 rfl (lv_at hl 0 rfl) ?_
        refine lv_iload_n F.1 F.2.1 d_Arrays_fill_11 rfl (lv_at hl 2 rfl) ?_
        refine lv_iload_n F.1 F.2.1 d_Arrays_fill_12 rfl (lv_at hl 1 rfl) ?_
        obtain ⟨hi_3, h⟩ := gd_ex h
        obtain ⟨S_4, eS_4, h⟩ := nm_ex h
        refine cs_8_0 F hK hw hi_3 d_Arrays_fill_13 eS_4 (fun H locs hw => ?_)
        obtain ⟨x2_5, ex2_5, h⟩ := nm_ex h
        refine lv_iinc (v := x2_5) (lv' := [(2, .int x2_5), (0, .ref (ad 8 1)), (1, .int x1), (3, .int x3_1)]) F.1 F.2.1 d_Arrays_fill_14 hl (k := 2) rfl (by rw [ex2_5]; rfl) (by decide) rfl (fun ls hl => ?_)
        refine lv_goto (tgt := 5) F.1 F.2.1 d_Arrays_fill_17 (by decide) ?_
        cases h
        have ho : P_5 _ := ho
        rw [eP_5] at ho
        exact ho H locs ls hw (lv_sub hl [1, 2, 0, 3] rfl)
    rw [eP_5] at hL_5
    exact hL_5 H locs ls hw (lv_sub hl [2, 3, 1, 0] rfl)
  exact key _ _ hw _ h (by rw [eX_0]; exact fun H locs pc ls hd hw => hQ H locs pc ls ad rfl hd hw)
theorem d_Chart_inputOf_0 : decode b_Chart_inputOf 0 = .ok (.iload_n 1, 1) := by decide +kernel
theorem d_Chart_inputOf_1 : decode b_Chart_inputOf 1 = .ok (.ifCond .lt 29, 3) := by decide +kernel
theorem d_Chart_inputOf_4 : decode b_Chart_inputOf 4 = .ok (.iload_n 1, 1) := by decide +kernel
theorem d_Chart_inputOf_5 : decode b_Chart_inputOf 5 = .ok (.aload_n 0, 1) := by decide +kernel
theorem d_Chart_inputOf_6 : decode b_Chart_inputOf 6 = .ok (.getfield 47, 3) := by decide +kernel
theorem d_Chart_inputOf_9 : decode b_Chart_inputOf 9 = .ok (.if_icmp .ge 21, 3) := by decide +kernel
theorem d_Chart_inputOf_12 : decode b_Chart_inputOf 12 = .ok (.iload_n 1, 1) := by decide +kernel
theorem d_Chart_inputOf_13 : decode b_Chart_inputOf 13 = .ok (.aload_n 0, 1) := by decide +kernel
theorem d_Chart_inputOf_14 : decode b_Chart_inputOf 14 = .ok (.getfield 37, 3) := by decide +kernel
theorem d_Chart_inputOf_17 : decode b_Chart_inputOf 17 = .ok (.arraylength, 1) := by decide +kernel
theorem d_Chart_inputOf_18 : decode b_Chart_inputOf 18 = .ok (.if_icmp .ge 12, 3) := by decide +kernel
theorem d_Chart_inputOf_21 : decode b_Chart_inputOf 21 = .ok (.aload_n 0, 1) := by decide +kernel
theorem d_Chart_inputOf_22 : decode b_Chart_inputOf 22 = .ok (.getfield 37, 3) := by decide +kernel
theorem d_Chart_inputOf_25 : decode b_Chart_inputOf 25 = .ok (.iload_n 1, 1) := by decide +kernel
theorem d_Chart_inputOf_26 : decode b_Chart_inputOf 26 = .ok (.iaload, 1) := by decide +kernel
theorem d_Chart_inputOf_27 : decode b_Chart_inputOf 27 = .ok (.goto 4, 3) := by decide +kernel
theorem d_Chart_inputOf_30 : decode b_Chart_inputOf 30 = .ok (.iconst 0, 1) := by decide +kernel
theorem d_Chart_inputOf_31 : decode b_Chart_inputOf 31 = .ok (.ireturn, 1) := by decide +kernel
set_option maxHeartbeats 4000000 in
set_option maxRecDepth 100000 in
theorem c_Chart_inputOf (l : Launch) {S : St} {x1 : Int32} {r : Int32} (h : f_Chart_inputOf S x1 = some r) : MI cw l y_Chart_inputOf b_Chart_inputOf 2 (some .int) 0 0 0 0 (fun ad => [.ref (ad 4 0), .int x1]) aT aE S r S := by
  refine MI_of "LawfulLots$Chart" rfl (by decide) (fun _ => Nat.le_of_ble_eq_true rfl) ?_
  intro p e s m args below meth c D ar ad A Q ls hP F hK hA hw hl hQ
  have hl : lv_has ls 2 [(0, .ref (ad 4 0)), (1, .int x1)] := hl
  obtain ⟨X_0, eX_0⟩ : ∃ X : Int32 → Prop, X = (fun q => ∀ (H : Heap) (locs : List Loc) (pc : Nat) (ls : Array Slot), decode b_Chart_inputOf pc = .ok (.ireturn, 1) → Bw cw D ar A s.heap H locs ad S → W p l e (RM 0 0) s m args below meth c H locs 0 0 Q (F0 m pc ls [.int q])) := ⟨_, rfl⟩
  have key : ∀ (H : Heap) (locs : List Loc), Bw cw D ar A s.heap H locs ad S → ∀ o, f_Chart_inputOf S x1 = some o → X_0 o → W p l e (RM 0 0) s m args below meth c H locs 0 0 Q (F0 m 0 ls []) := by
    intro H locs hw o h ho
    unfold f_Chart_inputOf at h
    have J_31 : ∀ (t0 : Int32) (H : Heap) (locs : List Loc) (ls : Array Slot), Bw cw D ar A s.heap H locs ad S → lv_has ls 2 [] → ∀ o, Chart_inputOf_j31 S t0 = some o → X_0 o → W p l e (RM 0 0) s m args below meth c H locs 0 0 Q (F0 m 31 ls [.int t0]) := by
      intro t0 H locs ls hw hl o h ho
      unfold Chart_inputOf_j31 at h
      cases h
      have ho : X_0 _ := ho
      rw [eX_0] at ho
      exact ho H locs _ ls d_Chart_inputOf_31 hw
    have J_30 : ∀ (H : Heap) (locs : List Loc) (ls : Array Slot), Bw cw D ar A s.heap H locs ad S → lv_has ls 2 [] → ∀ o, Chart_inputOf_j30 S = some o → X_0 o → W p l e (RM 0 0) s m args below meth c H locs 0 0 Q (F0 m 30 ls []) := by
      intro H locs ls hw hl o h ho
      unfold Chart_inputOf_j30 at h
      refine lv_iconst (v := 0) F.1 F.2.1 d_Chart_inputOf_30 (by decide) ?_
      exact J_31 (0 : Int32) H locs ls hw (lv_sub hl [] rfl) o h ho
    refine lv_iload_n F.1 F.2.1 d_Chart_inputOf_0 rfl (lv_at hl 1 rfl) ?_
    refine lv_if_lt (tgt := 30) F.1 F.2.1 d_Chart_inputOf_1 (by decide) (fun c_1 => ?_) (fun c_1 => ?_)
    · replace h := ip c_1 h
      exact J_30 H locs ls hw (lv_sub hl [] rfl) o h ho
    · replace h := iq c_1 h
      refine lv_iload_n F.1 F.2.1 d_Chart_inputOf_4 rfl (lv_at hl 1 rfl) ?_
      refine lv_aload_n F.1 F.2.1 d_Chart_inputOf_5 rfl (lv_at hl 0 rfl) ?_
      refine cg_4_9 F hK hw lk_203 d_Chart_inputOf_6 ?_
      refine lv_icmp_ge (tgt := 30) F.1 F.2.1 d_Chart_inputOf_9 (by decide) (fun c_2 => ?_) (fun c_2 => ?_)
      · replace h := ip c_2 h
        exact J_30 H locs ls hw (lv_sub hl [] rfl) o h ho
      · replace h := iq c_2 h
        refine lv_iload_n F.1 F.2.1 d_Chart_inputOf_12 rfl (lv_at hl 1 rfl) ?_
        refine lv_aload_n F.1 F.2.1 d_Chart_inputOf_13 rfl (lv_at hl 0 rfl) ?_
        refine cg_4_7 F hK hw lk_198 d_Chart_inputOf_14 ?_
        refine cn_4_7 F hK hw d_Chart_inputOf_17 ?_
        refine lv_icmp_ge (tgt := 30) F.1 F.2.1 d_Chart_inputOf_18 (by decide) (fun c_3 => ?_) (fun c_3 => ?_)
        · replace h := ip c_3 h
          exact J_30 H locs ls hw (lv_sub hl [] rfl) o h ho
        · replace h := iq c_3 h
          refine lv_aload_n F.1 F.2.1 d_Chart_inputOf_21 rfl (lv_at hl 0 rfl) ?_
          refine cg_4_7 F hK hw lk_198 d_Chart_inputOf_22 ?_
          refine lv_iload_n F.1 F.2.1 d_Chart_inputOf_25 rfl (lv_at hl 1 rfl) ?_
          obtain ⟨hi_4, h⟩ := gd_ex h
          refine cl_4_7 F hK hw hi_4 d_Chart_inputOf_26 ?_
          refine lv_goto (tgt := 31) F.1 F.2.1 d_Chart_inputOf_27 (by decide) ?_
          exact J_31 (gA S 4 7 x1.toNatClampNeg) H locs ls hw (lv_sub hl [] rfl) o h ho
  exact key _ _ hw _ h (by rw [eX_0]; exact fun H locs pc ls hd hw => hQ H locs pc ls ad rfl hd hw)
theorem d_Chart_marksOf_0 : decode b_Chart_marksOf 0 = .ok (.iload_n 1, 1) := by decide +kernel
theorem d_Chart_marksOf_1 : decode b_Chart_marksOf 1 = .ok (.ifCond .lt 21, 3) := by decide +kernel
theorem d_Chart_marksOf_4 : decode b_Chart_marksOf 4 = .ok (.iload_n 1, 1) := by decide +kernel
theorem d_Chart_marksOf_5 : decode b_Chart_marksOf 5 = .ok (.aload_n 0, 1) := by decide +kernel
theorem d_Chart_marksOf_6 : decode b_Chart_marksOf 6 = .ok (.getfield 31, 3) := by decide +kernel
theorem d_Chart_marksOf_9 : decode b_Chart_marksOf 9 = .ok (.arraylength, 1) := by decide +kernel
theorem d_Chart_marksOf_10 : decode b_Chart_marksOf 10 = .ok (.if_icmp .ge 12, 3) := by decide +kernel
theorem d_Chart_marksOf_13 : decode b_Chart_marksOf 13 = .ok (.aload_n 0, 1) := by decide +kernel
theorem d_Chart_marksOf_14 : decode b_Chart_marksOf 14 = .ok (.getfield 31, 3) := by decide +kernel
theorem d_Chart_marksOf_17 : decode b_Chart_marksOf 17 = .ok (.iload_n 1, 1) := by decide +kernel
theorem d_Chart_marksOf_18 : decode b_Chart_marksOf 18 = .ok (.iaload, 1) := by decide +kernel
theorem d_Chart_marksOf_19 : decode b_Chart_marksOf 19 = .ok (.goto 4, 3) := by decide +kernel
theorem d_Chart_marksOf_22 : decode b_Chart_marksOf 22 = .ok (.iconst 0, 1) := by decide +kernel
theorem d_Chart_marksOf_23 : decode b_Chart_marksOf 23 = .ok (.ireturn, 1) := by decide +kernel
set_option maxHeartbeats 4000000 in
set_option maxRecDepth 100000 in
theorem c_Chart_marksOf (l : Launch) {S : St} {x1 : Int32} {r : Int32} (h : f_Chart_marksOf S x1 = some r) : MI cw l y_Chart_marksOf b_Chart_marksOf 2 (some .int) 0 0 0 0 (fun ad => [.ref (ad 4 0), .int x1]) aT aE S r S := by
  refine MI_of "LawfulLots$Chart" rfl (by decide) (fun _ => Nat.le_of_ble_eq_true rfl) ?_
  intro p e s m args below meth c D ar ad A Q ls hP F hK hA hw hl hQ
  have hl : lv_has ls 2 [(0, .ref (ad 4 0)), (1, .int x1)] := hl
  obtain ⟨X_0, eX_0⟩ : ∃ X : Int32 → Prop, X = (fun q => ∀ (H : Heap) (locs : List Loc) (pc : Nat) (ls : Array Slot), decode b_Chart_marksOf pc = .ok (.ireturn, 1) → Bw cw D ar A s.heap H locs ad S → W p l e (RM 0 0) s m args below meth c H locs 0 0 Q (F0 m pc ls [.int q])) := ⟨_, rfl⟩
  have key : ∀ (H : Heap) (locs : List Loc), Bw cw D ar A s.heap H locs ad S → ∀ o, f_Chart_marksOf S x1 = some o → X_0 o → W p l e (RM 0 0) s m args below meth c H locs 0 0 Q (F0 m 0 ls []) := by
    intro H locs hw o h ho
    unfold f_Chart_marksOf at h
    have J_23 : ∀ (t0 : Int32) (H : Heap) (locs : List Loc) (ls : Array Slot), Bw cw D ar A s.heap H locs ad S → lv_has ls 2 [] → ∀ o, Chart_marksOf_j23 S t0 = some o → X_0 o → W p l e (RM 0 0) s m args below meth c H locs 0 0 Q (F0 m 23 ls [.int t0]) := by
      intro t0 H locs ls hw hl o h ho
      unfold Chart_marksOf_j23 at h
      cases h
      have ho : X_0 _ := ho
      rw [eX_0] at ho
      exact ho H locs _ ls d_Chart_marksOf_23 hw
    have J_22 : ∀ (H : Heap) (locs : List Loc) (ls : Array Slot), Bw cw D ar A s.heap H locs ad S → lv_has ls 2 [] → ∀ o, Chart_marksOf_j22 S = some o → X_0 o → W p l e (RM 0 0) s m args below meth c H locs 0 0 Q (F0 m 22 ls []) := by
      intro H locs ls hw hl o h ho
      unfold Chart_marksOf_j22 at h
      refine lv_iconst (v := 0) F.1 F.2.1 d_Chart_marksOf_22 (by decide) ?_
      exact J_23 (0 : Int32) H locs ls hw (lv_sub hl [] rfl) o h ho
    refine lv_iload_n F.1 F.2.1 d_Chart_marksOf_0 rfl (lv_at hl 1 rfl) ?_
    refine lv_if_lt (tgt := 22) F.1 F.2.1 d_Chart_marksOf_1 (by decide) (fun c_1 => ?_) (fun c_1 => ?_)
    · replace h := ip c_1 h
      exact J_22 H locs ls hw (lv_sub hl [] rfl) o h ho
    · replace h := iq c_1 h
      refine lv_iload_n F.1 F.2.1 d_Chart_marksOf_4 rfl (lv_at hl 1 rfl) ?_
      refine lv_aload_n F.1 F.2.1 d_Chart_marksOf_5 rfl (lv_at hl 0 rfl) ?_
      refine cg_4_5 F hK hw lk_196 d_Chart_marksOf_6 ?_
      refine cn_4_5 F hK hw d_Chart_marksOf_9 ?_
      refine lv_icmp_ge (tgt := 22) F.1 F.2.1 d_Chart_marksOf_10 (by decide) (fun c_2 => ?_) (fun c_2 => ?_)
      · replace h := ip c_2 h
        exact J_22 H locs ls hw (lv_sub hl [] rfl) o h ho
      · replace h := iq c_2 h
        refine lv_aload_n F.1 F.2.1 d_Chart_marksOf_13 rfl (lv_at hl 0 rfl) ?_
        refine cg_4_5 F hK hw lk_196 d_Chart_marksOf_14 ?_
        refine lv_iload_n F.1 F.2.1 d_Chart_marksOf_17 rfl (lv_at hl 1 rfl) ?_
        obtain ⟨hi_3, h⟩ := gd_ex h
        refine cl_4_5 F hK hw hi_3 d_Chart_marksOf_18 ?_
        refine lv_goto (tgt := 23) F.1 F.2.1 d_Chart_marksOf_19 (by decide) ?_
        exact J_23 (gA S 4 5 x1.toNatClampNeg) H locs ls hw (lv_sub hl [] rfl) o h ho
  exact key _ _ hw _ h (by rw [eX_0]; exact fun H locs pc ls hd hw => hQ H locs pc ls ad rfl hd hw)
theorem d_Chart_binsOf_0 : decode b_Chart_binsOf 0 = .ok (.aload_n 0, 1) := by decide +kernel
theorem d_Chart_binsOf_1 : decode b_Chart_binsOf 1 = .ok (.iload_n 1, 1) := by decide +kernel
theorem d_Chart_binsOf_2 : decode b_Chart_binsOf 2 = .ok (.invokevirtual 146, 3) := by decide +kernel
theorem d_Chart_binsOf_5 : decode b_Chart_binsOf 5 = .ok (.bipush 16, 2) := by decide +kernel
theorem d_Chart_binsOf_7 : decode b_Chart_binsOf 7 = .ok (.ishr, 1) := by decide +kernel
theorem d_Chart_binsOf_8 : decode b_Chart_binsOf 8 = .ok (.sipush 255, 3) := by decide +kernel
theorem d_Chart_binsOf_11 : decode b_Chart_binsOf 11 = .ok (.iand, 1) := by decide +kernel
theorem d_Chart_binsOf_12 : decode b_Chart_binsOf 12 = .ok (.ireturn, 1) := by decide +kernel
set_option maxHeartbeats 4000000 in
set_option maxRecDepth 100000 in
theorem c_Chart_binsOf (l : Launch) {S : St} {x1 : Int32} {r : Int32} (h : f_Chart_binsOf S x1 = some r) : MI cw l y_Chart_binsOf b_Chart_binsOf 2 (some .int) 1 21 0 0 (fun ad => [.ref (ad 4 0), .int x1]) aT aE S r S := by
  refine MI_of "LawfulLots$Chart" rfl (by decide) (fun _ => Nat.le_of_ble_eq_true rfl) ?_
  intro p e s m args below meth c D ar ad A Q ls hP F hK hA hw hl hQ
  have hl : lv_has ls 2 [(0, .ref (ad 4 0)), (1, .int x1)] := hl
  obtain ⟨X_0, eX_0⟩ : ∃ X : Int32 → Prop, X = (fun q => ∀ (H : Heap) (locs : List Loc) (pc : Nat) (ls : Array Slot), decode b_Chart_binsOf pc = .ok (.ireturn, 1) → Bw cw D ar A s.heap H locs ad S → W p l e (RM 1 21) s m args below meth c H locs 0 0 Q (F0 m pc ls [.int q])) := ⟨_, rfl⟩
  have key : ∀ (H : Heap) (locs : List Loc), Bw cw D ar A s.heap H locs ad S → ∀ o, f_Chart_binsOf S x1 = some o → X_0 o → W p l e (RM 1 21) s m args below meth c H locs 0 0 Q (F0 m 0 ls []) := by
    intro H locs hw o h ho
    unfold f_Chart_binsOf at h
    refine lv_aload_n F.1 F.2.1 d_Chart_binsOf_0 rfl (lv_at hl 0 rfl) ?_
    refine lv_iload_n F.1 F.2.1 d_Chart_binsOf_1 rfl (lv_at hl 1 rfl) ?_
    obtain ⟨v_2, hc_1, h⟩ := bd_ex h
    refine cV_i F hA rfl hK hw (c_Chart_marksOf l hc_1) trivial rfl (good_V lk_648 lk_649 lk_650 lk_5 lk_651) (cr_4 hK hw) hd_Chart_marksOf ⟨Nat.le_of_ble_eq_true rfl, Nat.le_of_ble_eq_true rfl⟩ rfl hl.1 rfl (Nat.le_of_ble_eq_true rfl) d_Chart_binsOf_2 ⟨(Nat.zero_le _), (Nat.zero_le _)⟩ (fun H locs hw => ?_)
    refine lv_bipush (v := 16) F.1 F.2.1 d_Chart_binsOf_5 (by decide) ?_
    refine lv_ishr F.1 F.2.1 d_Chart_binsOf_7 ?_
    refine lv_sipush (v := 255) F.1 F.2.1 d_Chart_binsOf_8 (by decide) ?_
    refine lv_iand F.1 F.2.1 d_Chart_binsOf_11 ?_
    cases h
    have ho : X_0 _ := ho
    rw [eX_0] at ho
    exact ho H locs _ ls d_Chart_binsOf_12 hw
  exact key _ _ hw _ h (by rw [eX_0]; exact fun H locs pc ls hd hw => hQ H locs pc ls ad rfl hd hw)
theorem d_Lots_addSupersets_0 : decode b_Lots_addSupersets 0 = .ok (.aload_n 0, 1) := by decide +kernel
theorem d_Lots_addSupersets_1 : decode b_Lots_addSupersets 1 = .ok (.arraylength, 1) := by decide +kernel
theorem d_Lots_addSupersets_2 : decode b_Lots_addSupersets 2 = .ok (.iconst 1, 1) := by decide +kernel
theorem d_Lots_addSupersets_3 : decode b_Lots_addSupersets 3 = .ok (.iload_n 1, 1) := by decide +kernel
theorem d_Lots_addSupersets_4 : decode b_Lots_addSupersets 4 = .ok (.ishl, 1) := by decide +kernel
theorem d_Lots_addSupersets_5 : decode b_Lots_addSupersets 5 = .ok (.invokestatic 209, 3) := by decide +kernel
theorem d_Lots_addSupersets_8 : decode b_Lots_addSupersets 8 = .ok (.istore_n 2, 1) := by decide +kernel
theorem d_Lots_addSupersets_9 : decode b_Lots_addSupersets 9 = .ok (.iconst 1, 1) := by decide +kernel
theorem d_Lots_addSupersets_10 : decode b_Lots_addSupersets 10 = .ok (.istore_n 3, 1) := by decide +kernel
theorem d_Lots_addSupersets_11 : decode b_Lots_addSupersets 11 = .ok (.iload_n 3, 1) := by decide +kernel
theorem d_Lots_addSupersets_12 : decode b_Lots_addSupersets 12 = .ok (.iload_n 2, 1) := by decide +kernel
theorem d_Lots_addSupersets_13 : decode b_Lots_addSupersets 13 = .ok (.if_icmp .ge 60, 3) := by decide +kernel
theorem d_Lots_addSupersets_16 : decode b_Lots_addSupersets 16 = .ok (.iload_n 3, 1) := by decide +kernel
theorem d_Lots_addSupersets_17 : decode b_Lots_addSupersets 17 = .ok (.sipush 256, 3) := by decide +kernel
theorem d_Lots_addSupersets_20 : decode b_Lots_addSupersets 20 = .ok (.if_icmp .ge 53, 3) := by decide +kernel
theorem d_Lots_addSupersets_23 : decode b_Lots_addSupersets 23 = .ok (.iconst 0, 1) := by decide +kernel
theorem d_Lots_addSupersets_24 : decode b_Lots_addSupersets 24 = .ok (.istore 4, 2) := by decide +kernel
theorem d_Lots_addSupersets_26 : decode b_Lots_addSupersets 26 = .ok (.iload 4, 2) := by decide +kernel
theorem d_Lots_addSupersets_28 : decode b_Lots_addSupersets 28 = .ok (.iload_n 2, 1) := by decide +kernel
theorem d_Lots_addSupersets_29 : decode b_Lots_addSupersets 29 = .ok (.if_icmp .ge 37, 3) := by decide +kernel
theorem d_Lots_addSupersets_32 : decode b_Lots_addSupersets 32 = .ok (.iload 4, 2) := by decide +kernel
theorem d_Lots_addSupersets_34 : decode b_Lots_addSupersets 34 = .ok (.iload_n 3, 1) := by decide +kernel
theorem d_Lots_addSupersets_35 : decode b_Lots_addSupersets 35 = .ok (.iand, 1) := by decide +kernel
theorem d_Lots_addSupersets_36 : decode b_Lots_addSupersets 36 = .ok (.ifCond .ne 24, 3) := by decide +kernel
theorem d_Lots_addSupersets_39 : decode b_Lots_addSupersets 39 = .ok (.iload 4, 2) := by decide +kernel
theorem d_Lots_addSupersets_41 : decode b_Lots_addSupersets 41 = .ok (.iload_n 3, 1) := by decide +kernel
theorem d_Lots_addSupersets_42 : decode b_Lots_addSupersets 42 = .ok (.ior, 1) := by decide +kernel
theorem d_Lots_addSupersets_43 : decode b_Lots_addSupersets 43 = .ok (.iload_n 2, 1) := by decide +kernel
theorem d_Lots_addSupersets_44 : decode b_Lots_addSupersets 44 = .ok (.if_icmp .ge 16, 3) := by decide +kernel
theorem d_Lots_addSupersets_47 : decode b_Lots_addSupersets 47 = .ok (.aload_n 0, 1) := by decide +kernel
theorem d_Lots_addSupersets_48 : decode b_Lots_addSupersets 48 = .ok (.iload 4, 2) := by decide +kernel
theorem d_Lots_addSupersets_50 : decode b_Lots_addSupersets 50 = .ok (.dup2, 1) := by decide +kernel
theorem d_Lots_addSupersets_51 : decode b_Lots_addSupersets 51 = .ok (.iaload, 1) := by decide +kernel
theorem d_Lots_addSupersets_52 : decode b_Lots_addSupersets 52 = .ok (.aload_n 0, 1) := by decide +kernel
theorem d_Lots_addSupersets_53 : decode b_Lots_addSupersets 53 = .ok (.iload 4, 2) := by decide +kernel
theorem d_Lots_addSupersets_55 : decode b_Lots_addSupersets 55 = .ok (.iload_n 3, 1) := by decide +kernel
theorem d_Lots_addSupersets_56 : decode b_Lots_addSupersets 56 = .ok (.ior, 1) := by decide +kernel
theorem d_Lots_addSupersets_57 : decode b_Lots_addSupersets 57 = .ok (.iaload, 1) := by decide +kernel
theorem d_Lots_addSupersets_58 : decode b_Lots_addSupersets 58 = .ok (.iadd, 1) := by decide +kernel
theorem d_Lots_addSupersets_59 : decode b_Lots_addSupersets 59 = .ok (.iastore, 1) := by decide +kernel
theorem d_Lots_addSupersets_60 : decode b_Lots_addSupersets 60 = .ok (.iinc 4 1, 3) := by decide +kernel
theorem d_Lots_addSupersets_63 : decode b_Lots_addSupersets 63 = .ok (.goto (-37), 3) := by decide +kernel
theorem d_Lots_addSupersets_66 : decode b_Lots_addSupersets 66 = .ok (.iload_n 3, 1) := by decide +kernel
theorem d_Lots_addSupersets_67 : decode b_Lots_addSupersets 67 = .ok (.iconst 1, 1) := by decide +kernel
theorem d_Lots_addSupersets_68 : decode b_Lots_addSupersets 68 = .ok (.ishl, 1) := by decide +kernel
theorem d_Lots_addSupersets_69 : decode b_Lots_addSupersets 69 = .ok (.istore_n 3, 1) := by decide +kernel
theorem d_Lots_addSupersets_70 : decode b_Lots_addSupersets 70 = .ok (.goto (-59), 3) := by decide +kernel
theorem d_Lots_addSupersets_73 : decode b_Lots_addSupersets 73 = .ok (.return_, 1) := by decide +kernel
set_option maxHeartbeats 4000000 in
set_option maxRecDepth 100000 in
theorem c_Lots_addSupersets_8_0 (l : Launch) {S : St} {x1 : Int32} {S' : St} (h : f_Lots_addSupersets 8 0 S x1 = some S') : MV cw l y_Lots_addSupersets b_Lots_addSupersets 5 none 1 21 0 0 (fun ad => [.ref (ad 8 1), .int x1]) aT aE S S' := by
  refine MV_of "LawfulLots" rfl (by decide) (fun _ => Nat.le_of_ble_eq_true rfl) ?_
  intro p e s m args below meth c D ar ad A Q ls hP F hK hA hw hl hQ
  have hl : lv_has ls 5 [(0, .ref (ad 8 1)), (1, .int x1)] := hl
  obtain ⟨X_0, eX_0⟩ : ∃ X : St → Prop, X = (fun q => ∀ (H : Heap) (locs : List Loc) (pc : Nat) (ls : Array Slot), decode b_Lots_addSupersets pc = .ok (.return_, 1) → Bw cw D ar A s.heap H locs ad q → W p l e (RM 1 21) s m args below meth c H locs 0 0 Q (F0 m pc ls [])) := ⟨_, rfl⟩
  have key : ∀ (H : Heap) (locs : List Loc), Bw cw D ar A s.heap H locs ad S → ∀ o, f_Lots_addSupersets 8 0 S x1 = some o → X_0 o → W p l e (RM 1 21) s m args below meth c H locs 0 0 Q (F0 m 0 ls []) := by
    intro H locs hw o h ho
    unfold f_Lots_addSupersets at h
    have J_73 : ∀ (S : St) (H : Heap) (locs : List Loc) (ls : Array Slot), Bw cw D ar A s.heap H locs ad S → lv_has ls 5 [] → ∀ o, Lots_addSupersets_j73 8 0 S = some o → X_0 o → W p l e (RM 1 21) s m args below meth c H locs 0 0 Q (F0 m 73 ls []) := by
      intro S H locs ls hw hl o h ho
      unfold Lots_addSupersets_j73 at h
      cases h
      have ho : X_0 _ := ho
      rw [eX_0] at ho
      exact ho H locs _ ls d_Lots_addSupersets_73 hw
    refine lv_aload_n F.1 F.2.1 d_Lots_addSupersets_0 rfl (lv_at hl 0 rfl) ?_
    refine cn_8_0 F hK hw d_Lots_addSupersets_1 ?_
    refine lv_iconst (v := 1) F.1 F.2.1 d_Lots_addSupersets_2 (by decide) ?_
    refine lv_iload_n F.1 F.2.1 d_Lots_addSupersets_3 rfl (lv_at hl 1 rfl) ?_
    refine lv_ishl F.1 F.2.1 d_Lots_addSupersets_4 ?_
    refine va_mmin F.1 F.2.1 (F.2.2.1.trans hl.1.symm) F.2.2.2.1 (F.2.2.2.2 _ lk_627) (F.2.2.2.2 _ lk_397) (F.2.2.2.2 _ lk_12) (F.2.2.2.2 _ lk_398) (Nat.le_of_ble_eq_true rfl) (Nat.le_of_ble_eq_true rfl) (Nat.zero_le _) (Nat.zero_le _) d_Lots_addSupersets_5 ?_
    obtain ⟨x2_1, ex2_1, h⟩ := nm_ex h
    refine lv_nm ex2_1 ?_
    refine lv_istore_n (lv' := [(2, .int x2_1), (0, .ref (ad 8 1)), (1, .int x1)]) F.1 F.2.1 d_Lots_addSupersets_8 rfl hl (by decide) rfl (fun ls hl => ?_)
    refine lv_iconst (v := 1) F.1 F.2.1 d_Lots_addSupersets_9 (by decide) ?_
    refine lv_istore_n (lv' := [(3, .int (1 : Int32)), (2, .int x2_1), (0, .ref (ad 8 1)), (1, .int x1)]) F.1 F.2.1 d_Lots_addSupersets_10 rfl hl (by decide) rfl (fun ls hl => ?_)
    obtain ⟨S_15, hc_16, h⟩ := bd_ex h
    obtain ⟨X_11, eX_11⟩ : ∃ X : St → Prop, X = (fun q => ∀ (H : Heap) (locs : List Loc) (ls : Array Slot), Bw cw D ar A s.heap H locs ad q → lv_has ls 5 [] → W p l e (RM 1 21) s m args below meth c H locs 0 0 Q (F0 m 73 ls [])) := ⟨_, rfl⟩
    have hX_11 : X_11 S_15 := by
      rw [eX_11]
      intro H locs ls hw hl
      exact J_73 S_15 H locs ls hw (lv_sub hl [] rfl) o h ho
    obtain ⟨P_11, eP_11⟩ : ∃ P : (St × Int32) → Prop, P = (fun q => ∀ (H : Heap) (locs : List Loc) (ls : Array Slot), Bw cw D ar A s.heap H locs ad q.1 → lv_has ls 5 [(0, .ref (ad 8 1)), (2, .int x2_1), (3, .int q.2)] → W p l e (RM 1 21) s m args below meth c H locs 0 0 Q (F0 m 11 ls [])) := ⟨_, rfl⟩
    have hL_11 : P_11 (S, (1 : Int32)) := by
      refine wh_gp (P := P_11) (X := X_11) hc_16 hX_11 ?_
      clear h
      intro q o h ho
      obtain ⟨S, x3⟩ := q
      have h : Lots_addSupersets_l11 8 0 x2_1 S x3 = some o := h
      unfold Lots_addSupersets_l11 at h
      rw [eP_11]
      intro H locs ls hw hl
      refine lv_iload_n F.1 F.2.1 d_Lots_addSupersets_11 rfl (lv_at hl 2 rfl) ?_
      refine lv_iload_n F.1 F.2.1 d_Lots_addSupersets_12 rfl (lv_at hl 1 rfl) ?_
      refine lv_icmp_ge (tgt := 73) F.1 F.2.1 d_Lots_addSupersets_13 (by decide) (fun c_2 => ?_) (fun c_2 => ?_)
      · replace h := ip c_2 h
        cases h
        have ho : X_11 _ := ho
        rw [eX_11] at ho
        exact ho H locs ls hw (lv_sub hl [] rfl)
      · replace h := iq c_2 h
        refine lv_iload_n F.1 F.2.1 d_Lots_addSupersets_16 rfl (lv_at hl 2 rfl) ?_
        refine lv_sipush (v := 256) F.1 F.2.1 d_Lots_addSupersets_17 (by decide) ?_
        refine lv_icmp_ge (tgt := 73) F.1 F.2.1 d_Lots_addSupersets_20 (by decide) (fun c_3 => ?_) (fun c_3 => ?_)
        · replace h := ip c_3 h
          cases h
          have ho : X_11 _ := ho
          rw [eX_11] at ho
          exact ho H locs ls hw (lv_sub hl [] rfl)
        · replace h := iq c_3 h
          refine lv_iconst (v := 0) F.1 F.2.1 d_Lots_addSupersets_23 (by decide) ?_
          refine lv_istore (lv' := [(4, .int (0 : Int32)), (0, .ref (ad 8 1)), (2, .int x2_1), (3, .int x3)]) F.1 F.2.1 d_Lots_addSupersets_24 hl (by decide) rfl (fun ls hl => ?_)
          obtain ⟨S_12, hc_13, h⟩ := bd_ex h
          obtain ⟨X_26, eX_26⟩ : ∃ X : St → Prop, X = (fun q => ∀ (H : Heap) (locs : List Loc) (ls : Array Slot), Bw cw D ar A s.heap H locs ad q → lv_has ls 5 [(0, .ref (ad 8 1)), (2, .int x2_1), (3, .int x3)] → W p l e (RM 1 21) s m args below meth c H locs 0 0 Q (F0 m 66 ls [])) := ⟨_, rfl⟩
          have hX_26 : X_26 S_12 := by
            rw [eX_26]
            intro H locs ls hw hl
            refine lv_iload_n F.1 F.2.1 d_Lots_addSupersets_66 rfl (lv_at hl 2 rfl) ?_
            refine lv_iconst (v := 1) F.1 F.2.1 d_Lots_addSupersets_67 (by decide) ?_
            refine lv_ishl F.1 F.2.1 d_Lots_addSupersets_68 ?_
            obtain ⟨x3_14, ex3_14, h⟩ := nm_ex h
            refine lv_nm ex3_14 ?_
            refine lv_istore_n (lv' := [(3, .int x3_14), (0, .ref (ad 8 1)), (2, .int x2_1)]) F.1 F.2.1 d_Lots_addSupersets_69 rfl hl (by decide) rfl (fun ls hl => ?_)
            refine lv_goto (tgt := 11) F.1 F.2.1 d_Lots_addSupersets_70 (by decide) ?_
            cases h
            have ho : P_11 _ := ho
            rw [eP_11] at ho
            exact ho H locs ls hw (lv_sub hl [1, 2, 0] rfl)
          obtain ⟨P_26, eP_26⟩ : ∃ P : (St × Int32) → Prop, P = (fun q => ∀ (H : Heap) (locs : List Loc) (ls : Array Slot), Bw cw D ar A s.heap H locs ad q.1 → lv_has ls 5 [(0, .ref (ad 8 1)), (2, .int x2_1), (3, .int x3), (4, .int q.2)] → W p l e (RM 1 21) s m args below meth c H locs 0 0 Q (F0 m 26 ls [])) := ⟨_, rfl⟩
          have hL_26 : P_26 (S, (0 : Int32)) := by
            refine wh_gp (P := P_26) (X := X_26) hc_13 hX_26 ?_
            clear h
            intro q o h ho
            obtain ⟨S, x4⟩ := q
            have h : Lots_addSupersets_l26 8 0 x2_1 x3 S x4 = some o := h
            unfold Lots_addSupersets_l26 at h
            rw [eP_26]
            intro H locs ls hw hl
            have J_60_l26 : ∀ (S : St) (x4 : Int32) (H : Heap) (locs : List Loc) (ls : Array Slot), Bw cw D ar A s.heap H locs ad S → lv_has ls 5 [(0, .ref (ad 8 1)), (2, .int x2_1), (3, .int x3), (4, .int x4)] → ∀ o, Lots_addSupersets_j60_l26 8 0 S x2_1 x3 x4 = some o → (Sum.elim P_26 X_26) o → W p l e (RM 1 21) s m args below meth c H locs 0 0 Q (F0 m 60 ls []) := by
              intro S x4 H locs ls hw hl o h ho
              unfold Lots_addSupersets_j60_l26 at h
              obtain ⟨x4_11, ex4_11, h⟩ := nm_ex h
              refine lv_iinc (v := x4_11) (lv' := [(4, .int x4_11), (0, .ref (ad 8 1)), (2, .int x2_1), (3, .int x3)]) F.1 F.2.1 d_Lots_addSupersets_60 hl (k := 3) rfl (by rw [ex4_11]; rfl) (by decide) rfl (fun ls hl => ?_)
              refine lv_goto (tgt := 26) F.1 F.2.1 d_Lots_addSupersets_63 (by decide) ?_
              cases h
              have ho : P_26 _ := ho
              rw [eP_26] at ho
              exact ho H locs ls hw (lv_sub hl [1, 2, 3, 0] rfl)
            refine lv_iload F.1 F.2.1 d_Lots_addSupersets_26 (lv_at hl 3 rfl) ?_
            refine lv_iload_n F.1 F.2.1 d_Lots_addSupersets_28 rfl (lv_at hl 1 rfl) ?_
            refine lv_icmp_ge (tgt := 66) F.1 F.2.1 d_Lots_addSupersets_29 (by decide) (fun c_4 => ?_) (fun c_4 => ?_)
            · replace h := ip c_4 h
              cases h
              have ho : X_26 _ := ho
              rw [eX_26] at ho
              exact ho H locs ls hw (lv_sub hl [0, 1, 2] rfl)
            · replace h := iq c_4 h
              refine lv_iload F.1 F.2.1 d_Lots_addSupersets_32 (lv_at hl 3 rfl) ?_
              refine lv_iload_n F.1 F.2.1 d_Lots_addSupersets_34 rfl (lv_at hl 2 rfl) ?_
              refine lv_iand F.1 F.2.1 d_Lots_addSupersets_35 ?_
              refine lv_if_ne (tgt := 60) F.1 F.2.1 d_Lots_addSupersets_36 (by decide) (fun c_5 => ?_) (fun c_5 => ?_)
              · replace h := iq c_5 h
                exact J_60_l26 S x4 H locs ls hw (lv_sub hl [0, 1, 2, 3] rfl) o h ho
              · replace h := ip c_5 h
                refine lv_iload F.1 F.2.1 d_Lots_addSupersets_39 (lv_at hl 3 rfl) ?_
                refine lv_iload_n F.1 F.2.1 d_Lots_addSupersets_41 rfl (lv_at hl 2 rfl) ?_
                refine lv_ior F.1 F.2.1 d_Lots_addSupersets_42 ?_
                refine lv_iload_n F.1 F.2.1 d_Lots_addSupersets_43 rfl (lv_at hl 1 rfl) ?_
                refine lv_icmp_ge (tgt := 60) F.1 F.2.1 d_Lots_addSupersets_44 (by decide) (fun c_6 => ?_) (fun c_6 => ?_)
                · replace h := ip c_6 h
                  exact J_60_l26 S x4 H locs ls hw (lv_sub hl [0, 1, 2, 3] rfl) o h ho
                · replace h := iq c_6 h
                  refine lv_aload_n F.1 F.2.1 d_Lots_addSupersets_47 rfl (lv_at hl 0 rfl) ?_
                  refine lv_iload F.1 F.2.1 d_Lots_addSupersets_48 (lv_at hl 3 rfl) ?_
                  refine lv_dup2_11 F.1 F.2.1 d_Lots_addSupersets_50 rfl rfl ?_
                  obtain ⟨hi_7, h⟩ := gd_ex h
                  refine cl_8_0 F hK hw hi_7 d_Lots_addSupersets_51 ?_
                  refine lv_aload_n F.1 F.2.1 d_Lots_addSupersets_52 rfl (lv_at hl 0 rfl) ?_
                  refine lv_iload F.1 F.2.1 d_Lots_addSupersets_53 (lv_at hl 3 rfl) ?_
                  refine lv_iload_n F.1 F.2.1 d_Lots_addSupersets_55 rfl (lv_at hl 2 rfl) ?_
                  refine lv_ior F.1 F.2.1 d_Lots_addSupersets_56 ?_
                  obtain ⟨hi_8, h⟩ := gd_ex h
                  refine cl_8_0 F hK hw hi_8 d_Lots_addSupersets_57 ?_
                  refine lv_iadd F.1 F.2.1 d_Lots_addSupersets_58 ?_
                  obtain ⟨hi_9, h⟩ := gd_ex h
                  obtain ⟨S_10, eS_10, h⟩ := nm_ex h
                  refine cs_8_0 F hK hw hi_9 d_Lots_addSupersets_59 eS_10 (fun H locs hw => ?_)
                  exact J_60_l26 S_10 x4 H locs ls hw (lv_sub hl [0, 1, 2, 3] rfl) o h ho
          rw [eP_26] at hL_26
          exact hL_26 H locs ls hw (lv_sub hl [1, 2, 3, 0] rfl)
    rw [eP_11] at hL_11
    exact hL_11 H locs ls hw (lv_sub hl [2, 1, 0] rfl)
  exact key _ _ hw _ h (by rw [eX_0]; exact fun H locs pc ls hd hw => hQ H locs pc ls ad rfl hd hw)
theorem d_Bins_refresh_0 : decode b_Bins_refresh 0 = .ok (.aload_n 0, 1) := by decide +kernel
theorem d_Bins_refresh_1 : decode b_Bins_refresh 1 = .ok (.getfield 37, 3) := by decide +kernel
theorem d_Bins_refresh_4 : decode b_Bins_refresh 4 = .ok (.ifCond .eq 4, 3) := by decide +kernel
theorem d_Bins_refresh_7 : decode b_Bins_refresh 7 = .ok (.return_, 1) := by decide +kernel
theorem d_Bins_refresh_8 : decode b_Bins_refresh 8 = .ok (.aload_n 0, 1) := by decide +kernel
theorem d_Bins_refresh_9 : decode b_Bins_refresh 9 = .ok (.getfield 9, 3) := by decide +kernel
theorem d_Bins_refresh_12 : decode b_Bins_refresh 12 = .ok (.iconst 0, 1) := by decide +kernel
theorem d_Bins_refresh_13 : decode b_Bins_refresh 13 = .ok (.invokestatic 47, 3) := by decide +kernel
theorem d_Bins_refresh_16 : decode b_Bins_refresh 16 = .ok (.aload_n 0, 1) := by decide +kernel
theorem d_Bins_refresh_17 : decode b_Bins_refresh 17 = .ok (.iconst 0, 1) := by decide +kernel
theorem d_Bins_refresh_18 : decode b_Bins_refresh 18 = .ok (.putfield 30, 3) := by decide +kernel
theorem d_Bins_refresh_21 : decode b_Bins_refresh 21 = .ok (.iconst 0, 1) := by decide +kernel
theorem d_Bins_refresh_22 : decode b_Bins_refresh 22 = .ok (.istore_n 2, 1) := by decide +kernel
theorem d_Bins_refresh_23 : decode b_Bins_refresh 23 = .ok (.iload_n 2, 1) := by decide +kernel
theorem d_Bins_refresh_24 : decode b_Bins_refresh 24 = .ok (.aload_n 1, 1) := by decide +kernel
theorem d_Bins_refresh_25 : decode b_Bins_refresh 25 = .ok (.getfield 53, 3) := by decide +kernel
theorem d_Bins_refresh_28 : decode b_Bins_refresh 28 = .ok (.if_icmp .ge 82, 3) := by decide +kernel
theorem d_Bins_refresh_31 : decode b_Bins_refresh 31 = .ok (.aload_n 1, 1) := by decide +kernel
theorem d_Bins_refresh_32 : decode b_Bins_refresh 32 = .ok (.aload_n 1, 1) := by decide +kernel
theorem d_Bins_refresh_33 : decode b_Bins_refresh 33 = .ok (.iload_n 2, 1) := by decide +kernel
theorem d_Bins_refresh_34 : decode b_Bins_refresh 34 = .ok (.invokevirtual 58, 3) := by decide +kernel
theorem d_Bins_refresh_37 : decode b_Bins_refresh 37 = .ok (.invokevirtual 62, 3) := by decide +kernel
theorem d_Bins_refresh_40 : decode b_Bins_refresh 40 = .ok (.sipush 255, 3) := by decide +kernel
theorem d_Bins_refresh_43 : decode b_Bins_refresh 43 = .ok (.iand, 1) := by decide +kernel
theorem d_Bins_refresh_44 : decode b_Bins_refresh 44 = .ok (.istore_n 3, 1) := by decide +kernel
theorem d_Bins_refresh_45 : decode b_Bins_refresh 45 = .ok (.aload_n 0, 1) := by decide +kernel
theorem d_Bins_refresh_46 : decode b_Bins_refresh 46 = .ok (.getfield 9, 3) := by decide +kernel
theorem d_Bins_refresh_49 : decode b_Bins_refresh 49 = .ok (.iload_n 3, 1) := by decide +kernel
theorem d_Bins_refresh_50 : decode b_Bins_refresh 50 = .ok (.iaload, 1) := by decide +kernel
theorem d_Bins_refresh_51 : decode b_Bins_refresh 51 = .ok (.ifCond .ne 43, 3) := by decide +kernel
theorem d_Bins_refresh_54 : decode b_Bins_refresh 54 = .ok (.aload_n 0, 1) := by decide +kernel
theorem d_Bins_refresh_55 : decode b_Bins_refresh 55 = .ok (.getfield 30, 3) := by decide +kernel
theorem d_Bins_refresh_58 : decode b_Bins_refresh 58 = .ok (.sipush 256, 3) := by decide +kernel
theorem d_Bins_refresh_61 : decode b_Bins_refresh 61 = .ok (.if_icmp .ge 33, 3) := by decide +kernel
theorem d_Bins_refresh_64 : decode b_Bins_refresh 64 = .ok (.aload_n 0, 1) := by decide +kernel
theorem d_Bins_refresh_65 : decode b_Bins_refresh 65 = .ok (.getfield 15, 3) := by decide +kernel
theorem d_Bins_refresh_68 : decode b_Bins_refresh 68 = .ok (.aload_n 0, 1) := by decide +kernel
theorem d_Bins_refresh_69 : decode b_Bins_refresh 69 = .ok (.getfield 30, 3) := by decide +kernel
theorem d_Bins_refresh_72 : decode b_Bins_refresh 72 = .ok (.iload_n 3, 1) := by decide +kernel
theorem d_Bins_refresh_73 : decode b_Bins_refresh 73 = .ok (.iastore, 1) := by decide +kernel
theorem d_Bins_refresh_74 : decode b_Bins_refresh 74 = .ok (.aload_n 0, 1) := by decide +kernel
theorem d_Bins_refresh_75 : decode b_Bins_refresh 75 = .ok (.getfield 18, 3) := by decide +kernel
theorem d_Bins_refresh_78 : decode b_Bins_refresh 78 = .ok (.aload_n 0, 1) := by decide +kernel
theorem d_Bins_refresh_79 : decode b_Bins_refresh 79 = .ok (.getfield 30, 3) := by decide +kernel
theorem d_Bins_refresh_82 : decode b_Bins_refresh 82 = .ok (.iload_n 2, 1) := by decide +kernel
theorem d_Bins_refresh_83 : decode b_Bins_refresh 83 = .ok (.iastore, 1) := by decide +kernel
theorem d_Bins_refresh_84 : decode b_Bins_refresh 84 = .ok (.aload_n 0, 1) := by decide +kernel
theorem d_Bins_refresh_85 : decode b_Bins_refresh 85 = .ok (.dup, 1) := by decide +kernel
theorem d_Bins_refresh_86 : decode b_Bins_refresh 86 = .ok (.getfield 30, 3) := by decide +kernel
theorem d_Bins_refresh_89 : decode b_Bins_refresh 89 = .ok (.iconst 1, 1) := by decide +kernel
theorem d_Bins_refresh_90 : decode b_Bins_refresh 90 = .ok (.iadd, 1) := by decide +kernel
theorem d_Bins_refresh_91 : decode b_Bins_refresh 91 = .ok (.putfield 30, 3) := by decide +kernel
theorem d_Bins_refresh_94 : decode b_Bins_refresh 94 = .ok (.aload_n 0, 1) := by decide +kernel
theorem d_Bins_refresh_95 : decode b_Bins_refresh 95 = .ok (.getfield 9, 3) := by decide +kernel
theorem d_Bins_refresh_98 : decode b_Bins_refresh 98 = .ok (.iload_n 3, 1) := by decide +kernel
theorem d_Bins_refresh_99 : decode b_Bins_refresh 99 = .ok (.dup2, 1) := by decide +kernel
theorem d_Bins_refresh_100 : decode b_Bins_refresh 100 = .ok (.iaload, 1) := by decide +kernel
theorem d_Bins_refresh_101 : decode b_Bins_refresh 101 = .ok (.iconst 1, 1) := by decide +kernel
theorem d_Bins_refresh_102 : decode b_Bins_refresh 102 = .ok (.iadd, 1) := by decide +kernel
theorem d_Bins_refresh_103 : decode b_Bins_refresh 103 = .ok (.iastore, 1) := by decide +kernel
theorem d_Bins_refresh_104 : decode b_Bins_refresh 104 = .ok (.iinc 2 1, 3) := by decide +kernel
theorem d_Bins_refresh_107 : decode b_Bins_refresh 107 = .ok (.goto (-84), 3) := by decide +kernel
theorem d_Bins_refresh_110 : decode b_Bins_refresh 110 = .ok (.aload_n 0, 1) := by decide +kernel
theorem d_Bins_refresh_111 : decode b_Bins_refresh 111 = .ok (.getfield 9, 3) := by decide +kernel
theorem d_Bins_refresh_114 : decode b_Bins_refresh 114 = .ok (.aload_n 1, 1) := by decide +kernel
theorem d_Bins_refresh_115 : decode b_Bins_refresh 115 = .ok (.getfield 65, 3) := by decide +kernel
theorem d_Bins_refresh_118 : decode b_Bins_refresh 118 = .ok (.iconst 2, 1) := by decide +kernel
theorem d_Bins_refresh_119 : decode b_Bins_refresh 119 = .ok (.invokevirtual 69, 3) := by decide +kernel
theorem d_Bins_refresh_122 : decode b_Bins_refresh 122 = .ok (.invokestatic 74, 3) := by decide +kernel
theorem d_Bins_refresh_125 : decode b_Bins_refresh 125 = .ok (.aload_n 0, 1) := by decide +kernel
theorem d_Bins_refresh_126 : decode b_Bins_refresh 126 = .ok (.iconst 1, 1) := by decide +kernel
theorem d_Bins_refresh_127 : decode b_Bins_refresh 127 = .ok (.putfield 37, 3) := by decide +kernel
theorem d_Bins_refresh_130 : decode b_Bins_refresh 130 = .ok (.return_, 1) := by decide +kernel
set_option maxHeartbeats 4000000 in
set_option maxRecDepth 100000 in
theorem c_Bins_refresh (l : Launch) {S : St} {S' : St} (h : f_Bins_refresh S = some S') : MV cw l y_Bins_refresh b_Bins_refresh 4 none 2 45 0 0 (fun ad => [.ref (ad 8 0), .ref (ad 4 0)]) aT aE S S' := by
  refine MV_of "LawfulLots$BinTable" rfl (by decide) (fun _ => Nat.le_of_ble_eq_true rfl) ?_
  intro p e s m args below meth c D ar ad A Q ls hP F hK hA hw hl hQ
  have hl : lv_has ls 4 [(0, .ref (ad 8 0)), (1, .ref (ad 4 0))] := hl
  obtain ⟨X_0, eX_0⟩ : ∃ X : St → Prop, X = (fun q => ∀ (H : Heap) (locs : List Loc) (pc : Nat) (ls : Array Slot), decode b_Bins_refresh pc = .ok (.return_, 1) → Bw cw D ar A s.heap H locs ad q → W p l e (RM 2 45) s m args below meth c H locs 0 0 Q (F0 m pc ls [])) := ⟨_, rfl⟩
  have key : ∀ (H : Heap) (locs : List Loc), Bw cw D ar A s.heap H locs ad S → ∀ o, f_Bins_refresh S = some o → X_0 o → W p l e (RM 2 45) s m args below meth c H locs 0 0 Q (F0 m 0 ls []) := by
    intro H locs hw o h ho
    unfold f_Bins_refresh at h
    refine lv_aload_n F.1 F.2.1 d_Bins_refresh_0 rfl (lv_at hl 0 rfl) ?_
    refine cg_8_8 F hK hw lk_282 d_Bins_refresh_1 ?_
    refine lv_if_eq (tgt := 8) F.1 F.2.1 d_Bins_refresh_4 (by decide) (fun c_1 => ?_) (fun c_1 => ?_)
    · replace h := ip c_1 h
      refine lv_aload_n F.1 F.2.1 d_Bins_refresh_8 rfl (lv_at hl 0 rfl) ?_
      refine cg_8_0 F hK hw lk_274 d_Bins_refresh_9 ?_
      refine lv_iconst (v := 0) F.1 F.2.1 d_Bins_refresh_12 (by decide) ?_
      obtain ⟨S_3, hc_2, h⟩ := bd_ex h
      refine cS_v F hA rfl hK hw (c_Arrays_fill_8_0 l hc_2) trivial rfl (good_S lk_774 lk_390 lk_11 lk_391) hd_Arrays_fill ⟨Nat.le_of_ble_eq_true rfl, Nat.le_of_ble_eq_true rfl⟩ rfl hl.1 rfl (Nat.le_of_ble_eq_true rfl) d_Bins_refresh_13 ⟨(Nat.zero_le _), (Nat.zero_le _)⟩ (fun H locs hw => ?_)
      refine lv_aload_n F.1 F.2.1 d_Bins_refresh_16 rfl (lv_at hl 0 rfl) ?_
      refine lv_iconst (v := 0) F.1 F.2.1 d_Bins_refresh_17 (by decide) ?_
      obtain ⟨S_4, eS_4, h⟩ := nm_ex h
      refine cp_8_6 F hK hw lk_280 d_Bins_refresh_18 eS_4 (fun H locs hw => ?_)
      refine lv_iconst (v := 0) F.1 F.2.1 d_Bins_refresh_21 (by decide) ?_
      refine lv_istore_n (lv' := [(2, .int (0 : Int32)), (0, .ref (ad 8 0)), (1, .ref (ad 4 0))]) F.1 F.2.1 d_Bins_refresh_22 rfl hl (by decide) rfl (fun ls hl => ?_)
      obtain ⟨S_23, hc_24, h⟩ := bd_ex h
      obtain ⟨X_23, eX_23⟩ : ∃ X : St → Prop, X = (fun q => ∀ (H : Heap) (locs : List Loc) (ls : Array Slot), Bw cw D ar A s.heap H locs ad q → lv_has ls 4 [(0, .ref (ad 8 0)), (1, .ref (ad 4 0))] → W p l e (RM 2 45) s m args below meth c H locs 0 0 Q (F0 m 110 ls [])) := ⟨_, rfl⟩
      have hX_23 : X_23 S_23 := by
        rw [eX_23]
        intro H locs ls hw hl
        refine lv_aload_n F.1 F.2.1 d_Bins_refresh_110 rfl (lv_at hl 0 rfl) ?_
        refine cg_8_0 F hK hw lk_274 d_Bins_refresh_111 ?_
        refine lv_aload_n F.1 F.2.1 d_Bins_refresh_114 rfl (lv_at hl 1 rfl) ?_
        refine cg_4_8 F hK hw lk_201 d_Bins_refresh_115 ?_
        refine lv_iconst (v := 2) F.1 F.2.1 d_Bins_refresh_118 (by decide) ?_
        obtain ⟨v_26, hc_25, h⟩ := bd_ex h
        refine cV_i F hA rfl hK hw (c_Book_toldOf_5 l hc_25) trivial rfl (good_V lk_780 lk_452 lk_453 lk_4 lk_454) (cr_5 hK hw) hd_Book_toldOf ⟨Nat.le_of_ble_eq_true rfl, Nat.le_of_ble_eq_true rfl⟩ rfl hl.1 rfl (Nat.le_of_ble_eq_true rfl) d_Bins_refresh_119 ⟨(Nat.zero_le _), (Nat.zero_le _)⟩ (fun H locs hw => ?_)
        obtain ⟨S_28, hc_27, h⟩ := bd_ex h
        refine cN_v F hA rfl hK hw (c_Lots_addSupersets_8_0 l hc_27) trivial rfl lk_781 lk_625 lk_1 lk_626 hd_Lots_addSupersets ⟨Nat.le_of_ble_eq_true rfl, Nat.le_of_ble_eq_true rfl⟩ rfl hl.1 rfl (Nat.le_of_ble_eq_true rfl) d_Bins_refresh_122 ⟨(Nat.zero_le _), (Nat.zero_le _)⟩ (fun H locs hw => ?_)
        refine lv_aload_n F.1 F.2.1 d_Bins_refresh_125 rfl (lv_at hl 0 rfl) ?_
        refine lv_iconst (v := 1) F.1 F.2.1 d_Bins_refresh_126 (by decide) ?_
        obtain ⟨S_29, eS_29, h⟩ := nm_ex h
        refine cp_8_8 F hK hw isB1 lk_282 d_Bins_refresh_127 eS_29 (fun H locs hw => ?_)
        cases h
        have ho : X_0 _ := ho
        rw [eX_0] at ho
        exact ho H locs _ ls d_Bins_refresh_130 hw
      obtain ⟨P_23, eP_23⟩ : ∃ P : (St × Int32) → Prop, P = (fun q => ∀ (H : Heap) (locs : List Loc) (ls : Array Slot), Bw cw D ar A s.heap H locs ad q.1 → lv_has ls 4 [(0, .ref (ad 8 0)), (1, .ref (ad 4 0)), (2, .int q.2)] → W p l e (RM 2 45) s m args below meth c H locs 0 0 Q (F0 m 23 ls [])) := ⟨_, rfl⟩
      have hL_23 : P_23 (S_4, (0 : Int32)) := by
        refine wh_gp (P := P_23) (X := X_23) hc_24 hX_23 ?_
        clear h
        intro q o h ho
        obtain ⟨S, x2⟩ := q
        have h : Bins_refresh_l23 S x2 = some o := h
        unfold Bins_refresh_l23 at h
        rw [eP_23]
        intro H locs ls hw hl
        have J_94_l23 : ∀ (S : St) (x2 : Int32) (x3 : Int32) (H : Heap) (locs : List Loc) (ls : Array Slot), Bw cw D ar A s.heap H locs ad S → lv_has ls 4 [(0, .ref (ad 8 0)), (1, .ref (ad 4 0)), (2, .int x2), (3, .int x3)] → ∀ o, Bins_refresh_j94_l23 S x2 x3 = some o → (Sum.elim P_23 X_23) o → W p l e (RM 2 45) s m args below meth c H locs 0 0 Q (F0 m 94 ls []) := by
          intro S x2 x3 H locs ls hw hl o h ho
          unfold Bins_refresh_j94_l23 at h
          refine lv_aload_n F.1 F.2.1 d_Bins_refresh_94 rfl (lv_at hl 0 rfl) ?_
          refine cg_8_0 F hK hw lk_274 d_Bins_refresh_95 ?_
          refine lv_iload_n F.1 F.2.1 d_Bins_refresh_98 rfl (lv_at hl 3 rfl) ?_
          refine lv_dup2_11 F.1 F.2.1 d_Bins_refresh_99 rfl rfl ?_
          obtain ⟨hi_19, h⟩ := gd_ex h
          refine cl_8_0 F hK hw hi_19 d_Bins_refresh_100 ?_
          refine lv_iconst (v := 1) F.1 F.2.1 d_Bins_refresh_101 (by decide) ?_
          refine lv_iadd F.1 F.2.1 d_Bins_refresh_102 ?_
          obtain ⟨hi_20, h⟩ := gd_ex h
          obtain ⟨S_21, eS_21, h⟩ := nm_ex h
          refine cs_8_0 F hK hw hi_20 d_Bins_refresh_103 eS_21 (fun H locs hw => ?_)
          obtain ⟨x2_22, ex2_22, h⟩ := nm_ex h
          refine lv_iinc (v := x2_22) (lv' := [(2, .int x2_22), (0, .ref (ad 8 0)), (1, .ref (ad 4 0)), (3, .int x3)]) F.1 F.2.1 d_Bins_refresh_104 hl (k := 2) rfl (by rw [ex2_22]; rfl) (by decide) rfl (fun ls hl => ?_)
          refine lv_goto (tgt := 23) F.1 F.2.1 d_Bins_refresh_107 (by decide) ?_
          cases h
          have ho : P_23 _ := ho
          rw [eP_23] at ho
          exact ho H locs ls hw (lv_sub hl [1, 2, 0] rfl)
        refine lv_iload_n F.1 F.2.1 d_Bins_refresh_23 rfl (lv_at hl 2 rfl) ?_
        refine lv_aload_n F.1 F.2.1 d_Bins_refresh_24 rfl (lv_at hl 1 rfl) ?_
        refine cg_4_9 F hK hw lk_205 d_Bins_refresh_25 ?_
        refine lv_icmp_ge (tgt := 110) F.1 F.2.1 d_Bins_refresh_28 (by decide) (fun c_5 => ?_) (fun c_5 => ?_)
        · replace h := ip c_5 h
          cases h
          have ho : X_23 _ := ho
          rw [eX_23] at ho
          exact ho H locs ls hw (lv_sub hl [0, 1] rfl)
        · replace h := iq c_5 h
          refine lv_aload_n F.1 F.2.1 d_Bins_refresh_31 rfl (lv_at hl 1 rfl) ?_
          refine lv_aload_n F.1 F.2.1 d_Bins_refresh_32 rfl (lv_at hl 1 rfl) ?_
          refine lv_iload_n F.1 F.2.1 d_Bins_refresh_33 rfl (lv_at hl 2 rfl) ?_
          obtain ⟨v_7, hc_6, h⟩ := bd_ex h
          refine cV_i F hA rfl hK hw (c_Chart_inputOf l hc_6) trivial rfl (good_V lk_775 lk_661 lk_662 lk_5 lk_663) (cr_4 hK hw) hd_Chart_inputOf ⟨Nat.le_of_ble_eq_true rfl, Nat.le_of_ble_eq_true rfl⟩ rfl hl.1 rfl (Nat.le_of_ble_eq_true rfl) d_Bins_refresh_34 ⟨(Nat.zero_le _), (Nat.zero_le _)⟩ (fun H locs hw => ?_)
          obtain ⟨v_9, hc_8, h⟩ := bd_ex h
          refine cV_i F hA rfl hK hw (c_Chart_binsOf l hc_8) trivial rfl (good_V lk_776 lk_777 lk_778 lk_5 lk_779) (cr_4 hK hw) hd_Chart_binsOf ⟨Nat.le_of_ble_eq_true rfl, Nat.le_of_ble_eq_true rfl⟩ rfl hl.1 rfl (Nat.le_of_ble_eq_true rfl) d_Bins_refresh_37 ⟨(Nat.zero_le _), (Nat.zero_le _)⟩ (fun H locs hw => ?_)
          refine lv_sipush (v := 255) F.1 F.2.1 d_Bins_refresh_40 (by decide) ?_
          refine lv_iand F.1 F.2.1 d_Bins_refresh_43 ?_
          obtain ⟨x3_10, ex3_10, h⟩ := nm_ex h
          refine lv_nm ex3_10 ?_
          refine lv_istore_n (lv' := [(3, .int x3_10), (0, .ref (ad 8 0)), (1, .ref (ad 4 0)), (2, .int x2)]) F.1 F.2.1 d_Bins_refresh_44 rfl hl (by decide) rfl (fun ls hl => ?_)
          refine lv_aload_n F.1 F.2.1 d_Bins_refresh_45 rfl (lv_at hl 1 rfl) ?_
          refine cg_8_0 F hK hw lk_274 d_Bins_refresh_46 ?_
          refine lv_iload_n F.1 F.2.1 d_Bins_refresh_49 rfl (lv_at hl 0 rfl) ?_
          obtain ⟨hi_11, h⟩ := gd_ex h
          refine cl_8_0 F hK hw hi_11 d_Bins_refresh_50 ?_
          refine lv_if_ne (tgt := 94) F.1 F.2.1 d_Bins_refresh_51 (by decide) (fun c_12 => ?_) (fun c_12 => ?_)
          · replace h := iq c_12 h
            exact J_94_l23 S x2 x3_10 H locs ls hw (lv_sub hl [1, 2, 3, 0] rfl) o h ho
          · replace h := ip c_12 h
            refine lv_aload_n F.1 F.2.1 d_Bins_refresh_54 rfl (lv_at hl 1 rfl) ?_
            refine cg_8_6 F hK hw lk_280 d_Bins_refresh_55 ?_
            refine lv_sipush (v := 256) F.1 F.2.1 d_Bins_refresh_58 (by decide) ?_
            refine lv_icmp_ge (tgt := 94) F.1 F.2.1 d_Bins_refresh_61 (by decide) (fun c_13 => ?_) (fun c_13 => ?_)
            · replace h := ip c_13 h
              exact J_94_l23 S x2 x3_10 H locs ls hw (lv_sub hl [1, 2, 3, 0] rfl) o h ho
            · replace h := iq c_13 h
              refine lv_aload_n F.1 F.2.1 d_Bins_refresh_64 rfl (lv_at hl 1 rfl) ?_
              refine cg_8_1 F hK hw lk_275 d_Bins_refresh_65 ?_
              refine lv_aload_n F.1 F.2.1 d_Bins_refresh_68 rfl (lv_at hl 1 rfl) ?_
              refine cg_8_6 F hK hw lk_280 d_Bins_refresh_69 ?_
              refine lv_iload_n F.1 F.2.1 d_Bins_refresh_72 rfl (lv_at hl 0 rfl) ?_
              obtain ⟨hi_14, h⟩ := gd_ex h
              obtain ⟨S_15, eS_15, h⟩ := nm_ex h
              refine cs_8_1 F hK hw hi_14 d_Bins_refresh_73 eS_15 (fun H locs hw => ?_)
              refine lv_aload_n F.1 F.2.1 d_Bins_refresh_74 rfl (lv_at hl 1 rfl) ?_
              refine cg_8_2 F hK hw lk_276 d_Bins_refresh_75 ?_
              refine lv_aload_n F.1 F.2.1 d_Bins_refresh_78 rfl (lv_at hl 1 rfl) ?_
              refine cg_8_6 F hK hw lk_280 d_Bins_refresh_79 ?_
              refine lv_iload_n F.1 F.2.1 d_Bins_refresh_82 rfl (lv_at hl 3 rfl) ?_
              obtain ⟨hi_16, h⟩ := gd_ex h
              obtain ⟨S_17, eS_17, h⟩ := nm_ex h
              refine cs_8_2 F hK hw hi_16 d_Bins_refresh_83 eS_17 (fun H locs hw => ?_)
              refine lv_aload_n F.1 F.2.1 d_Bins_refresh_84 rfl (lv_at hl 1 rfl) ?_
              refine lv_dup F.1 F.2.1 d_Bins_refresh_85 rfl ?_
              refine cg_8_6 F hK hw lk_280 d_Bins_refresh_86 ?_
              refine lv_iconst (v := 1) F.1 F.2.1 d_Bins_refresh_89 (by decide) ?_
              refine lv_iadd F.1 F.2.1 d_Bins_refresh_90 ?_
              obtain ⟨S_18, eS_18, h⟩ := nm_ex h
              refine cp_8_6 F hK hw lk_280 d_Bins_refresh_91 eS_18 (fun H locs hw => ?_)
              exact J_94_l23 S_18 x2 x3_10 H locs ls hw (lv_sub hl [1, 2, 3, 0] rfl) o h ho
      rw [eP_23] at hL_23
      exact hL_23 H locs ls hw (lv_sub hl [1, 2, 0] rfl)
    · replace h := iq c_1 h
      cases h
      have ho : X_0 _ := ho
      rw [eX_0] at ho
      exact ho H locs _ ls d_Bins_refresh_7 hw
  exact key _ _ hw _ h (by rw [eX_0]; exact fun H locs pc ls hd hw => hQ H locs pc ls ad rfl hd hw)
set_option maxHeartbeats 4000000 in
set_option maxRecDepth 100000 in
theorem c_Arrays_fill_8_3 (l : Launch) {S : St} {x1 : Int32} {S' : St} (h : f_Arrays_fill 8 3 S x1 = some S') : MV cw l y_Arrays_fill b_Arrays_fill 4 none 0 0 0 0 (fun ad => [.ref (ad 8 4), .int x1]) aT aE S S' := by
  refine MV_of "java/util/Arrays" rfl (by decide) (fun _ => Nat.le_of_ble_eq_true rfl) ?_
  intro p e s m args below meth c D ar ad A Q ls hP F hK hA hw hl hQ
  have hl : lv_has ls 4 [(0, .ref (ad 8 4)), (1, .int x1)] := hl
  obtain ⟨X_0, eX_0⟩ : ∃ X : St → Prop, X = (fun q => ∀ (H : Heap) (locs : List Loc) (pc : Nat) (ls : Array Slot), decode b_Arrays_fill pc = .ok (.return_, 1) → Bw cw D ar A s.heap H locs ad q → W p l e (RM 0 0) s m args below meth c H locs 0 0 Q (F0 m pc ls [])) := ⟨_, rfl⟩
  have key : ∀ (H : Heap) (locs : List Loc), Bw cw D ar A s.heap H locs ad S → ∀ o, f_Arrays_fill 8 3 S x1 = some o → X_0 o → W p l e (RM 0 0) s m args below meth c H locs 0 0 Q (F0 m 0 ls []) := by
    intro H locs hw o h ho
    unfold f_Arrays_fill at h
    refine lv_iconst (v := 0) F.1 F.2.1 d_Arrays_fill_0 (by decide) ?_
    refine lv_istore_n (lv' := [(2, .int (0 : Int32)), (0, .ref (ad 8 4)), (1, .int x1)]) F.1 F.2.1 d_Arrays_fill_1 rfl hl (by decide) rfl (fun ls hl => ?_)
    refine lv_aload_n F.1 F.2.1 d_Arrays_fill_2 rfl (lv_at hl 1 rfl) ?_
    refine cn_8_3 F hK hw d_Arrays_fill_3 ?_
    obtain ⟨x3_1, ex3_1, h⟩ := nm_ex h
    refine lv_nm ex3_1 ?_
    refine lv_istore_n (lv' := [(3, .int x3_1), (2, .int (0 : Int32)), (0, .ref (ad 8 4)), (1, .int x1)]) F.1 F.2.1 d_Arrays_fill_4 rfl hl (by decide) rfl (fun ls hl => ?_)
    obtain ⟨S_6, hc_7, h⟩ := bd_ex h
    obtain ⟨X_5, eX_5⟩ : ∃ X : St → Prop, X = (fun q => ∀ (H : Heap) (locs : List Loc) (ls : Array Slot), Bw cw D ar A s.heap H locs ad q → lv_has ls 4 [] → W p l e (RM 0 0) s m args below meth c H locs 0 0 Q (F0 m 20 ls [])) := ⟨_, rfl⟩
    have hX_5 : X_5 S_6 := by
      rw [eX_5]
      intro H locs ls hw hl
      cases h
      have ho : X_0 _ := ho
      rw [eX_0] at ho
      exact ho H locs _ ls d_Arrays_fill_20 hw
    obtain ⟨P_5, eP_5⟩ : ∃ P : (St × Int32) → Prop, P = (fun q => ∀ (H : Heap) (locs : List Loc) (ls : Array Slot), Bw cw D ar A s.heap H locs ad q.1 → lv_has ls 4 [(0, .ref (ad 8 4)), (1, .int x1), (2, .int q.2), (3, .int x3_1)] → W p l e (RM 0 0) s m args below meth c H locs 0 0 Q (F0 m 5 ls [])) := ⟨_, rfl⟩
    have hL_5 : P_5 (S, (0 : Int32)) := by
      refine wh_gp (P := P_5) (X := X_5) hc_7 hX_5 ?_
      clear h
      intro q o h ho
      obtain ⟨S, x2⟩ := q
      have h : Arrays_fill_l5 8 3 x1 x3_1 S x2 = some o := h
      unfold Arrays_fill_l5 at h
      rw [eP_5]
      intro H locs ls hw hl
      refine lv_iload_n F.1 F.2.1 d_Arrays_fill_5 rfl (lv_at hl 2 rfl) ?_
      refine lv_iload_n F.1 F.2.1 d_Arrays_fill_6 rfl (lv_at hl 3 rfl) ?_
      refine lv_icmp_ge (tgt := 20) F.1 F.2.1 d_Arrays_fill_7 (by decide) (fun c_2 => ?_) (fun c_2 => ?_)
      · replace h := ip c_2 h
        cases h
        have ho : X_5 _ := ho
        rw [eX_5] at ho
        exact ho H locs ls hw (lv_sub hl [] rfl)
      · replace h := iq c_2 h
        refine lv_aload_n F.1 F.2.1 d_Arrays_fill_10 rfl (lv_at hl 0 rfl) ?_
        refine lv_iload_n F.1 F.2.1 d_Arrays_fill_11 rfl (lv_at hl 2 rfl) ?_
        refine lv_iload_n F.1 F.2.1 d_Arrays_fill_12 rfl (lv_at hl 1 rfl) ?_
        obtain ⟨hi_3, h⟩ := gd_ex h
        obtain ⟨S_4, eS_4, h⟩ := nm_ex h
        refine cs_8_3 F hK hw hi_3 d_Arrays_fill_13 eS_4 (fun H locs hw => ?_)
        obtain ⟨x2_5, ex2_5, h⟩ := nm_ex h
        refine lv_iinc (v := x2_5) (lv' := [(2, .int x2_5), (0, .ref (ad 8 4)), (1, .int x1), (3, .int x3_1)]) F.1 F.2.1 d_Arrays_fill_14 hl (k := 2) rfl (by rw [ex2_5]; rfl) (by decide) rfl (fun ls hl => ?_)
        refine lv_goto (tgt := 5) F.1 F.2.1 d_Arrays_fill_17 (by decide) ?_
        cases h
        have ho : P_5 _ := ho
        rw [eP_5] at ho
        exact ho H locs ls hw (lv_sub hl [1, 2, 0, 3] rfl)
    rw [eP_5] at hL_5
    exact hL_5 H locs ls hw (lv_sub hl [2, 3, 1, 0] rfl)
  exact key _ _ hw _ h (by rw [eX_0]; exact fun H locs pc ls hd hw => hQ H locs pc ls ad rfl hd hw)
set_option maxHeartbeats 4000000 in
set_option maxRecDepth 100000 in
theorem c_Arrays_fill_8_4 (l : Launch) {S : St} {x1 : Int32} {S' : St} (h : f_Arrays_fill 8 4 S x1 = some S') : MV cw l y_Arrays_fill b_Arrays_fill 4 none 0 0 0 0 (fun ad => [.ref (ad 8 5), .int x1]) aT aE S S' := by
  refine MV_of "java/util/Arrays" rfl (by decide) (fun _ => Nat.le_of_ble_eq_true rfl) ?_
  intro p e s m args below meth c D ar ad A Q ls hP F hK hA hw hl hQ
  have hl : lv_has ls 4 [(0, .ref (ad 8 5)), (1, .int x1)] := hl
  obtain ⟨X_0, eX_0⟩ : ∃ X : St → Prop, X = (fun q => ∀ (H : Heap) (locs : List Loc) (pc : Nat) (ls : Array Slot), decode b_Arrays_fill pc = .ok (.return_, 1) → Bw cw D ar A s.heap H locs ad q → W p l e (RM 0 0) s m args below meth c H locs 0 0 Q (F0 m pc ls [])) := ⟨_, rfl⟩
  have key : ∀ (H : Heap) (locs : List Loc), Bw cw D ar A s.heap H locs ad S → ∀ o, f_Arrays_fill 8 4 S x1 = some o → X_0 o → W p l e (RM 0 0) s m args below meth c H locs 0 0 Q (F0 m 0 ls []) := by
    intro H locs hw o h ho
    unfold f_Arrays_fill at h
    refine lv_iconst (v := 0) F.1 F.2.1 d_Arrays_fill_0 (by decide) ?_
    refine lv_istore_n (lv' := [(2, .int (0 : Int32)), (0, .ref (ad 8 5)), (1, .int x1)]) F.1 F.2.1 d_Arrays_fill_1 rfl hl (by decide) rfl (fun ls hl => ?_)
    refine lv_aload_n F.1 F.2.1 d_Arrays_fill_2 rfl (lv_at hl 1 rfl) ?_
    refine cn_8_4 F hK hw d_Arrays_fill_3 ?_
    obtain ⟨x3_1, ex3_1, h⟩ := nm_ex h
    refine lv_nm ex3_1 ?_
    refine lv_istore_n (lv' := [(3, .int x3_1), (2, .int (0 : Int32)), (0, .ref (ad 8 5)), (1, .int x1)]) F.1 F.2.1 d_Arrays_fill_4 rfl hl (by decide) rfl (fun ls hl => ?_)
    obtain ⟨S_6, hc_7, h⟩ := bd_ex h
    obtain ⟨X_5, eX_5⟩ : ∃ X : St → Prop, X = (fun q => ∀ (H : Heap) (locs : List Loc) (ls : Array Slot), Bw cw D ar A s.heap H locs ad q → lv_has ls 4 [] → W p l e (RM 0 0) s m args below meth c H locs 0 0 Q (F0 m 20 ls [])) := ⟨_, rfl⟩
    have hX_5 : X_5 S_6 := by
      rw [eX_5]
      intro H locs ls hw hl
      cases h
      have ho : X_0 _ := ho
      rw [eX_0] at ho
      exact ho H locs _ ls d_Arrays_fill_20 hw
    obtain ⟨P_5, eP_5⟩ : ∃ P : (St × Int32) → Prop, P = (fun q => ∀ (H : Heap) (locs : List Loc) (ls : Array Slot), Bw cw D ar A s.heap H locs ad q.1 → lv_has ls 4 [(0, .ref (ad 8 5)), (1, .int x1), (2, .int q.2), (3, .int x3_1)] → W p l e (RM 0 0) s m args below meth c H locs 0 0 Q (F0 m 5 ls [])) := ⟨_, rfl⟩
    have hL_5 : P_5 (S, (0 : Int32)) := by
      refine wh_gp (P := P_5) (X := X_5) hc_7 hX_5 ?_
      clear h
      intro q o h ho
      obtain ⟨S, x2⟩ := q
      have h : Arrays_fill_l5 8 4 x1 x3_1 S x2 = some o := h
      unfold Arrays_fill_l5 at h
      rw [eP_5]
      intro H locs ls hw hl
      refine lv_iload_n F.1 F.2.1 d_Arrays_fill_5 rfl (lv_at hl 2 rfl) ?_
      refine lv_iload_n F.1 F.2.1 d_Arrays_fill_6 rfl (lv_at hl 3 rfl) ?_
      refine lv_icmp_ge (tgt := 20) F.1 F.2.1 d_Arrays_fill_7 (by decide) (fun c_2 => ?_) (fun c_2 => ?_)
      · replace h := ip c_2 h
        cases h
        have ho : X_5 _ := ho
        rw [eX_5] at ho
        exact ho H locs ls hw (lv_sub hl [] rfl)
      · replace h := iq c_2 h
        refine lv_aload_n F.1 F.2.1 d_Arrays_fill_10 rfl (lv_at hl 0 rfl) ?_
        refine lv_iload_n F.1 F.2.1 d_Arrays_fill_11 rfl (lv_at hl 2 rfl) ?_
        refine lv_iload_n F.1 F.2.1 d_Arrays_fill_12 rfl (lv_at hl 1 rfl) ?_
        obtain ⟨hi_3, h⟩ := gd_ex h
        obtain ⟨S_4, eS_4, h⟩ := nm_ex h
        refine cs_8_4 F hK hw hi_3 d_Arrays_fill_13 eS_4 (fun H locs hw => ?_)
        obtain ⟨x2_5, ex2_5, h⟩ := nm_ex h
        refine lv_iinc (v := x2_5) (lv' := [(2, .int x2_5), (0, .ref (ad 8 5)), (1, .int x1), (3, .int x3_1)]) F.1 F.2.1 d_Arrays_fill_14 hl (k := 2) rfl (by rw [ex2_5]; rfl) (by decide) rfl (fun ls hl => ?_)
        refine lv_goto (tgt := 5) F.1 F.2.1 d_Arrays_fill_17 (by decide) ?_
        cases h
        have ho : P_5 _ := ho
        rw [eP_5] at ho
        exact ho H locs ls hw (lv_sub hl [1, 2, 0, 3] rfl)
    rw [eP_5] at hL_5
    exact hL_5 H locs ls hw (lv_sub hl [2, 3, 1, 0] rfl)
  exact key _ _ hw _ h (by rw [eX_0]; exact fun H locs pc ls hd hw => hQ H locs pc ls ad rfl hd hw)
theorem d_Book_heightOf_0 : decode b_Book_heightOf 0 = .ok (.iconst 0, 1) := by decide +kernel
theorem d_Book_heightOf_1 : decode b_Book_heightOf 1 = .ok (.istore_n 2, 1) := by decide +kernel
theorem d_Book_heightOf_2 : decode b_Book_heightOf 2 = .ok (.iload_n 1, 1) := by decide +kernel
theorem d_Book_heightOf_3 : decode b_Book_heightOf 3 = .ok (.istore_n 3, 1) := by decide +kernel
theorem d_Book_heightOf_4 : decode b_Book_heightOf 4 = .ok (.aload_n 0, 1) := by decide +kernel
theorem d_Book_heightOf_5 : decode b_Book_heightOf 5 = .ok (.getfield 43, 3) := by decide +kernel
theorem d_Book_heightOf_8 : decode b_Book_heightOf 8 = .ok (.bipush 6, 2) := by decide +kernel
theorem d_Book_heightOf_10 : decode b_Book_heightOf 10 = .ok (.invokestatic 66, 3) := by decide +kernel
theorem d_Book_heightOf_13 : decode b_Book_heightOf 13 = .ok (.iconst 1, 1) := by decide +kernel
theorem d_Book_heightOf_14 : decode b_Book_heightOf 14 = .ok (.isub, 1) := by decide +kernel
theorem d_Book_heightOf_15 : decode b_Book_heightOf 15 = .ok (.istore 4, 2) := by decide +kernel
theorem d_Book_heightOf_17 : decode b_Book_heightOf 17 = .ok (.iload 4, 2) := by decide +kernel
theorem d_Book_heightOf_19 : decode b_Book_heightOf 19 = .ok (.ifCond .lt 45, 3) := by decide +kernel
theorem d_Book_heightOf_22 : decode b_Book_heightOf 22 = .ok (.aload_n 0, 1) := by decide +kernel
theorem d_Book_heightOf_23 : decode b_Book_heightOf 23 = .ok (.getfield 19, 3) := by decide +kernel
theorem d_Book_heightOf_26 : decode b_Book_heightOf 26 = .ok (.iload 4, 2) := by decide +kernel
theorem d_Book_heightOf_28 : decode b_Book_heightOf 28 = .ok (.iaload, 1) := by decide +kernel
theorem d_Book_heightOf_29 : decode b_Book_heightOf 29 = .ok (.aload_n 0, 1) := by decide +kernel
theorem d_Book_heightOf_30 : decode b_Book_heightOf 30 = .ok (.getfield 15, 3) := by decide +kernel
theorem d_Book_heightOf_33 : decode b_Book_heightOf 33 = .ok (.iload 4, 2) := by decide +kernel
theorem d_Book_heightOf_35 : decode b_Book_heightOf 35 = .ok (.iaload, 1) := by decide +kernel
theorem d_Book_heightOf_36 : decode b_Book_heightOf 36 = .ok (.isub, 1) := by decide +kernel
theorem d_Book_heightOf_37 : decode b_Book_heightOf 37 = .ok (.iconst 1, 1) := by decide +kernel
theorem d_Book_heightOf_38 : decode b_Book_heightOf 38 = .ok (.iadd, 1) := by decide +kernel
theorem d_Book_heightOf_39 : decode b_Book_heightOf 39 = .ok (.istore 5, 2) := by decide +kernel
theorem d_Book_heightOf_41 : decode b_Book_heightOf 41 = .ok (.iload 5, 2) := by decide +kernel
theorem d_Book_heightOf_43 : decode b_Book_heightOf 43 = .ok (.ifCond .le 15, 3) := by decide +kernel
theorem d_Book_heightOf_46 : decode b_Book_heightOf 46 = .ok (.iload_n 2, 1) := by decide +kernel
theorem d_Book_heightOf_47 : decode b_Book_heightOf 47 = .ok (.iload_n 3, 1) := by decide +kernel
theorem d_Book_heightOf_48 : decode b_Book_heightOf 48 = .ok (.iload 5, 2) := by decide +kernel
theorem d_Book_heightOf_50 : decode b_Book_heightOf 50 = .ok (.irem, 1) := by decide +kernel
theorem d_Book_heightOf_51 : decode b_Book_heightOf 51 = .ok (.iadd, 1) := by decide +kernel
theorem d_Book_heightOf_52 : decode b_Book_heightOf 52 = .ok (.istore_n 2, 1) := by decide +kernel
theorem d_Book_heightOf_53 : decode b_Book_heightOf 53 = .ok (.iload_n 3, 1) := by decide +kernel
theorem d_Book_heightOf_54 : decode b_Book_heightOf 54 = .ok (.iload 5, 2) := by decide +kernel
theorem d_Book_heightOf_56 : decode b_Book_heightOf 56 = .ok (.idiv, 1) := by decide +kernel
theorem d_Book_heightOf_57 : decode b_Book_heightOf 57 = .ok (.istore_n 3, 1) := by decide +kernel
theorem d_Book_heightOf_58 : decode b_Book_heightOf 58 = .ok (.iinc 4 (-1), 3) := by decide +kernel
theorem d_Book_heightOf_61 : decode b_Book_heightOf 61 = .ok (.goto (-44), 3) := by decide +kernel
theorem d_Book_heightOf_64 : decode b_Book_heightOf 64 = .ok (.iload_n 2, 1) := by decide +kernel
theorem d_Book_heightOf_65 : decode b_Book_heightOf 65 = .ok (.ireturn, 1) := by decide +kernel
set_option maxHeartbeats 4000000 in
set_option maxRecDepth 100000 in
theorem c_Book_heightOf (l : Launch) {S : St} {x1 : Int32} {r : Int32} (h : f_Book_heightOf S x1 = some r) : MI cw l y_Book_heightOf b_Book_heightOf 6 (some .int) 1 21 0 0 (fun ad => [.ref (ad 5 0), .int x1]) aT aE S r S := by
  refine MI_of "LawfulLots$Book" rfl (by decide) (fun _ => Nat.le_of_ble_eq_true rfl) ?_
  intro p e s m args below meth c D ar ad A Q ls hP F hK hA hw hl hQ
  have hl : lv_has ls 6 [(0, .ref (ad 5 0)), (1, .int x1)] := hl
  obtain ⟨X_0, eX_0⟩ : ∃ X : Int32 → Prop, X = (fun q => ∀ (H : Heap) (locs : List Loc) (pc : Nat) (ls : Array Slot), decode b_Book_heightOf pc = .ok (.ireturn, 1) → Bw cw D ar A s.heap H locs ad S → W p l e (RM 1 21) s m args below meth c H locs 0 0 Q (F0 m pc ls [.int q])) := ⟨_, rfl⟩
  have key : ∀ (H : Heap) (locs : List Loc), Bw cw D ar A s.heap H locs ad S → ∀ o, f_Book_heightOf S x1 = some o → X_0 o → W p l e (RM 1 21) s m args below meth c H locs 0 0 Q (F0 m 0 ls []) := by
    intro H locs hw o h ho
    unfold f_Book_heightOf at h
    refine lv_iconst (v := 0) F.1 F.2.1 d_Book_heightOf_0 (by decide) ?_
    refine lv_istore_n (lv' := [(2, .int (0 : Int32)), (0, .ref (ad 5 0)), (1, .int x1)]) F.1 F.2.1 d_Book_heightOf_1 rfl hl (by decide) rfl (fun ls hl => ?_)
    refine lv_iload_n F.1 F.2.1 d_Book_heightOf_2 rfl (lv_at hl 2 rfl) ?_
    refine lv_istore_n (lv' := [(3, .int x1), (2, .int (0 : Int32)), (0, .ref (ad 5 0)), (1, .int x1)]) F.1 F.2.1 d_Book_heightOf_3 rfl hl (by decide) rfl (fun ls hl => ?_)
    refine lv_aload_n F.1 F.2.1 d_Book_heightOf_4 rfl (lv_at hl 2 rfl) ?_
    refine cg_5_10 F hK hw lk_82 d_Book_heightOf_5 ?_
    refine lv_bipush (v := 6) F.1 F.2.1 d_Book_heightOf_8 (by decide) ?_
    refine va_mmin F.1 F.2.1 (F.2.2.1.trans hl.1.symm) F.2.2.2.1 (F.2.2.2.2 _ lk_481) (F.2.2.2.2 _ lk_397) (F.2.2.2.2 _ lk_12) (F.2.2.2.2 _ lk_398) (Nat.le_of_ble_eq_true rfl) (Nat.le_of_ble_eq_true rfl) (Nat.zero_le _) (Nat.zero_le _) d_Book_heightOf_10 ?_
    refine lv_iconst (v := 1) F.1 F.2.1 d_Book_heightOf_13 (by decide) ?_
    refine lv_isub F.1 F.2.1 d_Book_heightOf_14 ?_
    obtain ⟨x4_1, ex4_1, h⟩ := nm_ex h
    refine lv_nm ex4_1 ?_
    refine lv_istore (lv' := [(4, .int x4_1), (3, .int x1), (2, .int (0 : Int32)), (0, .ref (ad 5 0)), (1, .int x1)]) F.1 F.2.1 d_Book_heightOf_15 hl (by decide) rfl (fun ls hl => ?_)
    obtain ⟨x2_12, hc_13, h⟩ := bd_ex h
    obtain ⟨X_17, eX_17⟩ : ∃ X : Int32 → Prop, X = (fun q => ∀ (H : Heap) (locs : List Loc) (ls : Array Slot), Bw cw D ar A s.heap H locs ad S → lv_has ls 6 [(2, .int q)] → W p l e (RM 1 21) s m args below meth c H locs 0 0 Q (F0 m 64 ls [])) := ⟨_, rfl⟩
    have hX_17 : X_17 x2_12 := by
      rw [eX_17]
      intro H locs ls hw hl
      refine lv_iload_n F.1 F.2.1 d_Book_heightOf_64 rfl (lv_at hl 0 rfl) ?_
      cases h
      have ho : X_0 _ := ho
      rw [eX_0] at ho
      exact ho H locs _ ls d_Book_heightOf_65 hw
    obtain ⟨P_17, eP_17⟩ : ∃ P : (Int32 × Int32 × Int32) → Prop, P = (fun q => ∀ (H : Heap) (locs : List Loc) (ls : Array Slot), Bw cw D ar A s.heap H locs ad S → lv_has ls 6 [(0, .ref (ad 5 0)), (2, .int q.1), (3, .int q.2.1), (4, .int q.2.2)] → W p l e (RM 1 21) s m args below meth c H locs 0 0 Q (F0 m 17 ls [])) := ⟨_, rfl⟩
    have hL_17 : P_17 ((0 : Int32), x1, x4_1) := by
      refine wh_gp (P := P_17) (X := X_17) hc_13 hX_17 ?_
      clear h
      intro q o h ho
      obtain ⟨x2, x3, x4⟩ := q
      have h : Book_heightOf_l17 S x2 x3 x4 = some o := h
      unfold Book_heightOf_l17 at h
      rw [eP_17]
      intro H locs ls hw hl
      have J_58_l17 : ∀ (x2 : Int32) (x3 : Int32) (x4 : Int32) (H : Heap) (locs : List Loc) (ls : Array Slot), Bw cw D ar A s.heap H locs ad S → lv_has ls 6 [(0, .ref (ad 5 0)), (2, .int x2), (3, .int x3), (4, .int x4)] → ∀ o, Book_heightOf_j58_l17 S x2 x3 x4 = some o → (Sum.elim P_17 X_17) o → W p l e (RM 1 21) s m args below meth c H locs 0 0 Q (F0 m 58 ls []) := by
        intro x2 x3 x4 H locs ls hw hl o h ho
        unfold Book_heightOf_j58_l17 at h
        obtain ⟨x4_11, ex4_11, h⟩ := nm_ex h
        refine lv_iinc (v := x4_11) (lv' := [(4, .int x4_11), (0, .ref (ad 5 0)), (2, .int x2), (3, .int x3)]) F.1 F.2.1 d_Book_heightOf_58 hl (k := 3) rfl (by rw [ex4_11]; rfl) (by decide) rfl (fun ls hl => ?_)
        refine lv_goto (tgt := 17) F.1 F.2.1 d_Book_heightOf_61 (by decide) ?_
        cases h
        have ho : P_17 _ := ho
        rw [eP_17] at ho
        exact ho H locs ls hw (lv_sub hl [1, 2, 3, 0] rfl)
      refine lv_iload F.1 F.2.1 d_Book_heightOf_17 (lv_at hl 3 rfl) ?_
      refine lv_if_lt (tgt := 64) F.1 F.2.1 d_Book_heightOf_19 (by decide) (fun c_2 => ?_) (fun c_2 => ?_)
      · replace h := ip c_2 h
        cases h
        have ho : X_17 _ := ho
        rw [eX_17] at ho
        exact ho H locs ls hw (lv_sub hl [1] rfl)
      · replace h := iq c_2 h
        refine lv_aload_n F.1 F.2.1 d_Book_heightOf_22 rfl (lv_at hl 0 rfl) ?_
        refine cg_5_2 F hK hw lk_69 d_Book_heightOf_23 ?_
        refine lv_iload F.1 F.2.1 d_Book_heightOf_26 (lv_at hl 3 rfl) ?_
        obtain ⟨hi_3, h⟩ := gd_ex h
        refine cl_5_2 F hK hw hi_3 d_Book_heightOf_28 ?_
        refine lv_aload_n F.1 F.2.1 d_Book_heightOf_29 rfl (lv_at hl 0 rfl) ?_
        refine cg_5_1 F hK hw lk_68 d_Book_heightOf_30 ?_
        refine lv_iload F.1 F.2.1 d_Book_heightOf_33 (lv_at hl 3 rfl) ?_
        obtain ⟨hi_4, h⟩ := gd_ex h
        refine cl_5_1 F hK hw hi_4 d_Book_heightOf_35 ?_
        refine lv_isub F.1 F.2.1 d_Book_heightOf_36 ?_
        refine lv_iconst (v := 1) F.1 F.2.1 d_Book_heightOf_37 (by decide) ?_
        refine lv_iadd F.1 F.2.1 d_Book_heightOf_38 ?_
        obtain ⟨x5_5, ex5_5, h⟩ := nm_ex h
        refine lv_nm ex5_5 ?_
        refine lv_istore (lv' := [(5, .int x5_5), (0, .ref (ad 5 0)), (2, .int x2), (3, .int x3), (4, .int x4)]) F.1 F.2.1 d_Book_heightOf_39 hl (by decide) rfl (fun ls hl => ?_)
        refine lv_iload F.1 F.2.1 d_Book_heightOf_41 (lv_at hl 0 rfl) ?_
        refine lv_if_le (tgt := 58) F.1 F.2.1 d_Book_heightOf_43 (by decide) (fun c_6 => ?_) (fun c_6 => ?_)
        · replace h := ip c_6 h
          exact J_58_l17 x2 x3 x4 H locs ls hw (lv_sub hl [1, 2, 3, 4] rfl) o h ho
        · replace h := iq c_6 h
          refine lv_iload_n F.1 F.2.1 d_Book_heightOf_46 rfl (lv_at hl 2 rfl) ?_
          refine lv_iload_n F.1 F.2.1 d_Book_heightOf_47 rfl (lv_at hl 3 rfl) ?_
          refine lv_iload F.1 F.2.1 d_Book_heightOf_48 (lv_at hl 0 rfl) ?_
          obtain ⟨hz_7, h⟩ := gd_ex h
          refine lv_irem F.1 F.2.1 d_Book_heightOf_50 (of_decide_eq_true hz_7) ?_
          refine lv_iadd F.1 F.2.1 d_Book_heightOf_51 ?_
          obtain ⟨x2_8, ex2_8, h⟩ := nm_ex h
          refine lv_nm ex2_8 ?_
          refine lv_istore_n (lv' := [(2, .int x2_8), (5, .int x5_5), (0, .ref (ad 5 0)), (3, .int x3), (4, .int x4)]) F.1 F.2.1 d_Book_heightOf_52 rfl hl (by decide) rfl (fun ls hl => ?_)
          refine lv_iload_n F.1 F.2.1 d_Book_heightOf_53 rfl (lv_at hl 3 rfl) ?_
          refine lv_iload F.1 F.2.1 d_Book_heightOf_54 (lv_at hl 1 rfl) ?_
          obtain ⟨hz_9, h⟩ := gd_ex h
          refine lv_idiv F.1 F.2.1 d_Book_heightOf_56 (of_decide_eq_true hz_9) ?_
          obtain ⟨x3_10, ex3_10, h⟩ := nm_ex h
          refine lv_nm ex3_10 ?_
          refine lv_istore_n (lv' := [(3, .int x3_10), (2, .int x2_8), (5, .int x5_5), (0, .ref (ad 5 0)), (4, .int x4)]) F.1 F.2.1 d_Book_heightOf_57 rfl hl (by decide) rfl (fun ls hl => ?_)
          exact J_58_l17 x2_8 x3_10 x4 H locs ls hw (lv_sub hl [3, 1, 0, 4] rfl) o h ho
    rw [eP_17] at hL_17
    exact hL_17 H locs ls hw (lv_sub hl [3, 2, 1, 0] rfl)
  exact key _ _ hw _ h (by rw [eX_0]; exact fun H locs pc ls hd hw => hQ H locs pc ls ad rfl hd hw)
theorem d_Bins_noteHeight_0 : decode b_Bins_noteHeight 0 = .ok (.iconst 0, 1) := by decide +kernel
theorem d_Bins_noteHeight_1 : decode b_Bins_noteHeight 1 = .ok (.istore 4, 2) := by decide +kernel
theorem d_Bins_noteHeight_3 : decode b_Bins_noteHeight 3 = .ok (.iload 4, 2) := by decide +kernel
theorem d_Bins_noteHeight_5 : decode b_Bins_noteHeight 5 = .ok (.bipush 8, 2) := by decide +kernel
theorem d_Bins_noteHeight_7 : decode b_Bins_noteHeight 7 = .ok (.if_icmp .ge 45, 3) := by decide +kernel
theorem d_Bins_noteHeight_10 : decode b_Bins_noteHeight 10 = .ok (.iload_n 2, 1) := by decide +kernel
theorem d_Bins_noteHeight_11 : decode b_Bins_noteHeight 11 = .ok (.iload 4, 2) := by decide +kernel
theorem d_Bins_noteHeight_13 : decode b_Bins_noteHeight 13 = .ok (.ishr, 1) := by decide +kernel
theorem d_Bins_noteHeight_14 : decode b_Bins_noteHeight 14 = .ok (.iconst 1, 1) := by decide +kernel
theorem d_Bins_noteHeight_15 : decode b_Bins_noteHeight 15 = .ok (.iand, 1) := by decide +kernel
theorem d_Bins_noteHeight_16 : decode b_Bins_noteHeight 16 = .ok (.ifCond .eq 30, 3) := by decide +kernel
theorem d_Bins_noteHeight_19 : decode b_Bins_noteHeight 19 = .ok (.iload_n 3, 1) := by decide +kernel
theorem d_Bins_noteHeight_20 : decode b_Bins_noteHeight 20 = .ok (.aload_n 0, 1) := by decide +kernel
theorem d_Bins_noteHeight_21 : decode b_Bins_noteHeight 21 = .ok (.getfield 21, 3) := by decide +kernel
theorem d_Bins_noteHeight_24 : decode b_Bins_noteHeight 24 = .ok (.iload 4, 2) := by decide +kernel
theorem d_Bins_noteHeight_26 : decode b_Bins_noteHeight 26 = .ok (.iaload, 1) := by decide +kernel
theorem d_Bins_noteHeight_27 : decode b_Bins_noteHeight 27 = .ok (.if_icmp .ge 19, 3) := by decide +kernel
theorem d_Bins_noteHeight_30 : decode b_Bins_noteHeight 30 = .ok (.aload_n 0, 1) := by decide +kernel
theorem d_Bins_noteHeight_31 : decode b_Bins_noteHeight 31 = .ok (.getfield 21, 3) := by decide +kernel
theorem d_Bins_noteHeight_34 : decode b_Bins_noteHeight 34 = .ok (.iload 4, 2) := by decide +kernel
theorem d_Bins_noteHeight_36 : decode b_Bins_noteHeight 36 = .ok (.iload_n 3, 1) := by decide +kernel
theorem d_Bins_noteHeight_37 : decode b_Bins_noteHeight 37 = .ok (.iastore, 1) := by decide +kernel
theorem d_Bins_noteHeight_38 : decode b_Bins_noteHeight 38 = .ok (.aload_n 0, 1) := by decide +kernel
theorem d_Bins_noteHeight_39 : decode b_Bins_noteHeight 39 = .ok (.getfield 24, 3) := by decide +kernel
theorem d_Bins_noteHeight_42 : decode b_Bins_noteHeight 42 = .ok (.iload 4, 2) := by decide +kernel
theorem d_Bins_noteHeight_44 : decode b_Bins_noteHeight 44 = .ok (.iload_n 1, 1) := by decide +kernel
theorem d_Bins_noteHeight_45 : decode b_Bins_noteHeight 45 = .ok (.iastore, 1) := by decide +kernel
theorem d_Bins_noteHeight_46 : decode b_Bins_noteHeight 46 = .ok (.iinc 4 1, 3) := by decide +kernel
theorem d_Bins_noteHeight_49 : decode b_Bins_noteHeight 49 = .ok (.goto (-46), 3) := by decide +kernel
theorem d_Bins_noteHeight_52 : decode b_Bins_noteHeight 52 = .ok (.return_, 1) := by decide +kernel
set_option maxHeartbeats 4000000 in
set_option maxRecDepth 100000 in
theorem c_Bins_noteHeight (l : Launch) {S : St} {x1 : Int32} {x2 : Int32} {x3 : Int32} {S' : St} (h : f_Bins_noteHeight S x1 x2 x3 = some S') : MV cw l y_Bins_noteHeight b_Bins_noteHeight 5 none 0 0 0 0 (fun ad => [.ref (ad 8 0), .int x1, .int x2, .int x3]) aT aE S S' := by
  refine MV_of "LawfulLots$BinTable" rfl (by decide) (fun _ => Nat.le_of_ble_eq_true rfl) ?_
  intro p e s m args below meth c D ar ad A Q ls hP F hK hA hw hl hQ
  have hl : lv_has ls 5 [(0, .ref (ad 8 0)), (1, .int x1), (2, .int x2), (3, .int x3)] := hl
  obtain ⟨X_0, eX_0⟩ : ∃ X : St → Prop, X = (fun q => ∀ (H : Heap) (locs : List Loc) (pc : Nat) (ls : Array Slot), decode b_Bins_noteHeight pc = .ok (.return_, 1) → Bw cw D ar A s.heap H locs ad q → W p l e (RM 0 0) s m args below meth c H locs 0 0 Q (F0 m pc ls [])) := ⟨_, rfl⟩
  have key : ∀ (H : Heap) (locs : List Loc), Bw cw D ar A s.heap H locs ad S → ∀ o, f_Bins_noteHeight S x1 x2 x3 = some o → X_0 o → W p l e (RM 0 0) s m args below meth c H locs 0 0 Q (F0 m 0 ls []) := by
    intro H locs hw o h ho
    unfold f_Bins_noteHeight at h
    refine lv_iconst (v := 0) F.1 F.2.1 d_Bins_noteHeight_0 (by decide) ?_
    refine lv_istore (lv' := [(4, .int (0 : Int32)), (0, .ref (ad 8 0)), (1, .int x1), (2, .int x2), (3, .int x3)]) F.1 F.2.1 d_Bins_noteHeight_1 hl (by decide) rfl (fun ls hl => ?_)
    obtain ⟨S_10, hc_11, h⟩ := bd_ex h
    obtain ⟨X_3, eX_3⟩ : ∃ X : St → Prop, X = (fun q => ∀ (H : Heap) (locs : List Loc) (ls : Array Slot), Bw cw D ar A s.heap H locs ad q → lv_has ls 5 [] → W p l e (RM 0 0) s m args below meth c H locs 0 0 Q (F0 m 52 ls [])) := ⟨_, rfl⟩
    have hX_3 : X_3 S_10 := by
      rw [eX_3]
      intro H locs ls hw hl
      cases h
      have ho : X_0 _ := ho
      rw [eX_0] at ho
      exact ho H locs _ ls d_Bins_noteHeight_52 hw
    obtain ⟨P_3, eP_3⟩ : ∃ P : (St × Int32) → Prop, P = (fun q => ∀ (H : Heap) (locs : List Loc) (ls : Array Slot), Bw cw D ar A s.heap H locs ad q.1 → lv_has ls 5 [(0, .ref (ad 8 0)), (1, .int x1), (2, .int x2), (3, .int x3), (4, .int q.2)] → W p l e (RM 0 0) s m args below meth c H locs 0 0 Q (F0 m 3 ls [])) := ⟨_, rfl⟩
    have hL_3 : P_3 (S, (0 : Int32)) := by
      refine wh_gp (P := P_3) (X := X_3) hc_11 hX_3 ?_
      clear h
      intro q o h ho
      obtain ⟨S, x4⟩ := q
      have h : Bins_noteHeight_l3 x1 x2 x3 S x4 = some o := h
      unfold Bins_noteHeight_l3 at h
      rw [eP_3]
      intro H locs ls hw hl
      have J_46_l3 : ∀ (S : St) (x4 : Int32) (H : Heap) (locs : List Loc) (ls : Array Slot), Bw cw D ar A s.heap H locs ad S → lv_has ls 5 [(0, .ref (ad 8 0)), (1, .int x1), (2, .int x2), (3, .int x3), (4, .int x4)] → ∀ o, Bins_noteHeight_j46_l3 S x1 x2 x3 x4 = some o → (Sum.elim P_3 X_3) o → W p l e (RM 0 0) s m args below meth c H locs 0 0 Q (F0 m 46 ls []) := by
        intro S x4 H locs ls hw hl o h ho
        unfold Bins_noteHeight_j46_l3 at h
        obtain ⟨x4_9, ex4_9, h⟩ := nm_ex h
        refine lv_iinc (v := x4_9) (lv' := [(4, .int x4_9), (0, .ref (ad 8 0)), (1, .int x1), (2, .int x2), (3, .int x3)]) F.1 F.2.1 d_Bins_noteHeight_46 hl (k := 4) rfl (by rw [ex4_9]; rfl) (by decide) rfl (fun ls hl => ?_)
        refine lv_goto (tgt := 3) F.1 F.2.1 d_Bins_noteHeight_49 (by decide) ?_
        cases h
        have ho : P_3 _ := ho
        rw [eP_3] at ho
        exact ho H locs ls hw (lv_sub hl [1, 2, 3, 4, 0] rfl)
      refine lv_iload F.1 F.2.1 d_Bins_noteHeight_3 (lv_at hl 4 rfl) ?_
      refine lv_bipush (v := 8) F.1 F.2.1 d_Bins_noteHeight_5 (by decide) ?_
      refine lv_icmp_ge (tgt := 52) F.1 F.2.1 d_Bins_noteHeight_7 (by decide) (fun c_1 => ?_) (fun c_1 => ?_)
      · replace h := ip c_1 h
        cases h
        have ho : X_3 _ := ho
        rw [eX_3] at ho
        exact ho H locs ls hw (lv_sub hl [] rfl)
      · replace h := iq c_1 h
        refine lv_iload_n F.1 F.2.1 d_Bins_noteHeight_10 rfl (lv_at hl 2 rfl) ?_
        refine lv_iload F.1 F.2.1 d_Bins_noteHeight_11 (lv_at hl 4 rfl) ?_
        refine lv_ishr F.1 F.2.1 d_Bins_noteHeight_13 ?_
        refine lv_iconst (v := 1) F.1 F.2.1 d_Bins_noteHeight_14 (by decide) ?_
        refine lv_iand F.1 F.2.1 d_Bins_noteHeight_15 ?_
        refine lv_if_eq (tgt := 46) F.1 F.2.1 d_Bins_noteHeight_16 (by decide) (fun c_2 => ?_) (fun c_2 => ?_)
        · replace h := ip c_2 h
          exact J_46_l3 S x4 H locs ls hw (lv_sub hl [0, 1, 2, 3, 4] rfl) o h ho
        · replace h := iq c_2 h
          refine lv_iload_n F.1 F.2.1 d_Bins_noteHeight_19 rfl (lv_at hl 3 rfl) ?_
          refine lv_aload_n F.1 F.2.1 d_Bins_noteHeight_20 rfl (lv_at hl 0 rfl) ?_
          refine cg_8_3 F hK hw lk_277 d_Bins_noteHeight_21 ?_
          refine lv_iload F.1 F.2.1 d_Bins_noteHeight_24 (lv_at hl 4 rfl) ?_
          obtain ⟨hi_3, h⟩ := gd_ex h
          refine cl_8_3 F hK hw hi_3 d_Bins_noteHeight_26 ?_
          refine lv_icmp_ge (tgt := 46) F.1 F.2.1 d_Bins_noteHeight_27 (by decide) (fun c_4 => ?_) (fun c_4 => ?_)
          · replace h := ip c_4 h
            exact J_46_l3 S x4 H locs ls hw (lv_sub hl [0, 1, 2, 3, 4] rfl) o h ho
          · replace h := iq c_4 h
            refine lv_aload_n F.1 F.2.1 d_Bins_noteHeight_30 rfl (lv_at hl 0 rfl) ?_
            refine cg_8_3 F hK hw lk_277 d_Bins_noteHeight_31 ?_
            refine lv_iload F.1 F.2.1 d_Bins_noteHeight_34 (lv_at hl 4 rfl) ?_
            refine lv_iload_n F.1 F.2.1 d_Bins_noteHeight_36 rfl (lv_at hl 3 rfl) ?_
            obtain ⟨hi_5, h⟩ := gd_ex h
            obtain ⟨S_6, eS_6, h⟩ := nm_ex h
            refine cs_8_3 F hK hw hi_5 d_Bins_noteHeight_37 eS_6 (fun H locs hw => ?_)
            refine lv_aload_n F.1 F.2.1 d_Bins_noteHeight_38 rfl (lv_at hl 0 rfl) ?_
            refine cg_8_4 F hK hw lk_278 d_Bins_noteHeight_39 ?_
            refine lv_iload F.1 F.2.1 d_Bins_noteHeight_42 (lv_at hl 4 rfl) ?_
            refine lv_iload_n F.1 F.2.1 d_Bins_noteHeight_44 rfl (lv_at hl 1 rfl) ?_
            obtain ⟨hi_7, h⟩ := gd_ex h
            obtain ⟨S_8, eS_8, h⟩ := nm_ex h
            refine cs_8_4 F hK hw hi_7 d_Bins_noteHeight_45 eS_8 (fun H locs hw => ?_)
            exact J_46_l3 S_8 x4 H locs ls hw (lv_sub hl [0, 1, 2, 3, 4] rfl) o h ho
    rw [eP_3] at hL_3
    exact hL_3 H locs ls hw (lv_sub hl [1, 2, 3, 4, 0] rfl)
  exact key _ _ hw _ h (by rw [eX_0]; exact fun H locs pc ls hd hw => hQ H locs pc ls ad rfl hd hw)
theorem d_Bins_refreshLowest_0 : decode b_Bins_refreshLowest 0 = .ok (.aload_n 0, 1) := by decide +kernel
theorem d_Bins_refreshLowest_1 : decode b_Bins_refreshLowest 1 = .ok (.getfield 41, 3) := by decide +kernel
theorem d_Bins_refreshLowest_4 : decode b_Bins_refreshLowest 4 = .ok (.ifCond .eq 4, 3) := by decide +kernel
theorem d_Bins_refreshLowest_7 : decode b_Bins_refreshLowest 7 = .ok (.return_, 1) := by decide +kernel
theorem d_Bins_refreshLowest_8 : decode b_Bins_refreshLowest 8 = .ok (.aload_n 0, 1) := by decide +kernel
theorem d_Bins_refreshLowest_9 : decode b_Bins_refreshLowest 9 = .ok (.getfield 21, 3) := by decide +kernel
theorem d_Bins_refreshLowest_12 : decode b_Bins_refreshLowest 12 = .ok (.ldc 77, 2) := by decide +kernel
theorem d_Bins_refreshLowest_14 : decode b_Bins_refreshLowest 14 = .ok (.invokestatic 47, 3) := by decide +kernel
theorem d_Bins_refreshLowest_17 : decode b_Bins_refreshLowest 17 = .ok (.aload_n 0, 1) := by decide +kernel
theorem d_Bins_refreshLowest_18 : decode b_Bins_refreshLowest 18 = .ok (.getfield 24, 3) := by decide +kernel
theorem d_Bins_refreshLowest_21 : decode b_Bins_refreshLowest 21 = .ok (.iconst (-1), 1) := by decide +kernel
theorem d_Bins_refreshLowest_22 : decode b_Bins_refreshLowest 22 = .ok (.invokestatic 47, 3) := by decide +kernel
theorem d_Bins_refreshLowest_25 : decode b_Bins_refreshLowest 25 = .ok (.iconst 0, 1) := by decide +kernel
theorem d_Bins_refreshLowest_26 : decode b_Bins_refreshLowest 26 = .ok (.istore_n 2, 1) := by decide +kernel
theorem d_Bins_refreshLowest_27 : decode b_Bins_refreshLowest 27 = .ok (.iload_n 2, 1) := by decide +kernel
theorem d_Bins_refreshLowest_28 : decode b_Bins_refreshLowest 28 = .ok (.aload_n 1, 1) := by decide +kernel
theorem d_Bins_refreshLowest_29 : decode b_Bins_refreshLowest 29 = .ok (.getfield 53, 3) := by decide +kernel
theorem d_Bins_refreshLowest_32 : decode b_Bins_refreshLowest 32 = .ok (.if_icmp .ge 42, 3) := by decide +kernel
theorem d_Bins_refreshLowest_35 : decode b_Bins_refreshLowest 35 = .ok (.aload_n 1, 1) := by decide +kernel
theorem d_Bins_refreshLowest_36 : decode b_Bins_refreshLowest 36 = .ok (.iload_n 2, 1) := by decide +kernel
theorem d_Bins_refreshLowest_37 : decode b_Bins_refreshLowest 37 = .ok (.invokevirtual 58, 3) := by decide +kernel
theorem d_Bins_refreshLowest_40 : decode b_Bins_refreshLowest 40 = .ok (.istore_n 3, 1) := by decide +kernel
theorem d_Bins_refreshLowest_41 : decode b_Bins_refreshLowest 41 = .ok (.aload_n 1, 1) := by decide +kernel
theorem d_Bins_refreshLowest_42 : decode b_Bins_refreshLowest 42 = .ok (.iload_n 3, 1) := by decide +kernel
theorem d_Bins_refreshLowest_43 : decode b_Bins_refreshLowest 43 = .ok (.invokevirtual 62, 3) := by decide +kernel
theorem d_Bins_refreshLowest_46 : decode b_Bins_refreshLowest 46 = .ok (.istore 4, 2) := by decide +kernel
theorem d_Bins_refreshLowest_48 : decode b_Bins_refreshLowest 48 = .ok (.iload 4, 2) := by decide +kernel
theorem d_Bins_refreshLowest_50 : decode b_Bins_refreshLowest 50 = .ok (.ifCond .eq 18, 3) := by decide +kernel
theorem d_Bins_refreshLowest_53 : decode b_Bins_refreshLowest 53 = .ok (.aload_n 0, 1) := by decide +kernel
theorem d_Bins_refreshLowest_54 : decode b_Bins_refreshLowest 54 = .ok (.iload_n 2, 1) := by decide +kernel
theorem d_Bins_refreshLowest_55 : decode b_Bins_refreshLowest 55 = .ok (.iload 4, 2) := by decide +kernel
theorem d_Bins_refreshLowest_57 : decode b_Bins_refreshLowest 57 = .ok (.aload_n 1, 1) := by decide +kernel
theorem d_Bins_refreshLowest_58 : decode b_Bins_refreshLowest 58 = .ok (.getfield 65, 3) := by decide +kernel
theorem d_Bins_refreshLowest_61 : decode b_Bins_refreshLowest 61 = .ok (.iload_n 3, 1) := by decide +kernel
theorem d_Bins_refreshLowest_62 : decode b_Bins_refreshLowest 62 = .ok (.invokevirtual 78, 3) := by decide +kernel
theorem d_Bins_refreshLowest_65 : decode b_Bins_refreshLowest 65 = .ok (.invokevirtual 81, 3) := by decide +kernel
theorem d_Bins_refreshLowest_68 : decode b_Bins_refreshLowest 68 = .ok (.iinc 2 1, 3) := by decide +kernel
theorem d_Bins_refreshLowest_71 : decode b_Bins_refreshLowest 71 = .ok (.goto (-44), 3) := by decide +kernel
theorem d_Bins_refreshLowest_74 : decode b_Bins_refreshLowest 74 = .ok (.aload_n 0, 1) := by decide +kernel
theorem d_Bins_refreshLowest_75 : decode b_Bins_refreshLowest 75 = .ok (.iconst 1, 1) := by decide +kernel
theorem d_Bins_refreshLowest_76 : decode b_Bins_refreshLowest 76 = .ok (.putfield 41, 3) := by decide +kernel
theorem d_Bins_refreshLowest_79 : decode b_Bins_refreshLowest 79 = .ok (.return_, 1) := by decide +kernel
set_option maxHeartbeats 4000000 in
set_option maxRecDepth 100000 in
theorem c_Bins_refreshLowest (l : Launch) {S : St} {S' : St} (h : f_Bins_refreshLowest S = some S') : MV cw l y_Bins_refreshLowest b_Bins_refreshLowest 5 none 2 46 0 0 (fun ad => [.ref (ad 8 0), .ref (ad 4 0)]) aT aE S S' := by
  refine MV_of "LawfulLots$BinTable" rfl (by decide) (fun _ => Nat.le_of_ble_eq_true rfl) ?_
  intro p e s m args below meth c D ar ad A Q ls hP F hK hA hw hl hQ
  have hl : lv_has ls 5 [(0, .ref (ad 8 0)), (1, .ref (ad 4 0))] := hl
  obtain ⟨X_0, eX_0⟩ : ∃ X : St → Prop, X = (fun q => ∀ (H : Heap) (locs : List Loc) (pc : Nat) (ls : Array Slot), decode b_Bins_refreshLowest pc = .ok (.return_, 1) → Bw cw D ar A s.heap H locs ad q → W p l e (RM 2 46) s m args below meth c H locs 0 0 Q (F0 m pc ls [])) := ⟨_, rfl⟩
  have key : ∀ (H : Heap) (locs : List Loc), Bw cw D ar A s.heap H locs ad S → ∀ o, f_Bins_refreshLowest S = some o → X_0 o → W p l e (RM 2 46) s m args below meth c H locs 0 0 Q (F0 m 0 ls []) := by
    intro H locs hw o h ho
    unfold f_Bins_refreshLowest at h
    refine lv_aload_n F.1 F.2.1 d_Bins_refreshLowest_0 rfl (lv_at hl 0 rfl) ?_
    refine cg_8_9 F hK hw lk_283 d_Bins_refreshLowest_1 ?_
    refine lv_if_eq (tgt := 8) F.1 F.2.1 d_Bins_refreshLowest_4 (by decide) (fun c_1 => ?_) (fun c_1 => ?_)
    · replace h := ip c_1 h
      refine lv_aload_n F.1 F.2.1 d_Bins_refreshLowest_8 rfl (lv_at hl 0 rfl) ?_
      refine cg_8_3 F hK hw lk_277 d_Bins_refreshLowest_9 ?_
      refine lv_ldc F.1 F.2.1 F.2.2.2.1 (F.2.2.2.2 _ lk_821) d_Bins_refreshLowest_12 ?_
      obtain ⟨S_3, hc_2, h⟩ := bd_ex h
      refine cS_v F hA rfl hK hw (c_Arrays_fill_8_3 l hc_2) trivial rfl (good_S lk_774 lk_390 lk_11 lk_391) hd_Arrays_fill ⟨Nat.le_of_ble_eq_true rfl, Nat.le_of_ble_eq_true rfl⟩ rfl hl.1 rfl (Nat.le_of_ble_eq_true rfl) d_Bins_refreshLowest_14 ⟨(Nat.zero_le _), (Nat.zero_le _)⟩ (fun H locs hw => ?_)
      refine lv_aload_n F.1 F.2.1 d_Bins_refreshLowest_17 rfl (lv_at hl 0 rfl) ?_
      refine cg_8_4 F hK hw lk_278 d_Bins_refreshLowest_18 ?_
      refine lv_iconst (v := -1) F.1 F.2.1 d_Bins_refreshLowest_21 (by decide) ?_
      obtain ⟨S_5, hc_4, h⟩ := bd_ex h
      refine cS_v F hA rfl hK hw (c_Arrays_fill_8_4 l hc_4) trivial rfl (good_S lk_774 lk_390 lk_11 lk_391) hd_Arrays_fill ⟨Nat.le_of_ble_eq_true rfl, Nat.le_of_ble_eq_true rfl⟩ rfl hl.1 rfl (Nat.le_of_ble_eq_true rfl) d_Bins_refreshLowest_22 ⟨(Nat.zero_le _), (Nat.zero_le _)⟩ (fun H locs hw => ?_)
      refine lv_iconst (v := 0) F.1 F.2.1 d_Bins_refreshLowest_25 (by decide) ?_
      refine lv_istore_n (lv' := [(2, .int (0 : Int32)), (0, .ref (ad 8 0)), (1, .ref (ad 4 0))]) F.1 F.2.1 d_Bins_refreshLowest_26 rfl hl (by decide) rfl (fun ls hl => ?_)
      obtain ⟨S_17, hc_18, h⟩ := bd_ex h
      obtain ⟨X_27, eX_27⟩ : ∃ X : St → Prop, X = (fun q => ∀ (H : Heap) (locs : List Loc) (ls : Array Slot), Bw cw D ar A s.heap H locs ad q → lv_has ls 5 [(0, .ref (ad 8 0))] → W p l e (RM 2 46) s m args below meth c H locs 0 0 Q (F0 m 74 ls [])) := ⟨_, rfl⟩
      have hX_27 : X_27 S_17 := by
        rw [eX_27]
        intro H locs ls hw hl
        refine lv_aload_n F.1 F.2.1 d_Bins_refreshLowest_74 rfl (lv_at hl 0 rfl) ?_
        refine lv_iconst (v := 1) F.1 F.2.1 d_Bins_refreshLowest_75 (by decide) ?_
        obtain ⟨S_19, eS_19, h⟩ := nm_ex h
        refine cp_8_9 F hK hw isB1 lk_283 d_Bins_refreshLowest_76 eS_19 (fun H locs hw => ?_)
        cases h
        have ho : X_0 _ := ho
        rw [eX_0] at ho
        exact ho H locs _ ls d_Bins_refreshLowest_79 hw
      obtain ⟨P_27, eP_27⟩ : ∃ P : (St × Int32) → Prop, P = (fun q => ∀ (H : Heap) (locs : List Loc) (ls : Array Slot), Bw cw D ar A s.heap H locs ad q.1 → lv_has ls 5 [(0, .ref (ad 8 0)), (1, .ref (ad 4 0)), (2, .int q.2)] → W p l e (RM 2 46) s m args below meth c H locs 0 0 Q (F0 m 27 ls [])) := ⟨_, rfl⟩
      have hL_27 : P_27 (S_5, (0 : Int32)) := by
        refine wh_gp (P := P_27) (X := X_27) hc_18 hX_27 ?_
        clear h
        intro q o h ho
        obtain ⟨S, x2⟩ := q
        have h : Bins_refreshLowest_l27 S x2 = some o := h
        unfold Bins_refreshLowest_l27 at h
        rw [eP_27]
        intro H locs ls hw hl
        have J_68_l27 : ∀ (S : St) (x2 : Int32) (H : Heap) (locs : List Loc) (ls : Array Slot), Bw cw D ar A s.heap H locs ad S → lv_has ls 5 [(0, .ref (ad 8 0)), (1, .ref (ad 4 0)), (2, .int x2)] → ∀ o, Bins_refreshLowest_j68_l27 S x2 = some o → (Sum.elim P_27 X_27) o → W p l e (RM 2 46) s m args below meth c H locs 0 0 Q (F0 m 68 ls []) := by
          intro S x2 H locs ls hw hl o h ho
          unfold Bins_refreshLowest_j68_l27 at h
          obtain ⟨x2_16, ex2_16, h⟩ := nm_ex h
          refine lv_iinc (v := x2_16) (lv' := [(2, .int x2_16), (0, .ref (ad 8 0)), (1, .ref (ad 4 0))]) F.1 F.2.1 d_Bins_refreshLowest_68 hl (k := 2) rfl (by rw [ex2_16]; rfl) (by decide) rfl (fun ls hl => ?_)
          refine lv_goto (tgt := 27) F.1 F.2.1 d_Bins_refreshLowest_71 (by decide) ?_
          cases h
          have ho : P_27 _ := ho
          rw [eP_27] at ho
          exact ho H locs ls hw (lv_sub hl [1, 2, 0] rfl)
        refine lv_iload_n F.1 F.2.1 d_Bins_refreshLowest_27 rfl (lv_at hl 2 rfl) ?_
        refine lv_aload_n F.1 F.2.1 d_Bins_refreshLowest_28 rfl (lv_at hl 1 rfl) ?_
        refine cg_4_9 F hK hw lk_205 d_Bins_refreshLowest_29 ?_
        refine lv_icmp_ge (tgt := 74) F.1 F.2.1 d_Bins_refreshLowest_32 (by decide) (fun c_6 => ?_) (fun c_6 => ?_)
        · replace h := ip c_6 h
          cases h
          have ho : X_27 _ := ho
          rw [eX_27] at ho
          exact ho H locs ls hw (lv_sub hl [0] rfl)
        · replace h := iq c_6 h
          refine lv_aload_n F.1 F.2.1 d_Bins_refreshLowest_35 rfl (lv_at hl 1 rfl) ?_
          refine lv_iload_n F.1 F.2.1 d_Bins_refreshLowest_36 rfl (lv_at hl 2 rfl) ?_
          obtain ⟨v_8, hc_7, h⟩ := bd_ex h
          refine cV_i F hA rfl hK hw (c_Chart_inputOf l hc_7) trivial rfl (good_V lk_775 lk_661 lk_662 lk_5 lk_663) (cr_4 hK hw) hd_Chart_inputOf ⟨Nat.le_of_ble_eq_true rfl, Nat.le_of_ble_eq_true rfl⟩ rfl hl.1 rfl (Nat.le_of_ble_eq_true rfl) d_Bins_refreshLowest_37 ⟨(Nat.zero_le _), (Nat.zero_le _)⟩ (fun H locs hw => ?_)
          refine lv_istore_n (lv' := [(3, .int v_8), (0, .ref (ad 8 0)), (1, .ref (ad 4 0)), (2, .int x2)]) F.1 F.2.1 d_Bins_refreshLowest_40 rfl hl (by decide) rfl (fun ls hl => ?_)
          refine lv_aload_n F.1 F.2.1 d_Bins_refreshLowest_41 rfl (lv_at hl 2 rfl) ?_
          refine lv_iload_n F.1 F.2.1 d_Bins_refreshLowest_42 rfl (lv_at hl 0 rfl) ?_
          obtain ⟨v_10, hc_9, h⟩ := bd_ex h
          refine cV_i F hA rfl hK hw (c_Chart_binsOf l hc_9) trivial rfl (good_V lk_776 lk_777 lk_778 lk_5 lk_779) (cr_4 hK hw) hd_Chart_binsOf ⟨Nat.le_of_ble_eq_true rfl, Nat.le_of_ble_eq_true rfl⟩ rfl hl.1 rfl (Nat.le_of_ble_eq_true rfl) d_Bins_refreshLowest_43 ⟨(Nat.zero_le _), (Nat.zero_le _)⟩ (fun H locs hw => ?_)
          refine lv_istore (lv' := [(4, .int v_10), (3, .int v_8), (0, .ref (ad 8 0)), (1, .ref (ad 4 0)), (2, .int x2)]) F.1 F.2.1 d_Bins_refreshLowest_46 hl (by decide) rfl (fun ls hl => ?_)
          refine lv_iload F.1 F.2.1 d_Bins_refreshLowest_48 (lv_at hl 0 rfl) ?_
          refine lv_if_eq (tgt := 68) F.1 F.2.1 d_Bins_refreshLowest_50 (by decide) (fun c_11 => ?_) (fun c_11 => ?_)
          · replace h := ip c_11 h
            exact J_68_l27 S x2 H locs ls hw (lv_sub hl [2, 3, 4] rfl) o h ho
          · replace h := iq c_11 h
            refine lv_aload_n F.1 F.2.1 d_Bins_refreshLowest_53 rfl (lv_at hl 2 rfl) ?_
            refine lv_iload_n F.1 F.2.1 d_Bins_refreshLowest_54 rfl (lv_at hl 4 rfl) ?_
            refine lv_iload F.1 F.2.1 d_Bins_refreshLowest_55 (lv_at hl 0 rfl) ?_
            refine lv_aload_n F.1 F.2.1 d_Bins_refreshLowest_57 rfl (lv_at hl 3 rfl) ?_
            refine cg_4_8 F hK hw lk_201 d_Bins_refreshLowest_58 ?_
            refine lv_iload_n F.1 F.2.1 d_Bins_refreshLowest_61 rfl (lv_at hl 1 rfl) ?_
            obtain ⟨v_13, hc_12, h⟩ := bd_ex h
            refine cV_i F hA rfl hK hw (c_Book_heightOf l hc_12) trivial rfl (good_V lk_858 lk_859 lk_860 lk_4 lk_861) (cr_5 hK hw) hd_Book_heightOf ⟨Nat.le_of_ble_eq_true rfl, Nat.le_of_ble_eq_true rfl⟩ rfl hl.1 rfl (Nat.le_of_ble_eq_true rfl) d_Bins_refreshLowest_62 ⟨(Nat.zero_le _), (Nat.zero_le _)⟩ (fun H locs hw => ?_)
            obtain ⟨S_15, hc_14, h⟩ := bd_ex h
            refine cV_v F hA rfl hK hw (c_Bins_noteHeight l hc_14) trivial rfl (good_V lk_862 lk_864 ls_39 lk_8 lk_865) (cr_8 hK hw) hd_Bins_noteHeight ⟨Nat.le_of_ble_eq_true rfl, Nat.le_of_ble_eq_true rfl⟩ rfl hl.1 rfl (Nat.le_of_ble_eq_true rfl) d_Bins_refreshLowest_65 ⟨(Nat.zero_le _), (Nat.zero_le _)⟩ (fun H locs hw => ?_)
            exact J_68_l27 S_15 x2 H locs ls hw (lv_sub hl [2, 3, 4] rfl) o h ho
      rw [eP_27] at hL_27
      exact hL_27 H locs ls hw (lv_sub hl [1, 2, 0] rfl)
    · replace h := iq c_1 h
      cases h
      have ho : X_0 _ := ho
      rw [eX_0] at ho
      exact ho H locs _ ls d_Bins_refreshLowest_7 hw
  exact key _ _ hw _ h (by rw [eX_0]; exact fun H locs pc ls hd hw => hQ H locs pc ls ad rfl hd hw)
theorem d_Bins_meetingAll_0 : decode b_Bins_meetingAll 0 = .ok (.aload_n 0, 1) := by decide +kernel
theorem d_Bins_meetingAll_1 : decode b_Bins_meetingAll 1 = .ok (.getfield 9, 3) := by decide +kernel
theorem d_Bins_meetingAll_4 : decode b_Bins_meetingAll 4 = .ok (.iload_n 1, 1) := by decide +kernel
theorem d_Bins_meetingAll_5 : decode b_Bins_meetingAll 5 = .ok (.sipush 255, 3) := by decide +kernel
theorem d_Bins_meetingAll_8 : decode b_Bins_meetingAll 8 = .ok (.iand, 1) := by decide +kernel
theorem d_Bins_meetingAll_9 : decode b_Bins_meetingAll 9 = .ok (.iaload, 1) := by decide +kernel
theorem d_Bins_meetingAll_10 : decode b_Bins_meetingAll 10 = .ok (.ireturn, 1) := by decide +kernel
set_option maxHeartbeats 4000000 in
set_option maxRecDepth 100000 in
theorem c_Bins_meetingAll (l : Launch) {S : St} {x1 : Int32} {r : Int32} (h : f_Bins_meetingAll S x1 = some r) : MI cw l y_Bins_meetingAll b_Bins_meetingAll 2 (some .int) 0 0 0 0 (fun ad => [.ref (ad 8 0), .int x1]) aT aE S r S := by
  refine MI_of "LawfulLots$BinTable" rfl (by decide) (fun _ => Nat.le_of_ble_eq_true rfl) ?_
  intro p e s m args below meth c D ar ad A Q ls hP F hK hA hw hl hQ
  have hl : lv_has ls 2 [(0, .ref (ad 8 0)), (1, .int x1)] := hl
  obtain ⟨X_0, eX_0⟩ : ∃ X : Int32 → Prop, X = (fun q => ∀ (H : Heap) (locs : List Loc) (pc : Nat) (ls : Array Slot), decode b_Bins_meetingAll pc = .ok (.ireturn, 1) → Bw cw D ar A s.heap H locs ad S → W p l e (RM 0 0) s m args below meth c H locs 0 0 Q (F0 m pc ls [.int q])) := ⟨_, rfl⟩
  have key : ∀ (H : Heap) (locs : List Loc), Bw cw D ar A s.heap H locs ad S → ∀ o, f_Bins_meetingAll S x1 = some o → X_0 o → W p l e (RM 0 0) s m args below meth c H locs 0 0 Q (F0 m 0 ls []) := by
    intro H locs hw o h ho
    unfold f_Bins_meetingAll at h
    refine lv_aload_n F.1 F.2.1 d_Bins_meetingAll_0 rfl (lv_at hl 0 rfl) ?_
    refine cg_8_0 F hK hw lk_274 d_Bins_meetingAll_1 ?_
    refine lv_iload_n F.1 F.2.1 d_Bins_meetingAll_4 rfl (lv_at hl 1 rfl) ?_
    refine lv_sipush (v := 255) F.1 F.2.1 d_Bins_meetingAll_5 (by decide) ?_
    refine lv_iand F.1 F.2.1 d_Bins_meetingAll_8 ?_
    obtain ⟨hi_1, h⟩ := gd_ex h
    refine cl_8_0 F hK hw hi_1 d_Bins_meetingAll_9 ?_
    cases h
    have ho : X_0 _ := ho
    rw [eX_0] at ho
    exact ho H locs _ ls d_Bins_meetingAll_10 hw
  exact key _ _ hw _ h (by rw [eX_0]; exact fun H locs pc ls hd hw => hQ H locs pc ls ad rfl hd hw)
theorem d_Bins_lowest_0 : decode b_Bins_lowest 0 = .ok (.iload_n 1, 1) := by decide +kernel
theorem d_Bins_lowest_1 : decode b_Bins_lowest 1 = .ok (.ifCond .lt 21, 3) := by decide +kernel
theorem d_Bins_lowest_4 : decode b_Bins_lowest 4 = .ok (.iload_n 1, 1) := by decide +kernel
theorem d_Bins_lowest_5 : decode b_Bins_lowest 5 = .ok (.aload_n 0, 1) := by decide +kernel
theorem d_Bins_lowest_6 : decode b_Bins_lowest 6 = .ok (.getfield 24, 3) := by decide +kernel
theorem d_Bins_lowest_9 : decode b_Bins_lowest 9 = .ok (.arraylength, 1) := by decide +kernel
theorem d_Bins_lowest_10 : decode b_Bins_lowest 10 = .ok (.if_icmp .ge 12, 3) := by decide +kernel
theorem d_Bins_lowest_13 : decode b_Bins_lowest 13 = .ok (.aload_n 0, 1) := by decide +kernel
theorem d_Bins_lowest_14 : decode b_Bins_lowest 14 = .ok (.getfield 24, 3) := by decide +kernel
theorem d_Bins_lowest_17 : decode b_Bins_lowest 17 = .ok (.iload_n 1, 1) := by decide +kernel
theorem d_Bins_lowest_18 : decode b_Bins_lowest 18 = .ok (.iaload, 1) := by decide +kernel
theorem d_Bins_lowest_19 : decode b_Bins_lowest 19 = .ok (.goto 4, 3) := by decide +kernel
theorem d_Bins_lowest_22 : decode b_Bins_lowest 22 = .ok (.iconst (-1), 1) := by decide +kernel
theorem d_Bins_lowest_23 : decode b_Bins_lowest 23 = .ok (.ireturn, 1) := by decide +kernel
set_option maxHeartbeats 4000000 in
set_option maxRecDepth 100000 in
theorem c_Bins_lowest (l : Launch) {S : St} {x1 : Int32} {r : Int32} (h : f_Bins_lowest S x1 = some r) : MI cw l y_Bins_lowest b_Bins_lowest 2 (some .int) 0 0 0 0 (fun ad => [.ref (ad 8 0), .int x1]) aT aE S r S := by
  refine MI_of "LawfulLots$BinTable" rfl (by decide) (fun _ => Nat.le_of_ble_eq_true rfl) ?_
  intro p e s m args below meth c D ar ad A Q ls hP F hK hA hw hl hQ
  have hl : lv_has ls 2 [(0, .ref (ad 8 0)), (1, .int x1)] := hl
  obtain ⟨X_0, eX_0⟩ : ∃ X : Int32 → Prop, X = (fun q => ∀ (H : Heap) (locs : List Loc) (pc : Nat) (ls : Array Slot), decode b_Bins_lowest pc = .ok (.ireturn, 1) → Bw cw D ar A s.heap H locs ad S → W p l e (RM 0 0) s m args below meth c H locs 0 0 Q (F0 m pc ls [.int q])) := ⟨_, rfl⟩
  have key : ∀ (H : Heap) (locs : List Loc), Bw cw D ar A s.heap H locs ad S → ∀ o, f_Bins_lowest S x1 = some o → X_0 o → W p l e (RM 0 0) s m args below meth c H locs 0 0 Q (F0 m 0 ls []) := by
    intro H locs hw o h ho
    unfold f_Bins_lowest at h
    have J_23 : ∀ (t0 : Int32) (H : Heap) (locs : List Loc) (ls : Array Slot), Bw cw D ar A s.heap H locs ad S → lv_has ls 2 [] → ∀ o, Bins_lowest_j23 S t0 = some o → X_0 o → W p l e (RM 0 0) s m args below meth c H locs 0 0 Q (F0 m 23 ls [.int t0]) := by
      intro t0 H locs ls hw hl o h ho
      unfold Bins_lowest_j23 at h
      cases h
      have ho : X_0 _ := ho
      rw [eX_0] at ho
      exact ho H locs _ ls d_Bins_lowest_23 hw
    have J_22 : ∀ (H : Heap) (locs : List Loc) (ls : Array Slot), Bw cw D ar A s.heap H locs ad S → lv_has ls 2 [] → ∀ o, Bins_lowest_j22 S = some o → X_0 o → W p l e (RM 0 0) s m args below meth c H locs 0 0 Q (F0 m 22 ls []) := by
      intro H locs ls hw hl o h ho
      unfold Bins_lowest_j22 at h
      refine lv_iconst (v := -1) F.1 F.2.1 d_Bins_lowest_22 (by decide) ?_
      exact J_23 (-1 : Int32) H locs ls hw (lv_sub hl [] rfl) o h ho
    refine lv_iload_n F.1 F.2.1 d_Bins_lowest_0 rfl (lv_at hl 1 rfl) ?_
    refine lv_if_lt (tgt := 22) F.1 F.2.1 d_Bins_lowest_1 (by decide) (fun c_1 => ?_) (fun c_1 => ?_)
    · replace h := ip c_1 h
      exact J_22 H locs ls hw (lv_sub hl [] rfl) o h ho
    · replace h := iq c_1 h
      refine lv_iload_n F.1 F.2.1 d_Bins_lowest_4 rfl (lv_at hl 1 rfl) ?_
      refine lv_aload_n F.1 F.2.1 d_Bins_lowest_5 rfl (lv_at hl 0 rfl) ?_
      refine cg_8_4 F hK hw lk_278 d_Bins_lowest_6 ?_
      refine cn_8_4 F hK hw d_Bins_lowest_9 ?_
      refine lv_icmp_ge (tgt := 22) F.1 F.2.1 d_Bins_lowest_10 (by decide) (fun c_2 => ?_) (fun c_2 => ?_)
      · replace h := ip c_2 h
        exact J_22 H locs ls hw (lv_sub hl [] rfl) o h ho
      · replace h := iq c_2 h
        refine lv_aload_n F.1 F.2.1 d_Bins_lowest_13 rfl (lv_at hl 0 rfl) ?_
        refine cg_8_4 F hK hw lk_278 d_Bins_lowest_14 ?_
        refine lv_iload_n F.1 F.2.1 d_Bins_lowest_17 rfl (lv_at hl 1 rfl) ?_
        obtain ⟨hi_3, h⟩ := gd_ex h
        refine cl_8_4 F hK hw hi_3 d_Bins_lowest_18 ?_
        refine lv_goto (tgt := 23) F.1 F.2.1 d_Bins_lowest_19 (by decide) ?_
        exact J_23 (gA S 8 4 x1.toNatClampNeg) H locs ls hw (lv_sub hl [] rfl) o h ho
  exact key _ _ hw _ h (by rw [eX_0]; exact fun H locs pc ls hd hw => hQ H locs pc ls ad rfl hd hw)
theorem d_Integer_bitCount_0 : decode b_Integer_bitCount 0 = .ok (.iload_n 0, 1) := by decide +kernel
theorem d_Integer_bitCount_1 : decode b_Integer_bitCount 1 = .ok (.iload_n 0, 1) := by decide +kernel
theorem d_Integer_bitCount_2 : decode b_Integer_bitCount 2 = .ok (.iconst 1, 1) := by decide +kernel
theorem d_Integer_bitCount_3 : decode b_Integer_bitCount 3 = .ok (.iushr, 1) := by decide +kernel
theorem d_Integer_bitCount_4 : decode b_Integer_bitCount 4 = .ok (.ldc_w 265, 3) := by decide +kernel
theorem d_Integer_bitCount_7 : decode b_Integer_bitCount 7 = .ok (.iand, 1) := by decide +kernel
theorem d_Integer_bitCount_8 : decode b_Integer_bitCount 8 = .ok (.isub, 1) := by decide +kernel
theorem d_Integer_bitCount_9 : decode b_Integer_bitCount 9 = .ok (.istore_n 0, 1) := by decide +kernel
theorem d_Integer_bitCount_10 : decode b_Integer_bitCount 10 = .ok (.iload_n 0, 1) := by decide +kernel
theorem d_Integer_bitCount_11 : decode b_Integer_bitCount 11 = .ok (.ldc_w 266, 3) := by decide +kernel
theorem d_Integer_bitCount_14 : decode b_Integer_bitCount 14 = .ok (.iand, 1) := by decide +kernel
theorem d_Integer_bitCount_15 : decode b_Integer_bitCount 15 = .ok (.iload_n 0, 1) := by decide +kernel
theorem d_Integer_bitCount_16 : decode b_Integer_bitCount 16 = .ok (.iconst 2, 1) := by decide +kernel
theorem d_Integer_bitCount_17 : decode b_Integer_bitCount 17 = .ok (.iushr, 1) := by decide +kernel
theorem d_Integer_bitCount_18 : decode b_Integer_bitCount 18 = .ok (.ldc_w 266, 3) := by decide +kernel
theorem d_Integer_bitCount_21 : decode b_Integer_bitCount 21 = .ok (.iand, 1) := by decide +kernel
theorem d_Integer_bitCount_22 : decode b_Integer_bitCount 22 = .ok (.iadd, 1) := by decide +kernel
theorem d_Integer_bitCount_23 : decode b_Integer_bitCount 23 = .ok (.istore_n 0, 1) := by decide +kernel
theorem d_Integer_bitCount_24 : decode b_Integer_bitCount 24 = .ok (.iload_n 0, 1) := by decide +kernel
theorem d_Integer_bitCount_25 : decode b_Integer_bitCount 25 = .ok (.iload_n 0, 1) := by decide +kernel
theorem d_Integer_bitCount_26 : decode b_Integer_bitCount 26 = .ok (.iconst 4, 1) := by decide +kernel
theorem d_Integer_bitCount_27 : decode b_Integer_bitCount 27 = .ok (.iushr, 1) := by decide +kernel
theorem d_Integer_bitCount_28 : decode b_Integer_bitCount 28 = .ok (.iadd, 1) := by decide +kernel
theorem d_Integer_bitCount_29 : decode b_Integer_bitCount 29 = .ok (.ldc_w 267, 3) := by decide +kernel
theorem d_Integer_bitCount_32 : decode b_Integer_bitCount 32 = .ok (.iand, 1) := by decide +kernel
theorem d_Integer_bitCount_33 : decode b_Integer_bitCount 33 = .ok (.istore_n 0, 1) := by decide +kernel
theorem d_Integer_bitCount_34 : decode b_Integer_bitCount 34 = .ok (.iload_n 0, 1) := by decide +kernel
theorem d_Integer_bitCount_35 : decode b_Integer_bitCount 35 = .ok (.iload_n 0, 1) := by decide +kernel
theorem d_Integer_bitCount_36 : decode b_Integer_bitCount 36 = .ok (.bipush 8, 2) := by decide +kernel
theorem d_Integer_bitCount_38 : decode b_Integer_bitCount 38 = .ok (.iushr, 1) := by decide +kernel
theorem d_Integer_bitCount_39 : decode b_Integer_bitCount 39 = .ok (.iadd, 1) := by decide +kernel
theorem d_Integer_bitCount_40 : decode b_Integer_bitCount 40 = .ok (.istore_n 0, 1) := by decide +kernel
theorem d_Integer_bitCount_41 : decode b_Integer_bitCount 41 = .ok (.iload_n 0, 1) := by decide +kernel
theorem d_Integer_bitCount_42 : decode b_Integer_bitCount 42 = .ok (.iload_n 0, 1) := by decide +kernel
theorem d_Integer_bitCount_43 : decode b_Integer_bitCount 43 = .ok (.bipush 16, 2) := by decide +kernel
theorem d_Integer_bitCount_45 : decode b_Integer_bitCount 45 = .ok (.iushr, 1) := by decide +kernel
theorem d_Integer_bitCount_46 : decode b_Integer_bitCount 46 = .ok (.iadd, 1) := by decide +kernel
theorem d_Integer_bitCount_47 : decode b_Integer_bitCount 47 = .ok (.istore_n 0, 1) := by decide +kernel
theorem d_Integer_bitCount_48 : decode b_Integer_bitCount 48 = .ok (.iload_n 0, 1) := by decide +kernel
theorem d_Integer_bitCount_49 : decode b_Integer_bitCount 49 = .ok (.bipush 63, 2) := by decide +kernel
theorem d_Integer_bitCount_51 : decode b_Integer_bitCount 51 = .ok (.iand, 1) := by decide +kernel
theorem d_Integer_bitCount_52 : decode b_Integer_bitCount 52 = .ok (.ireturn, 1) := by decide +kernel
set_option maxHeartbeats 4000000 in
set_option maxRecDepth 100000 in
theorem c_Integer_bitCount (l : Launch) (S : St) {x0 : Int32} {r : Int32} (h : f_Integer_bitCount x0 = some r) : MI cw l y_Integer_bitCount b_Integer_bitCount 1 (some .int) 0 0 0 0 (fun ad => [.int x0]) aT aE S r S := by
  refine MI_of "java/lang/Integer" rfl (by decide) (fun _ => Nat.le_of_ble_eq_true rfl) ?_
  intro p e s m args below meth c D ar ad A Q ls hP F hK hA hw hl hQ
  have hl : lv_has ls 1 [(0, .int x0)] := hl
  obtain ⟨X_0, eX_0⟩ : ∃ X : Int32 → Prop, X = (fun q => ∀ (H : Heap) (locs : List Loc) (pc : Nat) (ls : Array Slot), decode b_Integer_bitCount pc = .ok (.ireturn, 1) → Bw cw D ar A s.heap H locs ad S → W p l e (RM 0 0) s m args below meth c H locs 0 0 Q (F0 m pc ls [.int q])) := ⟨_, rfl⟩
  have key : ∀ (H : Heap) (locs : List Loc), Bw cw D ar A s.heap H locs ad S → ∀ o, f_Integer_bitCount x0 = some o → X_0 o → W p l e (RM 0 0) s m args below meth c H locs 0 0 Q (F0 m 0 ls []) := by
    intro H locs hw o h ho
    unfold f_Integer_bitCount at h
    refine lv_iload_n F.1 F.2.1 d_Integer_bitCount_0 rfl (lv_at hl 0 rfl) ?_
    refine lv_iload_n F.1 F.2.1 d_Integer_bitCount_1 rfl (lv_at hl 0 rfl) ?_
    refine lv_iconst (v := 1) F.1 F.2.1 d_Integer_bitCount_2 (by decide) ?_
    refine lv_iushr F.1 F.2.1 d_Integer_bitCount_3 rfl ?_
    refine lv_ldcw F.1 F.2.1 F.2.2.2.1 (F.2.2.2.2 _ lk_744) d_Integer_bitCount_4 ?_
    refine lv_iand F.1 F.2.1 d_Integer_bitCount_7 ?_
    refine lv_isub F.1 F.2.1 d_Integer_bitCount_8 ?_
    obtain ⟨x0_1, ex0_1, h⟩ := nm_ex h
    refine lv_nm ex0_1 ?_
    refine lv_istore_n (lv' := [(0, .int x0_1)]) F.1 F.2.1 d_Integer_bitCount_9 rfl hl (by decide) rfl (fun ls hl => ?_)
    refine lv_iload_n F.1 F.2.1 d_Integer_bitCount_10 rfl (lv_at hl 0 rfl) ?_
    refine lv_ldcw F.1 F.2.1 F.2.2.2.1 (F.2.2.2.2 _ lk_745) d_Integer_bitCount_11 ?_
    refine lv_iand F.1 F.2.1 d_Integer_bitCount_14 ?_
    refine lv_iload_n F.1 F.2.1 d_Integer_bitCount_15 rfl (lv_at hl 0 rfl) ?_
    refine lv_iconst (v := 2) F.1 F.2.1 d_Integer_bitCount_16 (by decide) ?_
    refine lv_iushr F.1 F.2.1 d_Integer_bitCount_17 rfl ?_
    refine lv_ldcw F.1 F.2.1 F.2.2.2.1 (F.2.2.2.2 _ lk_745) d_Integer_bitCount_18 ?_
    refine lv_iand F.1 F.2.1 d_Integer_bitCount_21 ?_
    refine lv_iadd F.1 F.2.1 d_Integer_bitCount_22 ?_
    obtain ⟨x0_2, ex0_2, h⟩ := nm_ex h
    refine lv_nm ex0_2 ?_
    refine lv_istore_n (lv' := [(0, .int x0_2)]) F.1 F.2.1 d_Integer_bitCount_23 rfl hl (by decide) rfl (fun ls hl => ?_)
    refine lv_iload_n F.1 F.2.1 d_Integer_bitCount_24 rfl (lv_at hl 0 rfl) ?_
    refine lv_iload_n F.1 F.2.1 d_Integer_bitCount_25 rfl (lv_at hl 0 rfl) ?_
    refine lv_iconst (v := 4) F.1 F.2.1 d_Integer_bitCount_26 (by decide) ?_
    refine lv_iushr F.1 F.2.1 d_Integer_bitCount_27 rfl ?_
    refine lv_iadd F.1 F.2.1 d_Integer_bitCount_28 ?_
    refine lv_ldcw F.1 F.2.1 F.2.2.2.1 (F.2.2.2.2 _ lk_746) d_Integer_bitCount_29 ?_
    refine lv_iand F.1 F.2.1 d_Integer_bitCount_32 ?_
    obtain ⟨x0_3, ex0_3, h⟩ := nm_ex h
    refine lv_nm ex0_3 ?_
    refine lv_istore_n (lv' := [(0, .int x0_3)]) F.1 F.2.1 d_Integer_bitCount_33 rfl hl (by decide) rfl (fun ls hl => ?_)
    refine lv_iload_n F.1 F.2.1 d_Integer_bitCount_34 rfl (lv_at hl 0 rfl) ?_
    refine lv_iload_n F.1 F.2.1 d_Integer_bitCount_35 rfl (lv_at hl 0 rfl) ?_
    refine lv_bipush (v := 8) F.1 F.2.1 d_Integer_bitCount_36 (by decide) ?_
    refine lv_iushr F.1 F.2.1 d_Integer_bitCount_38 rfl ?_
    refine lv_iadd F.1 F.2.1 d_Integer_bitCount_39 ?_
    obtain ⟨x0_4, ex0_4, h⟩ := nm_ex h
    refine lv_nm ex0_4 ?_
    refine lv_istore_n (lv' := [(0, .int x0_4)]) F.1 F.2.1 d_Integer_bitCount_40 rfl hl (by decide) rfl (fun ls hl => ?_)
    refine lv_iload_n F.1 F.2.1 d_Integer_bitCount_41 rfl (lv_at hl 0 rfl) ?_
    refine lv_iload_n F.1 F.2.1 d_Integer_bitCount_42 rfl (lv_at hl 0 rfl) ?_
    refine lv_bipush (v := 16) F.1 F.2.1 d_Integer_bitCount_43 (by decide) ?_
    refine lv_iushr F.1 F.2.1 d_Integer_bitCount_45 rfl ?_
    refine lv_iadd F.1 F.2.1 d_Integer_bitCount_46 ?_
    obtain ⟨x0_5, ex0_5, h⟩ := nm_ex h
    refine lv_nm ex0_5 ?_
    refine lv_istore_n (lv' := [(0, .int x0_5)]) F.1 F.2.1 d_Integer_bitCount_47 rfl hl (by decide) rfl (fun ls hl => ?_)
    refine lv_iload_n F.1 F.2.1 d_Integer_bitCount_48 rfl (lv_at hl 0 rfl) ?_
    refine lv_bipush (v := 63) F.1 F.2.1 d_Integer_bitCount_49 (by decide) ?_
    refine lv_iand F.1 F.2.1 d_Integer_bitCount_51 ?_
    cases h
    have ho : X_0 _ := ho
    rw [eX_0] at ho
    exact ho H locs _ ls d_Integer_bitCount_52 hw
  exact key _ _ hw _ h (by rw [eX_0]; exact fun H locs pc ls hd hw => hQ H locs pc ls ad rfl hd hw)
theorem d_Bins_meetingMost_0 : decode b_Bins_meetingMost 0 = .ok (.iconst (-1), 1) := by decide +kernel
theorem d_Bins_meetingMost_1 : decode b_Bins_meetingMost 1 = .ok (.istore_n 2, 1) := by decide +kernel
theorem d_Bins_meetingMost_2 : decode b_Bins_meetingMost 2 = .ok (.iconst (-1), 1) := by decide +kernel
theorem d_Bins_meetingMost_3 : decode b_Bins_meetingMost 3 = .ok (.istore_n 3, 1) := by decide +kernel
theorem d_Bins_meetingMost_4 : decode b_Bins_meetingMost 4 = .ok (.iconst 0, 1) := by decide +kernel
theorem d_Bins_meetingMost_5 : decode b_Bins_meetingMost 5 = .ok (.istore 4, 2) := by decide +kernel
theorem d_Bins_meetingMost_7 : decode b_Bins_meetingMost 7 = .ok (.iload 4, 2) := by decide +kernel
theorem d_Bins_meetingMost_9 : decode b_Bins_meetingMost 9 = .ok (.aload_n 0, 1) := by decide +kernel
theorem d_Bins_meetingMost_10 : decode b_Bins_meetingMost 10 = .ok (.getfield 30, 3) := by decide +kernel
theorem d_Bins_meetingMost_13 : decode b_Bins_meetingMost 13 = .ok (.if_icmp .ge 48, 3) := by decide +kernel
theorem d_Bins_meetingMost_16 : decode b_Bins_meetingMost 16 = .ok (.iload 4, 2) := by decide +kernel
theorem d_Bins_meetingMost_18 : decode b_Bins_meetingMost 18 = .ok (.sipush 256, 3) := by decide +kernel
theorem d_Bins_meetingMost_21 : decode b_Bins_meetingMost 21 = .ok (.if_icmp .ge 40, 3) := by decide +kernel
theorem d_Bins_meetingMost_24 : decode b_Bins_meetingMost 24 = .ok (.aload_n 0, 1) := by decide +kernel
theorem d_Bins_meetingMost_25 : decode b_Bins_meetingMost 25 = .ok (.getfield 15, 3) := by decide +kernel
theorem d_Bins_meetingMost_28 : decode b_Bins_meetingMost 28 = .ok (.iload 4, 2) := by decide +kernel
theorem d_Bins_meetingMost_30 : decode b_Bins_meetingMost 30 = .ok (.iaload, 1) := by decide +kernel
theorem d_Bins_meetingMost_31 : decode b_Bins_meetingMost 31 = .ok (.iload_n 1, 1) := by decide +kernel
theorem d_Bins_meetingMost_32 : decode b_Bins_meetingMost 32 = .ok (.iand, 1) := by decide +kernel
theorem d_Bins_meetingMost_33 : decode b_Bins_meetingMost 33 = .ok (.invokestatic 85, 3) := by decide +kernel
theorem d_Bins_meetingMost_36 : decode b_Bins_meetingMost 36 = .ok (.istore 5, 2) := by decide +kernel
theorem d_Bins_meetingMost_38 : decode b_Bins_meetingMost 38 = .ok (.iload 5, 2) := by decide +kernel
theorem d_Bins_meetingMost_40 : decode b_Bins_meetingMost 40 = .ok (.iload_n 3, 1) := by decide +kernel
theorem d_Bins_meetingMost_41 : decode b_Bins_meetingMost 41 = .ok (.if_icmp .le 14, 3) := by decide +kernel
theorem d_Bins_meetingMost_44 : decode b_Bins_meetingMost 44 = .ok (.aload_n 0, 1) := by decide +kernel
theorem d_Bins_meetingMost_45 : decode b_Bins_meetingMost 45 = .ok (.getfield 18, 3) := by decide +kernel
theorem d_Bins_meetingMost_48 : decode b_Bins_meetingMost 48 = .ok (.iload 4, 2) := by decide +kernel
theorem d_Bins_meetingMost_50 : decode b_Bins_meetingMost 50 = .ok (.iaload, 1) := by decide +kernel
theorem d_Bins_meetingMost_51 : decode b_Bins_meetingMost 51 = .ok (.istore_n 2, 1) := by decide +kernel
theorem d_Bins_meetingMost_52 : decode b_Bins_meetingMost 52 = .ok (.iload 5, 2) := by decide +kernel
theorem d_Bins_meetingMost_54 : decode b_Bins_meetingMost 54 = .ok (.istore_n 3, 1) := by decide +kernel
theorem d_Bins_meetingMost_55 : decode b_Bins_meetingMost 55 = .ok (.iinc 4 1, 3) := by decide +kernel
theorem d_Bins_meetingMost_58 : decode b_Bins_meetingMost 58 = .ok (.goto (-51), 3) := by decide +kernel
theorem d_Bins_meetingMost_61 : decode b_Bins_meetingMost 61 = .ok (.iload_n 2, 1) := by decide +kernel
theorem d_Bins_meetingMost_62 : decode b_Bins_meetingMost 62 = .ok (.ireturn, 1) := by decide +kernel
set_option maxHeartbeats 4000000 in
set_option maxRecDepth 100000 in
theorem c_Bins_meetingMost (l : Launch) {S : St} {x1 : Int32} {r : Int32} (h : f_Bins_meetingMost S x1 = some r) : MI cw l y_Bins_meetingMost b_Bins_meetingMost 6 (some .int) 1 20 0 0 (fun ad => [.ref (ad 8 0), .int x1]) aT aE S r S := by
  refine MI_of "LawfulLots$BinTable" rfl (by decide) (fun _ => Nat.le_of_ble_eq_true rfl) ?_
  intro p e s m args below meth c D ar ad A Q ls hP F hK hA hw hl hQ
  have hl : lv_has ls 6 [(0, .ref (ad 8 0)), (1, .int x1)] := hl
  obtain ⟨X_0, eX_0⟩ : ∃ X : Int32 → Prop, X = (fun q => ∀ (H : Heap) (locs : List Loc) (pc : Nat) (ls : Array Slot), decode b_Bins_meetingMost pc = .ok (.ireturn, 1) → Bw cw D ar A s.heap H locs ad S → W p l e (RM 1 20) s m args below meth c H locs 0 0 Q (F0 m pc ls [.int q])) := ⟨_, rfl⟩
  have key : ∀ (H : Heap) (locs : List Loc), Bw cw D ar A s.heap H locs ad S → ∀ o, f_Bins_meetingMost S x1 = some o → X_0 o → W p l e (RM 1 20) s m args below meth c H locs 0 0 Q (F0 m 0 ls []) := by
    intro H locs hw o h ho
    unfold f_Bins_meetingMost at h
    have J_61 : ∀ (x2 : Int32) (H : Heap) (locs : List Loc) (ls : Array Slot), Bw cw D ar A s.heap H locs ad S → lv_has ls 6 [(2, .int x2)] → ∀ o, Bins_meetingMost_j61 S x2 = some o → X_0 o → W p l e (RM 1 20) s m args below meth c H locs 0 0 Q (F0 m 61 ls []) := by
      intro x2 H locs ls hw hl o h ho
      unfold Bins_meetingMost_j61 at h
      refine lv_iload_n F.1 F.2.1 d_Bins_meetingMost_61 rfl (lv_at hl 0 rfl) ?_
      cases h
      have ho : X_0 _ := ho
      rw [eX_0] at ho
      exact ho H locs _ ls d_Bins_meetingMost_62 hw
    refine lv_iconst (v := -1) F.1 F.2.1 d_Bins_meetingMost_0 (by decide) ?_
    refine lv_istore_n (lv' := [(2, .int (-1 : Int32)), (0, .ref (ad 8 0)), (1, .int x1)]) F.1 F.2.1 d_Bins_meetingMost_1 rfl hl (by decide) rfl (fun ls hl => ?_)
    refine lv_iconst (v := -1) F.1 F.2.1 d_Bins_meetingMost_2 (by decide) ?_
    refine lv_istore_n (lv' := [(3, .int (-1 : Int32)), (2, .int (-1 : Int32)), (0, .ref (ad 8 0)), (1, .int x1)]) F.1 F.2.1 d_Bins_meetingMost_3 rfl hl (by decide) rfl (fun ls hl => ?_)
    refine lv_iconst (v := 0) F.1 F.2.1 d_Bins_meetingMost_4 (by decide) ?_
    refine lv_istore (lv' := [(4, .int (0 : Int32)), (3, .int (-1 : Int32)), (2, .int (-1 : Int32)), (0, .ref (ad 8 0)), (1, .int x1)]) F.1 F.2.1 d_Bins_meetingMost_5 hl (by decide) rfl (fun ls hl => ?_)
    obtain ⟨x2_10, hc_11, h⟩ := bd_ex h
    obtain ⟨X_7, eX_7⟩ : ∃ X : Int32 → Prop, X = (fun q => ∀ (H : Heap) (locs : List Loc) (ls : Array Slot), Bw cw D ar A s.heap H locs ad S → lv_has ls 6 [(2, .int q)] → W p l e (RM 1 20) s m args below meth c H locs 0 0 Q (F0 m 61 ls [])) := ⟨_, rfl⟩
    have hX_7 : X_7 x2_10 := by
      rw [eX_7]
      intro H locs ls hw hl
      exact J_61 x2_10 H locs ls hw (lv_sub hl [0] rfl) o h ho
    obtain ⟨P_7, eP_7⟩ : ∃ P : (Int32 × Int32 × Int32) → Prop, P = (fun q => ∀ (H : Heap) (locs : List Loc) (ls : Array Slot), Bw cw D ar A s.heap H locs ad S → lv_has ls 6 [(0, .ref (ad 8 0)), (1, .int x1), (2, .int q.1), (3, .int q.2.1), (4, .int q.2.2)] → W p l e (RM 1 20) s m args below meth c H locs 0 0 Q (F0 m 7 ls [])) := ⟨_, rfl⟩
    have hL_7 : P_7 ((-1 : Int32), (-1 : Int32), (0 : Int32)) := by
      refine wh_gp (P := P_7) (X := X_7) hc_11 hX_7 ?_
      clear h
      intro q o h ho
      obtain ⟨x2, x3, x4⟩ := q
      have h : Bins_meetingMost_l7 S x1 x2 x3 x4 = some o := h
      unfold Bins_meetingMost_l7 at h
      rw [eP_7]
      intro H locs ls hw hl
      have J_55_l7 : ∀ (x2 : Int32) (x3 : Int32) (x4 : Int32) (H : Heap) (locs : List Loc) (ls : Array Slot), Bw cw D ar A s.heap H locs ad S → lv_has ls 6 [(0, .ref (ad 8 0)), (1, .int x1), (2, .int x2), (3, .int x3), (4, .int x4)] → ∀ o, Bins_meetingMost_j55_l7 S x1 x2 x3 x4 = some o → (Sum.elim P_7 X_7) o → W p l e (RM 1 20) s m args below meth c H locs 0 0 Q (F0 m 55 ls []) := by
        intro x2 x3 x4 H locs ls hw hl o h ho
        unfold Bins_meetingMost_j55_l7 at h
        obtain ⟨x4_9, ex4_9, h⟩ := nm_ex h
        refine lv_iinc (v := x4_9) (lv' := [(4, .int x4_9), (0, .ref (ad 8 0)), (1, .int x1), (2, .int x2), (3, .int x3)]) F.1 F.2.1 d_Bins_meetingMost_55 hl (k := 4) rfl (by rw [ex4_9]; rfl) (by decide) rfl (fun ls hl => ?_)
        refine lv_goto (tgt := 7) F.1 F.2.1 d_Bins_meetingMost_58 (by decide) ?_
        cases h
        have ho : P_7 _ := ho
        rw [eP_7] at ho
        exact ho H locs ls hw (lv_sub hl [1, 2, 3, 4, 0] rfl)
      refine lv_iload F.1 F.2.1 d_Bins_meetingMost_7 (lv_at hl 4 rfl) ?_
      refine lv_aload_n F.1 F.2.1 d_Bins_meetingMost_9 rfl (lv_at hl 0 rfl) ?_
      refine cg_8_6 F hK hw lk_280 d_Bins_meetingMost_10 ?_
      refine lv_icmp_ge (tgt := 61) F.1 F.2.1 d_Bins_meetingMost_13 (by decide) (fun c_1 => ?_) (fun c_1 => ?_)
      · replace h := ip c_1 h
        cases h
        have ho : X_7 _ := ho
        rw [eX_7] at ho
        exact ho H locs ls hw (lv_sub hl [2] rfl)
      · replace h := iq c_1 h
        refine lv_iload F.1 F.2.1 d_Bins_meetingMost_16 (lv_at hl 4 rfl) ?_
        refine lv_sipush (v := 256) F.1 F.2.1 d_Bins_meetingMost_18 (by decide) ?_
        refine lv_icmp_ge (tgt := 61) F.1 F.2.1 d_Bins_meetingMost_21 (by decide) (fun c_2 => ?_) (fun c_2 => ?_)
        · replace h := ip c_2 h
          cases h
          have ho : X_7 _ := ho
          rw [eX_7] at ho
          exact ho H locs ls hw (lv_sub hl [2] rfl)
        · replace h := iq c_2 h
          refine lv_aload_n F.1 F.2.1 d_Bins_meetingMost_24 rfl (lv_at hl 0 rfl) ?_
          refine cg_8_1 F hK hw lk_275 d_Bins_meetingMost_25 ?_
          refine lv_iload F.1 F.2.1 d_Bins_meetingMost_28 (lv_at hl 4 rfl) ?_
          obtain ⟨hi_3, h⟩ := gd_ex h
          refine cl_8_1 F hK hw hi_3 d_Bins_meetingMost_30 ?_
          refine lv_iload_n F.1 F.2.1 d_Bins_meetingMost_31 rfl (lv_at hl 1 rfl) ?_
          refine lv_iand F.1 F.2.1 d_Bins_meetingMost_32 ?_
          obtain ⟨v_5, hc_4, h⟩ := bd_ex h
          refine cS_i F hA rfl hK hw (c_Integer_bitCount l S hc_4) trivial rfl (good_S lk_849 lk_742 lk_13 lk_743) hd_Integer_bitCount ⟨Nat.le_of_ble_eq_true rfl, Nat.le_of_ble_eq_true rfl⟩ rfl hl.1 rfl (Nat.le_of_ble_eq_true rfl) d_Bins_meetingMost_33 ⟨(Nat.zero_le _), (Nat.zero_le _)⟩ (fun H locs hw => ?_)
          refine lv_istore (lv' := [(5, .int v_5), (0, .ref (ad 8 0)), (1, .int x1), (2, .int x2), (3, .int x3), (4, .int x4)]) F.1 F.2.1 d_Bins_meetingMost_36 hl (by decide) rfl (fun ls hl => ?_)
          refine lv_iload F.1 F.2.1 d_Bins_meetingMost_38 (lv_at hl 0 rfl) ?_
          refine lv_iload_n F.1 F.2.1 d_Bins_meetingMost_40 rfl (lv_at hl 4 rfl) ?_
          refine lv_icmp_le (tgt := 55) F.1 F.2.1 d_Bins_meetingMost_41 (by decide) (fun c_6 => ?_) (fun c_6 => ?_)
          · replace h := ip c_6 h
            exact J_55_l7 x2 x3 x4 H locs ls hw (lv_sub hl [1, 2, 3, 4, 5] rfl) o h ho
          · replace h := iq c_6 h
            refine lv_aload_n F.1 F.2.1 d_Bins_meetingMost_44 rfl (lv_at hl 1 rfl) ?_
            refine cg_8_2 F hK hw lk_276 d_Bins_meetingMost_45 ?_
            refine lv_iload F.1 F.2.1 d_Bins_meetingMost_48 (lv_at hl 5 rfl) ?_
            obtain ⟨hi_7, h⟩ := gd_ex h
            refine cl_8_2 F hK hw hi_7 d_Bins_meetingMost_50 ?_
            obtain ⟨x2_8, ex2_8, h⟩ := nm_ex h
            refine lv_nm ex2_8 ?_
            refine lv_istore_n (lv' := [(2, .int x2_8), (5, .int v_5), (0, .ref (ad 8 0)), (1, .int x1), (3, .int x3), (4, .int x4)]) F.1 F.2.1 d_Bins_meetingMost_51 rfl hl (by decide) rfl (fun ls hl => ?_)
            refine lv_iload F.1 F.2.1 d_Bins_meetingMost_52 (lv_at hl 1 rfl) ?_
            refine lv_istore_n (lv' := [(3, .int v_5), (2, .int x2_8), (5, .int v_5), (0, .ref (ad 8 0)), (1, .int x1), (4, .int x4)]) F.1 F.2.1 d_Bins_meetingMost_54 rfl hl (by decide) rfl (fun ls hl => ?_)
            exact J_55_l7 x2_8 v_5 x4 H locs ls hw (lv_sub hl [3, 4, 1, 0, 5] rfl) o h ho
    rw [eP_7] at hL_7
    exact hL_7 H locs ls hw (lv_sub hl [3, 4, 2, 1, 0] rfl)
  exact key _ _ hw _ h (by rw [eX_0]; exact fun H locs pc ls hd hw => hQ H locs pc ls ad rfl hd hw)
