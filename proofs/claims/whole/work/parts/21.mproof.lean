theorem d_Model_put_0 : decode b_Model_put 0 = .ok (.bipush 24, 2) := by decide +kernel
theorem d_Model_put_2 : decode b_Model_put 2 = .ok (.istore_n 2, 1) := by decide +kernel
theorem d_Model_put_3 : decode b_Model_put 3 = .ok (.iload_n 2, 1) := by decide +kernel
theorem d_Model_put_4 : decode b_Model_put 4 = .ok (.ifCond .lt 32, 3) := by decide +kernel
theorem d_Model_put_7 : decode b_Model_put 7 = .ok (.aload_n 0, 1) := by decide +kernel
theorem d_Model_put_8 : decode b_Model_put 8 = .ok (.getfield 13, 3) := by decide +kernel
theorem d_Model_put_11 : decode b_Model_put 11 = .ok (.aload_n 0, 1) := by decide +kernel
theorem d_Model_put_12 : decode b_Model_put 12 = .ok (.getfield 160, 3) := by decide +kernel
theorem d_Model_put_15 : decode b_Model_put 15 = .ok (.iload_n 1, 1) := by decide +kernel
theorem d_Model_put_16 : decode b_Model_put 16 = .ok (.iload_n 2, 1) := by decide +kernel
theorem d_Model_put_17 : decode b_Model_put 17 = .ok (.ishr, 1) := by decide +kernel
theorem d_Model_put_18 : decode b_Model_put 18 = .ok (.i2b, 1) := by decide +kernel
theorem d_Model_put_19 : decode b_Model_put 19 = .ok (.bastore, 1) := by decide +kernel
theorem d_Model_put_20 : decode b_Model_put 20 = .ok (.aload_n 0, 1) := by decide +kernel
theorem d_Model_put_21 : decode b_Model_put 21 = .ok (.dup, 1) := by decide +kernel
theorem d_Model_put_22 : decode b_Model_put 22 = .ok (.getfield 160, 3) := by decide +kernel
theorem d_Model_put_25 : decode b_Model_put 25 = .ok (.iconst 1, 1) := by decide +kernel
theorem d_Model_put_26 : decode b_Model_put 26 = .ok (.iadd, 1) := by decide +kernel
theorem d_Model_put_27 : decode b_Model_put 27 = .ok (.putfield 160, 3) := by decide +kernel
theorem d_Model_put_30 : decode b_Model_put 30 = .ok (.iinc 2 (-8), 3) := by decide +kernel
theorem d_Model_put_33 : decode b_Model_put 33 = .ok (.goto (-30), 3) := by decide +kernel
theorem d_Model_put_36 : decode b_Model_put 36 = .ok (.return_, 1) := by decide +kernel
set_option maxHeartbeats 4000000 in
set_option maxRecDepth 100000 in
theorem c_Model_put (l : Launch) {S : St} {x1 : Int32} {S' : St} (h : f_Model_put S x1 = some S') : MV mw l y_Model_put b_Model_put 3 none 0 0 0 0 (fun ad => [.ref (ad 0 0), .int x1]) aT aE S S' := by
  refine MV_of "LawfulLotsModel" rfl (by decide) (fun _ => Nat.le_of_ble_eq_true rfl) ?_
  intro p e s m args below meth c D ar ad A Q ls hP F hK hA hw hl hQ
  have hl : lv_has ls 3 [(0, .ref (ad 0 0)), (1, .int x1)] := hl
  obtain ⟨X_0, eX_0⟩ : ∃ X : St → Prop, X = (fun q => ∀ (H : Heap) (locs : List Loc) (pc : Nat) (ls : Array Slot), decode b_Model_put pc = .ok (.return_, 1) → Bw mw D ar A s.heap H locs ad q → W p l e (RM 0 0) s m args below meth c H locs 0 0 Q (F0 m pc ls [])) := ⟨_, rfl⟩
  have key : ∀ (H : Heap) (locs : List Loc), Bw mw D ar A s.heap H locs ad S → ∀ o, f_Model_put S x1 = some o → X_0 o → W p l e (RM 0 0) s m args below meth c H locs 0 0 Q (F0 m 0 ls []) := by
    intro H locs hw o h ho
    unfold f_Model_put at h
    refine lv_bipush (v := 24) F.1 F.2.1 d_Model_put_0 (by decide) ?_
    refine lv_istore_n (lv' := [(2, .int (24 : Int32)), (0, .ref (ad 0 0)), (1, .int x1)]) F.1 F.2.1 d_Model_put_2 rfl hl (by decide) rfl (fun ls hl => ?_)
    obtain ⟨S_6, hc_7, h⟩ := bd_ex h
    obtain ⟨X_3, eX_3⟩ : ∃ X : St → Prop, X = (fun q => ∀ (H : Heap) (locs : List Loc) (ls : Array Slot), Bw mw D ar A s.heap H locs ad q → lv_has ls 3 [] → W p l e (RM 0 0) s m args below meth c H locs 0 0 Q (F0 m 36 ls [])) := ⟨_, rfl⟩
    have hX_3 : X_3 S_6 := by
      rw [eX_3]
      intro H locs ls hw hl
      cases h
      have ho : X_0 _ := ho
      rw [eX_0] at ho
      exact ho H locs _ ls d_Model_put_36 hw
    obtain ⟨P_3, eP_3⟩ : ∃ P : (St × Int32) → Prop, P = (fun q => ∀ (H : Heap) (locs : List Loc) (ls : Array Slot), Bw mw D ar A s.heap H locs ad q.1 → lv_has ls 3 [(0, .ref (ad 0 0)), (1, .int x1), (2, .int q.2)] → W p l e (RM 0 0) s m args below meth c H locs 0 0 Q (F0 m 3 ls [])) := ⟨_, rfl⟩
    have hL_3 : P_3 (S, (24 : Int32)) := by
      refine wh_gp (P := P_3) (X := X_3) hc_7 hX_3 ?_
      clear h
      intro q o h ho
      obtain ⟨S, x2⟩ := q
      have h : Model_put_l3 x1 S x2 = some o := h
      unfold Model_put_l3 at h
      rw [eP_3]
      intro H locs ls hw hl
      refine lv_iload_n F.1 F.2.1 d_Model_put_3 rfl (lv_at hl 2 rfl) ?_
      refine lv_if_lt (tgt := 36) F.1 F.2.1 d_Model_put_4 (by decide) (fun c_1 => ?_) (fun c_1 => ?_)
      · replace h := ip c_1 h
        cases h
        have ho : X_3 _ := ho
        rw [eX_3] at ho
        exact ho H locs ls hw (lv_sub hl [] rfl)
      · replace h := iq c_1 h
        refine lv_aload_n F.1 F.2.1 d_Model_put_7 rfl (lv_at hl 0 rfl) ?_
        refine mg_0_1 F hK hw lk_1012 d_Model_put_8 ?_
        refine lv_aload_n F.1 F.2.1 d_Model_put_11 rfl (lv_at hl 0 rfl) ?_
        refine mg_0_2 F hK hw lk_1013 d_Model_put_12 ?_
        refine lv_iload_n F.1 F.2.1 d_Model_put_15 rfl (lv_at hl 1 rfl) ?_
        refine lv_iload_n F.1 F.2.1 d_Model_put_16 rfl (lv_at hl 2 rfl) ?_
        refine lv_ishr F.1 F.2.1 d_Model_put_17 ?_
        refine lv_i2b F.1 F.2.1 d_Model_put_18 rfl ?_
        obtain ⟨hi_2, h⟩ := gd_ex h
        obtain ⟨S_3, eS_3, h⟩ := nm_ex h
        refine ms_0_1 F hK hw hi_2 d_Model_put_19 eS_3 (fun H locs hw => ?_)
        refine lv_aload_n F.1 F.2.1 d_Model_put_20 rfl (lv_at hl 0 rfl) ?_
        refine lv_dup F.1 F.2.1 d_Model_put_21 rfl ?_
        refine mg_0_2 F hK hw lk_1013 d_Model_put_22 ?_
        refine lv_iconst (v := 1) F.1 F.2.1 d_Model_put_25 (by decide) ?_
        refine lv_iadd F.1 F.2.1 d_Model_put_26 ?_
        obtain ⟨S_4, eS_4, h⟩ := nm_ex h
        refine mp_0_2 F hK hw lk_1013 d_Model_put_27 eS_4 (fun H locs hw => ?_)
        obtain ⟨x2_5, ex2_5, h⟩ := nm_ex h
        refine lv_iinc (v := x2_5) (lv' := [(2, .int x2_5), (0, .ref (ad 0 0)), (1, .int x1)]) F.1 F.2.1 d_Model_put_30 hl (k := 2) rfl (by rw [ex2_5]; rfl) (by decide) rfl (fun ls hl => ?_)
        refine lv_goto (tgt := 3) F.1 F.2.1 d_Model_put_33 (by decide) ?_
        cases h
        have ho : P_3 _ := ho
        rw [eP_3] at ho
        exact ho H locs ls hw (lv_sub hl [1, 2, 0] rfl)
    rw [eP_3] at hL_3
    exact hL_3 H locs ls hw (lv_sub hl [1, 2, 0] rfl)
  exact key _ _ hw _ h (by rw [eX_0]; exact fun H locs pc ls hd hw => hQ H locs pc ls ad rfl hd hw)
theorem d_Model_feed_0 : decode b_Model_feed 0 = .ok (.aload_n 0, 1) := by decide +kernel
theorem d_Model_feed_1 : decode b_Model_feed 1 = .ok (.getfield 160, 3) := by decide +kernel
theorem d_Model_feed_4 : decode b_Model_feed 4 = .ok (.bipush 20, 2) := by decide +kernel
theorem d_Model_feed_6 : decode b_Model_feed 6 = .ok (.iadd, 1) := by decide +kernel
theorem d_Model_feed_7 : decode b_Model_feed 7 = .ok (.sipush 2000, 3) := by decide +kernel
theorem d_Model_feed_10 : decode b_Model_feed 10 = .ok (.if_icmp .le 5, 3) := by decide +kernel
theorem d_Model_feed_13 : decode b_Model_feed 13 = .ok (.iconst (-1), 1) := by decide +kernel
theorem d_Model_feed_14 : decode b_Model_feed 14 = .ok (.ireturn, 1) := by decide +kernel
theorem d_Model_feed_15 : decode b_Model_feed 15 = .ok (.aload_n 0, 1) := by decide +kernel
theorem d_Model_feed_16 : decode b_Model_feed 16 = .ok (.iload_n 1, 1) := by decide +kernel
theorem d_Model_feed_17 : decode b_Model_feed 17 = .ok (.invokevirtual 163, 3) := by decide +kernel
theorem d_Model_feed_20 : decode b_Model_feed 20 = .ok (.aload_n 0, 1) := by decide +kernel
theorem d_Model_feed_21 : decode b_Model_feed 21 = .ok (.iload_n 2, 1) := by decide +kernel
theorem d_Model_feed_22 : decode b_Model_feed 22 = .ok (.invokevirtual 163, 3) := by decide +kernel
theorem d_Model_feed_25 : decode b_Model_feed 25 = .ok (.aload_n 0, 1) := by decide +kernel
theorem d_Model_feed_26 : decode b_Model_feed 26 = .ok (.iload_n 3, 1) := by decide +kernel
theorem d_Model_feed_27 : decode b_Model_feed 27 = .ok (.invokevirtual 163, 3) := by decide +kernel
theorem d_Model_feed_30 : decode b_Model_feed 30 = .ok (.aload_n 0, 1) := by decide +kernel
theorem d_Model_feed_31 : decode b_Model_feed 31 = .ok (.iload 4, 2) := by decide +kernel
theorem d_Model_feed_33 : decode b_Model_feed 33 = .ok (.invokevirtual 163, 3) := by decide +kernel
theorem d_Model_feed_36 : decode b_Model_feed 36 = .ok (.aload_n 0, 1) := by decide +kernel
theorem d_Model_feed_37 : decode b_Model_feed 37 = .ok (.iload 5, 2) := by decide +kernel
theorem d_Model_feed_39 : decode b_Model_feed 39 = .ok (.invokevirtual 163, 3) := by decide +kernel
theorem d_Model_feed_42 : decode b_Model_feed 42 = .ok (.aload_n 0, 1) := by decide +kernel
theorem d_Model_feed_43 : decode b_Model_feed 43 = .ok (.getfield 160, 3) := by decide +kernel
theorem d_Model_feed_46 : decode b_Model_feed 46 = .ok (.ireturn, 1) := by decide +kernel
set_option maxHeartbeats 4000000 in
set_option maxRecDepth 100000 in
theorem c_Model_feed (l : Launch) {S : St} {x1 : Int32} {x2 : Int32} {x3 : Int32} {x4 : Int32} {x5 : Int32} {S' : St} {r : Int32} (h : f_Model_feed S x1 x2 x3 x4 x5 = some (r, S')) : MI mw l y_Model_feed b_Model_feed 6 (some .int) 1 22 0 0 (fun ad => [.ref (ad 0 0), .int x1, .int x2, .int x3, .int x4, .int x5]) aT aE S r S' := by
  refine MI_of "LawfulLotsModel" rfl (by decide) (fun _ => Nat.le_of_ble_eq_true rfl) ?_
  intro p e s m args below meth c D ar ad A Q ls hP F hK hA hw hl hQ
  have hl : lv_has ls 6 [(0, .ref (ad 0 0)), (1, .int x1), (2, .int x2), (3, .int x3), (4, .int x4), (5, .int x5)] := hl
  obtain ⟨X_0, eX_0⟩ : ∃ X : (Int32 × St) → Prop, X = (fun q => ∀ (H : Heap) (locs : List Loc) (pc : Nat) (ls : Array Slot), decode b_Model_feed pc = .ok (.ireturn, 1) → Bw mw D ar A s.heap H locs ad q.2 → W p l e (RM 1 22) s m args below meth c H locs 0 0 Q (F0 m pc ls [.int q.1])) := ⟨_, rfl⟩
  have key : ∀ (H : Heap) (locs : List Loc), Bw mw D ar A s.heap H locs ad S → ∀ o, f_Model_feed S x1 x2 x3 x4 x5 = some o → X_0 o → W p l e (RM 1 22) s m args below meth c H locs 0 0 Q (F0 m 0 ls []) := by
    intro H locs hw o h ho
    unfold f_Model_feed at h
    refine lv_aload_n F.1 F.2.1 d_Model_feed_0 rfl (lv_at hl 0 rfl) ?_
    refine mg_0_2 F hK hw lk_1013 d_Model_feed_1 ?_
    refine lv_bipush (v := 20) F.1 F.2.1 d_Model_feed_4 (by decide) ?_
    refine lv_iadd F.1 F.2.1 d_Model_feed_6 ?_
    refine lv_sipush (v := 2000) F.1 F.2.1 d_Model_feed_7 (by decide) ?_
    refine lv_icmp_le (tgt := 15) F.1 F.2.1 d_Model_feed_10 (by decide) (fun c_1 => ?_) (fun c_1 => ?_)
    · replace h := ip c_1 h
      refine lv_aload_n F.1 F.2.1 d_Model_feed_15 rfl (lv_at hl 0 rfl) ?_
      refine lv_iload_n F.1 F.2.1 d_Model_feed_16 rfl (lv_at hl 1 rfl) ?_
      obtain ⟨S_3, hc_2, h⟩ := bd_ex h
      refine cV_v F hA rfl hK hw (c_Model_put l hc_2) trivial rfl (good_V lk_1218 lk_1220 ls_57 lk_10 lk_1221) (mr_0 hK hw) hd_Model_put ⟨Nat.le_of_ble_eq_true rfl, Nat.le_of_ble_eq_true rfl⟩ rfl hl.1 rfl (Nat.le_of_ble_eq_true rfl) d_Model_feed_17 ⟨(Nat.zero_le _), (Nat.zero_le _)⟩ (fun H locs hw => ?_)
      refine lv_aload_n F.1 F.2.1 d_Model_feed_20 rfl (lv_at hl 0 rfl) ?_
      refine lv_iload_n F.1 F.2.1 d_Model_feed_21 rfl (lv_at hl 2 rfl) ?_
      obtain ⟨S_5, hc_4, h⟩ := bd_ex h
      refine cV_v F hA rfl hK hw (c_Model_put l hc_4) trivial rfl (good_V lk_1218 lk_1220 ls_57 lk_10 lk_1221) (mr_0 hK hw) hd_Model_put ⟨Nat.le_of_ble_eq_true rfl, Nat.le_of_ble_eq_true rfl⟩ rfl hl.1 rfl (Nat.le_of_ble_eq_true rfl) d_Model_feed_22 ⟨(Nat.zero_le _), (Nat.zero_le _)⟩ (fun H locs hw => ?_)
      refine lv_aload_n F.1 F.2.1 d_Model_feed_25 rfl (lv_at hl 0 rfl) ?_
      refine lv_iload_n F.1 F.2.1 d_Model_feed_26 rfl (lv_at hl 3 rfl) ?_
      obtain ⟨S_7, hc_6, h⟩ := bd_ex h
      refine cV_v F hA rfl hK hw (c_Model_put l hc_6) trivial rfl (good_V lk_1218 lk_1220 ls_57 lk_10 lk_1221) (mr_0 hK hw) hd_Model_put ⟨Nat.le_of_ble_eq_true rfl, Nat.le_of_ble_eq_true rfl⟩ rfl hl.1 rfl (Nat.le_of_ble_eq_true rfl) d_Model_feed_27 ⟨(Nat.zero_le _), (Nat.zero_le _)⟩ (fun H locs hw => ?_)
      refine lv_aload_n F.1 F.2.1 d_Model_feed_30 rfl (lv_at hl 0 rfl) ?_
      refine lv_iload F.1 F.2.1 d_Model_feed_31 (lv_at hl 4 rfl) ?_
      obtain ⟨S_9, hc_8, h⟩ := bd_ex h
      refine cV_v F hA rfl hK hw (c_Model_put l hc_8) trivial rfl (good_V lk_1218 lk_1220 ls_57 lk_10 lk_1221) (mr_0 hK hw) hd_Model_put ⟨Nat.le_of_ble_eq_true rfl, Nat.le_of_ble_eq_true rfl⟩ rfl hl.1 rfl (Nat.le_of_ble_eq_true rfl) d_Model_feed_33 ⟨(Nat.zero_le _), (Nat.zero_le _)⟩ (fun H locs hw => ?_)
      refine lv_aload_n F.1 F.2.1 d_Model_feed_36 rfl (lv_at hl 0 rfl) ?_
      refine lv_iload F.1 F.2.1 d_Model_feed_37 (lv_at hl 5 rfl) ?_
      obtain ⟨S_11, hc_10, h⟩ := bd_ex h
      refine cV_v F hA rfl hK hw (c_Model_put l hc_10) trivial rfl (good_V lk_1218 lk_1220 ls_57 lk_10 lk_1221) (mr_0 hK hw) hd_Model_put ⟨Nat.le_of_ble_eq_true rfl, Nat.le_of_ble_eq_true rfl⟩ rfl hl.1 rfl (Nat.le_of_ble_eq_true rfl) d_Model_feed_39 ⟨(Nat.zero_le _), (Nat.zero_le _)⟩ (fun H locs hw => ?_)
      refine lv_aload_n F.1 F.2.1 d_Model_feed_42 rfl (lv_at hl 0 rfl) ?_
      refine mg_0_2 F hK hw lk_1013 d_Model_feed_43 ?_
      cases h
      have ho : X_0 _ := ho
      rw [eX_0] at ho
      exact ho H locs _ ls d_Model_feed_46 hw
    · replace h := iq c_1 h
      refine lv_iconst (v := -1) F.1 F.2.1 d_Model_feed_13 (by decide) ?_
      cases h
      have ho : X_0 _ := ho
      rw [eX_0] at ho
      exact ho H locs _ ls d_Model_feed_14 hw
  exact key _ _ hw _ h (by rw [eX_0]; exact fun H locs pc ls hd hw => hQ H locs pc ls ad rfl hd hw)
theorem d_Model_back_0 : decode b_Model_back 0 = .ok (.iload_n 1, 1) := by decide +kernel
theorem d_Model_back_1 : decode b_Model_back 1 = .ok (.ifCond .lt 11, 3) := by decide +kernel
theorem d_Model_back_4 : decode b_Model_back 4 = .ok (.iload_n 1, 1) := by decide +kernel
theorem d_Model_back_5 : decode b_Model_back 5 = .ok (.aload_n 0, 1) := by decide +kernel
theorem d_Model_back_6 : decode b_Model_back 6 = .ok (.getfield 160, 3) := by decide +kernel
theorem d_Model_back_9 : decode b_Model_back 9 = .ok (.if_icmp .le 5, 3) := by decide +kernel
theorem d_Model_back_12 : decode b_Model_back 12 = .ok (.iconst (-1), 1) := by decide +kernel
theorem d_Model_back_13 : decode b_Model_back 13 = .ok (.ireturn, 1) := by decide +kernel
theorem d_Model_back_14 : decode b_Model_back 14 = .ok (.aload_n 0, 1) := by decide +kernel
theorem d_Model_back_15 : decode b_Model_back 15 = .ok (.dup, 1) := by decide +kernel
theorem d_Model_back_16 : decode b_Model_back 16 = .ok (.getfield 160, 3) := by decide +kernel
theorem d_Model_back_19 : decode b_Model_back 19 = .ok (.iload_n 1, 1) := by decide +kernel
theorem d_Model_back_20 : decode b_Model_back 20 = .ok (.isub, 1) := by decide +kernel
theorem d_Model_back_21 : decode b_Model_back 21 = .ok (.putfield 160, 3) := by decide +kernel
theorem d_Model_back_24 : decode b_Model_back 24 = .ok (.aload_n 0, 1) := by decide +kernel
theorem d_Model_back_25 : decode b_Model_back 25 = .ok (.getfield 160, 3) := by decide +kernel
theorem d_Model_back_28 : decode b_Model_back 28 = .ok (.ireturn, 1) := by decide +kernel
set_option maxHeartbeats 4000000 in
set_option maxRecDepth 100000 in
theorem c_Model_back (l : Launch) {S : St} {x1 : Int32} {S' : St} {r : Int32} (h : f_Model_back S x1 = some (r, S')) : MI mw l y_Model_back b_Model_back 2 (some .int) 0 0 0 0 (fun ad => [.ref (ad 0 0), .int x1]) aT aE S r S' := by
  refine MI_of "LawfulLotsModel" rfl (by decide) (fun _ => Nat.le_of_ble_eq_true rfl) ?_
  intro p e s m args below meth c D ar ad A Q ls hP F hK hA hw hl hQ
  have hl : lv_has ls 2 [(0, .ref (ad 0 0)), (1, .int x1)] := hl
  obtain ⟨X_0, eX_0⟩ : ∃ X : (Int32 × St) → Prop, X = (fun q => ∀ (H : Heap) (locs : List Loc) (pc : Nat) (ls : Array Slot), decode b_Model_back pc = .ok (.ireturn, 1) → Bw mw D ar A s.heap H locs ad q.2 → W p l e (RM 0 0) s m args below meth c H locs 0 0 Q (F0 m pc ls [.int q.1])) := ⟨_, rfl⟩
  have key : ∀ (H : Heap) (locs : List Loc), Bw mw D ar A s.heap H locs ad S → ∀ o, f_Model_back S x1 = some o → X_0 o → W p l e (RM 0 0) s m args below meth c H locs 0 0 Q (F0 m 0 ls []) := by
    intro H locs hw o h ho
    unfold f_Model_back at h
    have J_12 : ∀ (S : St) (H : Heap) (locs : List Loc) (ls : Array Slot), Bw mw D ar A s.heap H locs ad S → lv_has ls 2 [] → ∀ o, Model_back_j12 S = some o → X_0 o → W p l e (RM 0 0) s m args below meth c H locs 0 0 Q (F0 m 12 ls []) := by
      intro S H locs ls hw hl o h ho
      unfold Model_back_j12 at h
      refine lv_iconst (v := -1) F.1 F.2.1 d_Model_back_12 (by decide) ?_
      cases h
      have ho : X_0 _ := ho
      rw [eX_0] at ho
      exact ho H locs _ ls d_Model_back_13 hw
    refine lv_iload_n F.1 F.2.1 d_Model_back_0 rfl (lv_at hl 1 rfl) ?_
    refine lv_if_lt (tgt := 12) F.1 F.2.1 d_Model_back_1 (by decide) (fun c_1 => ?_) (fun c_1 => ?_)
    · replace h := ip c_1 h
      exact J_12 S H locs ls hw (lv_sub hl [] rfl) o h ho
    · replace h := iq c_1 h
      refine lv_iload_n F.1 F.2.1 d_Model_back_4 rfl (lv_at hl 1 rfl) ?_
      refine lv_aload_n F.1 F.2.1 d_Model_back_5 rfl (lv_at hl 0 rfl) ?_
      refine mg_0_2 F hK hw lk_1013 d_Model_back_6 ?_
      refine lv_icmp_le (tgt := 14) F.1 F.2.1 d_Model_back_9 (by decide) (fun c_2 => ?_) (fun c_2 => ?_)
      · replace h := ip c_2 h
        refine lv_aload_n F.1 F.2.1 d_Model_back_14 rfl (lv_at hl 0 rfl) ?_
        refine lv_dup F.1 F.2.1 d_Model_back_15 rfl ?_
        refine mg_0_2 F hK hw lk_1013 d_Model_back_16 ?_
        refine lv_iload_n F.1 F.2.1 d_Model_back_19 rfl (lv_at hl 1 rfl) ?_
        refine lv_isub F.1 F.2.1 d_Model_back_20 ?_
        obtain ⟨S_3, eS_3, h⟩ := nm_ex h
        refine mp_0_2 F hK hw lk_1013 d_Model_back_21 eS_3 (fun H locs hw => ?_)
        refine lv_aload_n F.1 F.2.1 d_Model_back_24 rfl (lv_at hl 0 rfl) ?_
        refine mg_0_2 F hK hw lk_1013 d_Model_back_25 ?_
        cases h
        have ho : X_0 _ := ho
        rw [eX_0] at ho
        exact ho H locs _ ls d_Model_back_28 hw
      · replace h := iq c_2 h
        exact J_12 S H locs ls hw (lv_sub hl [] rfl) o h ho
  exact key _ _ hw _ h (by rw [eX_0]; exact fun H locs pc ls hd hw => hQ H locs pc ls ad rfl hd hw)
theorem d_Model_at_0 : decode b_Model_at 0 = .ok (.iload_n 1, 1) := by decide +kernel
theorem d_Model_at_1 : decode b_Model_at 1 = .ok (.aload_n 0, 1) := by decide +kernel
theorem d_Model_at_2 : decode b_Model_at 2 = .ok (.getfield 167, 3) := by decide +kernel
theorem d_Model_at_5 : decode b_Model_at 5 = .ok (.if_icmp .ge 16, 3) := by decide +kernel
theorem d_Model_at_8 : decode b_Model_at 8 = .ok (.aload_n 0, 1) := by decide +kernel
theorem d_Model_at_9 : decode b_Model_at 9 = .ok (.getfield 17, 3) := by decide +kernel
theorem d_Model_at_12 : decode b_Model_at 12 = .ok (.iload_n 1, 1) := by decide +kernel
theorem d_Model_at_13 : decode b_Model_at 13 = .ok (.baload, 1) := by decide +kernel
theorem d_Model_at_14 : decode b_Model_at 14 = .ok (.sipush 255, 3) := by decide +kernel
theorem d_Model_at_17 : decode b_Model_at 17 = .ok (.iand, 1) := by decide +kernel
theorem d_Model_at_18 : decode b_Model_at 18 = .ok (.goto 4, 3) := by decide +kernel
theorem d_Model_at_21 : decode b_Model_at 21 = .ok (.iconst 0, 1) := by decide +kernel
theorem d_Model_at_22 : decode b_Model_at 22 = .ok (.ireturn, 1) := by decide +kernel
set_option maxHeartbeats 4000000 in
set_option maxRecDepth 100000 in
theorem c_Model_at (l : Launch) {S : St} {x1 : Int32} {r : Int32} (h : f_Model_at S x1 = some r) : MI mw l y_Model_at b_Model_at 2 (some .int) 0 0 0 0 (fun ad => [.ref (ad 0 0), .int x1]) aT aE S r S := by
  refine MI_of "LawfulLotsModel" rfl (by decide) (fun _ => Nat.le_of_ble_eq_true rfl) ?_
  intro p e s m args below meth c D ar ad A Q ls hP F hK hA hw hl hQ
  have hl : lv_has ls 2 [(0, .ref (ad 0 0)), (1, .int x1)] := hl
  obtain ⟨X_0, eX_0⟩ : ∃ X : Int32 → Prop, X = (fun q => ∀ (H : Heap) (locs : List Loc) (pc : Nat) (ls : Array Slot), decode b_Model_at pc = .ok (.ireturn, 1) → Bw mw D ar A s.heap H locs ad S → W p l e (RM 0 0) s m args below meth c H locs 0 0 Q (F0 m pc ls [.int q])) := ⟨_, rfl⟩
  have key : ∀ (H : Heap) (locs : List Loc), Bw mw D ar A s.heap H locs ad S → ∀ o, f_Model_at S x1 = some o → X_0 o → W p l e (RM 0 0) s m args below meth c H locs 0 0 Q (F0 m 0 ls []) := by
    intro H locs hw o h ho
    unfold f_Model_at at h
    have J_22 : ∀ (t0 : Int32) (H : Heap) (locs : List Loc) (ls : Array Slot), Bw mw D ar A s.heap H locs ad S → lv_has ls 2 [] → ∀ o, Model_at_j22 S t0 = some o → X_0 o → W p l e (RM 0 0) s m args below meth c H locs 0 0 Q (F0 m 22 ls [.int t0]) := by
      intro t0 H locs ls hw hl o h ho
      unfold Model_at_j22 at h
      cases h
      have ho : X_0 _ := ho
      rw [eX_0] at ho
      exact ho H locs _ ls d_Model_at_22 hw
    refine lv_iload_n F.1 F.2.1 d_Model_at_0 rfl (lv_at hl 1 rfl) ?_
    refine lv_aload_n F.1 F.2.1 d_Model_at_1 rfl (lv_at hl 0 rfl) ?_
    refine mg_0_4 F hK hw lk_1015 d_Model_at_2 ?_
    refine lv_icmp_ge (tgt := 21) F.1 F.2.1 d_Model_at_5 (by decide) (fun c_1 => ?_) (fun c_1 => ?_)
    · replace h := ip c_1 h
      refine lv_iconst (v := 0) F.1 F.2.1 d_Model_at_21 (by decide) ?_
      exact J_22 (0 : Int32) H locs ls hw (lv_sub hl [] rfl) o h ho
    · replace h := iq c_1 h
      refine lv_aload_n F.1 F.2.1 d_Model_at_8 rfl (lv_at hl 0 rfl) ?_
      refine mg_0_3 F hK hw lk_1014 d_Model_at_9 ?_
      refine lv_iload_n F.1 F.2.1 d_Model_at_12 rfl (lv_at hl 1 rfl) ?_
      obtain ⟨hi_2, h⟩ := gd_ex h
      refine ml_0_3 F hK hw hi_2 d_Model_at_13 ?_
      refine lv_sipush (v := 255) F.1 F.2.1 d_Model_at_14 (by decide) ?_
      refine lv_iand F.1 F.2.1 d_Model_at_17 ?_
      refine lv_goto (tgt := 22) F.1 F.2.1 d_Model_at_18 (by decide) ?_
      exact J_22 ((gA S 0 3 x1.toNatClampNeg) &&& (255 : Int32)) H locs ls hw (lv_sub hl [] rfl) o h ho
  exact key _ _ hw _ h (by rw [eX_0]; exact fun H locs pc ls hd hw => hQ H locs pc ls ad rfl hd hw)
theorem d_Model_isDigit_0 : decode b_Model_isDigit 0 = .ok (.iload_n 0, 1) := by decide +kernel
theorem d_Model_isDigit_1 : decode b_Model_isDigit 1 = .ok (.bipush 48, 2) := by decide +kernel
theorem d_Model_isDigit_3 : decode b_Model_isDigit 3 = .ok (.if_icmp .lt 13, 3) := by decide +kernel
theorem d_Model_isDigit_6 : decode b_Model_isDigit 6 = .ok (.iload_n 0, 1) := by decide +kernel
theorem d_Model_isDigit_7 : decode b_Model_isDigit 7 = .ok (.bipush 57, 2) := by decide +kernel
theorem d_Model_isDigit_9 : decode b_Model_isDigit 9 = .ok (.if_icmp .gt 7, 3) := by decide +kernel
theorem d_Model_isDigit_12 : decode b_Model_isDigit 12 = .ok (.iconst 1, 1) := by decide +kernel
theorem d_Model_isDigit_13 : decode b_Model_isDigit 13 = .ok (.goto 4, 3) := by decide +kernel
theorem d_Model_isDigit_16 : decode b_Model_isDigit 16 = .ok (.iconst 0, 1) := by decide +kernel
theorem d_Model_isDigit_17 : decode b_Model_isDigit 17 = .ok (.ireturn, 1) := by decide +kernel
set_option maxHeartbeats 4000000 in
set_option maxRecDepth 100000 in
theorem c_Model_isDigit (l : Launch) (S : St) {x0 : Int32} {r : Int32} (h : f_Model_isDigit x0 = some r) : MI mw l y_Model_isDigit b_Model_isDigit 1 (some .boolean) 0 0 0 0 (fun ad => [.int x0]) aT aE S r S := by
  refine MZ_of "LawfulLotsModel" rfl (by decide) (fun _ => Nat.le_of_ble_eq_true rfl) ?_
  intro p e s m args below meth c D ar ad A Q ls hP F hK hA hw hl hQ
  have hl : lv_has ls 1 [(0, .int x0)] := hl
  obtain ⟨X_0, eX_0⟩ : ∃ X : Int32 → Prop, X = (fun q => ∀ (H : Heap) (locs : List Loc) (pc : Nat) (ls : Array Slot), isB q = true → decode b_Model_isDigit pc = .ok (.ireturn, 1) → Bw mw D ar A s.heap H locs ad S → W p l e (RM 0 0) s m args below meth c H locs 0 0 Q (F0 m pc ls [.int q])) := ⟨_, rfl⟩
  have key : ∀ (H : Heap) (locs : List Loc), Bw mw D ar A s.heap H locs ad S → ∀ o, f_Model_isDigit x0 = some o → X_0 o → W p l e (RM 0 0) s m args below meth c H locs 0 0 Q (F0 m 0 ls []) := by
    intro H locs hw o h ho
    unfold f_Model_isDigit at h
    have J_17 : ∀ (t0 : Int32) (H : Heap) (locs : List Loc) (ls : Array Slot), Bw mw D ar A s.heap H locs ad S → lv_has ls 1 [] → ∀ o, Model_isDigit_j17 t0 = some o → X_0 o → W p l e (RM 0 0) s m args below meth c H locs 0 0 Q (F0 m 17 ls [.int t0]) := by
      intro t0 H locs ls hw hl o h ho
      unfold Model_isDigit_j17 at h
      obtain ⟨hb_3, h⟩ := gd_ex h
      cases h
      have ho : X_0 _ := ho
      rw [eX_0] at ho
      exact ho H locs _ ls hb_3 d_Model_isDigit_17 hw
    have J_16 : ∀ (H : Heap) (locs : List Loc) (ls : Array Slot), Bw mw D ar A s.heap H locs ad S → lv_has ls 1 [] → ∀ o, Model_isDigit_j16 = some o → X_0 o → W p l e (RM 0 0) s m args below meth c H locs 0 0 Q (F0 m 16 ls []) := by
      intro H locs ls hw hl o h ho
      unfold Model_isDigit_j16 at h
      refine lv_iconst (v := 0) F.1 F.2.1 d_Model_isDigit_16 (by decide) ?_
      exact J_17 (0 : Int32) H locs ls hw (lv_sub hl [] rfl) o h ho
    refine lv_iload_n F.1 F.2.1 d_Model_isDigit_0 rfl (lv_at hl 0 rfl) ?_
    refine lv_bipush (v := 48) F.1 F.2.1 d_Model_isDigit_1 (by decide) ?_
    refine lv_icmp_lt (tgt := 16) F.1 F.2.1 d_Model_isDigit_3 (by decide) (fun c_1 => ?_) (fun c_1 => ?_)
    · replace h := ip c_1 h
      exact J_16 H locs ls hw (lv_sub hl [] rfl) o h ho
    · replace h := iq c_1 h
      refine lv_iload_n F.1 F.2.1 d_Model_isDigit_6 rfl (lv_at hl 0 rfl) ?_
      refine lv_bipush (v := 57) F.1 F.2.1 d_Model_isDigit_7 (by decide) ?_
      refine lv_icmp_gt (tgt := 16) F.1 F.2.1 d_Model_isDigit_9 (by decide) (fun c_2 => ?_) (fun c_2 => ?_)
      · replace h := ip c_2 h
        exact J_16 H locs ls hw (lv_sub hl [] rfl) o h ho
      · replace h := iq c_2 h
        refine lv_iconst (v := 1) F.1 F.2.1 d_Model_isDigit_12 (by decide) ?_
        refine lv_goto (tgt := 17) F.1 F.2.1 d_Model_isDigit_13 (by decide) ?_
        exact J_17 (1 : Int32) H locs ls hw (lv_sub hl [] rfl) o h ho
  exact key _ _ hw _ h (by rw [eX_0]; exact fun H locs pc ls hb hd hw => hQ H locs pc ls ad hb rfl hd hw)
theorem d_Model_isLetter_0 : decode b_Model_isLetter 0 = .ok (.iload_n 0, 1) := by decide +kernel
theorem d_Model_isLetter_1 : decode b_Model_isLetter 1 = .ok (.bipush 97, 2) := by decide +kernel
theorem d_Model_isLetter_3 : decode b_Model_isLetter 3 = .ok (.if_icmp .lt 13, 3) := by decide +kernel
theorem d_Model_isLetter_6 : decode b_Model_isLetter 6 = .ok (.iload_n 0, 1) := by decide +kernel
theorem d_Model_isLetter_7 : decode b_Model_isLetter 7 = .ok (.bipush 122, 2) := by decide +kernel
theorem d_Model_isLetter_9 : decode b_Model_isLetter 9 = .ok (.if_icmp .gt 7, 3) := by decide +kernel
theorem d_Model_isLetter_12 : decode b_Model_isLetter 12 = .ok (.iconst 1, 1) := by decide +kernel
theorem d_Model_isLetter_13 : decode b_Model_isLetter 13 = .ok (.goto 4, 3) := by decide +kernel
theorem d_Model_isLetter_16 : decode b_Model_isLetter 16 = .ok (.iconst 0, 1) := by decide +kernel
theorem d_Model_isLetter_17 : decode b_Model_isLetter 17 = .ok (.ireturn, 1) := by decide +kernel
set_option maxHeartbeats 4000000 in
set_option maxRecDepth 100000 in
theorem c_Model_isLetter (l : Launch) (S : St) {x0 : Int32} {r : Int32} (h : f_Model_isLetter x0 = some r) : MI mw l y_Model_isLetter b_Model_isLetter 1 (some .boolean) 0 0 0 0 (fun ad => [.int x0]) aT aE S r S := by
  refine MZ_of "LawfulLotsModel" rfl (by decide) (fun _ => Nat.le_of_ble_eq_true rfl) ?_
  intro p e s m args below meth c D ar ad A Q ls hP F hK hA hw hl hQ
  have hl : lv_has ls 1 [(0, .int x0)] := hl
  obtain ⟨X_0, eX_0⟩ : ∃ X : Int32 → Prop, X = (fun q => ∀ (H : Heap) (locs : List Loc) (pc : Nat) (ls : Array Slot), isB q = true → decode b_Model_isLetter pc = .ok (.ireturn, 1) → Bw mw D ar A s.heap H locs ad S → W p l e (RM 0 0) s m args below meth c H locs 0 0 Q (F0 m pc ls [.int q])) := ⟨_, rfl⟩
  have key : ∀ (H : Heap) (locs : List Loc), Bw mw D ar A s.heap H locs ad S → ∀ o, f_Model_isLetter x0 = some o → X_0 o → W p l e (RM 0 0) s m args below meth c H locs 0 0 Q (F0 m 0 ls []) := by
    intro H locs hw o h ho
    unfold f_Model_isLetter at h
    have J_17 : ∀ (t0 : Int32) (H : Heap) (locs : List Loc) (ls : Array Slot), Bw mw D ar A s.heap H locs ad S → lv_has ls 1 [] → ∀ o, Model_isLetter_j17 t0 = some o → X_0 o → W p l e (RM 0 0) s m args below meth c H locs 0 0 Q (F0 m 17 ls [.int t0]) := by
      intro t0 H locs ls hw hl o h ho
      unfold Model_isLetter_j17 at h
      obtain ⟨hb_3, h⟩ := gd_ex h
      cases h
      have ho : X_0 _ := ho
      rw [eX_0] at ho
      exact ho H locs _ ls hb_3 d_Model_isLetter_17 hw
    have J_16 : ∀ (H : Heap) (locs : List Loc) (ls : Array Slot), Bw mw D ar A s.heap H locs ad S → lv_has ls 1 [] → ∀ o, Model_isLetter_j16 = some o → X_0 o → W p l e (RM 0 0) s m args below meth c H locs 0 0 Q (F0 m 16 ls []) := by
      intro H locs ls hw hl o h ho
      unfold Model_isLetter_j16 at h
      refine lv_iconst (v := 0) F.1 F.2.1 d_Model_isLetter_16 (by decide) ?_
      exact J_17 (0 : Int32) H locs ls hw (lv_sub hl [] rfl) o h ho
    refine lv_iload_n F.1 F.2.1 d_Model_isLetter_0 rfl (lv_at hl 0 rfl) ?_
    refine lv_bipush (v := 97) F.1 F.2.1 d_Model_isLetter_1 (by decide) ?_
    refine lv_icmp_lt (tgt := 16) F.1 F.2.1 d_Model_isLetter_3 (by decide) (fun c_1 => ?_) (fun c_1 => ?_)
    · replace h := ip c_1 h
      exact J_16 H locs ls hw (lv_sub hl [] rfl) o h ho
    · replace h := iq c_1 h
      refine lv_iload_n F.1 F.2.1 d_Model_isLetter_6 rfl (lv_at hl 0 rfl) ?_
      refine lv_bipush (v := 122) F.1 F.2.1 d_Model_isLetter_7 (by decide) ?_
      refine lv_icmp_gt (tgt := 16) F.1 F.2.1 d_Model_isLetter_9 (by decide) (fun c_2 => ?_) (fun c_2 => ?_)
      · replace h := ip c_2 h
        exact J_16 H locs ls hw (lv_sub hl [] rfl) o h ho
      · replace h := iq c_2 h
        refine lv_iconst (v := 1) F.1 F.2.1 d_Model_isLetter_12 (by decide) ?_
        refine lv_goto (tgt := 17) F.1 F.2.1 d_Model_isLetter_13 (by decide) ?_
        exact J_17 (1 : Int32) H locs ls hw (lv_sub hl [] rfl) o h ho
  exact key _ _ hw _ h (by rw [eX_0]; exact fun H locs pc ls hb hd hw => hQ H locs pc ls ad hb rfl hd hw)
theorem d_Model_more_0 : decode b_Model_more 0 = .ok (.iload_n 2, 1) := by decide +kernel
theorem d_Model_more_1 : decode b_Model_more 1 = .ok (.ifCond .ne 7, 3) := by decide +kernel
theorem d_Model_more_4 : decode b_Model_more 4 = .ok (.lload_n 0, 1) := by decide +kernel
theorem d_Model_more_5 : decode b_Model_more 5 = .ok (.goto 33, 3) := by decide +kernel
theorem d_Model_more_8 : decode b_Model_more 8 = .ok (.ldc2_w 170, 3) := by decide +kernel
theorem d_Model_more_11 : decode b_Model_more 11 = .ok (.lload_n 0, 1) := by decide +kernel
theorem d_Model_more_12 : decode b_Model_more 12 = .ok (.lmul, 1) := by decide +kernel
theorem d_Model_more_13 : decode b_Model_more 13 = .ok (.iload_n 2, 1) := by decide +kernel
theorem d_Model_more_14 : decode b_Model_more 14 = .ok (.invokestatic 172, 3) := by decide +kernel
theorem d_Model_more_17 : decode b_Model_more 17 = .ok (.ifCond .eq 13, 3) := by decide +kernel
theorem d_Model_more_20 : decode b_Model_more 20 = .ok (.iload_n 2, 1) := by decide +kernel
theorem d_Model_more_21 : decode b_Model_more 21 = .ok (.bipush 48, 2) := by decide +kernel
theorem d_Model_more_23 : decode b_Model_more 23 = .ok (.isub, 1) := by decide +kernel
theorem d_Model_more_24 : decode b_Model_more 24 = .ok (.bipush 27, 2) := by decide +kernel
theorem d_Model_more_26 : decode b_Model_more 26 = .ok (.iadd, 1) := by decide +kernel
theorem d_Model_more_27 : decode b_Model_more 27 = .ok (.goto 9, 3) := by decide +kernel
theorem d_Model_more_30 : decode b_Model_more 30 = .ok (.iload_n 2, 1) := by decide +kernel
theorem d_Model_more_31 : decode b_Model_more 31 = .ok (.bipush 97, 2) := by decide +kernel
theorem d_Model_more_33 : decode b_Model_more 33 = .ok (.isub, 1) := by decide +kernel
theorem d_Model_more_34 : decode b_Model_more 34 = .ok (.iconst 1, 1) := by decide +kernel
theorem d_Model_more_35 : decode b_Model_more 35 = .ok (.iadd, 1) := by decide +kernel
theorem d_Model_more_36 : decode b_Model_more 36 = .ok (.i2l, 1) := by decide +kernel
theorem d_Model_more_37 : decode b_Model_more 37 = .ok (.ladd, 1) := by decide +kernel
theorem d_Model_more_38 : decode b_Model_more 38 = .ok (.lreturn, 1) := by decide +kernel
set_option maxHeartbeats 4000000 in
set_option maxRecDepth 100000 in
theorem c_Model_more (l : Launch) (S : St) {x0 : Int64} {x2 : Int32} {r : Int64} (h : f_Model_more x0 x2 = some r) : ML mw l y_Model_more b_Model_more 3 (some .long) 1 20 0 0 (fun ad => [.long x0, .int x2]) aT aE S r S := by
  refine ML_of "LawfulLotsModel" rfl (by decide) (fun _ => Nat.le_of_ble_eq_true rfl) ?_
  intro p e s m args below meth c D ar ad A Q ls hP F hK hA hw hl hQ
  have hl : lv_has ls 3 [(0, .long x0), (2, .int x2)] := hl
  obtain ⟨X_0, eX_0⟩ : ∃ X : Int64 → Prop, X = (fun q => ∀ (H : Heap) (locs : List Loc) (pc : Nat) (ls : Array Slot), decode b_Model_more pc = .ok (.lreturn, 1) → Bw mw D ar A s.heap H locs ad S → W p l e (RM 1 20) s m args below meth c H locs 0 0 Q (F0 m pc ls [.long q])) := ⟨_, rfl⟩
  have key : ∀ (H : Heap) (locs : List Loc), Bw mw D ar A s.heap H locs ad S → ∀ o, f_Model_more x0 x2 = some o → X_0 o → W p l e (RM 1 20) s m args below meth c H locs 0 0 Q (F0 m 0 ls []) := by
    intro H locs hw o h ho
    unfold f_Model_more at h
    have J_38 : ∀ (t0 : Int64) (H : Heap) (locs : List Loc) (ls : Array Slot), Bw mw D ar A s.heap H locs ad S → lv_has ls 3 [] → ∀ o, Model_more_j38 t0 = some o → X_0 o → W p l e (RM 1 20) s m args below meth c H locs 0 0 Q (F0 m 38 ls [.long t0]) := by
      intro t0 H locs ls hw hl o h ho
      unfold Model_more_j38 at h
      cases h
      have ho : X_0 _ := ho
      rw [eX_0] at ho
      exact ho H locs _ ls d_Model_more_38 hw
    have J_36 : ∀ (t0 : Int64) (t1 : Int32) (H : Heap) (locs : List Loc) (ls : Array Slot), Bw mw D ar A s.heap H locs ad S → lv_has ls 3 [] → ∀ o, Model_more_j36 t0 t1 = some o → X_0 o → W p l e (RM 1 20) s m args below meth c H locs 0 0 Q (F0 m 36 ls [.int t1, .long t0]) := by
      intro t0 t1 H locs ls hw hl o h ho
      unfold Model_more_j36 at h
      refine lv_i2l F.1 F.2.1 d_Model_more_36 rfl ?_
      refine lv_ladd F.1 F.2.1 d_Model_more_37 ?_
      exact J_38 (t0 + (t1.toInt64)) H locs ls hw (lv_sub hl [] rfl) o h ho
    refine lv_iload_n F.1 F.2.1 d_Model_more_0 rfl (lv_at hl 1 rfl) ?_
    refine lv_if_ne (tgt := 8) F.1 F.2.1 d_Model_more_1 (by decide) (fun c_1 => ?_) (fun c_1 => ?_)
    · replace h := iq c_1 h
      refine lv_ldc2 F.1 F.2.1 F.2.2.2.1 (F.2.2.2.2 _ lk_956) d_Model_more_8 ?_
      refine lv_lload_n F.1 F.2.1 d_Model_more_11 rfl (lv_at hl 0 rfl) ?_
      refine lv_lmul F.1 F.2.1 d_Model_more_12 ?_
      refine lv_iload_n F.1 F.2.1 d_Model_more_13 rfl (lv_at hl 1 rfl) ?_
      obtain ⟨v_3, hc_2, h⟩ := bd_ex h
      refine cS_i F hA rfl hK hw (c_Model_isDigit l S hc_2) trivial rfl (good_S lk_957 lk_958 lk_10 lk_959) hd_Model_isDigit ⟨Nat.le_of_ble_eq_true rfl, Nat.le_of_ble_eq_true rfl⟩ rfl hl.1 rfl (Nat.le_of_ble_eq_true rfl) d_Model_more_14 ⟨(Nat.zero_le _), (Nat.zero_le _)⟩ (fun H locs hw => ?_)
      refine lv_if_eq (tgt := 30) F.1 F.2.1 d_Model_more_17 (by decide) (fun c_4 => ?_) (fun c_4 => ?_)
      · replace h := ip c_4 h
        refine lv_iload_n F.1 F.2.1 d_Model_more_30 rfl (lv_at hl 1 rfl) ?_
        refine lv_bipush (v := 97) F.1 F.2.1 d_Model_more_31 (by decide) ?_
        refine lv_isub F.1 F.2.1 d_Model_more_33 ?_
        refine lv_iconst (v := 1) F.1 F.2.1 d_Model_more_34 (by decide) ?_
        refine lv_iadd F.1 F.2.1 d_Model_more_35 ?_
        exact J_36 ((37 : Int64) * x0) ((x2 - (97 : Int32)) + (1 : Int32)) H locs ls hw (lv_sub hl [] rfl) o h ho
      · replace h := iq c_4 h
        refine lv_iload_n F.1 F.2.1 d_Model_more_20 rfl (lv_at hl 1 rfl) ?_
        refine lv_bipush (v := 48) F.1 F.2.1 d_Model_more_21 (by decide) ?_
        refine lv_isub F.1 F.2.1 d_Model_more_23 ?_
        refine lv_bipush (v := 27) F.1 F.2.1 d_Model_more_24 (by decide) ?_
        refine lv_iadd F.1 F.2.1 d_Model_more_26 ?_
        refine lv_goto (tgt := 36) F.1 F.2.1 d_Model_more_27 (by decide) ?_
        exact J_36 ((37 : Int64) * x0) ((x2 - (48 : Int32)) + (27 : Int32)) H locs ls hw (lv_sub hl [] rfl) o h ho
    · replace h := ip c_1 h
      refine lv_lload_n F.1 F.2.1 d_Model_more_4 rfl (lv_at hl 0 rfl) ?_
      refine lv_goto (tgt := 38) F.1 F.2.1 d_Model_more_5 (by decide) ?_
      exact J_38 x0 H locs ls hw (lv_sub hl [] rfl) o h ho
  exact key _ _ hw _ h (by rw [eX_0]; exact fun H locs pc ls hd hw => hQ H locs pc ls ad rfl hd hw)
theorem d_Model_word_0 : decode b_Model_word 0 = .ok (.lconst 0, 1) := by decide +kernel
theorem d_Model_word_1 : decode b_Model_word 1 = .ok (.iload_n 0, 1) := by decide +kernel
theorem d_Model_word_2 : decode b_Model_word 2 = .ok (.invokestatic 176, 3) := by decide +kernel
theorem d_Model_word_5 : decode b_Model_word 5 = .ok (.iload_n 1, 1) := by decide +kernel
theorem d_Model_word_6 : decode b_Model_word 6 = .ok (.invokestatic 176, 3) := by decide +kernel
theorem d_Model_word_9 : decode b_Model_word 9 = .ok (.iload_n 2, 1) := by decide +kernel
theorem d_Model_word_10 : decode b_Model_word 10 = .ok (.invokestatic 176, 3) := by decide +kernel
theorem d_Model_word_13 : decode b_Model_word 13 = .ok (.iload_n 3, 1) := by decide +kernel
theorem d_Model_word_14 : decode b_Model_word 14 = .ok (.invokestatic 176, 3) := by decide +kernel
theorem d_Model_word_17 : decode b_Model_word 17 = .ok (.iload 4, 2) := by decide +kernel
theorem d_Model_word_19 : decode b_Model_word 19 = .ok (.invokestatic 176, 3) := by decide +kernel
theorem d_Model_word_22 : decode b_Model_word 22 = .ok (.iload 5, 2) := by decide +kernel
theorem d_Model_word_24 : decode b_Model_word 24 = .ok (.invokestatic 176, 3) := by decide +kernel
theorem d_Model_word_27 : decode b_Model_word 27 = .ok (.lreturn, 1) := by decide +kernel
set_option maxHeartbeats 4000000 in
set_option maxRecDepth 100000 in
theorem c_Model_word (l : Launch) (S : St) {x0 : Int32} {x1 : Int32} {x2 : Int32} {x3 : Int32} {x4 : Int32} {x5 : Int32} {r : Int64} (h : f_Model_word x0 x1 x2 x3 x4 x5 = some r) : ML mw l y_Model_word b_Model_word 6 (some .long) 2 42 0 0 (fun ad => [.int x0, .int x1, .int x2, .int x3, .int x4, .int x5]) aT aE S r S := by
  refine ML_of "LawfulLotsModel" rfl (by decide) (fun _ => Nat.le_of_ble_eq_true rfl) ?_
  intro p e s m args below meth c D ar ad A Q ls hP F hK hA hw hl hQ
  have hl : lv_has ls 6 [(0, .int x0), (1, .int x1), (2, .int x2), (3, .int x3), (4, .int x4), (5, .int x5)] := hl
  obtain ⟨X_0, eX_0⟩ : ∃ X : Int64 → Prop, X = (fun q => ∀ (H : Heap) (locs : List Loc) (pc : Nat) (ls : Array Slot), decode b_Model_word pc = .ok (.lreturn, 1) → Bw mw D ar A s.heap H locs ad S → W p l e (RM 2 42) s m args below meth c H locs 0 0 Q (F0 m pc ls [.long q])) := ⟨_, rfl⟩
  have key : ∀ (H : Heap) (locs : List Loc), Bw mw D ar A s.heap H locs ad S → ∀ o, f_Model_word x0 x1 x2 x3 x4 x5 = some o → X_0 o → W p l e (RM 2 42) s m args below meth c H locs 0 0 Q (F0 m 0 ls []) := by
    intro H locs hw o h ho
    unfold f_Model_word at h
    refine lv_lconst (v := 0) F.1 F.2.1 d_Model_word_0 (by decide) ?_
    refine lv_iload_n F.1 F.2.1 d_Model_word_1 rfl (lv_at hl 0 rfl) ?_
    obtain ⟨v_2, hc_1, h⟩ := bd_ex h
    refine cS_l F hA rfl hK hw (c_Model_more l S hc_1) trivial rfl (good_S lk_953 lk_954 lk_10 lk_955) hd_Model_more ⟨Nat.le_of_ble_eq_true rfl, Nat.le_of_ble_eq_true rfl⟩ rfl hl.1 rfl (Nat.le_of_ble_eq_true rfl) d_Model_word_2 ⟨(Nat.zero_le _), (Nat.zero_le _)⟩ (fun H locs hw => ?_)
    refine lv_iload_n F.1 F.2.1 d_Model_word_5 rfl (lv_at hl 1 rfl) ?_
    obtain ⟨v_4, hc_3, h⟩ := bd_ex h
    refine cS_l F hA rfl hK hw (c_Model_more l S hc_3) trivial rfl (good_S lk_953 lk_954 lk_10 lk_955) hd_Model_more ⟨Nat.le_of_ble_eq_true rfl, Nat.le_of_ble_eq_true rfl⟩ rfl hl.1 rfl (Nat.le_of_ble_eq_true rfl) d_Model_word_6 ⟨(Nat.zero_le _), (Nat.zero_le _)⟩ (fun H locs hw => ?_)
    refine lv_iload_n F.1 F.2.1 d_Model_word_9 rfl (lv_at hl 2 rfl) ?_
    obtain ⟨v_6, hc_5, h⟩ := bd_ex h
    refine cS_l F hA rfl hK hw (c_Model_more l S hc_5) trivial rfl (good_S lk_953 lk_954 lk_10 lk_955) hd_Model_more ⟨Nat.le_of_ble_eq_true rfl, Nat.le_of_ble_eq_true rfl⟩ rfl hl.1 rfl (Nat.le_of_ble_eq_true rfl) d_Model_word_10 ⟨(Nat.zero_le _), (Nat.zero_le _)⟩ (fun H locs hw => ?_)
    refine lv_iload_n F.1 F.2.1 d_Model_word_13 rfl (lv_at hl 3 rfl) ?_
    obtain ⟨v_8, hc_7, h⟩ := bd_ex h
    refine cS_l F hA rfl hK hw (c_Model_more l S hc_7) trivial rfl (good_S lk_953 lk_954 lk_10 lk_955) hd_Model_more ⟨Nat.le_of_ble_eq_true rfl, Nat.le_of_ble_eq_true rfl⟩ rfl hl.1 rfl (Nat.le_of_ble_eq_true rfl) d_Model_word_14 ⟨(Nat.zero_le _), (Nat.zero_le _)⟩ (fun H locs hw => ?_)
    refine lv_iload F.1 F.2.1 d_Model_word_17 (lv_at hl 4 rfl) ?_
    obtain ⟨v_10, hc_9, h⟩ := bd_ex h
    refine cS_l F hA rfl hK hw (c_Model_more l S hc_9) trivial rfl (good_S lk_953 lk_954 lk_10 lk_955) hd_Model_more ⟨Nat.le_of_ble_eq_true rfl, Nat.le_of_ble_eq_true rfl⟩ rfl hl.1 rfl (Nat.le_of_ble_eq_true rfl) d_Model_word_19 ⟨(Nat.zero_le _), (Nat.zero_le _)⟩ (fun H locs hw => ?_)
    refine lv_iload F.1 F.2.1 d_Model_word_22 (lv_at hl 5 rfl) ?_
    obtain ⟨v_12, hc_11, h⟩ := bd_ex h
    refine cS_l F hA rfl hK hw (c_Model_more l S hc_11) trivial rfl (good_S lk_953 lk_954 lk_10 lk_955) hd_Model_more ⟨Nat.le_of_ble_eq_true rfl, Nat.le_of_ble_eq_true rfl⟩ rfl hl.1 rfl (Nat.le_of_ble_eq_true rfl) d_Model_word_24 ⟨(Nat.zero_le _), (Nat.zero_le _)⟩ (fun H locs hw => ?_)
    cases h
    have ho : X_0 _ := ho
    rw [eX_0] at ho
    exact ho H locs _ ls d_Model_word_27 hw
  exact key _ _ hw _ h (by rw [eX_0]; exact fun H locs pc ls hd hw => hQ H locs pc ls ad rfl hd hw)
theorem d_Model_token_0 : decode b_Model_token 0 = .ok (.aload_n 0, 1) := by decide +kernel
theorem d_Model_token_1 : decode b_Model_token 1 = .ok (.getfield 20, 3) := by decide +kernel
theorem d_Model_token_4 : decode b_Model_token 4 = .ok (.aload_n 0, 1) := by decide +kernel
theorem d_Model_token_5 : decode b_Model_token 5 = .ok (.getfield 180, 3) := by decide +kernel
theorem d_Model_token_8 : decode b_Model_token 8 = .ok (.iload_n 1, 1) := by decide +kernel
theorem d_Model_token_9 : decode b_Model_token 9 = .ok (.iastore, 1) := by decide +kernel
theorem d_Model_token_10 : decode b_Model_token 10 = .ok (.aload_n 0, 1) := by decide +kernel
theorem d_Model_token_11 : decode b_Model_token 11 = .ok (.getfield 24, 3) := by decide +kernel
theorem d_Model_token_14 : decode b_Model_token 14 = .ok (.aload_n 0, 1) := by decide +kernel
theorem d_Model_token_15 : decode b_Model_token 15 = .ok (.getfield 180, 3) := by decide +kernel
theorem d_Model_token_18 : decode b_Model_token 18 = .ok (.iload_n 2, 1) := by decide +kernel
theorem d_Model_token_19 : decode b_Model_token 19 = .ok (.iastore, 1) := by decide +kernel
theorem d_Model_token_20 : decode b_Model_token 20 = .ok (.aload_n 0, 1) := by decide +kernel
theorem d_Model_token_21 : decode b_Model_token 21 = .ok (.getfield 27, 3) := by decide +kernel
theorem d_Model_token_24 : decode b_Model_token 24 = .ok (.aload_n 0, 1) := by decide +kernel
theorem d_Model_token_25 : decode b_Model_token 25 = .ok (.getfield 180, 3) := by decide +kernel
theorem d_Model_token_28 : decode b_Model_token 28 = .ok (.iload_n 3, 1) := by decide +kernel
theorem d_Model_token_29 : decode b_Model_token 29 = .ok (.iastore, 1) := by decide +kernel
theorem d_Model_token_30 : decode b_Model_token 30 = .ok (.aload_n 0, 1) := by decide +kernel
theorem d_Model_token_31 : decode b_Model_token 31 = .ok (.getfield 30, 3) := by decide +kernel
theorem d_Model_token_34 : decode b_Model_token 34 = .ok (.aload_n 0, 1) := by decide +kernel
theorem d_Model_token_35 : decode b_Model_token 35 = .ok (.getfield 180, 3) := by decide +kernel
theorem d_Model_token_38 : decode b_Model_token 38 = .ok (.lload 4, 2) := by decide +kernel
theorem d_Model_token_40 : decode b_Model_token 40 = .ok (.lastore, 1) := by decide +kernel
theorem d_Model_token_41 : decode b_Model_token 41 = .ok (.aload_n 0, 1) := by decide +kernel
theorem d_Model_token_42 : decode b_Model_token 42 = .ok (.dup, 1) := by decide +kernel
theorem d_Model_token_43 : decode b_Model_token 43 = .ok (.getfield 180, 3) := by decide +kernel
theorem d_Model_token_46 : decode b_Model_token 46 = .ok (.iconst 1, 1) := by decide +kernel
theorem d_Model_token_47 : decode b_Model_token 47 = .ok (.iadd, 1) := by decide +kernel
theorem d_Model_token_48 : decode b_Model_token 48 = .ok (.putfield 180, 3) := by decide +kernel
theorem d_Model_token_51 : decode b_Model_token 51 = .ok (.return_, 1) := by decide +kernel
set_option maxHeartbeats 4000000 in
set_option maxRecDepth 100000 in
theorem c_Model_token (l : Launch) {S : St} {x1 : Int32} {x2 : Int32} {x3 : Int32} {x4 : Int64} {S' : St} (h : f_Model_token S x1 x2 x3 x4 = some S') : MV mw l y_Model_token b_Model_token 6 none 0 0 0 0 (fun ad => [.ref (ad 0 0), .int x1, .int x2, .int x3, .long x4]) aT aE S S' := by
  refine MV_of "LawfulLotsModel" rfl (by decide) (fun _ => Nat.le_of_ble_eq_true rfl) ?_
  intro p e s m args below meth c D ar ad A Q ls hP F hK hA hw hl hQ
  have hl : lv_has ls 6 [(0, .ref (ad 0 0)), (1, .int x1), (2, .int x2), (3, .int x3), (4, .long x4)] := hl
  obtain ⟨X_0, eX_0⟩ : ∃ X : St → Prop, X = (fun q => ∀ (H : Heap) (locs : List Loc) (pc : Nat) (ls : Array Slot), decode b_Model_token pc = .ok (.return_, 1) → Bw mw D ar A s.heap H locs ad q → W p l e (RM 0 0) s m args below meth c H locs 0 0 Q (F0 m pc ls [])) := ⟨_, rfl⟩
  have key : ∀ (H : Heap) (locs : List Loc), Bw mw D ar A s.heap H locs ad S → ∀ o, f_Model_token S x1 x2 x3 x4 = some o → X_0 o → W p l e (RM 0 0) s m args below meth c H locs 0 0 Q (F0 m 0 ls []) := by
    intro H locs hw o h ho
    unfold f_Model_token at h
    refine lv_aload_n F.1 F.2.1 d_Model_token_0 rfl (lv_at hl 0 rfl) ?_
    refine mg_0_5 F hK hw lk_1016 d_Model_token_1 ?_
    refine lv_aload_n F.1 F.2.1 d_Model_token_4 rfl (lv_at hl 0 rfl) ?_
    refine mg_0_10 F hK hw lk_1021 d_Model_token_5 ?_
    refine lv_iload_n F.1 F.2.1 d_Model_token_8 rfl (lv_at hl 1 rfl) ?_
    obtain ⟨hi_1, h⟩ := gd_ex h
    obtain ⟨S_2, eS_2, h⟩ := nm_ex h
    refine ms_0_5 F hK hw hi_1 d_Model_token_9 eS_2 (fun H locs hw => ?_)
    refine lv_aload_n F.1 F.2.1 d_Model_token_10 rfl (lv_at hl 0 rfl) ?_
    refine mg_0_6 F hK hw lk_1017 d_Model_token_11 ?_
    refine lv_aload_n F.1 F.2.1 d_Model_token_14 rfl (lv_at hl 0 rfl) ?_
    refine mg_0_10 F hK hw lk_1021 d_Model_token_15 ?_
    refine lv_iload_n F.1 F.2.1 d_Model_token_18 rfl (lv_at hl 2 rfl) ?_
    obtain ⟨hi_3, h⟩ := gd_ex h
    obtain ⟨S_4, eS_4, h⟩ := nm_ex h
    refine ms_0_6 F hK hw hi_3 d_Model_token_19 eS_4 (fun H locs hw => ?_)
    refine lv_aload_n F.1 F.2.1 d_Model_token_20 rfl (lv_at hl 0 rfl) ?_
    refine mg_0_7 F hK hw lk_1018 d_Model_token_21 ?_
    refine lv_aload_n F.1 F.2.1 d_Model_token_24 rfl (lv_at hl 0 rfl) ?_
    refine mg_0_10 F hK hw lk_1021 d_Model_token_25 ?_
    refine lv_iload_n F.1 F.2.1 d_Model_token_28 rfl (lv_at hl 3 rfl) ?_
    obtain ⟨hi_5, h⟩ := gd_ex h
    obtain ⟨S_6, eS_6, h⟩ := nm_ex h
    refine ms_0_7 F hK hw hi_5 d_Model_token_29 eS_6 (fun H locs hw => ?_)
    refine lv_aload_n F.1 F.2.1 d_Model_token_30 rfl (lv_at hl 0 rfl) ?_
    refine mg_0_8 F hK hw lk_1019 d_Model_token_31 ?_
    refine lv_aload_n F.1 F.2.1 d_Model_token_34 rfl (lv_at hl 0 rfl) ?_
    refine mg_0_10 F hK hw lk_1021 d_Model_token_35 ?_
    refine lv_lload F.1 F.2.1 d_Model_token_38 (lv_at hl 4 rfl) ?_
    obtain ⟨hi_7, h⟩ := gd_ex h
    obtain ⟨S_8, eS_8, h⟩ := nm_ex h
    refine ms_0_8 F hK hw hi_7 d_Model_token_40 eS_8 (fun H locs hw => ?_)
    refine lv_aload_n F.1 F.2.1 d_Model_token_41 rfl (lv_at hl 0 rfl) ?_
    refine lv_dup F.1 F.2.1 d_Model_token_42 rfl ?_
    refine mg_0_10 F hK hw lk_1021 d_Model_token_43 ?_
    refine lv_iconst (v := 1) F.1 F.2.1 d_Model_token_46 (by decide) ?_
    refine lv_iadd F.1 F.2.1 d_Model_token_47 ?_
    obtain ⟨S_9, eS_9, h⟩ := nm_ex h
    refine mp_0_10 F hK hw lk_1021 d_Model_token_48 eS_9 (fun H locs hw => ?_)
    cases h
    have ho : X_0 _ := ho
    rw [eX_0] at ho
    exact ho H locs _ ls d_Model_token_51 hw
  exact key _ _ hw _ h (by rw [eX_0]; exact fun H locs pc ls hd hw => hQ H locs pc ls ad rfl hd hw)
theorem d_Model_sign_0 : decode b_Model_sign 0 = .ok (.iload_n 3, 1) := by decide +kernel
theorem d_Model_sign_1 : decode b_Model_sign 1 = .ok (.bipush 61, 2) := by decide +kernel
theorem d_Model_sign_3 : decode b_Model_sign 3 = .ok (.if_icmp .eq 7, 3) := by decide +kernel
theorem d_Model_sign_6 : decode b_Model_sign 6 = .ok (.iconst 0, 1) := by decide +kernel
theorem d_Model_sign_7 : decode b_Model_sign 7 = .ok (.goto 35, 3) := by decide +kernel
theorem d_Model_sign_10 : decode b_Model_sign 10 = .ok (.iload_n 2, 1) := by decide +kernel
theorem d_Model_sign_11 : decode b_Model_sign 11 = .ok (.bipush 61, 2) := by decide +kernel
theorem d_Model_sign_13 : decode b_Model_sign 13 = .ok (.if_icmp .ne 7, 3) := by decide +kernel
theorem d_Model_sign_16 : decode b_Model_sign 16 = .ok (.iconst 4, 1) := by decide +kernel
theorem d_Model_sign_17 : decode b_Model_sign 17 = .ok (.goto 25, 3) := by decide +kernel
theorem d_Model_sign_20 : decode b_Model_sign 20 = .ok (.iload_n 2, 1) := by decide +kernel
theorem d_Model_sign_21 : decode b_Model_sign 21 = .ok (.bipush 33, 2) := by decide +kernel
theorem d_Model_sign_23 : decode b_Model_sign 23 = .ok (.if_icmp .ne 7, 3) := by decide +kernel
theorem d_Model_sign_26 : decode b_Model_sign 26 = .ok (.iconst 5, 1) := by decide +kernel
theorem d_Model_sign_27 : decode b_Model_sign 27 = .ok (.goto 15, 3) := by decide +kernel
theorem d_Model_sign_30 : decode b_Model_sign 30 = .ok (.iload_n 2, 1) := by decide +kernel
theorem d_Model_sign_31 : decode b_Model_sign 31 = .ok (.bipush 60, 2) := by decide +kernel
theorem d_Model_sign_33 : decode b_Model_sign 33 = .ok (.if_icmp .ne 8, 3) := by decide +kernel
theorem d_Model_sign_36 : decode b_Model_sign 36 = .ok (.bipush 7, 2) := by decide +kernel
theorem d_Model_sign_38 : decode b_Model_sign 38 = .ok (.goto 4, 3) := by decide +kernel
theorem d_Model_sign_41 : decode b_Model_sign 41 = .ok (.iconst 0, 1) := by decide +kernel
theorem d_Model_sign_42 : decode b_Model_sign 42 = .ok (.istore 4, 2) := by decide +kernel
theorem d_Model_sign_44 : decode b_Model_sign 44 = .ok (.iconst 3, 1) := by decide +kernel
theorem d_Model_sign_45 : decode b_Model_sign 45 = .ok (.istore 5, 2) := by decide +kernel
theorem d_Model_sign_47 : decode b_Model_sign 47 = .ok (.iload 4, 2) := by decide +kernel
theorem d_Model_sign_49 : decode b_Model_sign 49 = .ok (.ifCond .le 10, 3) := by decide +kernel
theorem d_Model_sign_52 : decode b_Model_sign 52 = .ok (.iload 4, 2) := by decide +kernel
theorem d_Model_sign_54 : decode b_Model_sign 54 = .ok (.istore 5, 2) := by decide +kernel
theorem d_Model_sign_56 : decode b_Model_sign 56 = .ok (.goto 91, 3) := by decide +kernel
theorem d_Model_sign_59 : decode b_Model_sign 59 = .ok (.iload_n 2, 1) := by decide +kernel
theorem d_Model_sign_60 : decode b_Model_sign 60 = .ok (.bipush 59, 2) := by decide +kernel
theorem d_Model_sign_62 : decode b_Model_sign 62 = .ok (.if_icmp .ne 10, 3) := by decide +kernel
theorem d_Model_sign_65 : decode b_Model_sign 65 = .ok (.bipush 8, 2) := by decide +kernel
theorem d_Model_sign_67 : decode b_Model_sign 67 = .ok (.istore 5, 2) := by decide +kernel
theorem d_Model_sign_69 : decode b_Model_sign 69 = .ok (.goto 78, 3) := by decide +kernel
theorem d_Model_sign_72 : decode b_Model_sign 72 = .ok (.iload_n 2, 1) := by decide +kernel
theorem d_Model_sign_73 : decode b_Model_sign 73 = .ok (.bipush 40, 2) := by decide +kernel
theorem d_Model_sign_75 : decode b_Model_sign 75 = .ok (.if_icmp .ne 10, 3) := by decide +kernel
theorem d_Model_sign_78 : decode b_Model_sign 78 = .ok (.bipush 9, 2) := by decide +kernel
theorem d_Model_sign_80 : decode b_Model_sign 80 = .ok (.istore 5, 2) := by decide +kernel
theorem d_Model_sign_82 : decode b_Model_sign 82 = .ok (.goto 65, 3) := by decide +kernel
theorem d_Model_sign_85 : decode b_Model_sign 85 = .ok (.iload_n 2, 1) := by decide +kernel
theorem d_Model_sign_86 : decode b_Model_sign 86 = .ok (.bipush 41, 2) := by decide +kernel
theorem d_Model_sign_88 : decode b_Model_sign 88 = .ok (.if_icmp .ne 10, 3) := by decide +kernel
theorem d_Model_sign_91 : decode b_Model_sign 91 = .ok (.bipush 10, 2) := by decide +kernel
theorem d_Model_sign_93 : decode b_Model_sign 93 = .ok (.istore 5, 2) := by decide +kernel
theorem d_Model_sign_95 : decode b_Model_sign 95 = .ok (.goto 52, 3) := by decide +kernel
theorem d_Model_sign_98 : decode b_Model_sign 98 = .ok (.iload_n 2, 1) := by decide +kernel
theorem d_Model_sign_99 : decode b_Model_sign 99 = .ok (.bipush 43, 2) := by decide +kernel
theorem d_Model_sign_101 : decode b_Model_sign 101 = .ok (.if_icmp .ne 10, 3) := by decide +kernel
theorem d_Model_sign_104 : decode b_Model_sign 104 = .ok (.bipush 11, 2) := by decide +kernel
theorem d_Model_sign_106 : decode b_Model_sign 106 = .ok (.istore 5, 2) := by decide +kernel
theorem d_Model_sign_108 : decode b_Model_sign 108 = .ok (.goto 39, 3) := by decide +kernel
theorem d_Model_sign_111 : decode b_Model_sign 111 = .ok (.iload_n 2, 1) := by decide +kernel
theorem d_Model_sign_112 : decode b_Model_sign 112 = .ok (.bipush 45, 2) := by decide +kernel
theorem d_Model_sign_114 : decode b_Model_sign 114 = .ok (.if_icmp .ne 10, 3) := by decide +kernel
theorem d_Model_sign_117 : decode b_Model_sign 117 = .ok (.bipush 12, 2) := by decide +kernel
theorem d_Model_sign_119 : decode b_Model_sign 119 = .ok (.istore 5, 2) := by decide +kernel
theorem d_Model_sign_121 : decode b_Model_sign 121 = .ok (.goto 26, 3) := by decide +kernel
theorem d_Model_sign_124 : decode b_Model_sign 124 = .ok (.iload_n 2, 1) := by decide +kernel
theorem d_Model_sign_125 : decode b_Model_sign 125 = .ok (.bipush 42, 2) := by decide +kernel
theorem d_Model_sign_127 : decode b_Model_sign 127 = .ok (.if_icmp .ne 10, 3) := by decide +kernel
theorem d_Model_sign_130 : decode b_Model_sign 130 = .ok (.bipush 13, 2) := by decide +kernel
theorem d_Model_sign_132 : decode b_Model_sign 132 = .ok (.istore 5, 2) := by decide +kernel
theorem d_Model_sign_134 : decode b_Model_sign 134 = .ok (.goto 13, 3) := by decide +kernel
theorem d_Model_sign_137 : decode b_Model_sign 137 = .ok (.iload_n 2, 1) := by decide +kernel
theorem d_Model_sign_138 : decode b_Model_sign 138 = .ok (.bipush 60, 2) := by decide +kernel
theorem d_Model_sign_140 : decode b_Model_sign 140 = .ok (.if_icmp .ne 7, 3) := by decide +kernel
theorem d_Model_sign_143 : decode b_Model_sign 143 = .ok (.bipush 6, 2) := by decide +kernel
theorem d_Model_sign_145 : decode b_Model_sign 145 = .ok (.istore 5, 2) := by decide +kernel
theorem d_Model_sign_147 : decode b_Model_sign 147 = .ok (.aload_n 0, 1) := by decide +kernel
theorem d_Model_sign_148 : decode b_Model_sign 148 = .ok (.iload 5, 2) := by decide +kernel
theorem d_Model_sign_150 : decode b_Model_sign 150 = .ok (.iload_n 1, 1) := by decide +kernel
theorem d_Model_sign_151 : decode b_Model_sign 151 = .ok (.iconst 0, 1) := by decide +kernel
theorem d_Model_sign_152 : decode b_Model_sign 152 = .ok (.lconst 0, 1) := by decide +kernel
theorem d_Model_sign_153 : decode b_Model_sign 153 = .ok (.invokevirtual 187, 3) := by decide +kernel
theorem d_Model_sign_156 : decode b_Model_sign 156 = .ok (.iload 4, 2) := by decide +kernel
theorem d_Model_sign_158 : decode b_Model_sign 158 = .ok (.ifCond .le 7, 3) := by decide +kernel
theorem d_Model_sign_161 : decode b_Model_sign 161 = .ok (.iconst 2, 1) := by decide +kernel
theorem d_Model_sign_162 : decode b_Model_sign 162 = .ok (.goto 4, 3) := by decide +kernel
theorem d_Model_sign_165 : decode b_Model_sign 165 = .ok (.iconst 1, 1) := by decide +kernel
theorem d_Model_sign_166 : decode b_Model_sign 166 = .ok (.ireturn, 1) := by decide +kernel
set_option maxHeartbeats 4000000 in
set_option maxRecDepth 100000 in
theorem c_Model_sign (l : Launch) {S : St} {x1 : Int32} {x2 : Int32} {x3 : Int32} {S' : St} {r : Int32} (h : f_Model_sign S x1 x2 x3 = some (r, S')) : MI mw l y_Model_sign b_Model_sign 6 (some .int) 1 25 0 0 (fun ad => [.ref (ad 0 0), .int x1, .int x2, .int x3]) aT aE S r S' := by
  refine MI_of "LawfulLotsModel" rfl (by decide) (fun _ => Nat.le_of_ble_eq_true rfl) ?_
  intro p e s m args below meth c D ar ad A Q ls hP F hK hA hw hl hQ
  have hl : lv_has ls 6 [(0, .ref (ad 0 0)), (1, .int x1), (2, .int x2), (3, .int x3)] := hl
  obtain ⟨X_0, eX_0⟩ : ∃ X : (Int32 × St) → Prop, X = (fun q => ∀ (H : Heap) (locs : List Loc) (pc : Nat) (ls : Array Slot), decode b_Model_sign pc = .ok (.ireturn, 1) → Bw mw D ar A s.heap H locs ad q.2 → W p l e (RM 1 25) s m args below meth c H locs 0 0 Q (F0 m pc ls [.int q.1])) := ⟨_, rfl⟩
  have key : ∀ (H : Heap) (locs : List Loc), Bw mw D ar A s.heap H locs ad S → ∀ o, f_Model_sign S x1 x2 x3 = some o → X_0 o → W p l e (RM 1 25) s m args below meth c H locs 0 0 Q (F0 m 0 ls []) := by
    intro H locs hw o h ho
    unfold f_Model_sign at h
    have J_166 : ∀ (S : St) (t0 : Int32) (H : Heap) (locs : List Loc) (ls : Array Slot), Bw mw D ar A s.heap H locs ad S → lv_has ls 6 [] → ∀ o, Model_sign_j166 S t0 = some o → X_0 o → W p l e (RM 1 25) s m args below meth c H locs 0 0 Q (F0 m 166 ls [.int t0]) := by
      intro S t0 H locs ls hw hl o h ho
      unfold Model_sign_j166 at h
      cases h
      have ho : X_0 _ := ho
      rw [eX_0] at ho
      exact ho H locs _ ls d_Model_sign_166 hw
    have J_147 : ∀ (S : St) (x4 : Int32) (x5 : Int32) (H : Heap) (locs : List Loc) (ls : Array Slot), Bw mw D ar A s.heap H locs ad S → lv_has ls 6 [(0, .ref (ad 0 0)), (1, .int x1), (4, .int x4), (5, .int x5)] → ∀ o, Model_sign_j147 S x1 x4 x5 = some o → X_0 o → W p l e (RM 1 25) s m args below meth c H locs 0 0 Q (F0 m 147 ls []) := by
      intro S x4 x5 H locs ls hw hl o h ho
      unfold Model_sign_j147 at h
      refine lv_aload_n F.1 F.2.1 d_Model_sign_147 rfl (lv_at hl 0 rfl) ?_
      refine lv_iload F.1 F.2.1 d_Model_sign_148 (lv_at hl 3 rfl) ?_
      refine lv_iload_n F.1 F.2.1 d_Model_sign_150 rfl (lv_at hl 1 rfl) ?_
      refine lv_iconst (v := 0) F.1 F.2.1 d_Model_sign_151 (by decide) ?_
      refine lv_lconst (v := 0) F.1 F.2.1 d_Model_sign_152 (by decide) ?_
      obtain ⟨S_14, hc_13, h⟩ := bd_ex h
      refine cV_v F hA rfl hK hw (c_Model_token l hc_13) trivial rfl (good_V lk_1238 lk_1240 ls_60 lk_10 lk_1241) (mr_0 hK hw) hd_Model_token ⟨Nat.le_of_ble_eq_true rfl, Nat.le_of_ble_eq_true rfl⟩ rfl hl.1 rfl (Nat.le_of_ble_eq_true rfl) d_Model_sign_153 ⟨(Nat.zero_le _), (Nat.zero_le _)⟩ (fun H locs hw => ?_)
      refine lv_iload F.1 F.2.1 d_Model_sign_156 (lv_at hl 2 rfl) ?_
      refine lv_if_le (tgt := 165) F.1 F.2.1 d_Model_sign_158 (by decide) (fun c_15 => ?_) (fun c_15 => ?_)
      · replace h := ip c_15 h
        refine lv_iconst (v := 1) F.1 F.2.1 d_Model_sign_165 (by decide) ?_
        exact J_166 S_14 (1 : Int32) H locs ls hw (lv_sub hl [] rfl) o h ho
      · replace h := iq c_15 h
        refine lv_iconst (v := 2) F.1 F.2.1 d_Model_sign_161 (by decide) ?_
        refine lv_goto (tgt := 166) F.1 F.2.1 d_Model_sign_162 (by decide) ?_
        exact J_166 S_14 (2 : Int32) H locs ls hw (lv_sub hl [] rfl) o h ho
    have J_42 : ∀ (S : St) (t0 : Int32) (H : Heap) (locs : List Loc) (ls : Array Slot), Bw mw D ar A s.heap H locs ad S → lv_has ls 6 [(0, .ref (ad 0 0)), (1, .int x1), (2, .int x2)] → ∀ o, Model_sign_j42 S x1 x2 t0 = some o → X_0 o → W p l e (RM 1 25) s m args below meth c H locs 0 0 Q (F0 m 42 ls [.int t0]) := by
      intro S t0 H locs ls hw hl o h ho
      unfold Model_sign_j42 at h
      refine lv_istore (lv' := [(4, .int t0), (0, .ref (ad 0 0)), (1, .int x1), (2, .int x2)]) F.1 F.2.1 d_Model_sign_42 hl (by decide) rfl (fun ls hl => ?_)
      refine lv_iconst (v := 3) F.1 F.2.1 d_Model_sign_44 (by decide) ?_
      refine lv_istore (lv' := [(5, .int (3 : Int32)), (4, .int t0), (0, .ref (ad 0 0)), (1, .int x1), (2, .int x2)]) F.1 F.2.1 d_Model_sign_45 hl (by decide) rfl (fun ls hl => ?_)
      refine lv_iload F.1 F.2.1 d_Model_sign_47 (lv_at hl 1 rfl) ?_
      refine lv_if_le (tgt := 59) F.1 F.2.1 d_Model_sign_49 (by decide) (fun c_5 => ?_) (fun c_5 => ?_)
      · replace h := ip c_5 h
        refine lv_iload_n F.1 F.2.1 d_Model_sign_59 rfl (lv_at hl 4 rfl) ?_
        refine lv_bipush (v := 59) F.1 F.2.1 d_Model_sign_60 (by decide) ?_
        refine lv_icmp_ne (tgt := 72) F.1 F.2.1 d_Model_sign_62 (by decide) (fun c_6 => ?_) (fun c_6 => ?_)
        · replace h := iq c_6 h
          refine lv_iload_n F.1 F.2.1 d_Model_sign_72 rfl (lv_at hl 4 rfl) ?_
          refine lv_bipush (v := 40) F.1 F.2.1 d_Model_sign_73 (by decide) ?_
          refine lv_icmp_ne (tgt := 85) F.1 F.2.1 d_Model_sign_75 (by decide) (fun c_7 => ?_) (fun c_7 => ?_)
          · replace h := iq c_7 h
            refine lv_iload_n F.1 F.2.1 d_Model_sign_85 rfl (lv_at hl 4 rfl) ?_
            refine lv_bipush (v := 41) F.1 F.2.1 d_Model_sign_86 (by decide) ?_
            refine lv_icmp_ne (tgt := 98) F.1 F.2.1 d_Model_sign_88 (by decide) (fun c_8 => ?_) (fun c_8 => ?_)
            · replace h := iq c_8 h
              refine lv_iload_n F.1 F.2.1 d_Model_sign_98 rfl (lv_at hl 4 rfl) ?_
              refine lv_bipush (v := 43) F.1 F.2.1 d_Model_sign_99 (by decide) ?_
              refine lv_icmp_ne (tgt := 111) F.1 F.2.1 d_Model_sign_101 (by decide) (fun c_9 => ?_) (fun c_9 => ?_)
              · replace h := iq c_9 h
                refine lv_iload_n F.1 F.2.1 d_Model_sign_111 rfl (lv_at hl 4 rfl) ?_
                refine lv_bipush (v := 45) F.1 F.2.1 d_Model_sign_112 (by decide) ?_
                refine lv_icmp_ne (tgt := 124) F.1 F.2.1 d_Model_sign_114 (by decide) (fun c_10 => ?_) (fun c_10 => ?_)
                · replace h := iq c_10 h
                  refine lv_iload_n F.1 F.2.1 d_Model_sign_124 rfl (lv_at hl 4 rfl) ?_
                  refine lv_bipush (v := 42) F.1 F.2.1 d_Model_sign_125 (by decide) ?_
                  refine lv_icmp_ne (tgt := 137) F.1 F.2.1 d_Model_sign_127 (by decide) (fun c_11 => ?_) (fun c_11 => ?_)
                  · replace h := iq c_11 h
                    refine lv_iload_n F.1 F.2.1 d_Model_sign_137 rfl (lv_at hl 4 rfl) ?_
                    refine lv_bipush (v := 60) F.1 F.2.1 d_Model_sign_138 (by decide) ?_
                    refine lv_icmp_ne (tgt := 147) F.1 F.2.1 d_Model_sign_140 (by decide) (fun c_12 => ?_) (fun c_12 => ?_)
                    · replace h := iq c_12 h
                      exact J_147 S t0 (3 : Int32) H locs ls hw (lv_sub hl [2, 3, 1, 0] rfl) o h ho
                    · replace h := ip c_12 h
                      refine lv_bipush (v := 6) F.1 F.2.1 d_Model_sign_143 (by decide) ?_
                      refine lv_istore (lv' := [(5, .int (6 : Int32)), (4, .int t0), (0, .ref (ad 0 0)), (1, .int x1), (2, .int x2)]) F.1 F.2.1 d_Model_sign_145 hl (by decide) rfl (fun ls hl => ?_)
                      exact J_147 S t0 (6 : Int32) H locs ls hw (lv_sub hl [2, 3, 1, 0] rfl) o h ho
                  · replace h := ip c_11 h
                    refine lv_bipush (v := 13) F.1 F.2.1 d_Model_sign_130 (by decide) ?_
                    refine lv_istore (lv' := [(5, .int (13 : Int32)), (4, .int t0), (0, .ref (ad 0 0)), (1, .int x1), (2, .int x2)]) F.1 F.2.1 d_Model_sign_132 hl (by decide) rfl (fun ls hl => ?_)
                    refine lv_goto (tgt := 147) F.1 F.2.1 d_Model_sign_134 (by decide) ?_
                    exact J_147 S t0 (13 : Int32) H locs ls hw (lv_sub hl [2, 3, 1, 0] rfl) o h ho
                · replace h := ip c_10 h
                  refine lv_bipush (v := 12) F.1 F.2.1 d_Model_sign_117 (by decide) ?_
                  refine lv_istore (lv' := [(5, .int (12 : Int32)), (4, .int t0), (0, .ref (ad 0 0)), (1, .int x1), (2, .int x2)]) F.1 F.2.1 d_Model_sign_119 hl (by decide) rfl (fun ls hl => ?_)
                  refine lv_goto (tgt := 147) F.1 F.2.1 d_Model_sign_121 (by decide) ?_
                  exact J_147 S t0 (12 : Int32) H locs ls hw (lv_sub hl [2, 3, 1, 0] rfl) o h ho
              · replace h := ip c_9 h
                refine lv_bipush (v := 11) F.1 F.2.1 d_Model_sign_104 (by decide) ?_
                refine lv_istore (lv' := [(5, .int (11 : Int32)), (4, .int t0), (0, .ref (ad 0 0)), (1, .int x1), (2, .int x2)]) F.1 F.2.1 d_Model_sign_106 hl (by decide) rfl (fun ls hl => ?_)
                refine lv_goto (tgt := 147) F.1 F.2.1 d_Model_sign_108 (by decide) ?_
                exact J_147 S t0 (11 : Int32) H locs ls hw (lv_sub hl [2, 3, 1, 0] rfl) o h ho
            · replace h := ip c_8 h
              refine lv_bipush (v := 10) F.1 F.2.1 d_Model_sign_91 (by decide) ?_
              refine lv_istore (lv' := [(5, .int (10 : Int32)), (4, .int t0), (0, .ref (ad 0 0)), (1, .int x1), (2, .int x2)]) F.1 F.2.1 d_Model_sign_93 hl (by decide) rfl (fun ls hl => ?_)
              refine lv_goto (tgt := 147) F.1 F.2.1 d_Model_sign_95 (by decide) ?_
              exact J_147 S t0 (10 : Int32) H locs ls hw (lv_sub hl [2, 3, 1, 0] rfl) o h ho
          · replace h := ip c_7 h
            refine lv_bipush (v := 9) F.1 F.2.1 d_Model_sign_78 (by decide) ?_
            refine lv_istore (lv' := [(5, .int (9 : Int32)), (4, .int t0), (0, .ref (ad 0 0)), (1, .int x1), (2, .int x2)]) F.1 F.2.1 d_Model_sign_80 hl (by decide) rfl (fun ls hl => ?_)
            refine lv_goto (tgt := 147) F.1 F.2.1 d_Model_sign_82 (by decide) ?_
            exact J_147 S t0 (9 : Int32) H locs ls hw (lv_sub hl [2, 3, 1, 0] rfl) o h ho
        · replace h := ip c_6 h
          refine lv_bipush (v := 8) F.1 F.2.1 d_Model_sign_65 (by decide) ?_
          refine lv_istore (lv' := [(5, .int (8 : Int32)), (4, .int t0), (0, .ref (ad 0 0)), (1, .int x1), (2, .int x2)]) F.1 F.2.1 d_Model_sign_67 hl (by decide) rfl (fun ls hl => ?_)
          refine lv_goto (tgt := 147) F.1 F.2.1 d_Model_sign_69 (by decide) ?_
          exact J_147 S t0 (8 : Int32) H locs ls hw (lv_sub hl [2, 3, 1, 0] rfl) o h ho
      · replace h := iq c_5 h
        refine lv_iload F.1 F.2.1 d_Model_sign_52 (lv_at hl 1 rfl) ?_
        refine lv_istore (lv' := [(5, .int t0), (4, .int t0), (0, .ref (ad 0 0)), (1, .int x1), (2, .int x2)]) F.1 F.2.1 d_Model_sign_54 hl (by decide) rfl (fun ls hl => ?_)
        refine lv_goto (tgt := 147) F.1 F.2.1 d_Model_sign_56 (by decide) ?_
        exact J_147 S t0 t0 H locs ls hw (lv_sub hl [2, 3, 1, 0] rfl) o h ho
    refine lv_iload_n F.1 F.2.1 d_Model_sign_0 rfl (lv_at hl 3 rfl) ?_
    refine lv_bipush (v := 61) F.1 F.2.1 d_Model_sign_1 (by decide) ?_
    refine lv_icmp_eq (tgt := 10) F.1 F.2.1 d_Model_sign_3 (by decide) (fun c_1 => ?_) (fun c_1 => ?_)
    · replace h := ip c_1 h
      refine lv_iload_n F.1 F.2.1 d_Model_sign_10 rfl (lv_at hl 2 rfl) ?_
      refine lv_bipush (v := 61) F.1 F.2.1 d_Model_sign_11 (by decide) ?_
      refine lv_icmp_ne (tgt := 20) F.1 F.2.1 d_Model_sign_13 (by decide) (fun c_2 => ?_) (fun c_2 => ?_)
      · replace h := iq c_2 h
        refine lv_iload_n F.1 F.2.1 d_Model_sign_20 rfl (lv_at hl 2 rfl) ?_
        refine lv_bipush (v := 33) F.1 F.2.1 d_Model_sign_21 (by decide) ?_
        refine lv_icmp_ne (tgt := 30) F.1 F.2.1 d_Model_sign_23 (by decide) (fun c_3 => ?_) (fun c_3 => ?_)
        · replace h := iq c_3 h
          refine lv_iload_n F.1 F.2.1 d_Model_sign_30 rfl (lv_at hl 2 rfl) ?_
          refine lv_bipush (v := 60) F.1 F.2.1 d_Model_sign_31 (by decide) ?_
          refine lv_icmp_ne (tgt := 41) F.1 F.2.1 d_Model_sign_33 (by decide) (fun c_4 => ?_) (fun c_4 => ?_)
          · replace h := iq c_4 h
            refine lv_iconst (v := 0) F.1 F.2.1 d_Model_sign_41 (by decide) ?_
            exact J_42 S (0 : Int32) H locs ls hw (lv_sub hl [0, 1, 2] rfl) o h ho
          · replace h := ip c_4 h
            refine lv_bipush (v := 7) F.1 F.2.1 d_Model_sign_36 (by decide) ?_
            refine lv_goto (tgt := 42) F.1 F.2.1 d_Model_sign_38 (by decide) ?_
            exact J_42 S (7 : Int32) H locs ls hw (lv_sub hl [0, 1, 2] rfl) o h ho
        · replace h := ip c_3 h
          refine lv_iconst (v := 5) F.1 F.2.1 d_Model_sign_26 (by decide) ?_
          refine lv_goto (tgt := 42) F.1 F.2.1 d_Model_sign_27 (by decide) ?_
          exact J_42 S (5 : Int32) H locs ls hw (lv_sub hl [0, 1, 2] rfl) o h ho
      · replace h := ip c_2 h
        refine lv_iconst (v := 4) F.1 F.2.1 d_Model_sign_16 (by decide) ?_
        refine lv_goto (tgt := 42) F.1 F.2.1 d_Model_sign_17 (by decide) ?_
        exact J_42 S (4 : Int32) H locs ls hw (lv_sub hl [0, 1, 2] rfl) o h ho
    · replace h := iq c_1 h
      refine lv_iconst (v := 0) F.1 F.2.1 d_Model_sign_6 (by decide) ?_
      refine lv_goto (tgt := 42) F.1 F.2.1 d_Model_sign_7 (by decide) ?_
      exact J_42 S (0 : Int32) H locs ls hw (lv_sub hl [0, 1, 2] rfl) o h ho
  exact key _ _ hw _ h (by rw [eX_0]; exact fun H locs pc ls hd hw => hQ H locs pc ls ad rfl hd hw)
theorem d_Model_cut_0 : decode b_Model_cut 0 = .ok (.aload_n 0, 1) := by decide +kernel
theorem d_Model_cut_1 : decode b_Model_cut 1 = .ok (.iconst 0, 1) := by decide +kernel
theorem d_Model_cut_2 : decode b_Model_cut 2 = .ok (.putfield 180, 3) := by decide +kernel
theorem d_Model_cut_5 : decode b_Model_cut 5 = .ok (.iconst 0, 1) := by decide +kernel
theorem d_Model_cut_6 : decode b_Model_cut 6 = .ok (.istore_n 1, 1) := by decide +kernel
theorem d_Model_cut_7 : decode b_Model_cut 7 = .ok (.aload_n 0, 1) := by decide +kernel
theorem d_Model_cut_8 : decode b_Model_cut 8 = .ok (.getfield 180, 3) := by decide +kernel
theorem d_Model_cut_11 : decode b_Model_cut 11 = .ok (.sipush 400, 3) := by decide +kernel
theorem d_Model_cut_14 : decode b_Model_cut 14 = .ok (.if_icmp .gt 293, 3) := by decide +kernel
theorem d_Model_cut_17 : decode b_Model_cut 17 = .ok (.aload_n 0, 1) := by decide +kernel
theorem d_Model_cut_18 : decode b_Model_cut 18 = .ok (.iload_n 1, 1) := by decide +kernel
theorem d_Model_cut_19 : decode b_Model_cut 19 = .ok (.invokevirtual 183, 3) := by decide +kernel
theorem d_Model_cut_22 : decode b_Model_cut 22 = .ok (.istore_n 2, 1) := by decide +kernel
theorem d_Model_cut_23 : decode b_Model_cut 23 = .ok (.iload_n 1, 1) := by decide +kernel
theorem d_Model_cut_24 : decode b_Model_cut 24 = .ok (.aload_n 0, 1) := by decide +kernel
theorem d_Model_cut_25 : decode b_Model_cut 25 = .ok (.getfield 167, 3) := by decide +kernel
theorem d_Model_cut_28 : decode b_Model_cut 28 = .ok (.if_icmp .lt 15, 3) := by decide +kernel
theorem d_Model_cut_31 : decode b_Model_cut 31 = .ok (.aload_n 0, 1) := by decide +kernel
theorem d_Model_cut_32 : decode b_Model_cut 32 = .ok (.iconst 0, 1) := by decide +kernel
theorem d_Model_cut_33 : decode b_Model_cut 33 = .ok (.aload_n 0, 1) := by decide +kernel
theorem d_Model_cut_34 : decode b_Model_cut 34 = .ok (.getfield 167, 3) := by decide +kernel
theorem d_Model_cut_37 : decode b_Model_cut 37 = .ok (.iconst 0, 1) := by decide +kernel
theorem d_Model_cut_38 : decode b_Model_cut 38 = .ok (.lconst 0, 1) := by decide +kernel
theorem d_Model_cut_39 : decode b_Model_cut 39 = .ok (.invokevirtual 187, 3) := by decide +kernel
theorem d_Model_cut_42 : decode b_Model_cut 42 = .ok (.return_, 1) := by decide +kernel
theorem d_Model_cut_43 : decode b_Model_cut 43 = .ok (.iload_n 2, 1) := by decide +kernel
theorem d_Model_cut_44 : decode b_Model_cut 44 = .ok (.bipush 9, 2) := by decide +kernel
theorem d_Model_cut_46 : decode b_Model_cut 46 = .ok (.if_icmp .eq 21, 3) := by decide +kernel
theorem d_Model_cut_49 : decode b_Model_cut 49 = .ok (.iload_n 2, 1) := by decide +kernel
theorem d_Model_cut_50 : decode b_Model_cut 50 = .ok (.bipush 10, 2) := by decide +kernel
theorem d_Model_cut_52 : decode b_Model_cut 52 = .ok (.if_icmp .eq 15, 3) := by decide +kernel
theorem d_Model_cut_55 : decode b_Model_cut 55 = .ok (.iload_n 2, 1) := by decide +kernel
theorem d_Model_cut_56 : decode b_Model_cut 56 = .ok (.bipush 13, 2) := by decide +kernel
theorem d_Model_cut_58 : decode b_Model_cut 58 = .ok (.if_icmp .eq 9, 3) := by decide +kernel
theorem d_Model_cut_61 : decode b_Model_cut 61 = .ok (.iload_n 2, 1) := by decide +kernel
theorem d_Model_cut_62 : decode b_Model_cut 62 = .ok (.bipush 32, 2) := by decide +kernel
theorem d_Model_cut_64 : decode b_Model_cut 64 = .ok (.if_icmp .ne 9, 3) := by decide +kernel
theorem d_Model_cut_67 : decode b_Model_cut 67 = .ok (.iinc 1 1, 3) := by decide +kernel
theorem d_Model_cut_70 : decode b_Model_cut 70 = .ok (.goto 234, 3) := by decide +kernel
theorem d_Model_cut_73 : decode b_Model_cut 73 = .ok (.iload_n 2, 1) := by decide +kernel
theorem d_Model_cut_74 : decode b_Model_cut 74 = .ok (.invokestatic 191, 3) := by decide +kernel
theorem d_Model_cut_77 : decode b_Model_cut 77 = .ok (.ifCond .eq 132, 3) := by decide +kernel
theorem d_Model_cut_80 : decode b_Model_cut 80 = .ok (.iconst 0, 1) := by decide +kernel
theorem d_Model_cut_81 : decode b_Model_cut 81 = .ok (.istore_n 3, 1) := by decide +kernel
theorem d_Model_cut_82 : decode b_Model_cut 82 = .ok (.lconst 0, 1) := by decide +kernel
theorem d_Model_cut_83 : decode b_Model_cut 83 = .ok (.lstore 4, 2) := by decide +kernel
theorem d_Model_cut_85 : decode b_Model_cut 85 = .ok (.aload_n 0, 1) := by decide +kernel
theorem d_Model_cut_86 : decode b_Model_cut 86 = .ok (.iload_n 1, 1) := by decide +kernel
theorem d_Model_cut_87 : decode b_Model_cut 87 = .ok (.iload_n 3, 1) := by decide +kernel
theorem d_Model_cut_88 : decode b_Model_cut 88 = .ok (.iadd, 1) := by decide +kernel
theorem d_Model_cut_89 : decode b_Model_cut 89 = .ok (.invokevirtual 183, 3) := by decide +kernel
theorem d_Model_cut_92 : decode b_Model_cut 92 = .ok (.invokestatic 191, 3) := by decide +kernel
theorem d_Model_cut_95 : decode b_Model_cut 95 = .ok (.ifCond .ne 16, 3) := by decide +kernel
theorem d_Model_cut_98 : decode b_Model_cut 98 = .ok (.aload_n 0, 1) := by decide +kernel
theorem d_Model_cut_99 : decode b_Model_cut 99 = .ok (.iload_n 1, 1) := by decide +kernel
theorem d_Model_cut_100 : decode b_Model_cut 100 = .ok (.iload_n 3, 1) := by decide +kernel
theorem d_Model_cut_101 : decode b_Model_cut 101 = .ok (.iadd, 1) := by decide +kernel
theorem d_Model_cut_102 : decode b_Model_cut 102 = .ok (.invokevirtual 183, 3) := by decide +kernel
theorem d_Model_cut_105 : decode b_Model_cut 105 = .ok (.invokestatic 172, 3) := by decide +kernel
theorem d_Model_cut_108 : decode b_Model_cut 108 = .ok (.ifCond .eq 29, 3) := by decide +kernel
theorem d_Model_cut_111 : decode b_Model_cut 111 = .ok (.iload_n 3, 1) := by decide +kernel
theorem d_Model_cut_112 : decode b_Model_cut 112 = .ok (.bipush 8, 2) := by decide +kernel
theorem d_Model_cut_114 : decode b_Model_cut 114 = .ok (.if_icmp .ge 17, 3) := by decide +kernel
theorem d_Model_cut_117 : decode b_Model_cut 117 = .ok (.lload 4, 2) := by decide +kernel
theorem d_Model_cut_119 : decode b_Model_cut 119 = .ok (.aload_n 0, 1) := by decide +kernel
theorem d_Model_cut_120 : decode b_Model_cut 120 = .ok (.iload_n 1, 1) := by decide +kernel
theorem d_Model_cut_121 : decode b_Model_cut 121 = .ok (.iload_n 3, 1) := by decide +kernel
theorem d_Model_cut_122 : decode b_Model_cut 122 = .ok (.iadd, 1) := by decide +kernel
theorem d_Model_cut_123 : decode b_Model_cut 123 = .ok (.invokevirtual 183, 3) := by decide +kernel
theorem d_Model_cut_126 : decode b_Model_cut 126 = .ok (.invokestatic 176, 3) := by decide +kernel
theorem d_Model_cut_129 : decode b_Model_cut 129 = .ok (.lstore 4, 2) := by decide +kernel
theorem d_Model_cut_131 : decode b_Model_cut 131 = .ok (.iinc 3 1, 3) := by decide +kernel
theorem d_Model_cut_134 : decode b_Model_cut 134 = .ok (.goto (-49), 3) := by decide +kernel
theorem d_Model_cut_137 : decode b_Model_cut 137 = .ok (.iload_n 3, 1) := by decide +kernel
theorem d_Model_cut_138 : decode b_Model_cut 138 = .ok (.bipush 8, 2) := by decide +kernel
theorem d_Model_cut_140 : decode b_Model_cut 140 = .ok (.if_icmp .le 7, 3) := by decide +kernel
theorem d_Model_cut_143 : decode b_Model_cut 143 = .ok (.iconst 3, 1) := by decide +kernel
theorem d_Model_cut_144 : decode b_Model_cut 144 = .ok (.goto 4, 3) := by decide +kernel
theorem d_Model_cut_147 : decode b_Model_cut 147 = .ok (.iconst 1, 1) := by decide +kernel
theorem d_Model_cut_148 : decode b_Model_cut 148 = .ok (.istore 6, 2) := by decide +kernel
theorem d_Model_cut_150 : decode b_Model_cut 150 = .ok (.iload_n 3, 1) := by decide +kernel
theorem d_Model_cut_151 : decode b_Model_cut 151 = .ok (.bipush 6, 2) := by decide +kernel
theorem d_Model_cut_153 : decode b_Model_cut 153 = .ok (.if_icmp .gt 39, 3) := by decide +kernel
theorem d_Model_cut_156 : decode b_Model_cut 156 = .ok (.iconst 0, 1) := by decide +kernel
theorem d_Model_cut_157 : decode b_Model_cut 157 = .ok (.istore 7, 2) := by decide +kernel
theorem d_Model_cut_159 : decode b_Model_cut 159 = .ok (.iload 7, 2) := by decide +kernel
theorem d_Model_cut_161 : decode b_Model_cut 161 = .ok (.bipush 13, 2) := by decide +kernel
theorem d_Model_cut_163 : decode b_Model_cut 163 = .ok (.if_icmp .ge 29, 3) := by decide +kernel
theorem d_Model_cut_166 : decode b_Model_cut 166 = .ok (.aload_n 0, 1) := by decide +kernel
theorem d_Model_cut_167 : decode b_Model_cut 167 = .ok (.getfield 34, 3) := by decide +kernel
theorem d_Model_cut_170 : decode b_Model_cut 170 = .ok (.iload 7, 2) := by decide +kernel
theorem d_Model_cut_172 : decode b_Model_cut 172 = .ok (.laload, 1) := by decide +kernel
theorem d_Model_cut_173 : decode b_Model_cut 173 = .ok (.lload 4, 2) := by decide +kernel
theorem d_Model_cut_175 : decode b_Model_cut 175 = .ok (.lcmp, 1) := by decide +kernel
theorem d_Model_cut_176 : decode b_Model_cut 176 = .ok (.ifCond .ne 10, 3) := by decide +kernel
theorem d_Model_cut_179 : decode b_Model_cut 179 = .ok (.bipush 20, 2) := by decide +kernel
theorem d_Model_cut_181 : decode b_Model_cut 181 = .ok (.iload 7, 2) := by decide +kernel
theorem d_Model_cut_183 : decode b_Model_cut 183 = .ok (.iadd, 1) := by decide +kernel
theorem d_Model_cut_184 : decode b_Model_cut 184 = .ok (.istore 6, 2) := by decide +kernel
theorem d_Model_cut_186 : decode b_Model_cut 186 = .ok (.iinc 7 1, 3) := by decide +kernel
theorem d_Model_cut_189 : decode b_Model_cut 189 = .ok (.goto (-30), 3) := by decide +kernel
theorem d_Model_cut_192 : decode b_Model_cut 192 = .ok (.aload_n 0, 1) := by decide +kernel
theorem d_Model_cut_193 : decode b_Model_cut 193 = .ok (.iload 6, 2) := by decide +kernel
theorem d_Model_cut_195 : decode b_Model_cut 195 = .ok (.iload_n 1, 1) := by decide +kernel
theorem d_Model_cut_196 : decode b_Model_cut 196 = .ok (.iconst 0, 1) := by decide +kernel
theorem d_Model_cut_197 : decode b_Model_cut 197 = .ok (.lload 4, 2) := by decide +kernel
theorem d_Model_cut_199 : decode b_Model_cut 199 = .ok (.invokevirtual 187, 3) := by decide +kernel
theorem d_Model_cut_202 : decode b_Model_cut 202 = .ok (.iload_n 1, 1) := by decide +kernel
theorem d_Model_cut_203 : decode b_Model_cut 203 = .ok (.iload_n 3, 1) := by decide +kernel
theorem d_Model_cut_204 : decode b_Model_cut 204 = .ok (.iadd, 1) := by decide +kernel
theorem d_Model_cut_205 : decode b_Model_cut 205 = .ok (.istore_n 1, 1) := by decide +kernel
theorem d_Model_cut_206 : decode b_Model_cut 206 = .ok (.goto 98, 3) := by decide +kernel
theorem d_Model_cut_209 : decode b_Model_cut 209 = .ok (.iload_n 2, 1) := by decide +kernel
theorem d_Model_cut_210 : decode b_Model_cut 210 = .ok (.invokestatic 172, 3) := by decide +kernel
theorem d_Model_cut_213 : decode b_Model_cut 213 = .ok (.ifCond .eq 75, 3) := by decide +kernel
theorem d_Model_cut_216 : decode b_Model_cut 216 = .ok (.iconst 0, 1) := by decide +kernel
theorem d_Model_cut_217 : decode b_Model_cut 217 = .ok (.istore_n 3, 1) := by decide +kernel
theorem d_Model_cut_218 : decode b_Model_cut 218 = .ok (.iconst 0, 1) := by decide +kernel
theorem d_Model_cut_219 : decode b_Model_cut 219 = .ok (.istore 4, 2) := by decide +kernel
theorem d_Model_cut_221 : decode b_Model_cut 221 = .ok (.aload_n 0, 1) := by decide +kernel
theorem d_Model_cut_222 : decode b_Model_cut 222 = .ok (.iload_n 1, 1) := by decide +kernel
theorem d_Model_cut_223 : decode b_Model_cut 223 = .ok (.iload_n 3, 1) := by decide +kernel
theorem d_Model_cut_224 : decode b_Model_cut 224 = .ok (.iadd, 1) := by decide +kernel
theorem d_Model_cut_225 : decode b_Model_cut 225 = .ok (.invokevirtual 183, 3) := by decide +kernel
theorem d_Model_cut_228 : decode b_Model_cut 228 = .ok (.invokestatic 172, 3) := by decide +kernel
theorem d_Model_cut_231 : decode b_Model_cut 231 = .ok (.ifCond .eq 32, 3) := by decide +kernel
theorem d_Model_cut_234 : decode b_Model_cut 234 = .ok (.iload_n 3, 1) := by decide +kernel
theorem d_Model_cut_235 : decode b_Model_cut 235 = .ok (.iconst 4, 1) := by decide +kernel
theorem d_Model_cut_236 : decode b_Model_cut 236 = .ok (.if_icmp .ge 21, 3) := by decide +kernel
theorem d_Model_cut_239 : decode b_Model_cut 239 = .ok (.bipush 10, 2) := by decide +kernel
theorem d_Model_cut_241 : decode b_Model_cut 241 = .ok (.iload 4, 2) := by decide +kernel
theorem d_Model_cut_243 : decode b_Model_cut 243 = .ok (.imul, 1) := by decide +kernel
theorem d_Model_cut_244 : decode b_Model_cut 244 = .ok (.aload_n 0, 1) := by decide +kernel
theorem d_Model_cut_245 : decode b_Model_cut 245 = .ok (.iload_n 1, 1) := by decide +kernel
theorem d_Model_cut_246 : decode b_Model_cut 246 = .ok (.iload_n 3, 1) := by decide +kernel
theorem d_Model_cut_247 : decode b_Model_cut 247 = .ok (.iadd, 1) := by decide +kernel
theorem d_Model_cut_248 : decode b_Model_cut 248 = .ok (.invokevirtual 183, 3) := by decide +kernel
theorem d_Model_cut_251 : decode b_Model_cut 251 = .ok (.iadd, 1) := by decide +kernel
theorem d_Model_cut_252 : decode b_Model_cut 252 = .ok (.bipush 48, 2) := by decide +kernel
theorem d_Model_cut_254 : decode b_Model_cut 254 = .ok (.isub, 1) := by decide +kernel
theorem d_Model_cut_255 : decode b_Model_cut 255 = .ok (.istore 4, 2) := by decide +kernel
theorem d_Model_cut_257 : decode b_Model_cut 257 = .ok (.iinc 3 1, 3) := by decide +kernel
theorem d_Model_cut_260 : decode b_Model_cut 260 = .ok (.goto (-39), 3) := by decide +kernel
theorem d_Model_cut_263 : decode b_Model_cut 263 = .ok (.aload_n 0, 1) := by decide +kernel
theorem d_Model_cut_264 : decode b_Model_cut 264 = .ok (.iload_n 3, 1) := by decide +kernel
theorem d_Model_cut_265 : decode b_Model_cut 265 = .ok (.iconst 4, 1) := by decide +kernel
theorem d_Model_cut_266 : decode b_Model_cut 266 = .ok (.if_icmp .le 7, 3) := by decide +kernel
theorem d_Model_cut_269 : decode b_Model_cut 269 = .ok (.iconst 3, 1) := by decide +kernel
theorem d_Model_cut_270 : decode b_Model_cut 270 = .ok (.goto 4, 3) := by decide +kernel
theorem d_Model_cut_273 : decode b_Model_cut 273 = .ok (.iconst 2, 1) := by decide +kernel
theorem d_Model_cut_274 : decode b_Model_cut 274 = .ok (.iload_n 1, 1) := by decide +kernel
theorem d_Model_cut_275 : decode b_Model_cut 275 = .ok (.iload 4, 2) := by decide +kernel
theorem d_Model_cut_277 : decode b_Model_cut 277 = .ok (.lconst 0, 1) := by decide +kernel
theorem d_Model_cut_278 : decode b_Model_cut 278 = .ok (.invokevirtual 187, 3) := by decide +kernel
theorem d_Model_cut_281 : decode b_Model_cut 281 = .ok (.iload_n 1, 1) := by decide +kernel
theorem d_Model_cut_282 : decode b_Model_cut 282 = .ok (.iload_n 3, 1) := by decide +kernel
theorem d_Model_cut_283 : decode b_Model_cut 283 = .ok (.iadd, 1) := by decide +kernel
theorem d_Model_cut_284 : decode b_Model_cut 284 = .ok (.istore_n 1, 1) := by decide +kernel
theorem d_Model_cut_285 : decode b_Model_cut 285 = .ok (.goto 19, 3) := by decide +kernel
theorem d_Model_cut_288 : decode b_Model_cut 288 = .ok (.iload_n 1, 1) := by decide +kernel
theorem d_Model_cut_289 : decode b_Model_cut 289 = .ok (.aload_n 0, 1) := by decide +kernel
theorem d_Model_cut_290 : decode b_Model_cut 290 = .ok (.iload_n 1, 1) := by decide +kernel
theorem d_Model_cut_291 : decode b_Model_cut 291 = .ok (.iload_n 2, 1) := by decide +kernel
theorem d_Model_cut_292 : decode b_Model_cut 292 = .ok (.aload_n 0, 1) := by decide +kernel
theorem d_Model_cut_293 : decode b_Model_cut 293 = .ok (.iload_n 1, 1) := by decide +kernel
theorem d_Model_cut_294 : decode b_Model_cut 294 = .ok (.iconst 1, 1) := by decide +kernel
theorem d_Model_cut_295 : decode b_Model_cut 295 = .ok (.iadd, 1) := by decide +kernel
theorem d_Model_cut_296 : decode b_Model_cut 296 = .ok (.invokevirtual 183, 3) := by decide +kernel
theorem d_Model_cut_299 : decode b_Model_cut 299 = .ok (.invokevirtual 194, 3) := by decide +kernel
theorem d_Model_cut_302 : decode b_Model_cut 302 = .ok (.iadd, 1) := by decide +kernel
theorem d_Model_cut_303 : decode b_Model_cut 303 = .ok (.istore_n 1, 1) := by decide +kernel
theorem d_Model_cut_304 : decode b_Model_cut 304 = .ok (.goto (-297), 3) := by decide +kernel
theorem d_Model_cut_307 : decode b_Model_cut 307 = .ok (.return_, 1) := by decide +kernel
set_option maxHeartbeats 4000000 in
set_option maxRecDepth 100000 in
theorem c_Model_cut (l : Launch) {S : St} {S' : St} (h : f_Model_cut S = some S') : MV mw l y_Model_cut b_Model_cut 8 none 2 50 0 0 (fun ad => [.ref (ad 0 0)]) aT aE S S' := by
  refine MV_of "LawfulLotsModel" rfl (by decide) (fun _ => Nat.le_of_ble_eq_true rfl) ?_
  intro p e s m args below meth c D ar ad A Q ls hP F hK hA hw hl hQ
  have hl : lv_has ls 8 [(0, .ref (ad 0 0))] := hl
  obtain ⟨X_0, eX_0⟩ : ∃ X : St → Prop, X = (fun q => ∀ (H : Heap) (locs : List Loc) (pc : Nat) (ls : Array Slot), decode b_Model_cut pc = .ok (.return_, 1) → Bw mw D ar A s.heap H locs ad q → W p l e (RM 2 50) s m args below meth c H locs 0 0 Q (F0 m pc ls [])) := ⟨_, rfl⟩
  have key : ∀ (H : Heap) (locs : List Loc), Bw mw D ar A s.heap H locs ad S → ∀ o, f_Model_cut S = some o → X_0 o → W p l e (RM 2 50) s m args below meth c H locs 0 0 Q (F0 m 0 ls []) := by
    intro H locs hw o h ho
    unfold f_Model_cut at h
    refine lv_aload_n F.1 F.2.1 d_Model_cut_0 rfl (lv_at hl 0 rfl) ?_
    refine lv_iconst (v := 0) F.1 F.2.1 d_Model_cut_1 (by decide) ?_
    obtain ⟨S_1, eS_1, h⟩ := nm_ex h
    refine mp_0_10 F hK hw lk_1021 d_Model_cut_2 eS_1 (fun H locs hw => ?_)
    refine lv_iconst (v := 0) F.1 F.2.1 d_Model_cut_5 (by decide) ?_
    refine lv_istore_n (lv' := [(1, .int (0 : Int32)), (0, .ref (ad 0 0))]) F.1 F.2.1 d_Model_cut_6 rfl hl (by decide) rfl (fun ls hl => ?_)
    obtain ⟨P_7, eP_7⟩ : ∃ P : (St × Int32) → Prop, P = (fun q => ∀ (H : Heap) (locs : List Loc) (ls : Array Slot), Bw mw D ar A s.heap H locs ad q.1 → lv_has ls 8 [(0, .ref (ad 0 0)), (1, .int q.2)] → W p l e (RM 2 50) s m args below meth c H locs 0 0 Q (F0 m 7 ls [])) := ⟨_, rfl⟩
    have hL_7 : P_7 (S_1, (0 : Int32)) := by
      refine wh_gp (P := P_7) (X := X_0) h ho ?_
      clear h ho
      intro q o h ho
      obtain ⟨S, x1⟩ := q
      have h : Model_cut_l7 S x1 = some o := h
      unfold Model_cut_l7 at h
      rw [eP_7]
      intro H locs ls hw hl
      have J_304_l7 : ∀ (S : St) (x1 : Int32) (H : Heap) (locs : List Loc) (ls : Array Slot), Bw mw D ar A s.heap H locs ad S → lv_has ls 8 [(0, .ref (ad 0 0)), (1, .int x1)] → ∀ o, Model_cut_j304_l7 S x1 = some o → (Sum.elim P_7 X_0) o → W p l e (RM 2 50) s m args below meth c H locs 0 0 Q (F0 m 304 ls []) := by
        intro S x1 H locs ls hw hl o h ho
        unfold Model_cut_j304_l7 at h
        refine lv_goto (tgt := 7) F.1 F.2.1 d_Model_cut_304 (by decide) ?_
        cases h
        have ho : P_7 _ := ho
        rw [eP_7] at ho
        exact ho H locs ls hw (lv_sub hl [0, 1] rfl)
      have J_274_l7 : ∀ (S : St) (x1 : Int32) (x3 : Int32) (x4 : Int32) (t1 : Int32) (H : Heap) (locs : List Loc) (ls : Array Slot), Bw mw D ar A s.heap H locs ad S → lv_has ls 8 [(0, .ref (ad 0 0)), (1, .int x1), (3, .int x3), (4, .int x4)] → ∀ o, Model_cut_j274_l7 S x1 x3 x4 t1 = some o → (Sum.elim P_7 X_0) o → W p l e (RM 2 50) s m args below meth c H locs 0 0 Q (F0 m 274 ls [.int t1, .ref (ad 0 0)]) := by
        intro S x1 x3 x4 t1 H locs ls hw hl o h ho
        unfold Model_cut_j274_l7 at h
        refine lv_iload_n F.1 F.2.1 d_Model_cut_274 rfl (lv_at hl 1 rfl) ?_
        refine lv_iload F.1 F.2.1 d_Model_cut_275 (lv_at hl 3 rfl) ?_
        refine lv_lconst (v := 0) F.1 F.2.1 d_Model_cut_277 (by decide) ?_
        obtain ⟨S_71, hc_70, h⟩ := bd_ex h
        refine cV_v F hA rfl hK hw (c_Model_token l hc_70) trivial rfl (good_V lk_1238 lk_1240 ls_60 lk_10 lk_1241) (mr_0 hK hw) hd_Model_token ⟨Nat.le_of_ble_eq_true rfl, Nat.le_of_ble_eq_true rfl⟩ rfl hl.1 rfl (Nat.le_of_ble_eq_true rfl) d_Model_cut_278 ⟨(Nat.zero_le _), (Nat.zero_le _)⟩ (fun H locs hw => ?_)
        refine lv_iload_n F.1 F.2.1 d_Model_cut_281 rfl (lv_at hl 1 rfl) ?_
        refine lv_iload_n F.1 F.2.1 d_Model_cut_282 rfl (lv_at hl 2 rfl) ?_
        refine lv_iadd F.1 F.2.1 d_Model_cut_283 ?_
        obtain ⟨x1_72, ex1_72, h⟩ := nm_ex h
        refine lv_nm ex1_72 ?_
        refine lv_istore_n (lv' := [(1, .int x1_72), (0, .ref (ad 0 0)), (3, .int x3), (4, .int x4)]) F.1 F.2.1 d_Model_cut_284 rfl hl (by decide) rfl (fun ls hl => ?_)
        refine lv_goto (tgt := 304) F.1 F.2.1 d_Model_cut_285 (by decide) ?_
        exact J_304_l7 S_71 x1_72 H locs ls hw (lv_sub hl [1, 0] rfl) o h ho
      have J_192_l7 : ∀ (S : St) (x1 : Int32) (x3 : Int32) (x4 : Int64) (x6 : Int32) (H : Heap) (locs : List Loc) (ls : Array Slot), Bw mw D ar A s.heap H locs ad S → lv_has ls 8 [(0, .ref (ad 0 0)), (1, .int x1), (3, .int x3), (4, .long x4), (6, .int x6)] → ∀ o, Model_cut_j192_l7 S x1 x3 x4 x6 = some o → (Sum.elim P_7 X_0) o → W p l e (RM 2 50) s m args below meth c H locs 0 0 Q (F0 m 192 ls []) := by
        intro S x1 x3 x4 x6 H locs ls hw hl o h ho
        unfold Model_cut_j192_l7 at h
        refine lv_aload_n F.1 F.2.1 d_Model_cut_192 rfl (lv_at hl 0 rfl) ?_
        refine lv_iload F.1 F.2.1 d_Model_cut_193 (lv_at hl 4 rfl) ?_
        refine lv_iload_n F.1 F.2.1 d_Model_cut_195 rfl (lv_at hl 1 rfl) ?_
        refine lv_iconst (v := 0) F.1 F.2.1 d_Model_cut_196 (by decide) ?_
        refine lv_lload F.1 F.2.1 d_Model_cut_197 (lv_at hl 3 rfl) ?_
        obtain ⟨S_68, hc_67, h⟩ := bd_ex h
        refine cV_v F hA rfl hK hw (c_Model_token l hc_67) trivial rfl (good_V lk_1238 lk_1240 ls_60 lk_10 lk_1241) (mr_0 hK hw) hd_Model_token ⟨Nat.le_of_ble_eq_true rfl, Nat.le_of_ble_eq_true rfl⟩ rfl hl.1 rfl (Nat.le_of_ble_eq_true rfl) d_Model_cut_199 ⟨(Nat.zero_le _), (Nat.zero_le _)⟩ (fun H locs hw => ?_)
        refine lv_iload_n F.1 F.2.1 d_Model_cut_202 rfl (lv_at hl 1 rfl) ?_
        refine lv_iload_n F.1 F.2.1 d_Model_cut_203 rfl (lv_at hl 2 rfl) ?_
        refine lv_iadd F.1 F.2.1 d_Model_cut_204 ?_
        obtain ⟨x1_69, ex1_69, h⟩ := nm_ex h
        refine lv_nm ex1_69 ?_
        refine lv_istore_n (lv' := [(1, .int x1_69), (0, .ref (ad 0 0)), (3, .int x3), (4, .long x4), (6, .int x6)]) F.1 F.2.1 d_Model_cut_205 rfl hl (by decide) rfl (fun ls hl => ?_)
        refine lv_goto (tgt := 304) F.1 F.2.1 d_Model_cut_206 (by decide) ?_
        exact J_304_l7 S_68 x1_69 H locs ls hw (lv_sub hl [1, 0] rfl) o h ho
      have J_148_l7 : ∀ (S : St) (x1 : Int32) (x3 : Int32) (x4 : Int64) (t0 : Int32) (H : Heap) (locs : List Loc) (ls : Array Slot), Bw mw D ar A s.heap H locs ad S → lv_has ls 8 [(0, .ref (ad 0 0)), (1, .int x1), (3, .int x3), (4, .long x4)] → ∀ o, Model_cut_j148_l7 S x1 x3 x4 t0 = some o → (Sum.elim P_7 X_0) o → W p l e (RM 2 50) s m args below meth c H locs 0 0 Q (F0 m 148 ls [.int t0]) := by
        intro S x1 x3 x4 t0 H locs ls hw hl o h ho
        unfold Model_cut_j148_l7 at h
        refine lv_istore (lv' := [(6, .int t0), (0, .ref (ad 0 0)), (1, .int x1), (3, .int x3), (4, .long x4)]) F.1 F.2.1 d_Model_cut_148 hl (by decide) rfl (fun ls hl => ?_)
        refine lv_iload_n F.1 F.2.1 d_Model_cut_150 rfl (lv_at hl 3 rfl) ?_
        refine lv_bipush (v := 6) F.1 F.2.1 d_Model_cut_151 (by decide) ?_
        refine lv_icmp_gt (tgt := 192) F.1 F.2.1 d_Model_cut_153 (by decide) (fun c_59 => ?_) (fun c_59 => ?_)
        · replace h := ip c_59 h
          exact J_192_l7 S x1 x3 x4 t0 H locs ls hw (lv_sub hl [1, 2, 3, 4, 0] rfl) o h ho
        · replace h := iq c_59 h
          refine lv_iconst (v := 0) F.1 F.2.1 d_Model_cut_156 (by decide) ?_
          refine lv_istore (lv' := [(7, .int (0 : Int32)), (6, .int t0), (0, .ref (ad 0 0)), (1, .int x1), (3, .int x3), (4, .long x4)]) F.1 F.2.1 d_Model_cut_157 hl (by decide) rfl (fun ls hl => ?_)
          obtain ⟨x6_65, hc_66, h⟩ := bd_ex h
          obtain ⟨X_159, eX_159⟩ : ∃ X : Int32 → Prop, X = (fun q => ∀ (H : Heap) (locs : List Loc) (ls : Array Slot), Bw mw D ar A s.heap H locs ad S → lv_has ls 8 [(0, .ref (ad 0 0)), (1, .int x1), (3, .int x3), (4, .long x4), (6, .int q)] → W p l e (RM 2 50) s m args below meth c H locs 0 0 Q (F0 m 192 ls [])) := ⟨_, rfl⟩
          have hX_159 : X_159 x6_65 := by
            rw [eX_159]
            intro H locs ls hw hl
            exact J_192_l7 S x1 x3 x4 x6_65 H locs ls hw (lv_sub hl [0, 1, 2, 3, 4] rfl) o h ho
          obtain ⟨P_159, eP_159⟩ : ∃ P : (Int32 × Int32) → Prop, P = (fun q => ∀ (H : Heap) (locs : List Loc) (ls : Array Slot), Bw mw D ar A s.heap H locs ad S → lv_has ls 8 [(0, .ref (ad 0 0)), (1, .int x1), (3, .int x3), (4, .long x4), (6, .int q.1), (7, .int q.2)] → W p l e (RM 2 50) s m args below meth c H locs 0 0 Q (F0 m 159 ls [])) := ⟨_, rfl⟩
          have hL_159 : P_159 (t0, (0 : Int32)) := by
            refine wh_gp (P := P_159) (X := X_159) hc_66 hX_159 ?_
            clear h
            intro q o h ho
            obtain ⟨x6, x7⟩ := q
            have h : Model_cut_l159 S x1 x3 x4 x6 x7 = some o := h
            unfold Model_cut_l159 at h
            rw [eP_159]
            intro H locs ls hw hl
            have J_186_l159 : ∀ (x6 : Int32) (x7 : Int32) (H : Heap) (locs : List Loc) (ls : Array Slot), Bw mw D ar A s.heap H locs ad S → lv_has ls 8 [(0, .ref (ad 0 0)), (1, .int x1), (3, .int x3), (4, .long x4), (6, .int x6), (7, .int x7)] → ∀ o, Model_cut_j186_l159 S x1 x3 x4 x6 x7 = some o → (Sum.elim P_159 X_159) o → W p l e (RM 2 50) s m args below meth c H locs 0 0 Q (F0 m 186 ls []) := by
              intro x6 x7 H locs ls hw hl o h ho
              unfold Model_cut_j186_l159 at h
              obtain ⟨x7_64, ex7_64, h⟩ := nm_ex h
              refine lv_iinc (v := x7_64) (lv' := [(7, .int x7_64), (0, .ref (ad 0 0)), (1, .int x1), (3, .int x3), (4, .long x4), (6, .int x6)]) F.1 F.2.1 d_Model_cut_186 hl (k := 5) rfl (by rw [ex7_64]; rfl) (by decide) rfl (fun ls hl => ?_)
              refine lv_goto (tgt := 159) F.1 F.2.1 d_Model_cut_189 (by decide) ?_
              cases h
              have ho : P_159 _ := ho
              rw [eP_159] at ho
              exact ho H locs ls hw (lv_sub hl [1, 2, 3, 4, 5, 0] rfl)
            refine lv_iload F.1 F.2.1 d_Model_cut_159 (lv_at hl 5 rfl) ?_
            refine lv_bipush (v := 13) F.1 F.2.1 d_Model_cut_161 (by decide) ?_
            refine lv_icmp_ge (tgt := 192) F.1 F.2.1 d_Model_cut_163 (by decide) (fun c_60 => ?_) (fun c_60 => ?_)
            · replace h := ip c_60 h
              cases h
              have ho : X_159 _ := ho
              rw [eX_159] at ho
              exact ho H locs ls hw (lv_sub hl [0, 1, 2, 3, 4] rfl)
            · replace h := iq c_60 h
              refine lv_aload_n F.1 F.2.1 d_Model_cut_166 rfl (lv_at hl 0 rfl) ?_
              refine mg_0_9 F hK hw lk_1020 d_Model_cut_167 ?_
              refine lv_iload F.1 F.2.1 d_Model_cut_170 (lv_at hl 5 rfl) ?_
              obtain ⟨hi_61, h⟩ := gd_ex h
              refine ml_0_9 F hK hw hi_61 d_Model_cut_172 ?_
              refine lv_lload F.1 F.2.1 d_Model_cut_173 (lv_at hl 3 rfl) ?_
              refine W.lcmp F.1 F.2.1 d_Model_cut_175 ?_
              refine lv_if_ne (tgt := 186) F.1 F.2.1 d_Model_cut_176 (by decide) (fun c_62 => ?_) (fun c_62 => ?_)
              · replace h := iq c_62 h
                exact J_186_l159 x6 x7 H locs ls hw (lv_sub hl [0, 1, 2, 3, 4, 5] rfl) o h ho
              · replace h := ip c_62 h
                refine lv_bipush (v := 20) F.1 F.2.1 d_Model_cut_179 (by decide) ?_
                refine lv_iload F.1 F.2.1 d_Model_cut_181 (lv_at hl 5 rfl) ?_
                refine lv_iadd F.1 F.2.1 d_Model_cut_183 ?_
                obtain ⟨x6_63, ex6_63, h⟩ := nm_ex h
                refine lv_nm ex6_63 ?_
                refine lv_istore (lv' := [(6, .int x6_63), (0, .ref (ad 0 0)), (1, .int x1), (3, .int x3), (4, .long x4), (7, .int x7)]) F.1 F.2.1 d_Model_cut_184 hl (by decide) rfl (fun ls hl => ?_)
                exact J_186_l159 x6_63 x7 H locs ls hw (lv_sub hl [1, 2, 3, 4, 0, 5] rfl) o h ho
          rw [eP_159] at hL_159
          exact hL_159 H locs ls hw (lv_sub hl [2, 3, 4, 5, 1, 0] rfl)
      have J_67_l7 : ∀ (S : St) (x1 : Int32) (H : Heap) (locs : List Loc) (ls : Array Slot), Bw mw D ar A s.heap H locs ad S → lv_has ls 8 [(0, .ref (ad 0 0)), (1, .int x1)] → ∀ o, Model_cut_j67_l7 S x1 = some o → (Sum.elim P_7 X_0) o → W p l e (RM 2 50) s m args below meth c H locs 0 0 Q (F0 m 67 ls []) := by
        intro S x1 H locs ls hw hl o h ho
        unfold Model_cut_j67_l7 at h
        obtain ⟨x1_58, ex1_58, h⟩ := nm_ex h
        refine lv_iinc (v := x1_58) (lv' := [(1, .int x1_58), (0, .ref (ad 0 0))]) F.1 F.2.1 d_Model_cut_67 hl (k := 1) rfl (by rw [ex1_58]; rfl) (by decide) rfl (fun ls hl => ?_)
        refine lv_goto (tgt := 304) F.1 F.2.1 d_Model_cut_70 (by decide) ?_
        exact J_304_l7 S x1_58 H locs ls hw (lv_sub hl [1, 0] rfl) o h ho
      refine lv_aload_n F.1 F.2.1 d_Model_cut_7 rfl (lv_at hl 0 rfl) ?_
      refine mg_0_10 F hK hw lk_1021 d_Model_cut_8 ?_
      refine lv_sipush (v := 400) F.1 F.2.1 d_Model_cut_11 (by decide) ?_
      refine lv_icmp_gt (tgt := 307) F.1 F.2.1 d_Model_cut_14 (by decide) (fun c_2 => ?_) (fun c_2 => ?_)
      · replace h := ip c_2 h
        cases h
        have ho : X_0 _ := ho
        rw [eX_0] at ho
        exact ho H locs _ ls d_Model_cut_307 hw
      · replace h := iq c_2 h
        refine lv_aload_n F.1 F.2.1 d_Model_cut_17 rfl (lv_at hl 0 rfl) ?_
        refine lv_iload_n F.1 F.2.1 d_Model_cut_18 rfl (lv_at hl 1 rfl) ?_
        obtain ⟨v_4, hc_3, h⟩ := bd_ex h
        refine cV_i F hA rfl hK hw (c_Model_at l hc_3) trivial rfl (good_V lk_1234 lk_1236 ls_59 lk_10 lk_1237) (mr_0 hK hw) hd_Model_at ⟨Nat.le_of_ble_eq_true rfl, Nat.le_of_ble_eq_true rfl⟩ rfl hl.1 rfl (Nat.le_of_ble_eq_true rfl) d_Model_cut_19 ⟨(Nat.zero_le _), (Nat.zero_le _)⟩ (fun H locs hw => ?_)
        refine lv_istore_n (lv' := [(2, .int v_4), (0, .ref (ad 0 0)), (1, .int x1)]) F.1 F.2.1 d_Model_cut_22 rfl hl (by decide) rfl (fun ls hl => ?_)
        refine lv_iload_n F.1 F.2.1 d_Model_cut_23 rfl (lv_at hl 2 rfl) ?_
        refine lv_aload_n F.1 F.2.1 d_Model_cut_24 rfl (lv_at hl 1 rfl) ?_
        refine mg_0_4 F hK hw lk_1015 d_Model_cut_25 ?_
        refine lv_icmp_lt (tgt := 43) F.1 F.2.1 d_Model_cut_28 (by decide) (fun c_5 => ?_) (fun c_5 => ?_)
        · replace h := ip c_5 h
          refine lv_iload_n F.1 F.2.1 d_Model_cut_43 rfl (lv_at hl 0 rfl) ?_
          refine lv_bipush (v := 9) F.1 F.2.1 d_Model_cut_44 (by decide) ?_
          refine lv_icmp_eq (tgt := 67) F.1 F.2.1 d_Model_cut_46 (by decide) (fun c_6 => ?_) (fun c_6 => ?_)
          · replace h := ip c_6 h
            exact J_67_l7 S x1 H locs ls hw (lv_sub hl [1, 2] rfl) o h ho
          · replace h := iq c_6 h
            refine lv_iload_n F.1 F.2.1 d_Model_cut_49 rfl (lv_at hl 0 rfl) ?_
            refine lv_bipush (v := 10) F.1 F.2.1 d_Model_cut_50 (by decide) ?_
            refine lv_icmp_eq (tgt := 67) F.1 F.2.1 d_Model_cut_52 (by decide) (fun c_7 => ?_) (fun c_7 => ?_)
            · replace h := ip c_7 h
              exact J_67_l7 S x1 H locs ls hw (lv_sub hl [1, 2] rfl) o h ho
            · replace h := iq c_7 h
              refine lv_iload_n F.1 F.2.1 d_Model_cut_55 rfl (lv_at hl 0 rfl) ?_
              refine lv_bipush (v := 13) F.1 F.2.1 d_Model_cut_56 (by decide) ?_
              refine lv_icmp_eq (tgt := 67) F.1 F.2.1 d_Model_cut_58 (by decide) (fun c_8 => ?_) (fun c_8 => ?_)
              · replace h := ip c_8 h
                exact J_67_l7 S x1 H locs ls hw (lv_sub hl [1, 2] rfl) o h ho
              · replace h := iq c_8 h
                refine lv_iload_n F.1 F.2.1 d_Model_cut_61 rfl (lv_at hl 0 rfl) ?_
                refine lv_bipush (v := 32) F.1 F.2.1 d_Model_cut_62 (by decide) ?_
                refine lv_icmp_ne (tgt := 73) F.1 F.2.1 d_Model_cut_64 (by decide) (fun c_9 => ?_) (fun c_9 => ?_)
                · replace h := iq c_9 h
                  refine lv_iload_n F.1 F.2.1 d_Model_cut_73 rfl (lv_at hl 0 rfl) ?_
                  obtain ⟨v_11, hc_10, h⟩ := bd_ex h
                  refine cS_i F hA rfl hK hw (c_Model_isLetter l S hc_10) trivial rfl (good_S lk_1242 lk_1243 lk_10 lk_1244) hd_Model_isLetter ⟨Nat.le_of_ble_eq_true rfl, Nat.le_of_ble_eq_true rfl⟩ rfl hl.1 rfl (Nat.le_of_ble_eq_true rfl) d_Model_cut_74 ⟨(Nat.zero_le _), (Nat.zero_le _)⟩ (fun H locs hw => ?_)
                  refine lv_if_eq (tgt := 209) F.1 F.2.1 d_Model_cut_77 (by decide) (fun c_12 => ?_) (fun c_12 => ?_)
                  · replace h := ip c_12 h
                    refine lv_iload_n F.1 F.2.1 d_Model_cut_209 rfl (lv_at hl 0 rfl) ?_
                    obtain ⟨v_14, hc_13, h⟩ := bd_ex h
                    refine cS_i F hA rfl hK hw (c_Model_isDigit l S hc_13) trivial rfl (good_S lk_957 lk_958 lk_10 lk_959) hd_Model_isDigit ⟨Nat.le_of_ble_eq_true rfl, Nat.le_of_ble_eq_true rfl⟩ rfl hl.1 rfl (Nat.le_of_ble_eq_true rfl) d_Model_cut_210 ⟨(Nat.zero_le _), (Nat.zero_le _)⟩ (fun H locs hw => ?_)
                    refine lv_if_eq (tgt := 288) F.1 F.2.1 d_Model_cut_213 (by decide) (fun c_15 => ?_) (fun c_15 => ?_)
                    · replace h := ip c_15 h
                      refine lv_iload_n F.1 F.2.1 d_Model_cut_288 rfl (lv_at hl 2 rfl) ?_
                      refine lv_aload_n F.1 F.2.1 d_Model_cut_289 rfl (lv_at hl 1 rfl) ?_
                      refine lv_iload_n F.1 F.2.1 d_Model_cut_290 rfl (lv_at hl 2 rfl) ?_
                      refine lv_iload_n F.1 F.2.1 d_Model_cut_291 rfl (lv_at hl 0 rfl) ?_
                      refine lv_aload_n F.1 F.2.1 d_Model_cut_292 rfl (lv_at hl 1 rfl) ?_
                      refine lv_iload_n F.1 F.2.1 d_Model_cut_293 rfl (lv_at hl 2 rfl) ?_
                      refine lv_iconst (v := 1) F.1 F.2.1 d_Model_cut_294 (by decide) ?_
                      refine lv_iadd F.1 F.2.1 d_Model_cut_295 ?_
                      obtain ⟨v_17, hc_16, h⟩ := bd_ex h
                      refine cV_i F hA rfl hK hw (c_Model_at l hc_16) trivial rfl (good_V lk_1234 lk_1236 ls_59 lk_10 lk_1237) (mr_0 hK hw) hd_Model_at ⟨Nat.le_of_ble_eq_true rfl, Nat.le_of_ble_eq_true rfl⟩ rfl hl.1 rfl (Nat.le_of_ble_eq_true rfl) d_Model_cut_296 ⟨(Nat.zero_le _), (Nat.zero_le _)⟩ (fun H locs hw => ?_)
                      obtain ⟨v_19, S_20, hc_18, h⟩ := bd2_ex h
                      refine cV_i F hA rfl hK hw (c_Model_sign l hc_18) trivial rfl (good_V lk_1245 lk_1247 ls_61 lk_10 lk_1248) (mr_0 hK hw) hd_Model_sign ⟨Nat.le_of_ble_eq_true rfl, Nat.le_of_ble_eq_true rfl⟩ rfl hl.1 rfl (Nat.le_of_ble_eq_true rfl) d_Model_cut_299 ⟨(Nat.zero_le _), (Nat.zero_le _)⟩ (fun H locs hw => ?_)
                      refine lv_iadd F.1 F.2.1 d_Model_cut_302 ?_
                      obtain ⟨x1_21, ex1_21, h⟩ := nm_ex h
                      refine lv_nm ex1_21 ?_
                      refine lv_istore_n (lv' := [(1, .int x1_21), (2, .int v_4), (0, .ref (ad 0 0))]) F.1 F.2.1 d_Model_cut_303 rfl hl (by decide) rfl (fun ls hl => ?_)
                      exact J_304_l7 S_20 x1_21 H locs ls hw (lv_sub hl [2, 0] rfl) o h ho
                    · replace h := iq c_15 h
                      refine lv_iconst (v := 0) F.1 F.2.1 d_Model_cut_216 (by decide) ?_
                      refine lv_istore_n (lv' := [(3, .int (0 : Int32)), (2, .int v_4), (0, .ref (ad 0 0)), (1, .int x1)]) F.1 F.2.1 d_Model_cut_217 rfl hl (by decide) rfl (fun ls hl => ?_)
                      refine lv_iconst (v := 0) F.1 F.2.1 d_Model_cut_218 (by decide) ?_
                      refine lv_istore (lv' := [(4, .int (0 : Int32)), (3, .int (0 : Int32)), (2, .int v_4), (0, .ref (ad 0 0)), (1, .int x1)]) F.1 F.2.1 d_Model_cut_219 hl (by decide) rfl (fun ls hl => ?_)
                      obtain ⟨x3_32, x4_33, hc_34, h⟩ := bd2_ex h
                      obtain ⟨X_221, eX_221⟩ : ∃ X : (Int32 × Int32) → Prop, X = (fun q => ∀ (H : Heap) (locs : List Loc) (ls : Array Slot), Bw mw D ar A s.heap H locs ad S → lv_has ls 8 [(0, .ref (ad 0 0)), (1, .int x1), (3, .int q.1), (4, .int q.2)] → W p l e (RM 2 50) s m args below meth c H locs 0 0 Q (F0 m 263 ls [])) := ⟨_, rfl⟩
                      have hX_221 : X_221 (x3_32, x4_33) := by
                        rw [eX_221]
                        intro H locs ls hw hl
                        refine lv_aload_n F.1 F.2.1 d_Model_cut_263 rfl (lv_at hl 0 rfl) ?_
                        refine lv_iload_n F.1 F.2.1 d_Model_cut_264 rfl (lv_at hl 2 rfl) ?_
                        refine lv_iconst (v := 4) F.1 F.2.1 d_Model_cut_265 (by decide) ?_
                        refine lv_icmp_le (tgt := 273) F.1 F.2.1 d_Model_cut_266 (by decide) (fun c_35 => ?_) (fun c_35 => ?_)
                        · replace h := ip c_35 h
                          refine lv_iconst (v := 2) F.1 F.2.1 d_Model_cut_273 (by decide) ?_
                          exact J_274_l7 S x1 x3_32 x4_33 (2 : Int32) H locs ls hw (lv_sub hl [0, 1, 2, 3] rfl) o h ho
                        · replace h := iq c_35 h
                          refine lv_iconst (v := 3) F.1 F.2.1 d_Model_cut_269 (by decide) ?_
                          refine lv_goto (tgt := 274) F.1 F.2.1 d_Model_cut_270 (by decide) ?_
                          exact J_274_l7 S x1 x3_32 x4_33 (3 : Int32) H locs ls hw (lv_sub hl [0, 1, 2, 3] rfl) o h ho
                      obtain ⟨P_221, eP_221⟩ : ∃ P : (Int32 × Int32) → Prop, P = (fun q => ∀ (H : Heap) (locs : List Loc) (ls : Array Slot), Bw mw D ar A s.heap H locs ad S → lv_has ls 8 [(0, .ref (ad 0 0)), (1, .int x1), (3, .int q.1), (4, .int q.2)] → W p l e (RM 2 50) s m args below meth c H locs 0 0 Q (F0 m 221 ls [])) := ⟨_, rfl⟩
                      have hL_221 : P_221 ((0 : Int32), (0 : Int32)) := by
                        refine wh_gp (P := P_221) (X := X_221) hc_34 hX_221 ?_
                        clear h
                        intro q o h ho
                        obtain ⟨x3, x4⟩ := q
                        have h : Model_cut_l221 S x1 x3 x4 = some o := h
                        unfold Model_cut_l221 at h
                        rw [eP_221]
                        intro H locs ls hw hl
                        have J_257_l221 : ∀ (x3 : Int32) (x4 : Int32) (H : Heap) (locs : List Loc) (ls : Array Slot), Bw mw D ar A s.heap H locs ad S → lv_has ls 8 [(0, .ref (ad 0 0)), (1, .int x1), (3, .int x3), (4, .int x4)] → ∀ o, Model_cut_j257_l221 S x1 x3 x4 = some o → (Sum.elim P_221 X_221) o → W p l e (RM 2 50) s m args below meth c H locs 0 0 Q (F0 m 257 ls []) := by
                          intro x3 x4 H locs ls hw hl o h ho
                          unfold Model_cut_j257_l221 at h
                          obtain ⟨x3_31, ex3_31, h⟩ := nm_ex h
                          refine lv_iinc (v := x3_31) (lv' := [(3, .int x3_31), (0, .ref (ad 0 0)), (1, .int x1), (4, .int x4)]) F.1 F.2.1 d_Model_cut_257 hl (k := 2) rfl (by rw [ex3_31]; rfl) (by decide) rfl (fun ls hl => ?_)
                          refine lv_goto (tgt := 221) F.1 F.2.1 d_Model_cut_260 (by decide) ?_
                          cases h
                          have ho : P_221 _ := ho
                          rw [eP_221] at ho
                          exact ho H locs ls hw (lv_sub hl [1, 2, 0, 3] rfl)
                        refine lv_aload_n F.1 F.2.1 d_Model_cut_221 rfl (lv_at hl 0 rfl) ?_
                        refine lv_iload_n F.1 F.2.1 d_Model_cut_222 rfl (lv_at hl 1 rfl) ?_
                        refine lv_iload_n F.1 F.2.1 d_Model_cut_223 rfl (lv_at hl 2 rfl) ?_
                        refine lv_iadd F.1 F.2.1 d_Model_cut_224 ?_
                        obtain ⟨v_23, hc_22, h⟩ := bd_ex h
                        refine cV_i F hA rfl hK hw (c_Model_at l hc_22) trivial rfl (good_V lk_1234 lk_1236 ls_59 lk_10 lk_1237) (mr_0 hK hw) hd_Model_at ⟨Nat.le_of_ble_eq_true rfl, Nat.le_of_ble_eq_true rfl⟩ rfl hl.1 rfl (Nat.le_of_ble_eq_true rfl) d_Model_cut_225 ⟨(Nat.zero_le _), (Nat.zero_le _)⟩ (fun H locs hw => ?_)
                        obtain ⟨v_25, hc_24, h⟩ := bd_ex h
                        refine cS_i F hA rfl hK hw (c_Model_isDigit l S hc_24) trivial rfl (good_S lk_957 lk_958 lk_10 lk_959) hd_Model_isDigit ⟨Nat.le_of_ble_eq_true rfl, Nat.le_of_ble_eq_true rfl⟩ rfl hl.1 rfl (Nat.le_of_ble_eq_true rfl) d_Model_cut_228 ⟨(Nat.zero_le _), (Nat.zero_le _)⟩ (fun H locs hw => ?_)
                        refine lv_if_eq (tgt := 263) F.1 F.2.1 d_Model_cut_231 (by decide) (fun c_26 => ?_) (fun c_26 => ?_)
                        · replace h := ip c_26 h
                          cases h
                          have ho : X_221 _ := ho
                          rw [eX_221] at ho
                          exact ho H locs ls hw (lv_sub hl [0, 1, 2, 3] rfl)
                        · replace h := iq c_26 h
                          refine lv_iload_n F.1 F.2.1 d_Model_cut_234 rfl (lv_at hl 2 rfl) ?_
                          refine lv_iconst (v := 4) F.1 F.2.1 d_Model_cut_235 (by decide) ?_
                          refine lv_icmp_ge (tgt := 257) F.1 F.2.1 d_Model_cut_236 (by decide) (fun c_27 => ?_) (fun c_27 => ?_)
                          · replace h := ip c_27 h
                            exact J_257_l221 x3 x4 H locs ls hw (lv_sub hl [0, 1, 2, 3] rfl) o h ho
                          · replace h := iq c_27 h
                            refine lv_bipush (v := 10) F.1 F.2.1 d_Model_cut_239 (by decide) ?_
                            refine lv_iload F.1 F.2.1 d_Model_cut_241 (lv_at hl 3 rfl) ?_
                            refine lv_imul F.1 F.2.1 d_Model_cut_243 ?_
                            refine lv_aload_n F.1 F.2.1 d_Model_cut_244 rfl (lv_at hl 0 rfl) ?_
                            refine lv_iload_n F.1 F.2.1 d_Model_cut_245 rfl (lv_at hl 1 rfl) ?_
                            refine lv_iload_n F.1 F.2.1 d_Model_cut_246 rfl (lv_at hl 2 rfl) ?_
                            refine lv_iadd F.1 F.2.1 d_Model_cut_247 ?_
                            obtain ⟨v_29, hc_28, h⟩ := bd_ex h
                            refine cV_i F hA rfl hK hw (c_Model_at l hc_28) trivial rfl (good_V lk_1234 lk_1236 ls_59 lk_10 lk_1237) (mr_0 hK hw) hd_Model_at ⟨Nat.le_of_ble_eq_true rfl, Nat.le_of_ble_eq_true rfl⟩ rfl hl.1 rfl (Nat.le_of_ble_eq_true rfl) d_Model_cut_248 ⟨(Nat.zero_le _), (Nat.zero_le _)⟩ (fun H locs hw => ?_)
                            refine lv_iadd F.1 F.2.1 d_Model_cut_251 ?_
                            refine lv_bipush (v := 48) F.1 F.2.1 d_Model_cut_252 (by decide) ?_
                            refine lv_isub F.1 F.2.1 d_Model_cut_254 ?_
                            obtain ⟨x4_30, ex4_30, h⟩ := nm_ex h
                            refine lv_nm ex4_30 ?_
                            refine lv_istore (lv' := [(4, .int x4_30), (0, .ref (ad 0 0)), (1, .int x1), (3, .int x3)]) F.1 F.2.1 d_Model_cut_255 hl (by decide) rfl (fun ls hl => ?_)
                            exact J_257_l221 x3 x4_30 H locs ls hw (lv_sub hl [1, 2, 3, 0] rfl) o h ho
                      rw [eP_221] at hL_221
                      exact hL_221 H locs ls hw (lv_sub hl [3, 4, 1, 0] rfl)
                  · replace h := iq c_12 h
                    refine lv_iconst (v := 0) F.1 F.2.1 d_Model_cut_80 (by decide) ?_
                    refine lv_istore_n (lv' := [(3, .int (0 : Int32)), (2, .int v_4), (0, .ref (ad 0 0)), (1, .int x1)]) F.1 F.2.1 d_Model_cut_81 rfl hl (by decide) rfl (fun ls hl => ?_)
                    refine lv_lconst (v := 0) F.1 F.2.1 d_Model_cut_82 (by decide) ?_
                    refine lv_lstore (lv' := [(4, .long (0 : Int64)), (3, .int (0 : Int32)), (2, .int v_4), (0, .ref (ad 0 0)), (1, .int x1)]) F.1 F.2.1 d_Model_cut_83 hl (by decide) rfl (fun ls hl => ?_)
                    obtain ⟨x3_52, x4_53, hc_54, h⟩ := bd2_ex h
                    obtain ⟨X_85, eX_85⟩ : ∃ X : (Int32 × Int64) → Prop, X = (fun q => ∀ (H : Heap) (locs : List Loc) (ls : Array Slot), Bw mw D ar A s.heap H locs ad S → lv_has ls 8 [(0, .ref (ad 0 0)), (1, .int x1), (3, .int q.1), (4, .long q.2)] → W p l e (RM 2 50) s m args below meth c H locs 0 0 Q (F0 m 137 ls [])) := ⟨_, rfl⟩
                    have hX_85 : X_85 (x3_52, x4_53) := by
                      rw [eX_85]
                      intro H locs ls hw hl
                      refine lv_iload_n F.1 F.2.1 d_Model_cut_137 rfl (lv_at hl 2 rfl) ?_
                      refine lv_bipush (v := 8) F.1 F.2.1 d_Model_cut_138 (by decide) ?_
                      refine lv_icmp_le (tgt := 147) F.1 F.2.1 d_Model_cut_140 (by decide) (fun c_55 => ?_) (fun c_55 => ?_)
                      · replace h := ip c_55 h
                        refine lv_iconst (v := 1) F.1 F.2.1 d_Model_cut_147 (by decide) ?_
                        exact J_148_l7 S x1 x3_52 x4_53 (1 : Int32) H locs ls hw (lv_sub hl [0, 1, 2, 3] rfl) o h ho
                      · replace h := iq c_55 h
                        refine lv_iconst (v := 3) F.1 F.2.1 d_Model_cut_143 (by decide) ?_
                        refine lv_goto (tgt := 148) F.1 F.2.1 d_Model_cut_144 (by decide) ?_
                        exact J_148_l7 S x1 x3_52 x4_53 (3 : Int32) H locs ls hw (lv_sub hl [0, 1, 2, 3] rfl) o h ho
                    obtain ⟨P_85, eP_85⟩ : ∃ P : (Int32 × Int64) → Prop, P = (fun q => ∀ (H : Heap) (locs : List Loc) (ls : Array Slot), Bw mw D ar A s.heap H locs ad S → lv_has ls 8 [(0, .ref (ad 0 0)), (1, .int x1), (3, .int q.1), (4, .long q.2)] → W p l e (RM 2 50) s m args below meth c H locs 0 0 Q (F0 m 85 ls [])) := ⟨_, rfl⟩
                    have hL_85 : P_85 ((0 : Int32), (0 : Int64)) := by
                      refine wh_gp (P := P_85) (X := X_85) hc_54 hX_85 ?_
                      clear h
                      intro q o h ho
                      obtain ⟨x3, x4⟩ := q
                      have h : Model_cut_l85 S x1 x3 x4 = some o := h
                      unfold Model_cut_l85 at h
                      rw [eP_85]
                      intro H locs ls hw hl
                      have J_131_l85 : ∀ (x3 : Int32) (x4 : Int64) (H : Heap) (locs : List Loc) (ls : Array Slot), Bw mw D ar A s.heap H locs ad S → lv_has ls 8 [(0, .ref (ad 0 0)), (1, .int x1), (3, .int x3), (4, .long x4)] → ∀ o, Model_cut_j131_l85 S x1 x3 x4 = some o → (Sum.elim P_85 X_85) o → W p l e (RM 2 50) s m args below meth c H locs 0 0 Q (F0 m 131 ls []) := by
                        intro x3 x4 H locs ls hw hl o h ho
                        unfold Model_cut_j131_l85 at h
                        obtain ⟨x3_51, ex3_51, h⟩ := nm_ex h
                        refine lv_iinc (v := x3_51) (lv' := [(3, .int x3_51), (0, .ref (ad 0 0)), (1, .int x1), (4, .long x4)]) F.1 F.2.1 d_Model_cut_131 hl (k := 2) rfl (by rw [ex3_51]; rfl) (by decide) rfl (fun ls hl => ?_)
                        refine lv_goto (tgt := 85) F.1 F.2.1 d_Model_cut_134 (by decide) ?_
                        cases h
                        have ho : P_85 _ := ho
                        rw [eP_85] at ho
                        exact ho H locs ls hw (lv_sub hl [1, 2, 0, 3] rfl)
                      have J_111_l85 : ∀ (x3 : Int32) (x4 : Int64) (H : Heap) (locs : List Loc) (ls : Array Slot), Bw mw D ar A s.heap H locs ad S → lv_has ls 8 [(0, .ref (ad 0 0)), (1, .int x1), (3, .int x3), (4, .long x4)] → ∀ o, Model_cut_j111_l85 S x1 x3 x4 = some o → (Sum.elim P_85 X_85) o → W p l e (RM 2 50) s m args below meth c H locs 0 0 Q (F0 m 111 ls []) := by
                        intro x3 x4 H locs ls hw hl o h ho
                        unfold Model_cut_j111_l85 at h
                        refine lv_iload_n F.1 F.2.1 d_Model_cut_111 rfl (lv_at hl 2 rfl) ?_
                        refine lv_bipush (v := 8) F.1 F.2.1 d_Model_cut_112 (by decide) ?_
                        refine lv_icmp_ge (tgt := 131) F.1 F.2.1 d_Model_cut_114 (by decide) (fun c_46 => ?_) (fun c_46 => ?_)
                        · replace h := ip c_46 h
                          exact J_131_l85 x3 x4 H locs ls hw (lv_sub hl [0, 1, 2, 3] rfl) o h ho
                        · replace h := iq c_46 h
                          refine lv_lload F.1 F.2.1 d_Model_cut_117 (lv_at hl 3 rfl) ?_
                          refine lv_aload_n F.1 F.2.1 d_Model_cut_119 rfl (lv_at hl 0 rfl) ?_
                          refine lv_iload_n F.1 F.2.1 d_Model_cut_120 rfl (lv_at hl 1 rfl) ?_
                          refine lv_iload_n F.1 F.2.1 d_Model_cut_121 rfl (lv_at hl 2 rfl) ?_
                          refine lv_iadd F.1 F.2.1 d_Model_cut_122 ?_
                          obtain ⟨v_48, hc_47, h⟩ := bd_ex h
                          refine cV_i F hA rfl hK hw (c_Model_at l hc_47) trivial rfl (good_V lk_1234 lk_1236 ls_59 lk_10 lk_1237) (mr_0 hK hw) hd_Model_at ⟨Nat.le_of_ble_eq_true rfl, Nat.le_of_ble_eq_true rfl⟩ rfl hl.1 rfl (Nat.le_of_ble_eq_true rfl) d_Model_cut_123 ⟨(Nat.zero_le _), (Nat.zero_le _)⟩ (fun H locs hw => ?_)
                          obtain ⟨v_50, hc_49, h⟩ := bd_ex h
                          refine cS_l F hA rfl hK hw (c_Model_more l S hc_49) trivial rfl (good_S lk_953 lk_954 lk_10 lk_955) hd_Model_more ⟨Nat.le_of_ble_eq_true rfl, Nat.le_of_ble_eq_true rfl⟩ rfl hl.1 rfl (Nat.le_of_ble_eq_true rfl) d_Model_cut_126 ⟨(Nat.zero_le _), (Nat.zero_le _)⟩ (fun H locs hw => ?_)
                          refine lv_lstore (lv' := [(4, .long v_50), (0, .ref (ad 0 0)), (1, .int x1), (3, .int x3)]) F.1 F.2.1 d_Model_cut_129 hl (by decide) rfl (fun ls hl => ?_)
                          exact J_131_l85 x3 v_50 H locs ls hw (lv_sub hl [1, 2, 3, 0] rfl) o h ho
                      refine lv_aload_n F.1 F.2.1 d_Model_cut_85 rfl (lv_at hl 0 rfl) ?_
                      refine lv_iload_n F.1 F.2.1 d_Model_cut_86 rfl (lv_at hl 1 rfl) ?_
                      refine lv_iload_n F.1 F.2.1 d_Model_cut_87 rfl (lv_at hl 2 rfl) ?_
                      refine lv_iadd F.1 F.2.1 d_Model_cut_88 ?_
                      obtain ⟨v_37, hc_36, h⟩ := bd_ex h
                      refine cV_i F hA rfl hK hw (c_Model_at l hc_36) trivial rfl (good_V lk_1234 lk_1236 ls_59 lk_10 lk_1237) (mr_0 hK hw) hd_Model_at ⟨Nat.le_of_ble_eq_true rfl, Nat.le_of_ble_eq_true rfl⟩ rfl hl.1 rfl (Nat.le_of_ble_eq_true rfl) d_Model_cut_89 ⟨(Nat.zero_le _), (Nat.zero_le _)⟩ (fun H locs hw => ?_)
                      obtain ⟨v_39, hc_38, h⟩ := bd_ex h
                      refine cS_i F hA rfl hK hw (c_Model_isLetter l S hc_38) trivial rfl (good_S lk_1242 lk_1243 lk_10 lk_1244) hd_Model_isLetter ⟨Nat.le_of_ble_eq_true rfl, Nat.le_of_ble_eq_true rfl⟩ rfl hl.1 rfl (Nat.le_of_ble_eq_true rfl) d_Model_cut_92 ⟨(Nat.zero_le _), (Nat.zero_le _)⟩ (fun H locs hw => ?_)
                      refine lv_if_ne (tgt := 111) F.1 F.2.1 d_Model_cut_95 (by decide) (fun c_40 => ?_) (fun c_40 => ?_)
                      · replace h := iq c_40 h
                        exact J_111_l85 x3 x4 H locs ls hw (lv_sub hl [0, 1, 2, 3] rfl) o h ho
                      · replace h := ip c_40 h
                        refine lv_aload_n F.1 F.2.1 d_Model_cut_98 rfl (lv_at hl 0 rfl) ?_
                        refine lv_iload_n F.1 F.2.1 d_Model_cut_99 rfl (lv_at hl 1 rfl) ?_
                        refine lv_iload_n F.1 F.2.1 d_Model_cut_100 rfl (lv_at hl 2 rfl) ?_
                        refine lv_iadd F.1 F.2.1 d_Model_cut_101 ?_
                        obtain ⟨v_42, hc_41, h⟩ := bd_ex h
                        refine cV_i F hA rfl hK hw (c_Model_at l hc_41) trivial rfl (good_V lk_1234 lk_1236 ls_59 lk_10 lk_1237) (mr_0 hK hw) hd_Model_at ⟨Nat.le_of_ble_eq_true rfl, Nat.le_of_ble_eq_true rfl⟩ rfl hl.1 rfl (Nat.le_of_ble_eq_true rfl) d_Model_cut_102 ⟨(Nat.zero_le _), (Nat.zero_le _)⟩ (fun H locs hw => ?_)
                        obtain ⟨v_44, hc_43, h⟩ := bd_ex h
                        refine cS_i F hA rfl hK hw (c_Model_isDigit l S hc_43) trivial rfl (good_S lk_957 lk_958 lk_10 lk_959) hd_Model_isDigit ⟨Nat.le_of_ble_eq_true rfl, Nat.le_of_ble_eq_true rfl⟩ rfl hl.1 rfl (Nat.le_of_ble_eq_true rfl) d_Model_cut_105 ⟨(Nat.zero_le _), (Nat.zero_le _)⟩ (fun H locs hw => ?_)
                        refine lv_if_eq (tgt := 137) F.1 F.2.1 d_Model_cut_108 (by decide) (fun c_45 => ?_) (fun c_45 => ?_)
                        · replace h := ip c_45 h
                          cases h
                          have ho : X_85 _ := ho
                          rw [eX_85] at ho
                          exact ho H locs ls hw (lv_sub hl [0, 1, 2, 3] rfl)
                        · replace h := iq c_45 h
                          exact J_111_l85 x3 x4 H locs ls hw (lv_sub hl [0, 1, 2, 3] rfl) o h ho
                    rw [eP_85] at hL_85
                    exact hL_85 H locs ls hw (lv_sub hl [3, 4, 1, 0] rfl)
                · replace h := ip c_9 h
                  exact J_67_l7 S x1 H locs ls hw (lv_sub hl [1, 2] rfl) o h ho
        · replace h := iq c_5 h
          refine lv_aload_n F.1 F.2.1 d_Model_cut_31 rfl (lv_at hl 1 rfl) ?_
          refine lv_iconst (v := 0) F.1 F.2.1 d_Model_cut_32 (by decide) ?_
          refine lv_aload_n F.1 F.2.1 d_Model_cut_33 rfl (lv_at hl 1 rfl) ?_
          refine mg_0_4 F hK hw lk_1015 d_Model_cut_34 ?_
          refine lv_iconst (v := 0) F.1 F.2.1 d_Model_cut_37 (by decide) ?_
          refine lv_lconst (v := 0) F.1 F.2.1 d_Model_cut_38 (by decide) ?_
          obtain ⟨S_57, hc_56, h⟩ := bd_ex h
          refine cV_v F hA rfl hK hw (c_Model_token l hc_56) trivial rfl (good_V lk_1238 lk_1240 ls_60 lk_10 lk_1241) (mr_0 hK hw) hd_Model_token ⟨Nat.le_of_ble_eq_true rfl, Nat.le_of_ble_eq_true rfl⟩ rfl hl.1 rfl (Nat.le_of_ble_eq_true rfl) d_Model_cut_39 ⟨(Nat.zero_le _), (Nat.zero_le _)⟩ (fun H locs hw => ?_)
          cases h
          have ho : X_0 _ := ho
          rw [eX_0] at ho
          exact ho H locs _ ls d_Model_cut_42 hw
    rw [eP_7] at hL_7
    exact hL_7 H locs ls hw (lv_sub hl [1, 0] rfl)
  exact key _ _ hw _ h (by rw [eX_0]; exact fun H locs pc ls hd hw => hQ H locs pc ls ad rfl hd hw)
theorem d_Model_is_0 : decode b_Model_is 0 = .ok (.aload_n 0, 1) := by decide +kernel
theorem d_Model_is_1 : decode b_Model_is 1 = .ok (.getfield 198, 3) := by decide +kernel
theorem d_Model_is_4 : decode b_Model_is 4 = .ok (.ifCond .ne 20, 3) := by decide +kernel
theorem d_Model_is_7 : decode b_Model_is 7 = .ok (.aload_n 0, 1) := by decide +kernel
theorem d_Model_is_8 : decode b_Model_is 8 = .ok (.getfield 20, 3) := by decide +kernel
theorem d_Model_is_11 : decode b_Model_is 11 = .ok (.aload_n 0, 1) := by decide +kernel
theorem d_Model_is_12 : decode b_Model_is 12 = .ok (.getfield 201, 3) := by decide +kernel
theorem d_Model_is_15 : decode b_Model_is 15 = .ok (.iaload, 1) := by decide +kernel
theorem d_Model_is_16 : decode b_Model_is 16 = .ok (.iload_n 1, 1) := by decide +kernel
theorem d_Model_is_17 : decode b_Model_is 17 = .ok (.if_icmp .ne 7, 3) := by decide +kernel
theorem d_Model_is_20 : decode b_Model_is 20 = .ok (.iconst 1, 1) := by decide +kernel
theorem d_Model_is_21 : decode b_Model_is 21 = .ok (.goto 4, 3) := by decide +kernel
theorem d_Model_is_24 : decode b_Model_is 24 = .ok (.iconst 0, 1) := by decide +kernel
theorem d_Model_is_25 : decode b_Model_is 25 = .ok (.ireturn, 1) := by decide +kernel
set_option maxHeartbeats 4000000 in
set_option maxRecDepth 100000 in
theorem c_Model_is (l : Launch) {S : St} {x1 : Int32} {r : Int32} (h : f_Model_is S x1 = some r) : MI mw l y_Model_is b_Model_is 2 (some .boolean) 0 0 0 0 (fun ad => [.ref (ad 0 0), .int x1]) aT aE S r S := by
  refine MZ_of "LawfulLotsModel" rfl (by decide) (fun _ => Nat.le_of_ble_eq_true rfl) ?_
  intro p e s m args below meth c D ar ad A Q ls hP F hK hA hw hl hQ
  have hl : lv_has ls 2 [(0, .ref (ad 0 0)), (1, .int x1)] := hl
  obtain ⟨X_0, eX_0⟩ : ∃ X : Int32 → Prop, X = (fun q => ∀ (H : Heap) (locs : List Loc) (pc : Nat) (ls : Array Slot), isB q = true → decode b_Model_is pc = .ok (.ireturn, 1) → Bw mw D ar A s.heap H locs ad S → W p l e (RM 0 0) s m args below meth c H locs 0 0 Q (F0 m pc ls [.int q])) := ⟨_, rfl⟩
  have key : ∀ (H : Heap) (locs : List Loc), Bw mw D ar A s.heap H locs ad S → ∀ o, f_Model_is S x1 = some o → X_0 o → W p l e (RM 0 0) s m args below meth c H locs 0 0 Q (F0 m 0 ls []) := by
    intro H locs hw o h ho
    unfold f_Model_is at h
    have J_25 : ∀ (t0 : Int32) (H : Heap) (locs : List Loc) (ls : Array Slot), Bw mw D ar A s.heap H locs ad S → lv_has ls 2 [] → ∀ o, Model_is_j25 S t0 = some o → X_0 o → W p l e (RM 0 0) s m args below meth c H locs 0 0 Q (F0 m 25 ls [.int t0]) := by
      intro t0 H locs ls hw hl o h ho
      unfold Model_is_j25 at h
      obtain ⟨hb_4, h⟩ := gd_ex h
      cases h
      have ho : X_0 _ := ho
      rw [eX_0] at ho
      exact ho H locs _ ls hb_4 d_Model_is_25 hw
    have J_24 : ∀ (H : Heap) (locs : List Loc) (ls : Array Slot), Bw mw D ar A s.heap H locs ad S → lv_has ls 2 [] → ∀ o, Model_is_j24 S = some o → X_0 o → W p l e (RM 0 0) s m args below meth c H locs 0 0 Q (F0 m 24 ls []) := by
      intro H locs ls hw hl o h ho
      unfold Model_is_j24 at h
      refine lv_iconst (v := 0) F.1 F.2.1 d_Model_is_24 (by decide) ?_
      exact J_25 (0 : Int32) H locs ls hw (lv_sub hl [] rfl) o h ho
    refine lv_aload_n F.1 F.2.1 d_Model_is_0 rfl (lv_at hl 0 rfl) ?_
    refine mg_0_13 F hK hw lk_1024 d_Model_is_1 ?_
    refine lv_if_ne (tgt := 24) F.1 F.2.1 d_Model_is_4 (by decide) (fun c_1 => ?_) (fun c_1 => ?_)
    · replace h := iq c_1 h
      exact J_24 H locs ls hw (lv_sub hl [] rfl) o h ho
    · replace h := ip c_1 h
      refine lv_aload_n F.1 F.2.1 d_Model_is_7 rfl (lv_at hl 0 rfl) ?_
      refine mg_0_5 F hK hw lk_1016 d_Model_is_8 ?_
      refine lv_aload_n F.1 F.2.1 d_Model_is_11 rfl (lv_at hl 0 rfl) ?_
      refine mg_0_11 F hK hw lk_1022 d_Model_is_12 ?_
      obtain ⟨hi_2, h⟩ := gd_ex h
      refine ml_0_5 F hK hw hi_2 d_Model_is_15 ?_
      refine lv_iload_n F.1 F.2.1 d_Model_is_16 rfl (lv_at hl 1 rfl) ?_
      refine lv_icmp_ne (tgt := 24) F.1 F.2.1 d_Model_is_17 (by decide) (fun c_3 => ?_) (fun c_3 => ?_)
      · replace h := iq c_3 h
        exact J_24 H locs ls hw (lv_sub hl [] rfl) o h ho
      · replace h := ip c_3 h
        refine lv_iconst (v := 1) F.1 F.2.1 d_Model_is_20 (by decide) ?_
        refine lv_goto (tgt := 25) F.1 F.2.1 d_Model_is_21 (by decide) ?_
        exact J_25 (1 : Int32) H locs ls hw (lv_sub hl [] rfl) o h ho
  exact key _ _ hw _ h (by rw [eX_0]; exact fun H locs pc ls hb hd hw => hQ H locs pc ls ad hb rfl hd hw)
theorem d_Model_fail_0 : decode b_Model_fail 0 = .ok (.aload_n 0, 1) := by decide +kernel
theorem d_Model_fail_1 : decode b_Model_fail 1 = .ok (.getfield 198, 3) := by decide +kernel
theorem d_Model_fail_4 : decode b_Model_fail 4 = .ok (.ifCond .le 4, 3) := by decide +kernel
theorem d_Model_fail_7 : decode b_Model_fail 7 = .ok (.return_, 1) := by decide +kernel
theorem d_Model_fail_8 : decode b_Model_fail 8 = .ok (.aload_n 0, 1) := by decide +kernel
theorem d_Model_fail_9 : decode b_Model_fail 9 = .ok (.iload_n 1, 1) := by decide +kernel
theorem d_Model_fail_10 : decode b_Model_fail 10 = .ok (.putfield 198, 3) := by decide +kernel
theorem d_Model_fail_13 : decode b_Model_fail 13 = .ok (.aload_n 0, 1) := by decide +kernel
theorem d_Model_fail_14 : decode b_Model_fail 14 = .ok (.aload_n 0, 1) := by decide +kernel
theorem d_Model_fail_15 : decode b_Model_fail 15 = .ok (.getfield 24, 3) := by decide +kernel
theorem d_Model_fail_18 : decode b_Model_fail 18 = .ok (.aload_n 0, 1) := by decide +kernel
theorem d_Model_fail_19 : decode b_Model_fail 19 = .ok (.getfield 201, 3) := by decide +kernel
theorem d_Model_fail_22 : decode b_Model_fail 22 = .ok (.iaload, 1) := by decide +kernel
theorem d_Model_fail_23 : decode b_Model_fail 23 = .ok (.putfield 204, 3) := by decide +kernel
theorem d_Model_fail_26 : decode b_Model_fail 26 = .ok (.return_, 1) := by decide +kernel
set_option maxHeartbeats 4000000 in
set_option maxRecDepth 100000 in
theorem c_Model_fail (l : Launch) {S : St} {x1 : Int32} {S' : St} (h : f_Model_fail S x1 = some S') : MV mw l y_Model_fail b_Model_fail 2 none 0 0 0 0 (fun ad => [.ref (ad 0 0), .int x1]) aT aE S S' := by
  refine MV_of "LawfulLotsModel" rfl (by decide) (fun _ => Nat.le_of_ble_eq_true rfl) ?_
  intro p e s m args below meth c D ar ad A Q ls hP F hK hA hw hl hQ
  have hl : lv_has ls 2 [(0, .ref (ad 0 0)), (1, .int x1)] := hl
  obtain ⟨X_0, eX_0⟩ : ∃ X : St → Prop, X = (fun q => ∀ (H : Heap) (locs : List Loc) (pc : Nat) (ls : Array Slot), decode b_Model_fail pc = .ok (.return_, 1) → Bw mw D ar A s.heap H locs ad q → W p l e (RM 0 0) s m args below meth c H locs 0 0 Q (F0 m pc ls [])) := ⟨_, rfl⟩
  have key : ∀ (H : Heap) (locs : List Loc), Bw mw D ar A s.heap H locs ad S → ∀ o, f_Model_fail S x1 = some o → X_0 o → W p l e (RM 0 0) s m args below meth c H locs 0 0 Q (F0 m 0 ls []) := by
    intro H locs hw o h ho
    unfold f_Model_fail at h
    refine lv_aload_n F.1 F.2.1 d_Model_fail_0 rfl (lv_at hl 0 rfl) ?_
    refine mg_0_13 F hK hw lk_1024 d_Model_fail_1 ?_
    refine lv_if_le (tgt := 8) F.1 F.2.1 d_Model_fail_4 (by decide) (fun c_1 => ?_) (fun c_1 => ?_)
    · replace h := ip c_1 h
      refine lv_aload_n F.1 F.2.1 d_Model_fail_8 rfl (lv_at hl 0 rfl) ?_
      refine lv_iload_n F.1 F.2.1 d_Model_fail_9 rfl (lv_at hl 1 rfl) ?_
      obtain ⟨S_2, eS_2, h⟩ := nm_ex h
      refine mp_0_13 F hK hw lk_1024 d_Model_fail_10 eS_2 (fun H locs hw => ?_)
      refine lv_aload_n F.1 F.2.1 d_Model_fail_13 rfl (lv_at hl 0 rfl) ?_
      refine lv_aload_n F.1 F.2.1 d_Model_fail_14 rfl (lv_at hl 0 rfl) ?_
      refine mg_0_6 F hK hw lk_1017 d_Model_fail_15 ?_
      refine lv_aload_n F.1 F.2.1 d_Model_fail_18 rfl (lv_at hl 0 rfl) ?_
      refine mg_0_11 F hK hw lk_1022 d_Model_fail_19 ?_
      obtain ⟨hi_3, h⟩ := gd_ex h
      refine ml_0_6 F hK hw hi_3 d_Model_fail_22 ?_
      obtain ⟨S_4, eS_4, h⟩ := nm_ex h
      refine mp_0_14 F hK hw lk_1025 d_Model_fail_23 eS_4 (fun H locs hw => ?_)
      cases h
      have ho : X_0 _ := ho
      rw [eX_0] at ho
      exact ho H locs _ ls d_Model_fail_26 hw
    · replace h := iq c_1 h
      cases h
      have ho : X_0 _ := ho
      rw [eX_0] at ho
      exact ho H locs _ ls d_Model_fail_7 hw
  exact key _ _ hw _ h (by rw [eX_0]; exact fun H locs pc ls hd hw => hQ H locs pc ls ad rfl hd hw)
theorem d_Model_wrong_0 : decode b_Model_wrong 0 = .ok (.aload_n 0, 1) := by decide +kernel
theorem d_Model_wrong_1 : decode b_Model_wrong 1 = .ok (.getfield 24, 3) := by decide +kernel
theorem d_Model_wrong_4 : decode b_Model_wrong 4 = .ok (.iload_n 2, 1) := by decide +kernel
theorem d_Model_wrong_5 : decode b_Model_wrong 5 = .ok (.iaload, 1) := by decide +kernel
theorem d_Model_wrong_6 : decode b_Model_wrong 6 = .ok (.istore_n 3, 1) := by decide +kernel
theorem d_Model_wrong_7 : decode b_Model_wrong 7 = .ok (.aload_n 0, 1) := by decide +kernel
theorem d_Model_wrong_8 : decode b_Model_wrong 8 = .ok (.getfield 198, 3) := by decide +kernel
theorem d_Model_wrong_11 : decode b_Model_wrong 11 = .ok (.ifCond .gt 34, 3) := by decide +kernel
theorem d_Model_wrong_14 : decode b_Model_wrong 14 = .ok (.aload_n 0, 1) := by decide +kernel
theorem d_Model_wrong_15 : decode b_Model_wrong 15 = .ok (.getfield 207, 3) := by decide +kernel
theorem d_Model_wrong_18 : decode b_Model_wrong 18 = .ok (.ifCond .eq 28, 3) := by decide +kernel
theorem d_Model_wrong_21 : decode b_Model_wrong 21 = .ok (.iload_n 3, 1) := by decide +kernel
theorem d_Model_wrong_22 : decode b_Model_wrong 22 = .ok (.aload_n 0, 1) := by decide +kernel
theorem d_Model_wrong_23 : decode b_Model_wrong 23 = .ok (.getfield 210, 3) := by decide +kernel
theorem d_Model_wrong_26 : decode b_Model_wrong 26 = .ok (.if_icmp .gt 19, 3) := by decide +kernel
theorem d_Model_wrong_29 : decode b_Model_wrong 29 = .ok (.iload_n 3, 1) := by decide +kernel
theorem d_Model_wrong_30 : decode b_Model_wrong 30 = .ok (.aload_n 0, 1) := by decide +kernel
theorem d_Model_wrong_31 : decode b_Model_wrong 31 = .ok (.getfield 210, 3) := by decide +kernel
theorem d_Model_wrong_34 : decode b_Model_wrong 34 = .ok (.if_icmp .ne 12, 3) := by decide +kernel
theorem d_Model_wrong_37 : decode b_Model_wrong 37 = .ok (.iload_n 1, 1) := by decide +kernel
theorem d_Model_wrong_38 : decode b_Model_wrong 38 = .ok (.aload_n 0, 1) := by decide +kernel
theorem d_Model_wrong_39 : decode b_Model_wrong 39 = .ok (.getfield 207, 3) := by decide +kernel
theorem d_Model_wrong_42 : decode b_Model_wrong 42 = .ok (.if_icmp .lt 4, 3) := by decide +kernel
theorem d_Model_wrong_45 : decode b_Model_wrong 45 = .ok (.return_, 1) := by decide +kernel
theorem d_Model_wrong_46 : decode b_Model_wrong 46 = .ok (.aload_n 0, 1) := by decide +kernel
theorem d_Model_wrong_47 : decode b_Model_wrong 47 = .ok (.iload_n 1, 1) := by decide +kernel
theorem d_Model_wrong_48 : decode b_Model_wrong 48 = .ok (.putfield 207, 3) := by decide +kernel
theorem d_Model_wrong_51 : decode b_Model_wrong 51 = .ok (.aload_n 0, 1) := by decide +kernel
theorem d_Model_wrong_52 : decode b_Model_wrong 52 = .ok (.iload_n 3, 1) := by decide +kernel
theorem d_Model_wrong_53 : decode b_Model_wrong 53 = .ok (.putfield 210, 3) := by decide +kernel
theorem d_Model_wrong_56 : decode b_Model_wrong 56 = .ok (.return_, 1) := by decide +kernel
set_option maxHeartbeats 4000000 in
set_option maxRecDepth 100000 in
theorem c_Model_wrong (l : Launch) {S : St} {x1 : Int32} {x2 : Int32} {S' : St} (h : f_Model_wrong S x1 x2 = some S') : MV mw l y_Model_wrong b_Model_wrong 4 none 0 0 0 0 (fun ad => [.ref (ad 0 0), .int x1, .int x2]) aT aE S S' := by
  refine MV_of "LawfulLotsModel" rfl (by decide) (fun _ => Nat.le_of_ble_eq_true rfl) ?_
  intro p e s m args below meth c D ar ad A Q ls hP F hK hA hw hl hQ
  have hl : lv_has ls 4 [(0, .ref (ad 0 0)), (1, .int x1), (2, .int x2)] := hl
  obtain ⟨X_0, eX_0⟩ : ∃ X : St → Prop, X = (fun q => ∀ (H : Heap) (locs : List Loc) (pc : Nat) (ls : Array Slot), decode b_Model_wrong pc = .ok (.return_, 1) → Bw mw D ar A s.heap H locs ad q → W p l e (RM 0 0) s m args below meth c H locs 0 0 Q (F0 m pc ls [])) := ⟨_, rfl⟩
  have key : ∀ (H : Heap) (locs : List Loc), Bw mw D ar A s.heap H locs ad S → ∀ o, f_Model_wrong S x1 x2 = some o → X_0 o → W p l e (RM 0 0) s m args below meth c H locs 0 0 Q (F0 m 0 ls []) := by
    intro H locs hw o h ho
    unfold f_Model_wrong at h
    have J_46 : ∀ (S : St) (x3 : Int32) (H : Heap) (locs : List Loc) (ls : Array Slot), Bw mw D ar A s.heap H locs ad S → lv_has ls 4 [(0, .ref (ad 0 0)), (1, .int x1), (3, .int x3)] → ∀ o, Model_wrong_j46 S x1 x3 = some o → X_0 o → W p l e (RM 0 0) s m args below meth c H locs 0 0 Q (F0 m 46 ls []) := by
      intro S x3 H locs ls hw hl o h ho
      unfold Model_wrong_j46 at h
      refine lv_aload_n F.1 F.2.1 d_Model_wrong_46 rfl (lv_at hl 0 rfl) ?_
      refine lv_iload_n F.1 F.2.1 d_Model_wrong_47 rfl (lv_at hl 1 rfl) ?_
      obtain ⟨S_8, eS_8, h⟩ := nm_ex h
      refine mp_0_15 F hK hw lk_1026 d_Model_wrong_48 eS_8 (fun H locs hw => ?_)
      refine lv_aload_n F.1 F.2.1 d_Model_wrong_51 rfl (lv_at hl 0 rfl) ?_
      refine lv_iload_n F.1 F.2.1 d_Model_wrong_52 rfl (lv_at hl 2 rfl) ?_
      obtain ⟨S_9, eS_9, h⟩ := nm_ex h
      refine mp_0_16 F hK hw lk_1027 d_Model_wrong_53 eS_9 (fun H locs hw => ?_)
      cases h
      have ho : X_0 _ := ho
      rw [eX_0] at ho
      exact ho H locs _ ls d_Model_wrong_56 hw
    have J_45 : ∀ (S : St) (H : Heap) (locs : List Loc) (ls : Array Slot), Bw mw D ar A s.heap H locs ad S → lv_has ls 4 [] → ∀ o, Model_wrong_j45 S = some o → X_0 o → W p l e (RM 0 0) s m args below meth c H locs 0 0 Q (F0 m 45 ls []) := by
      intro S H locs ls hw hl o h ho
      unfold Model_wrong_j45 at h
      cases h
      have ho : X_0 _ := ho
      rw [eX_0] at ho
      exact ho H locs _ ls d_Model_wrong_45 hw
    refine lv_aload_n F.1 F.2.1 d_Model_wrong_0 rfl (lv_at hl 0 rfl) ?_
    refine mg_0_6 F hK hw lk_1017 d_Model_wrong_1 ?_
    refine lv_iload_n F.1 F.2.1 d_Model_wrong_4 rfl (lv_at hl 2 rfl) ?_
    obtain ⟨hi_1, h⟩ := gd_ex h
    refine ml_0_6 F hK hw hi_1 d_Model_wrong_5 ?_
    obtain ⟨x3_2, ex3_2, h⟩ := nm_ex h
    refine lv_nm ex3_2 ?_
    refine lv_istore_n (lv' := [(3, .int x3_2), (0, .ref (ad 0 0)), (1, .int x1), (2, .int x2)]) F.1 F.2.1 d_Model_wrong_6 rfl hl (by decide) rfl (fun ls hl => ?_)
    refine lv_aload_n F.1 F.2.1 d_Model_wrong_7 rfl (lv_at hl 1 rfl) ?_
    refine mg_0_13 F hK hw lk_1024 d_Model_wrong_8 ?_
    refine lv_if_gt (tgt := 45) F.1 F.2.1 d_Model_wrong_11 (by decide) (fun c_3 => ?_) (fun c_3 => ?_)
    · replace h := ip c_3 h
      exact J_45 S H locs ls hw (lv_sub hl [] rfl) o h ho
    · replace h := iq c_3 h
      refine lv_aload_n F.1 F.2.1 d_Model_wrong_14 rfl (lv_at hl 1 rfl) ?_
      refine mg_0_15 F hK hw lk_1026 d_Model_wrong_15 ?_
      refine lv_if_eq (tgt := 46) F.1 F.2.1 d_Model_wrong_18 (by decide) (fun c_4 => ?_) (fun c_4 => ?_)
      · replace h := ip c_4 h
        exact J_46 S x3_2 H locs ls hw (lv_sub hl [1, 2, 0] rfl) o h ho
      · replace h := iq c_4 h
        refine lv_iload_n F.1 F.2.1 d_Model_wrong_21 rfl (lv_at hl 0 rfl) ?_
        refine lv_aload_n F.1 F.2.1 d_Model_wrong_22 rfl (lv_at hl 1 rfl) ?_
        refine mg_0_16 F hK hw lk_1027 d_Model_wrong_23 ?_
        refine lv_icmp_gt (tgt := 45) F.1 F.2.1 d_Model_wrong_26 (by decide) (fun c_5 => ?_) (fun c_5 => ?_)
        · replace h := ip c_5 h
          exact J_45 S H locs ls hw (lv_sub hl [] rfl) o h ho
        · replace h := iq c_5 h
          refine lv_iload_n F.1 F.2.1 d_Model_wrong_29 rfl (lv_at hl 0 rfl) ?_
          refine lv_aload_n F.1 F.2.1 d_Model_wrong_30 rfl (lv_at hl 1 rfl) ?_
          refine mg_0_16 F hK hw lk_1027 d_Model_wrong_31 ?_
          refine lv_icmp_ne (tgt := 46) F.1 F.2.1 d_Model_wrong_34 (by decide) (fun c_6 => ?_) (fun c_6 => ?_)
          · replace h := iq c_6 h
            exact J_46 S x3_2 H locs ls hw (lv_sub hl [1, 2, 0] rfl) o h ho
          · replace h := ip c_6 h
            refine lv_iload_n F.1 F.2.1 d_Model_wrong_37 rfl (lv_at hl 2 rfl) ?_
            refine lv_aload_n F.1 F.2.1 d_Model_wrong_38 rfl (lv_at hl 1 rfl) ?_
            refine mg_0_15 F hK hw lk_1026 d_Model_wrong_39 ?_
            refine lv_icmp_lt (tgt := 46) F.1 F.2.1 d_Model_wrong_42 (by decide) (fun c_7 => ?_) (fun c_7 => ?_)
            · replace h := ip c_7 h
              exact J_46 S x3_2 H locs ls hw (lv_sub hl [1, 2, 0] rfl) o h ho
            · replace h := iq c_7 h
              exact J_45 S H locs ls hw (lv_sub hl [] rfl) o h ho
  exact key _ _ hw _ h (by rw [eX_0]; exact fun H locs pc ls hd hw => hQ H locs pc ls ad rfl hd hw)
theorem d_Model_next_0 : decode b_Model_next 0 = .ok (.aload_n 0, 1) := by decide +kernel
theorem d_Model_next_1 : decode b_Model_next 1 = .ok (.getfield 201, 3) := by decide +kernel
theorem d_Model_next_4 : decode b_Model_next 4 = .ok (.sipush 400, 3) := by decide +kernel
theorem d_Model_next_7 : decode b_Model_next 7 = .ok (.if_icmp .ne 11, 3) := by decide +kernel
theorem d_Model_next_10 : decode b_Model_next 10 = .ok (.aload_n 0, 1) := by decide +kernel
theorem d_Model_next_11 : decode b_Model_next 11 = .ok (.iconst 2, 1) := by decide +kernel
theorem d_Model_next_12 : decode b_Model_next 12 = .ok (.invokevirtual 213, 3) := by decide +kernel
theorem d_Model_next_15 : decode b_Model_next 15 = .ok (.goto 13, 3) := by decide +kernel
theorem d_Model_next_18 : decode b_Model_next 18 = .ok (.aload_n 0, 1) := by decide +kernel
theorem d_Model_next_19 : decode b_Model_next 19 = .ok (.dup, 1) := by decide +kernel
theorem d_Model_next_20 : decode b_Model_next 20 = .ok (.getfield 201, 3) := by decide +kernel
theorem d_Model_next_23 : decode b_Model_next 23 = .ok (.iconst 1, 1) := by decide +kernel
theorem d_Model_next_24 : decode b_Model_next 24 = .ok (.iadd, 1) := by decide +kernel
theorem d_Model_next_25 : decode b_Model_next 25 = .ok (.putfield 201, 3) := by decide +kernel
theorem d_Model_next_28 : decode b_Model_next 28 = .ok (.return_, 1) := by decide +kernel
set_option maxHeartbeats 4000000 in
set_option maxRecDepth 100000 in
theorem c_Model_next (l : Launch) {S : St} {S' : St} (h : f_Model_next S = some S') : MV mw l y_Model_next b_Model_next 1 none 1 21 0 0 (fun ad => [.ref (ad 0 0)]) aT aE S S' := by
  refine MV_of "LawfulLotsModel" rfl (by decide) (fun _ => Nat.le_of_ble_eq_true rfl) ?_
  intro p e s m args below meth c D ar ad A Q ls hP F hK hA hw hl hQ
  have hl : lv_has ls 1 [(0, .ref (ad 0 0))] := hl
  obtain ⟨X_0, eX_0⟩ : ∃ X : St → Prop, X = (fun q => ∀ (H : Heap) (locs : List Loc) (pc : Nat) (ls : Array Slot), decode b_Model_next pc = .ok (.return_, 1) → Bw mw D ar A s.heap H locs ad q → W p l e (RM 1 21) s m args below meth c H locs 0 0 Q (F0 m pc ls [])) := ⟨_, rfl⟩
  have key : ∀ (H : Heap) (locs : List Loc), Bw mw D ar A s.heap H locs ad S → ∀ o, f_Model_next S = some o → X_0 o → W p l e (RM 1 21) s m args below meth c H locs 0 0 Q (F0 m 0 ls []) := by
    intro H locs hw o h ho
    unfold f_Model_next at h
    have J_28 : ∀ (S : St) (H : Heap) (locs : List Loc) (ls : Array Slot), Bw mw D ar A s.heap H locs ad S → lv_has ls 1 [] → ∀ o, Model_next_j28 S = some o → X_0 o → W p l e (RM 1 21) s m args below meth c H locs 0 0 Q (F0 m 28 ls []) := by
      intro S H locs ls hw hl o h ho
      unfold Model_next_j28 at h
      cases h
      have ho : X_0 _ := ho
      rw [eX_0] at ho
      exact ho H locs _ ls d_Model_next_28 hw
    refine lv_aload_n F.1 F.2.1 d_Model_next_0 rfl (lv_at hl 0 rfl) ?_
    refine mg_0_11 F hK hw lk_1022 d_Model_next_1 ?_
    refine lv_sipush (v := 400) F.1 F.2.1 d_Model_next_4 (by decide) ?_
    refine lv_icmp_ne (tgt := 18) F.1 F.2.1 d_Model_next_7 (by decide) (fun c_1 => ?_) (fun c_1 => ?_)
    · replace h := iq c_1 h
      refine lv_aload_n F.1 F.2.1 d_Model_next_18 rfl (lv_at hl 0 rfl) ?_
      refine lv_dup F.1 F.2.1 d_Model_next_19 rfl ?_
      refine mg_0_11 F hK hw lk_1022 d_Model_next_20 ?_
      refine lv_iconst (v := 1) F.1 F.2.1 d_Model_next_23 (by decide) ?_
      refine lv_iadd F.1 F.2.1 d_Model_next_24 ?_
      obtain ⟨S_2, eS_2, h⟩ := nm_ex h
      refine mp_0_11 F hK hw lk_1022 d_Model_next_25 eS_2 (fun H locs hw => ?_)
      exact J_28 S_2 H locs ls hw (lv_sub hl [] rfl) o h ho
    · replace h := ip c_1 h
      refine lv_aload_n F.1 F.2.1 d_Model_next_10 rfl (lv_at hl 0 rfl) ?_
      refine lv_iconst (v := 2) F.1 F.2.1 d_Model_next_11 (by decide) ?_
      obtain ⟨S_4, hc_3, h⟩ := bd_ex h
      refine cV_v F hA rfl hK hw (c_Model_fail l hc_3) trivial rfl (good_V lk_1261 lk_1263 ls_65 lk_10 lk_1264) (mr_0 hK hw) hd_Model_fail ⟨Nat.le_of_ble_eq_true rfl, Nat.le_of_ble_eq_true rfl⟩ rfl hl.1 rfl (Nat.le_of_ble_eq_true rfl) d_Model_next_12 ⟨(Nat.zero_le _), (Nat.zero_le _)⟩ (fun H locs hw => ?_)
      refine lv_goto (tgt := 28) F.1 F.2.1 d_Model_next_15 (by decide) ?_
      exact J_28 S_4 H locs ls hw (lv_sub hl [] rfl) o h ho
  exact key _ _ hw _ h (by rw [eX_0]; exact fun H locs pc ls hd hw => hQ H locs pc ls ad rfl hd hw)
theorem d_Model_must_0 : decode b_Model_must 0 = .ok (.aload_n 0, 1) := by decide +kernel
theorem d_Model_must_1 : decode b_Model_must 1 = .ok (.iload_n 1, 1) := by decide +kernel
theorem d_Model_must_2 : decode b_Model_must 2 = .ok (.invokevirtual 216, 3) := by decide +kernel
theorem d_Model_must_5 : decode b_Model_must 5 = .ok (.ifCond .eq 10, 3) := by decide +kernel
theorem d_Model_must_8 : decode b_Model_must 8 = .ok (.aload_n 0, 1) := by decide +kernel
theorem d_Model_must_9 : decode b_Model_must 9 = .ok (.invokevirtual 219, 3) := by decide +kernel
theorem d_Model_must_12 : decode b_Model_must 12 = .ok (.goto 8, 3) := by decide +kernel
theorem d_Model_must_15 : decode b_Model_must 15 = .ok (.aload_n 0, 1) := by decide +kernel
theorem d_Model_must_16 : decode b_Model_must 16 = .ok (.iconst 1, 1) := by decide +kernel
theorem d_Model_must_17 : decode b_Model_must 17 = .ok (.invokevirtual 213, 3) := by decide +kernel
theorem d_Model_must_20 : decode b_Model_must 20 = .ok (.return_, 1) := by decide +kernel
set_option maxHeartbeats 4000000 in
set_option maxRecDepth 100000 in
theorem c_Model_must (l : Launch) {S : St} {x1 : Int32} {S' : St} (h : f_Model_must S x1 = some S') : MV mw l y_Model_must b_Model_must 2 none 2 41 0 0 (fun ad => [.ref (ad 0 0), .int x1]) aT aE S S' := by
  refine MV_of "LawfulLotsModel" rfl (by decide) (fun _ => Nat.le_of_ble_eq_true rfl) ?_
  intro p e s m args below meth c D ar ad A Q ls hP F hK hA hw hl hQ
  have hl : lv_has ls 2 [(0, .ref (ad 0 0)), (1, .int x1)] := hl
  obtain ⟨X_0, eX_0⟩ : ∃ X : St → Prop, X = (fun q => ∀ (H : Heap) (locs : List Loc) (pc : Nat) (ls : Array Slot), decode b_Model_must pc = .ok (.return_, 1) → Bw mw D ar A s.heap H locs ad q → W p l e (RM 2 41) s m args below meth c H locs 0 0 Q (F0 m pc ls [])) := ⟨_, rfl⟩
  have key : ∀ (H : Heap) (locs : List Loc), Bw mw D ar A s.heap H locs ad S → ∀ o, f_Model_must S x1 = some o → X_0 o → W p l e (RM 2 41) s m args below meth c H locs 0 0 Q (F0 m 0 ls []) := by
    intro H locs hw o h ho
    unfold f_Model_must at h
    have J_20 : ∀ (S : St) (H : Heap) (locs : List Loc) (ls : Array Slot), Bw mw D ar A s.heap H locs ad S → lv_has ls 2 [] → ∀ o, Model_must_j20 S = some o → X_0 o → W p l e (RM 2 41) s m args below meth c H locs 0 0 Q (F0 m 20 ls []) := by
      intro S H locs ls hw hl o h ho
      unfold Model_must_j20 at h
      cases h
      have ho : X_0 _ := ho
      rw [eX_0] at ho
      exact ho H locs _ ls d_Model_must_20 hw
    refine lv_aload_n F.1 F.2.1 d_Model_must_0 rfl (lv_at hl 0 rfl) ?_
    refine lv_iload_n F.1 F.2.1 d_Model_must_1 rfl (lv_at hl 1 rfl) ?_
    obtain ⟨v_2, hc_1, h⟩ := bd_ex h
    refine cV_i F hA rfl hK hw (c_Model_is l hc_1) trivial rfl (good_V lk_1249 lk_1251 ls_62 lk_10 lk_1252) (mr_0 hK hw) hd_Model_is ⟨Nat.le_of_ble_eq_true rfl, Nat.le_of_ble_eq_true rfl⟩ rfl hl.1 rfl (Nat.le_of_ble_eq_true rfl) d_Model_must_2 ⟨(Nat.zero_le _), (Nat.zero_le _)⟩ (fun H locs hw => ?_)
    refine lv_if_eq (tgt := 15) F.1 F.2.1 d_Model_must_5 (by decide) (fun c_3 => ?_) (fun c_3 => ?_)
    · replace h := ip c_3 h
      refine lv_aload_n F.1 F.2.1 d_Model_must_15 rfl (lv_at hl 0 rfl) ?_
      refine lv_iconst (v := 1) F.1 F.2.1 d_Model_must_16 (by decide) ?_
      obtain ⟨S_5, hc_4, h⟩ := bd_ex h
      refine cV_v F hA rfl hK hw (c_Model_fail l hc_4) trivial rfl (good_V lk_1261 lk_1263 ls_65 lk_10 lk_1264) (mr_0 hK hw) hd_Model_fail ⟨Nat.le_of_ble_eq_true rfl, Nat.le_of_ble_eq_true rfl⟩ rfl hl.1 rfl (Nat.le_of_ble_eq_true rfl) d_Model_must_17 ⟨(Nat.zero_le _), (Nat.zero_le _)⟩ (fun H locs hw => ?_)
      exact J_20 S_5 H locs ls hw (lv_sub hl [] rfl) o h ho
    · replace h := iq c_3 h
      refine lv_aload_n F.1 F.2.1 d_Model_must_8 rfl (lv_at hl 0 rfl) ?_
      obtain ⟨S_7, hc_6, h⟩ := bd_ex h
      refine cV_v F hA rfl hK hw (c_Model_next l hc_6) trivial rfl (good_V lk_1265 lk_1267 ls_66 lk_10 lk_1268) (mr_0 hK hw) hd_Model_next ⟨Nat.le_of_ble_eq_true rfl, Nat.le_of_ble_eq_true rfl⟩ rfl hl.1 rfl (Nat.le_of_ble_eq_true rfl) d_Model_must_9 ⟨(Nat.zero_le _), (Nat.zero_le _)⟩ (fun H locs hw => ?_)
      refine lv_goto (tgt := 20) F.1 F.2.1 d_Model_must_12 (by decide) ?_
      exact J_20 S_7 H locs ls hw (lv_sub hl [] rfl) o h ho
  exact key _ _ hw _ h (by rw [eX_0]; exact fun H locs pc ls hd hw => hQ H locs pc ls ad rfl hd hw)
theorem d_Model_tellField_0 : decode b_Model_tellField 0 = .ok (.aload_n 0, 1) := by decide +kernel
theorem d_Model_tellField_1 : decode b_Model_tellField 1 = .ok (.getfield 40, 3) := by decide +kernel
theorem d_Model_tellField_4 : decode b_Model_tellField 4 = .ok (.aload_n 0, 1) := by decide +kernel
theorem d_Model_tellField_5 : decode b_Model_tellField 5 = .ok (.getfield 231, 3) := by decide +kernel
theorem d_Model_tellField_8 : decode b_Model_tellField 8 = .ok (.iaload, 1) := by decide +kernel
theorem d_Model_tellField_9 : decode b_Model_tellField 9 = .ok (.bipush 6, 2) := by decide +kernel
theorem d_Model_tellField_11 : decode b_Model_tellField 11 = .ok (.if_icmp .ne 8, 3) := by decide +kernel
theorem d_Model_tellField_14 : decode b_Model_tellField 14 = .ok (.aload_n 0, 1) := by decide +kernel
theorem d_Model_tellField_15 : decode b_Model_tellField 15 = .ok (.iconst 2, 1) := by decide +kernel
theorem d_Model_tellField_16 : decode b_Model_tellField 16 = .ok (.invokevirtual 213, 3) := by decide +kernel
theorem d_Model_tellField_19 : decode b_Model_tellField 19 = .ok (.aload_n 0, 1) := by decide +kernel
theorem d_Model_tellField_20 : decode b_Model_tellField 20 = .ok (.invokevirtual 219, 3) := by decide +kernel
theorem d_Model_tellField_23 : decode b_Model_tellField 23 = .ok (.aload_n 0, 1) := by decide +kernel
theorem d_Model_tellField_24 : decode b_Model_tellField 24 = .ok (.getfield 201, 3) := by decide +kernel
theorem d_Model_tellField_27 : decode b_Model_tellField 27 = .ok (.istore_n 1, 1) := by decide +kernel
theorem d_Model_tellField_28 : decode b_Model_tellField 28 = .ok (.aload_n 0, 1) := by decide +kernel
theorem d_Model_tellField_29 : decode b_Model_tellField 29 = .ok (.iconst 1, 1) := by decide +kernel
theorem d_Model_tellField_30 : decode b_Model_tellField 30 = .ok (.invokevirtual 254, 3) := by decide +kernel
theorem d_Model_tellField_33 : decode b_Model_tellField 33 = .ok (.aload_n 0, 1) := by decide +kernel
theorem d_Model_tellField_34 : decode b_Model_tellField 34 = .ok (.bipush 21, 2) := by decide +kernel
theorem d_Model_tellField_36 : decode b_Model_tellField 36 = .ok (.invokevirtual 254, 3) := by decide +kernel
theorem d_Model_tellField_39 : decode b_Model_tellField 39 = .ok (.aload_n 0, 1) := by decide +kernel
theorem d_Model_tellField_40 : decode b_Model_tellField 40 = .ok (.iconst 2, 1) := by decide +kernel
theorem d_Model_tellField_41 : decode b_Model_tellField 41 = .ok (.invokevirtual 216, 3) := by decide +kernel
theorem d_Model_tellField_44 : decode b_Model_tellField 44 = .ok (.ifCond .eq 15, 3) := by decide +kernel
theorem d_Model_tellField_47 : decode b_Model_tellField 47 = .ok (.aload_n 0, 1) := by decide +kernel
theorem d_Model_tellField_48 : decode b_Model_tellField 48 = .ok (.getfield 27, 3) := by decide +kernel
theorem d_Model_tellField_51 : decode b_Model_tellField 51 = .ok (.aload_n 0, 1) := by decide +kernel
theorem d_Model_tellField_52 : decode b_Model_tellField 52 = .ok (.getfield 201, 3) := by decide +kernel
theorem d_Model_tellField_55 : decode b_Model_tellField 55 = .ok (.iaload, 1) := by decide +kernel
theorem d_Model_tellField_56 : decode b_Model_tellField 56 = .ok (.goto 4, 3) := by decide +kernel
theorem d_Model_tellField_59 : decode b_Model_tellField 59 = .ok (.iconst 0, 1) := by decide +kernel
theorem d_Model_tellField_60 : decode b_Model_tellField 60 = .ok (.istore_n 2, 1) := by decide +kernel
theorem d_Model_tellField_61 : decode b_Model_tellField 61 = .ok (.aload_n 0, 1) := by decide +kernel
theorem d_Model_tellField_62 : decode b_Model_tellField 62 = .ok (.iconst 2, 1) := by decide +kernel
theorem d_Model_tellField_63 : decode b_Model_tellField 63 = .ok (.invokevirtual 254, 3) := by decide +kernel
theorem d_Model_tellField_66 : decode b_Model_tellField 66 = .ok (.aload_n 0, 1) := by decide +kernel
theorem d_Model_tellField_67 : decode b_Model_tellField 67 = .ok (.bipush 22, 2) := by decide +kernel
theorem d_Model_tellField_69 : decode b_Model_tellField 69 = .ok (.invokevirtual 254, 3) := by decide +kernel
theorem d_Model_tellField_72 : decode b_Model_tellField 72 = .ok (.aload_n 0, 1) := by decide +kernel
theorem d_Model_tellField_73 : decode b_Model_tellField 73 = .ok (.getfield 201, 3) := by decide +kernel
theorem d_Model_tellField_76 : decode b_Model_tellField 76 = .ok (.istore_n 3, 1) := by decide +kernel
theorem d_Model_tellField_77 : decode b_Model_tellField 77 = .ok (.aload_n 0, 1) := by decide +kernel
theorem d_Model_tellField_78 : decode b_Model_tellField 78 = .ok (.iconst 2, 1) := by decide +kernel
theorem d_Model_tellField_79 : decode b_Model_tellField 79 = .ok (.invokevirtual 216, 3) := by decide +kernel
theorem d_Model_tellField_82 : decode b_Model_tellField 82 = .ok (.ifCond .eq 15, 3) := by decide +kernel
theorem d_Model_tellField_85 : decode b_Model_tellField 85 = .ok (.aload_n 0, 1) := by decide +kernel
theorem d_Model_tellField_86 : decode b_Model_tellField 86 = .ok (.getfield 27, 3) := by decide +kernel
theorem d_Model_tellField_89 : decode b_Model_tellField 89 = .ok (.aload_n 0, 1) := by decide +kernel
theorem d_Model_tellField_90 : decode b_Model_tellField 90 = .ok (.getfield 201, 3) := by decide +kernel
theorem d_Model_tellField_93 : decode b_Model_tellField 93 = .ok (.iaload, 1) := by decide +kernel
theorem d_Model_tellField_94 : decode b_Model_tellField 94 = .ok (.goto 4, 3) := by decide +kernel
theorem d_Model_tellField_97 : decode b_Model_tellField 97 = .ok (.iconst 0, 1) := by decide +kernel
theorem d_Model_tellField_98 : decode b_Model_tellField 98 = .ok (.istore 4, 2) := by decide +kernel
theorem d_Model_tellField_100 : decode b_Model_tellField 100 = .ok (.aload_n 0, 1) := by decide +kernel
theorem d_Model_tellField_101 : decode b_Model_tellField 101 = .ok (.iconst 2, 1) := by decide +kernel
theorem d_Model_tellField_102 : decode b_Model_tellField 102 = .ok (.invokevirtual 254, 3) := by decide +kernel
theorem d_Model_tellField_105 : decode b_Model_tellField 105 = .ok (.aload_n 0, 1) := by decide +kernel
theorem d_Model_tellField_106 : decode b_Model_tellField 106 = .ok (.bipush 8, 2) := by decide +kernel
theorem d_Model_tellField_108 : decode b_Model_tellField 108 = .ok (.invokevirtual 254, 3) := by decide +kernel
theorem d_Model_tellField_111 : decode b_Model_tellField 111 = .ok (.aload_n 0, 1) := by decide +kernel
theorem d_Model_tellField_112 : decode b_Model_tellField 112 = .ok (.getfield 198, 3) := by decide +kernel
theorem d_Model_tellField_115 : decode b_Model_tellField 115 = .ok (.ifCond .le 4, 3) := by decide +kernel
theorem d_Model_tellField_118 : decode b_Model_tellField 118 = .ok (.return_, 1) := by decide +kernel
theorem d_Model_tellField_119 : decode b_Model_tellField 119 = .ok (.bipush 6, 2) := by decide +kernel
theorem d_Model_tellField_121 : decode b_Model_tellField 121 = .ok (.aload_n 0, 1) := by decide +kernel
theorem d_Model_tellField_122 : decode b_Model_tellField 122 = .ok (.getfield 231, 3) := by decide +kernel
theorem d_Model_tellField_125 : decode b_Model_tellField 125 = .ok (.imul, 1) := by decide +kernel
theorem d_Model_tellField_126 : decode b_Model_tellField 126 = .ok (.istore 5, 2) := by decide +kernel
theorem d_Model_tellField_128 : decode b_Model_tellField 128 = .ok (.iload 5, 2) := by decide +kernel
theorem d_Model_tellField_130 : decode b_Model_tellField 130 = .ok (.bipush 6, 2) := by decide +kernel
theorem d_Model_tellField_132 : decode b_Model_tellField 132 = .ok (.aload_n 0, 1) := by decide +kernel
theorem d_Model_tellField_133 : decode b_Model_tellField 133 = .ok (.getfield 231, 3) := by decide +kernel
theorem d_Model_tellField_136 : decode b_Model_tellField 136 = .ok (.imul, 1) := by decide +kernel
theorem d_Model_tellField_137 : decode b_Model_tellField 137 = .ok (.aload_n 0, 1) := by decide +kernel
theorem d_Model_tellField_138 : decode b_Model_tellField 138 = .ok (.getfield 40, 3) := by decide +kernel
theorem d_Model_tellField_141 : decode b_Model_tellField 141 = .ok (.aload_n 0, 1) := by decide +kernel
theorem d_Model_tellField_142 : decode b_Model_tellField 142 = .ok (.getfield 231, 3) := by decide +kernel
theorem d_Model_tellField_145 : decode b_Model_tellField 145 = .ok (.iaload, 1) := by decide +kernel
theorem d_Model_tellField_146 : decode b_Model_tellField 146 = .ok (.iadd, 1) := by decide +kernel
theorem d_Model_tellField_147 : decode b_Model_tellField 147 = .ok (.if_icmp .ge 32, 3) := by decide +kernel
theorem d_Model_tellField_150 : decode b_Model_tellField 150 = .ok (.aload_n 0, 1) := by decide +kernel
theorem d_Model_tellField_151 : decode b_Model_tellField 151 = .ok (.getfield 43, 3) := by decide +kernel
theorem d_Model_tellField_154 : decode b_Model_tellField 154 = .ok (.iload 5, 2) := by decide +kernel
theorem d_Model_tellField_156 : decode b_Model_tellField 156 = .ok (.laload, 1) := by decide +kernel
theorem d_Model_tellField_157 : decode b_Model_tellField 157 = .ok (.aload_n 0, 1) := by decide +kernel
theorem d_Model_tellField_158 : decode b_Model_tellField 158 = .ok (.getfield 30, 3) := by decide +kernel
theorem d_Model_tellField_161 : decode b_Model_tellField 161 = .ok (.iload_n 1, 1) := by decide +kernel
theorem d_Model_tellField_162 : decode b_Model_tellField 162 = .ok (.laload, 1) := by decide +kernel
theorem d_Model_tellField_163 : decode b_Model_tellField 163 = .ok (.lcmp, 1) := by decide +kernel
theorem d_Model_tellField_164 : decode b_Model_tellField 164 = .ok (.ifCond .ne 9, 3) := by decide +kernel
theorem d_Model_tellField_167 : decode b_Model_tellField 167 = .ok (.aload_n 0, 1) := by decide +kernel
theorem d_Model_tellField_168 : decode b_Model_tellField 168 = .ok (.iconst 3, 1) := by decide +kernel
theorem d_Model_tellField_169 : decode b_Model_tellField 169 = .ok (.iload_n 1, 1) := by decide +kernel
theorem d_Model_tellField_170 : decode b_Model_tellField 170 = .ok (.invokevirtual 264, 3) := by decide +kernel
theorem d_Model_tellField_173 : decode b_Model_tellField 173 = .ok (.iinc 5 1, 3) := by decide +kernel
theorem d_Model_tellField_176 : decode b_Model_tellField 176 = .ok (.goto (-48), 3) := by decide +kernel
theorem d_Model_tellField_179 : decode b_Model_tellField 179 = .ok (.iload 4, 2) := by decide +kernel
theorem d_Model_tellField_181 : decode b_Model_tellField 181 = .ok (.iload_n 2, 1) := by decide +kernel
theorem d_Model_tellField_182 : decode b_Model_tellField 182 = .ok (.if_icmp .ge 9, 3) := by decide +kernel
theorem d_Model_tellField_185 : decode b_Model_tellField 185 = .ok (.aload_n 0, 1) := by decide +kernel
theorem d_Model_tellField_186 : decode b_Model_tellField 186 = .ok (.iconst 5, 1) := by decide +kernel
theorem d_Model_tellField_187 : decode b_Model_tellField 187 = .ok (.iload_n 3, 1) := by decide +kernel
theorem d_Model_tellField_188 : decode b_Model_tellField 188 = .ok (.invokevirtual 264, 3) := by decide +kernel
theorem d_Model_tellField_191 : decode b_Model_tellField 191 = .ok (.bipush 6, 2) := by decide +kernel
theorem d_Model_tellField_193 : decode b_Model_tellField 193 = .ok (.aload_n 0, 1) := by decide +kernel
theorem d_Model_tellField_194 : decode b_Model_tellField 194 = .ok (.getfield 231, 3) := by decide +kernel
theorem d_Model_tellField_197 : decode b_Model_tellField 197 = .ok (.imul, 1) := by decide +kernel
theorem d_Model_tellField_198 : decode b_Model_tellField 198 = .ok (.aload_n 0, 1) := by decide +kernel
theorem d_Model_tellField_199 : decode b_Model_tellField 199 = .ok (.getfield 40, 3) := by decide +kernel
theorem d_Model_tellField_202 : decode b_Model_tellField 202 = .ok (.aload_n 0, 1) := by decide +kernel
theorem d_Model_tellField_203 : decode b_Model_tellField 203 = .ok (.getfield 231, 3) := by decide +kernel
theorem d_Model_tellField_206 : decode b_Model_tellField 206 = .ok (.iaload, 1) := by decide +kernel
theorem d_Model_tellField_207 : decode b_Model_tellField 207 = .ok (.iadd, 1) := by decide +kernel
theorem d_Model_tellField_208 : decode b_Model_tellField 208 = .ok (.istore 5, 2) := by decide +kernel
theorem d_Model_tellField_210 : decode b_Model_tellField 210 = .ok (.aload_n 0, 1) := by decide +kernel
theorem d_Model_tellField_211 : decode b_Model_tellField 211 = .ok (.getfield 43, 3) := by decide +kernel
theorem d_Model_tellField_214 : decode b_Model_tellField 214 = .ok (.iload 5, 2) := by decide +kernel
theorem d_Model_tellField_216 : decode b_Model_tellField 216 = .ok (.aload_n 0, 1) := by decide +kernel
theorem d_Model_tellField_217 : decode b_Model_tellField 217 = .ok (.getfield 30, 3) := by decide +kernel
theorem d_Model_tellField_220 : decode b_Model_tellField 220 = .ok (.iload_n 1, 1) := by decide +kernel
theorem d_Model_tellField_221 : decode b_Model_tellField 221 = .ok (.laload, 1) := by decide +kernel
theorem d_Model_tellField_222 : decode b_Model_tellField 222 = .ok (.lastore, 1) := by decide +kernel
theorem d_Model_tellField_223 : decode b_Model_tellField 223 = .ok (.aload_n 0, 1) := by decide +kernel
theorem d_Model_tellField_224 : decode b_Model_tellField 224 = .ok (.getfield 46, 3) := by decide +kernel
theorem d_Model_tellField_227 : decode b_Model_tellField 227 = .ok (.iload 5, 2) := by decide +kernel
theorem d_Model_tellField_229 : decode b_Model_tellField 229 = .ok (.iload_n 2, 1) := by decide +kernel
theorem d_Model_tellField_230 : decode b_Model_tellField 230 = .ok (.iastore, 1) := by decide +kernel
theorem d_Model_tellField_231 : decode b_Model_tellField 231 = .ok (.aload_n 0, 1) := by decide +kernel
theorem d_Model_tellField_232 : decode b_Model_tellField 232 = .ok (.getfield 49, 3) := by decide +kernel
theorem d_Model_tellField_235 : decode b_Model_tellField 235 = .ok (.iload 5, 2) := by decide +kernel
theorem d_Model_tellField_237 : decode b_Model_tellField 237 = .ok (.iload 4, 2) := by decide +kernel
theorem d_Model_tellField_239 : decode b_Model_tellField 239 = .ok (.iload_n 2, 1) := by decide +kernel
theorem d_Model_tellField_240 : decode b_Model_tellField 240 = .ok (.if_icmp .ge 7, 3) := by decide +kernel
theorem d_Model_tellField_243 : decode b_Model_tellField 243 = .ok (.iconst 1, 1) := by decide +kernel
theorem d_Model_tellField_244 : decode b_Model_tellField 244 = .ok (.goto 9, 3) := by decide +kernel
theorem d_Model_tellField_247 : decode b_Model_tellField 247 = .ok (.iload 4, 2) := by decide +kernel
theorem d_Model_tellField_249 : decode b_Model_tellField 249 = .ok (.iload_n 2, 1) := by decide +kernel
theorem d_Model_tellField_250 : decode b_Model_tellField 250 = .ok (.isub, 1) := by decide +kernel
theorem d_Model_tellField_251 : decode b_Model_tellField 251 = .ok (.iconst 1, 1) := by decide +kernel
theorem d_Model_tellField_252 : decode b_Model_tellField 252 = .ok (.iadd, 1) := by decide +kernel
theorem d_Model_tellField_253 : decode b_Model_tellField 253 = .ok (.iastore, 1) := by decide +kernel
theorem d_Model_tellField_254 : decode b_Model_tellField 254 = .ok (.aload_n 0, 1) := by decide +kernel
theorem d_Model_tellField_255 : decode b_Model_tellField 255 = .ok (.dup, 1) := by decide +kernel
theorem d_Model_tellField_256 : decode b_Model_tellField 256 = .ok (.getfield 234, 3) := by decide +kernel
theorem d_Model_tellField_259 : decode b_Model_tellField 259 = .ok (.aload_n 0, 1) := by decide +kernel
theorem d_Model_tellField_260 : decode b_Model_tellField 260 = .ok (.getfield 49, 3) := by decide +kernel
theorem d_Model_tellField_263 : decode b_Model_tellField 263 = .ok (.iload 5, 2) := by decide +kernel
theorem d_Model_tellField_265 : decode b_Model_tellField 265 = .ok (.iaload, 1) := by decide +kernel
theorem d_Model_tellField_266 : decode b_Model_tellField 266 = .ok (.i2l, 1) := by decide +kernel
theorem d_Model_tellField_267 : decode b_Model_tellField 267 = .ok (.lmul, 1) := by decide +kernel
theorem d_Model_tellField_268 : decode b_Model_tellField 268 = .ok (.putfield 234, 3) := by decide +kernel
theorem d_Model_tellField_271 : decode b_Model_tellField 271 = .ok (.aload_n 0, 1) := by decide +kernel
theorem d_Model_tellField_272 : decode b_Model_tellField 272 = .ok (.getfield 234, 3) := by decide +kernel
theorem d_Model_tellField_275 : decode b_Model_tellField 275 = .ok (.ldc2_w 268, 3) := by decide +kernel
theorem d_Model_tellField_278 : decode b_Model_tellField 278 = .ok (.lcmp, 1) := by decide +kernel
theorem d_Model_tellField_279 : decode b_Model_tellField 279 = .ok (.ifCond .le 17, 3) := by decide +kernel
theorem d_Model_tellField_282 : decode b_Model_tellField 282 = .ok (.aload_n 0, 1) := by decide +kernel
theorem d_Model_tellField_283 : decode b_Model_tellField 283 = .ok (.bipush 6, 2) := by decide +kernel
theorem d_Model_tellField_285 : decode b_Model_tellField 285 = .ok (.iload_n 1, 1) := by decide +kernel
theorem d_Model_tellField_286 : decode b_Model_tellField 286 = .ok (.invokevirtual 264, 3) := by decide +kernel
theorem d_Model_tellField_289 : decode b_Model_tellField 289 = .ok (.aload_n 0, 1) := by decide +kernel
theorem d_Model_tellField_290 : decode b_Model_tellField 290 = .ok (.ldc2_w 270, 3) := by decide +kernel
theorem d_Model_tellField_293 : decode b_Model_tellField 293 = .ok (.putfield 234, 3) := by decide +kernel
theorem d_Model_tellField_296 : decode b_Model_tellField 296 = .ok (.aload_n 0, 1) := by decide +kernel
theorem d_Model_tellField_297 : decode b_Model_tellField 297 = .ok (.getfield 40, 3) := by decide +kernel
theorem d_Model_tellField_300 : decode b_Model_tellField 300 = .ok (.aload_n 0, 1) := by decide +kernel
theorem d_Model_tellField_301 : decode b_Model_tellField 301 = .ok (.getfield 231, 3) := by decide +kernel
theorem d_Model_tellField_304 : decode b_Model_tellField 304 = .ok (.dup2, 1) := by decide +kernel
theorem d_Model_tellField_305 : decode b_Model_tellField 305 = .ok (.iaload, 1) := by decide +kernel
theorem d_Model_tellField_306 : decode b_Model_tellField 306 = .ok (.iconst 1, 1) := by decide +kernel
theorem d_Model_tellField_307 : decode b_Model_tellField 307 = .ok (.iadd, 1) := by decide +kernel
theorem d_Model_tellField_308 : decode b_Model_tellField 308 = .ok (.iastore, 1) := by decide +kernel
theorem d_Model_tellField_309 : decode b_Model_tellField 309 = .ok (.return_, 1) := by decide +kernel
set_option maxHeartbeats 4000000 in
set_option maxRecDepth 100000 in
theorem c_Model_tellField (l : Launch) {S : St} {S' : St} (h : f_Model_tellField S = some S') : MV mw l y_Model_tellField b_Model_tellField 6 none 3 62 0 0 (fun ad => [.ref (ad 0 0)]) aT aE S S' := by
  refine MV_of "LawfulLotsModel" rfl (by decide) (fun _ => Nat.le_of_ble_eq_true rfl) ?_
  intro p e s m args below meth c D ar ad A Q ls hP F hK hA hw hl hQ
  have hl : lv_has ls 6 [(0, .ref (ad 0 0))] := hl
  obtain ⟨X_0, eX_0⟩ : ∃ X : St → Prop, X = (fun q => ∀ (H : Heap) (locs : List Loc) (pc : Nat) (ls : Array Slot), decode b_Model_tellField pc = .ok (.return_, 1) → Bw mw D ar A s.heap H locs ad q → W p l e (RM 3 62) s m args below meth c H locs 0 0 Q (F0 m pc ls [])) := ⟨_, rfl⟩
  have key : ∀ (H : Heap) (locs : List Loc), Bw mw D ar A s.heap H locs ad S → ∀ o, f_Model_tellField S = some o → X_0 o → W p l e (RM 3 62) s m args below meth c H locs 0 0 Q (F0 m 0 ls []) := by
    intro H locs hw o h ho
    unfold f_Model_tellField at h
    have J_296 : ∀ (S : St) (H : Heap) (locs : List Loc) (ls : Array Slot), Bw mw D ar A s.heap H locs ad S → lv_has ls 6 [(0, .ref (ad 0 0))] → ∀ o, Model_tellField_j296 S = some o → X_0 o → W p l e (RM 3 62) s m args below meth c H locs 0 0 Q (F0 m 296 ls []) := by
      intro S H locs ls hw hl o h ho
      unfold Model_tellField_j296 at h
      refine lv_aload_n F.1 F.2.1 d_Model_tellField_296 rfl (lv_at hl 0 rfl) ?_
      refine mg_0_20 F hK hw lk_1031 d_Model_tellField_297 ?_
      refine lv_aload_n F.1 F.2.1 d_Model_tellField_300 rfl (lv_at hl 0 rfl) ?_
      refine mg_0_19 F hK hw lk_1030 d_Model_tellField_301 ?_
      refine lv_dup2_11 F.1 F.2.1 d_Model_tellField_304 rfl rfl ?_
      obtain ⟨hi_60, h⟩ := gd_ex h
      refine ml_0_20 F hK hw hi_60 d_Model_tellField_305 ?_
      refine lv_iconst (v := 1) F.1 F.2.1 d_Model_tellField_306 (by decide) ?_
      refine lv_iadd F.1 F.2.1 d_Model_tellField_307 ?_
      obtain ⟨hi_61, h⟩ := gd_ex h
      obtain ⟨S_62, eS_62, h⟩ := nm_ex h
      refine ms_0_20 F hK hw hi_61 d_Model_tellField_308 eS_62 (fun H locs hw => ?_)
      cases h
      have ho : X_0 _ := ho
      rw [eX_0] at ho
      exact ho H locs _ ls d_Model_tellField_309 hw
    have J_253 : ∀ (S : St) (x1 : Int32) (x5 : Int32) (t1 : Int32) (t2 : Int32) (H : Heap) (locs : List Loc) (ls : Array Slot), Bw mw D ar A s.heap H locs ad S → lv_has ls 6 [(0, .ref (ad 0 0)), (1, .int x1), (5, .int x5)] → ∀ o, Model_tellField_j253 S x1 x5 t1 t2 = some o → X_0 o → W p l e (RM 3 62) s m args below meth c H locs 0 0 Q (F0 m 253 ls [.int t2, .int t1, .ref (ad 0 24)]) := by
      intro S x1 x5 t1 t2 H locs ls hw hl o h ho
      unfold Model_tellField_j253 at h
      obtain ⟨hi_52, h⟩ := gd_ex h
      obtain ⟨S_53, eS_53, h⟩ := nm_ex h
      refine ms_0_23 F hK hw hi_52 d_Model_tellField_253 eS_53 (fun H locs hw => ?_)
      refine lv_aload_n F.1 F.2.1 d_Model_tellField_254 rfl (lv_at hl 0 rfl) ?_
      refine lv_dup F.1 F.2.1 d_Model_tellField_255 rfl ?_
      refine mg_0_24 F hK hw lk_1035 d_Model_tellField_256 ?_
      refine lv_aload_n F.1 F.2.1 d_Model_tellField_259 rfl (lv_at hl 0 rfl) ?_
      refine mg_0_23 F hK hw lk_1034 d_Model_tellField_260 ?_
      refine lv_iload F.1 F.2.1 d_Model_tellField_263 (lv_at hl 2 rfl) ?_
      obtain ⟨hi_54, h⟩ := gd_ex h
      refine ml_0_23 F hK hw hi_54 d_Model_tellField_265 ?_
      refine lv_i2l F.1 F.2.1 d_Model_tellField_266 rfl ?_
      refine lv_lmul F.1 F.2.1 d_Model_tellField_267 ?_
      obtain ⟨S_55, eS_55, h⟩ := nm_ex h
      refine mp_0_24 F hK hw lk_1035 d_Model_tellField_268 eS_55 (fun H locs hw => ?_)
      refine lv_aload_n F.1 F.2.1 d_Model_tellField_271 rfl (lv_at hl 0 rfl) ?_
      refine mg_0_24 F hK hw lk_1035 d_Model_tellField_272 ?_
      refine lv_ldc2 F.1 F.2.1 F.2.2.2.1 (F.2.2.2.2 _ lk_1277) d_Model_tellField_275 ?_
      refine W.lcmp F.1 F.2.1 d_Model_tellField_278 ?_
      refine lv_if_le (tgt := 296) F.1 F.2.1 d_Model_tellField_279 (by decide) (fun c_56 => ?_) (fun c_56 => ?_)
      · replace h := ip c_56 h
        exact J_296 S_55 H locs ls hw (lv_sub hl [0] rfl) o h ho
      · replace h := iq c_56 h
        refine lv_aload_n F.1 F.2.1 d_Model_tellField_282 rfl (lv_at hl 0 rfl) ?_
        refine lv_bipush (v := 6) F.1 F.2.1 d_Model_tellField_283 (by decide) ?_
        refine lv_iload_n F.1 F.2.1 d_Model_tellField_285 rfl (lv_at hl 1 rfl) ?_
        obtain ⟨S_58, hc_57, h⟩ := bd_ex h
        refine cV_v F hA rfl hK hw (c_Model_wrong l hc_57) trivial rfl (good_V lk_1273 lk_1275 ls_68 lk_10 lk_1276) (mr_0 hK hw) hd_Model_wrong ⟨Nat.le_of_ble_eq_true rfl, Nat.le_of_ble_eq_true rfl⟩ rfl hl.1 rfl (Nat.le_of_ble_eq_true rfl) d_Model_tellField_286 ⟨(Nat.zero_le _), (Nat.zero_le _)⟩ (fun H locs hw => ?_)
        refine lv_aload_n F.1 F.2.1 d_Model_tellField_289 rfl (lv_at hl 0 rfl) ?_
        refine lv_ldc2 F.1 F.2.1 F.2.2.2.1 (F.2.2.2.2 _ lk_1278) d_Model_tellField_290 ?_
        obtain ⟨S_59, eS_59, h⟩ := nm_ex h
        refine mp_0_24 F hK hw lk_1035 d_Model_tellField_293 eS_59 (fun H locs hw => ?_)
        exact J_296 S_59 H locs ls hw (lv_sub hl [0] rfl) o h ho
    have J_191 : ∀ (S : St) (x1 : Int32) (x2 : Int32) (x4 : Int32) (H : Heap) (locs : List Loc) (ls : Array Slot), Bw mw D ar A s.heap H locs ad S → lv_has ls 6 [(0, .ref (ad 0 0)), (1, .int x1), (2, .int x2), (4, .int x4)] → ∀ o, Model_tellField_j191 S x1 x2 x4 = some o → X_0 o → W p l e (RM 3 62) s m args below meth c H locs 0 0 Q (F0 m 191 ls []) := by
      intro S x1 x2 x4 H locs ls hw hl o h ho
      unfold Model_tellField_j191 at h
      refine lv_bipush (v := 6) F.1 F.2.1 d_Model_tellField_191 (by decide) ?_
      refine lv_aload_n F.1 F.2.1 d_Model_tellField_193 rfl (lv_at hl 0 rfl) ?_
      refine mg_0_19 F hK hw lk_1030 d_Model_tellField_194 ?_
      refine lv_imul F.1 F.2.1 d_Model_tellField_197 ?_
      refine lv_aload_n F.1 F.2.1 d_Model_tellField_198 rfl (lv_at hl 0 rfl) ?_
      refine mg_0_20 F hK hw lk_1031 d_Model_tellField_199 ?_
      refine lv_aload_n F.1 F.2.1 d_Model_tellField_202 rfl (lv_at hl 0 rfl) ?_
      refine mg_0_19 F hK hw lk_1030 d_Model_tellField_203 ?_
      obtain ⟨hi_44, h⟩ := gd_ex h
      refine ml_0_20 F hK hw hi_44 d_Model_tellField_206 ?_
      refine lv_iadd F.1 F.2.1 d_Model_tellField_207 ?_
      obtain ⟨x5_45, ex5_45, h⟩ := nm_ex h
      refine lv_nm ex5_45 ?_
      refine lv_istore (lv' := [(5, .int x5_45), (0, .ref (ad 0 0)), (1, .int x1), (2, .int x2), (4, .int x4)]) F.1 F.2.1 d_Model_tellField_208 hl (by decide) rfl (fun ls hl => ?_)
      refine lv_aload_n F.1 F.2.1 d_Model_tellField_210 rfl (lv_at hl 1 rfl) ?_
      refine mg_0_21 F hK hw lk_1032 d_Model_tellField_211 ?_
      refine lv_iload F.1 F.2.1 d_Model_tellField_214 (lv_at hl 0 rfl) ?_
      refine lv_aload_n F.1 F.2.1 d_Model_tellField_216 rfl (lv_at hl 1 rfl) ?_
      refine mg_0_8 F hK hw lk_1019 d_Model_tellField_217 ?_
      refine lv_iload_n F.1 F.2.1 d_Model_tellField_220 rfl (lv_at hl 2 rfl) ?_
      obtain ⟨hi_46, h⟩ := gd_ex h
      refine ml_0_8 F hK hw hi_46 d_Model_tellField_221 ?_
      obtain ⟨hi_47, h⟩ := gd_ex h
      obtain ⟨S_48, eS_48, h⟩ := nm_ex h
      refine ms_0_21 F hK hw hi_47 d_Model_tellField_222 eS_48 (fun H locs hw => ?_)
      refine lv_aload_n F.1 F.2.1 d_Model_tellField_223 rfl (lv_at hl 1 rfl) ?_
      refine mg_0_22 F hK hw lk_1033 d_Model_tellField_224 ?_
      refine lv_iload F.1 F.2.1 d_Model_tellField_227 (lv_at hl 0 rfl) ?_
      refine lv_iload_n F.1 F.2.1 d_Model_tellField_229 rfl (lv_at hl 3 rfl) ?_
      obtain ⟨hi_49, h⟩ := gd_ex h
      obtain ⟨S_50, eS_50, h⟩ := nm_ex h
      refine ms_0_22 F hK hw hi_49 d_Model_tellField_230 eS_50 (fun H locs hw => ?_)
      refine lv_aload_n F.1 F.2.1 d_Model_tellField_231 rfl (lv_at hl 1 rfl) ?_
      refine mg_0_23 F hK hw lk_1034 d_Model_tellField_232 ?_
      refine lv_iload F.1 F.2.1 d_Model_tellField_235 (lv_at hl 0 rfl) ?_
      refine lv_iload F.1 F.2.1 d_Model_tellField_237 (lv_at hl 4 rfl) ?_
      refine lv_iload_n F.1 F.2.1 d_Model_tellField_239 rfl (lv_at hl 3 rfl) ?_
      refine lv_icmp_ge (tgt := 247) F.1 F.2.1 d_Model_tellField_240 (by decide) (fun c_51 => ?_) (fun c_51 => ?_)
      · replace h := ip c_51 h
        refine lv_iload F.1 F.2.1 d_Model_tellField_247 (lv_at hl 4 rfl) ?_
        refine lv_iload_n F.1 F.2.1 d_Model_tellField_249 rfl (lv_at hl 3 rfl) ?_
        refine lv_isub F.1 F.2.1 d_Model_tellField_250 ?_
        refine lv_iconst (v := 1) F.1 F.2.1 d_Model_tellField_251 (by decide) ?_
        refine lv_iadd F.1 F.2.1 d_Model_tellField_252 ?_
        exact J_253 S_50 x1 x5_45 x5_45 ((x4 - x2) + (1 : Int32)) H locs ls hw (lv_sub hl [1, 2, 0] rfl) o h ho
      · replace h := iq c_51 h
        refine lv_iconst (v := 1) F.1 F.2.1 d_Model_tellField_243 (by decide) ?_
        refine lv_goto (tgt := 253) F.1 F.2.1 d_Model_tellField_244 (by decide) ?_
        exact J_253 S_50 x1 x5_45 x5_45 (1 : Int32) H locs ls hw (lv_sub hl [1, 2, 0] rfl) o h ho
    have J_98 : ∀ (S : St) (x1 : Int32) (x2 : Int32) (x3 : Int32) (t0 : Int32) (H : Heap) (locs : List Loc) (ls : Array Slot), Bw mw D ar A s.heap H locs ad S → lv_has ls 6 [(0, .ref (ad 0 0)), (1, .int x1), (2, .int x2), (3, .int x3)] → ∀ o, Model_tellField_j98 S x1 x2 x3 t0 = some o → X_0 o → W p l e (RM 3 62) s m args below meth c H locs 0 0 Q (F0 m 98 ls [.int t0]) := by
      intro S x1 x2 x3 t0 H locs ls hw hl o h ho
      unfold Model_tellField_j98 at h
      refine lv_istore (lv' := [(4, .int t0), (0, .ref (ad 0 0)), (1, .int x1), (2, .int x2), (3, .int x3)]) F.1 F.2.1 d_Model_tellField_98 hl (by decide) rfl (fun ls hl => ?_)
      refine lv_aload_n F.1 F.2.1 d_Model_tellField_100 rfl (lv_at hl 1 rfl) ?_
      refine lv_iconst (v := 2) F.1 F.2.1 d_Model_tellField_101 (by decide) ?_
      obtain ⟨S_26, hc_25, h⟩ := bd_ex h
      refine cV_v F hA rfl hK hw (c_Model_must l hc_25) trivial rfl (good_V lk_1269 lk_1271 ls_67 lk_10 lk_1272) (mr_0 hK hw) hd_Model_must ⟨Nat.le_of_ble_eq_true rfl, Nat.le_of_ble_eq_true rfl⟩ rfl hl.1 rfl (Nat.le_of_ble_eq_true rfl) d_Model_tellField_102 ⟨(Nat.zero_le _), (Nat.zero_le _)⟩ (fun H locs hw => ?_)
      refine lv_aload_n F.1 F.2.1 d_Model_tellField_105 rfl (lv_at hl 1 rfl) ?_
      refine lv_bipush (v := 8) F.1 F.2.1 d_Model_tellField_106 (by decide) ?_
      obtain ⟨S_28, hc_27, h⟩ := bd_ex h
      refine cV_v F hA rfl hK hw (c_Model_must l hc_27) trivial rfl (good_V lk_1269 lk_1271 ls_67 lk_10 lk_1272) (mr_0 hK hw) hd_Model_must ⟨Nat.le_of_ble_eq_true rfl, Nat.le_of_ble_eq_true rfl⟩ rfl hl.1 rfl (Nat.le_of_ble_eq_true rfl) d_Model_tellField_108 ⟨(Nat.zero_le _), (Nat.zero_le _)⟩ (fun H locs hw => ?_)
      refine lv_aload_n F.1 F.2.1 d_Model_tellField_111 rfl (lv_at hl 1 rfl) ?_
      refine mg_0_13 F hK hw lk_1024 d_Model_tellField_112 ?_
      refine lv_if_le (tgt := 119) F.1 F.2.1 d_Model_tellField_115 (by decide) (fun c_29 => ?_) (fun c_29 => ?_)
      · replace h := ip c_29 h
        refine lv_bipush (v := 6) F.1 F.2.1 d_Model_tellField_119 (by decide) ?_
        refine lv_aload_n F.1 F.2.1 d_Model_tellField_121 rfl (lv_at hl 1 rfl) ?_
        refine mg_0_19 F hK hw lk_1030 d_Model_tellField_122 ?_
        refine lv_imul F.1 F.2.1 d_Model_tellField_125 ?_
        obtain ⟨x5_30, ex5_30, h⟩ := nm_ex h
        refine lv_nm ex5_30 ?_
        refine lv_istore (lv' := [(5, .int x5_30), (4, .int t0), (0, .ref (ad 0 0)), (1, .int x1), (2, .int x2), (3, .int x3)]) F.1 F.2.1 d_Model_tellField_126 hl (by decide) rfl (fun ls hl => ?_)
        obtain ⟨S_39, hc_40, h⟩ := bd_ex h
        obtain ⟨X_128, eX_128⟩ : ∃ X : St → Prop, X = (fun q => ∀ (H : Heap) (locs : List Loc) (ls : Array Slot), Bw mw D ar A s.heap H locs ad q → lv_has ls 6 [(0, .ref (ad 0 0)), (1, .int x1), (2, .int x2), (3, .int x3), (4, .int t0)] → W p l e (RM 3 62) s m args below meth c H locs 0 0 Q (F0 m 179 ls [])) := ⟨_, rfl⟩
        have hX_128 : X_128 S_39 := by
          rw [eX_128]
          intro H locs ls hw hl
          refine lv_iload F.1 F.2.1 d_Model_tellField_179 (lv_at hl 4 rfl) ?_
          refine lv_iload_n F.1 F.2.1 d_Model_tellField_181 rfl (lv_at hl 2 rfl) ?_
          refine lv_icmp_ge (tgt := 191) F.1 F.2.1 d_Model_tellField_182 (by decide) (fun c_41 => ?_) (fun c_41 => ?_)
          · replace h := ip c_41 h
            exact J_191 S_39 x1 x2 t0 H locs ls hw (lv_sub hl [0, 1, 2, 4] rfl) o h ho
          · replace h := iq c_41 h
            refine lv_aload_n F.1 F.2.1 d_Model_tellField_185 rfl (lv_at hl 0 rfl) ?_
            refine lv_iconst (v := 5) F.1 F.2.1 d_Model_tellField_186 (by decide) ?_
            refine lv_iload_n F.1 F.2.1 d_Model_tellField_187 rfl (lv_at hl 3 rfl) ?_
            obtain ⟨S_43, hc_42, h⟩ := bd_ex h
            refine cV_v F hA rfl hK hw (c_Model_wrong l hc_42) trivial rfl (good_V lk_1273 lk_1275 ls_68 lk_10 lk_1276) (mr_0 hK hw) hd_Model_wrong ⟨Nat.le_of_ble_eq_true rfl, Nat.le_of_ble_eq_true rfl⟩ rfl hl.1 rfl (Nat.le_of_ble_eq_true rfl) d_Model_tellField_188 ⟨(Nat.zero_le _), (Nat.zero_le _)⟩ (fun H locs hw => ?_)
            exact J_191 S_43 x1 x2 t0 H locs ls hw (lv_sub hl [0, 1, 2, 4] rfl) o h ho
        obtain ⟨P_128, eP_128⟩ : ∃ P : (St × Int32) → Prop, P = (fun q => ∀ (H : Heap) (locs : List Loc) (ls : Array Slot), Bw mw D ar A s.heap H locs ad q.1 → lv_has ls 6 [(0, .ref (ad 0 0)), (1, .int x1), (2, .int x2), (3, .int x3), (4, .int t0), (5, .int q.2)] → W p l e (RM 3 62) s m args below meth c H locs 0 0 Q (F0 m 128 ls [])) := ⟨_, rfl⟩
        have hL_128 : P_128 (S_28, x5_30) := by
          refine wh_gp (P := P_128) (X := X_128) hc_40 hX_128 ?_
          clear h
          intro q o h ho
          obtain ⟨S, x5⟩ := q
          have h : Model_tellField_l128 x1 x2 x3 t0 S x5 = some o := h
          unfold Model_tellField_l128 at h
          rw [eP_128]
          intro H locs ls hw hl
          have J_173_l128 : ∀ (S : St) (x5 : Int32) (H : Heap) (locs : List Loc) (ls : Array Slot), Bw mw D ar A s.heap H locs ad S → lv_has ls 6 [(0, .ref (ad 0 0)), (1, .int x1), (2, .int x2), (3, .int x3), (4, .int t0), (5, .int x5)] → ∀ o, Model_tellField_j173_l128 S x1 x2 x3 t0 x5 = some o → (Sum.elim P_128 X_128) o → W p l e (RM 3 62) s m args below meth c H locs 0 0 Q (F0 m 173 ls []) := by
            intro S x5 H locs ls hw hl o h ho
            unfold Model_tellField_j173_l128 at h
            obtain ⟨x5_38, ex5_38, h⟩ := nm_ex h
            refine lv_iinc (v := x5_38) (lv' := [(5, .int x5_38), (0, .ref (ad 0 0)), (1, .int x1), (2, .int x2), (3, .int x3), (4, .int t0)]) F.1 F.2.1 d_Model_tellField_173 hl (k := 5) rfl (by rw [ex5_38]; rfl) (by decide) rfl (fun ls hl => ?_)
            refine lv_goto (tgt := 128) F.1 F.2.1 d_Model_tellField_176 (by decide) ?_
            cases h
            have ho : P_128 _ := ho
            rw [eP_128] at ho
            exact ho H locs ls hw (lv_sub hl [1, 2, 3, 4, 5, 0] rfl)
          refine lv_iload F.1 F.2.1 d_Model_tellField_128 (lv_at hl 5 rfl) ?_
          refine lv_bipush (v := 6) F.1 F.2.1 d_Model_tellField_130 (by decide) ?_
          refine lv_aload_n F.1 F.2.1 d_Model_tellField_132 rfl (lv_at hl 0 rfl) ?_
          refine mg_0_19 F hK hw lk_1030 d_Model_tellField_133 ?_
          refine lv_imul F.1 F.2.1 d_Model_tellField_136 ?_
          refine lv_aload_n F.1 F.2.1 d_Model_tellField_137 rfl (lv_at hl 0 rfl) ?_
          refine mg_0_20 F hK hw lk_1031 d_Model_tellField_138 ?_
          refine lv_aload_n F.1 F.2.1 d_Model_tellField_141 rfl (lv_at hl 0 rfl) ?_
          refine mg_0_19 F hK hw lk_1030 d_Model_tellField_142 ?_
          obtain ⟨hi_31, h⟩ := gd_ex h
          refine ml_0_20 F hK hw hi_31 d_Model_tellField_145 ?_
          refine lv_iadd F.1 F.2.1 d_Model_tellField_146 ?_
          refine lv_icmp_ge (tgt := 179) F.1 F.2.1 d_Model_tellField_147 (by decide) (fun c_32 => ?_) (fun c_32 => ?_)
          · replace h := ip c_32 h
            cases h
            have ho : X_128 _ := ho
            rw [eX_128] at ho
            exact ho H locs ls hw (lv_sub hl [0, 1, 2, 3, 4] rfl)
          · replace h := iq c_32 h
            refine lv_aload_n F.1 F.2.1 d_Model_tellField_150 rfl (lv_at hl 0 rfl) ?_
            refine mg_0_21 F hK hw lk_1032 d_Model_tellField_151 ?_
            refine lv_iload F.1 F.2.1 d_Model_tellField_154 (lv_at hl 5 rfl) ?_
            obtain ⟨hi_33, h⟩ := gd_ex h
            refine ml_0_21 F hK hw hi_33 d_Model_tellField_156 ?_
            refine lv_aload_n F.1 F.2.1 d_Model_tellField_157 rfl (lv_at hl 0 rfl) ?_
            refine mg_0_8 F hK hw lk_1019 d_Model_tellField_158 ?_
            refine lv_iload_n F.1 F.2.1 d_Model_tellField_161 rfl (lv_at hl 1 rfl) ?_
            obtain ⟨hi_34, h⟩ := gd_ex h
            refine ml_0_8 F hK hw hi_34 d_Model_tellField_162 ?_
            refine W.lcmp F.1 F.2.1 d_Model_tellField_163 ?_
            refine lv_if_ne (tgt := 173) F.1 F.2.1 d_Model_tellField_164 (by decide) (fun c_35 => ?_) (fun c_35 => ?_)
            · replace h := iq c_35 h
              exact J_173_l128 S x5 H locs ls hw (lv_sub hl [0, 1, 2, 3, 4, 5] rfl) o h ho
            · replace h := ip c_35 h
              refine lv_aload_n F.1 F.2.1 d_Model_tellField_167 rfl (lv_at hl 0 rfl) ?_
              refine lv_iconst (v := 3) F.1 F.2.1 d_Model_tellField_168 (by decide) ?_
              refine lv_iload_n F.1 F.2.1 d_Model_tellField_169 rfl (lv_at hl 1 rfl) ?_
              obtain ⟨S_37, hc_36, h⟩ := bd_ex h
              refine cV_v F hA rfl hK hw (c_Model_wrong l hc_36) trivial rfl (good_V lk_1273 lk_1275 ls_68 lk_10 lk_1276) (mr_0 hK hw) hd_Model_wrong ⟨Nat.le_of_ble_eq_true rfl, Nat.le_of_ble_eq_true rfl⟩ rfl hl.1 rfl (Nat.le_of_ble_eq_true rfl) d_Model_tellField_170 ⟨(Nat.zero_le _), (Nat.zero_le _)⟩ (fun H locs hw => ?_)
              exact J_173_l128 S_37 x5 H locs ls hw (lv_sub hl [0, 1, 2, 3, 4, 5] rfl) o h ho
        rw [eP_128] at hL_128
        exact hL_128 H locs ls hw (lv_sub hl [2, 3, 4, 5, 1, 0] rfl)
      · replace h := iq c_29 h
        cases h
        have ho : X_0 _ := ho
        rw [eX_0] at ho
        exact ho H locs _ ls d_Model_tellField_118 hw
    have J_60 : ∀ (S : St) (x1 : Int32) (t0 : Int32) (H : Heap) (locs : List Loc) (ls : Array Slot), Bw mw D ar A s.heap H locs ad S → lv_has ls 6 [(0, .ref (ad 0 0)), (1, .int x1)] → ∀ o, Model_tellField_j60 S x1 t0 = some o → X_0 o → W p l e (RM 3 62) s m args below meth c H locs 0 0 Q (F0 m 60 ls [.int t0]) := by
      intro S x1 t0 H locs ls hw hl o h ho
      unfold Model_tellField_j60 at h
      refine lv_istore_n (lv' := [(2, .int t0), (0, .ref (ad 0 0)), (1, .int x1)]) F.1 F.2.1 d_Model_tellField_60 rfl hl (by decide) rfl (fun ls hl => ?_)
      refine lv_aload_n F.1 F.2.1 d_Model_tellField_61 rfl (lv_at hl 1 rfl) ?_
      refine lv_iconst (v := 2) F.1 F.2.1 d_Model_tellField_62 (by decide) ?_
      obtain ⟨S_17, hc_16, h⟩ := bd_ex h
      refine cV_v F hA rfl hK hw (c_Model_must l hc_16) trivial rfl (good_V lk_1269 lk_1271 ls_67 lk_10 lk_1272) (mr_0 hK hw) hd_Model_must ⟨Nat.le_of_ble_eq_true rfl, Nat.le_of_ble_eq_true rfl⟩ rfl hl.1 rfl (Nat.le_of_ble_eq_true rfl) d_Model_tellField_63 ⟨(Nat.zero_le _), (Nat.zero_le _)⟩ (fun H locs hw => ?_)
      refine lv_aload_n F.1 F.2.1 d_Model_tellField_66 rfl (lv_at hl 1 rfl) ?_
      refine lv_bipush (v := 22) F.1 F.2.1 d_Model_tellField_67 (by decide) ?_
      obtain ⟨S_19, hc_18, h⟩ := bd_ex h
      refine cV_v F hA rfl hK hw (c_Model_must l hc_18) trivial rfl (good_V lk_1269 lk_1271 ls_67 lk_10 lk_1272) (mr_0 hK hw) hd_Model_must ⟨Nat.le_of_ble_eq_true rfl, Nat.le_of_ble_eq_true rfl⟩ rfl hl.1 rfl (Nat.le_of_ble_eq_true rfl) d_Model_tellField_69 ⟨(Nat.zero_le _), (Nat.zero_le _)⟩ (fun H locs hw => ?_)
      refine lv_aload_n F.1 F.2.1 d_Model_tellField_72 rfl (lv_at hl 1 rfl) ?_
      refine mg_0_11 F hK hw lk_1022 d_Model_tellField_73 ?_
      obtain ⟨x3_20, ex3_20, h⟩ := nm_ex h
      refine lv_nm ex3_20 ?_
      refine lv_istore_n (lv' := [(3, .int x3_20), (2, .int t0), (0, .ref (ad 0 0)), (1, .int x1)]) F.1 F.2.1 d_Model_tellField_76 rfl hl (by decide) rfl (fun ls hl => ?_)
      refine lv_aload_n F.1 F.2.1 d_Model_tellField_77 rfl (lv_at hl 2 rfl) ?_
      refine lv_iconst (v := 2) F.1 F.2.1 d_Model_tellField_78 (by decide) ?_
      obtain ⟨v_22, hc_21, h⟩ := bd_ex h
      refine cV_i F hA rfl hK hw (c_Model_is l hc_21) trivial rfl (good_V lk_1249 lk_1251 ls_62 lk_10 lk_1252) (mr_0 hK hw) hd_Model_is ⟨Nat.le_of_ble_eq_true rfl, Nat.le_of_ble_eq_true rfl⟩ rfl hl.1 rfl (Nat.le_of_ble_eq_true rfl) d_Model_tellField_79 ⟨(Nat.zero_le _), (Nat.zero_le _)⟩ (fun H locs hw => ?_)
      refine lv_if_eq (tgt := 97) F.1 F.2.1 d_Model_tellField_82 (by decide) (fun c_23 => ?_) (fun c_23 => ?_)
      · replace h := ip c_23 h
        refine lv_iconst (v := 0) F.1 F.2.1 d_Model_tellField_97 (by decide) ?_
        exact J_98 S_19 x1 t0 x3_20 (0 : Int32) H locs ls hw (lv_sub hl [2, 3, 1, 0] rfl) o h ho
      · replace h := iq c_23 h
        refine lv_aload_n F.1 F.2.1 d_Model_tellField_85 rfl (lv_at hl 2 rfl) ?_
        refine mg_0_7 F hK hw lk_1018 d_Model_tellField_86 ?_
        refine lv_aload_n F.1 F.2.1 d_Model_tellField_89 rfl (lv_at hl 2 rfl) ?_
        refine mg_0_11 F hK hw lk_1022 d_Model_tellField_90 ?_
        obtain ⟨hi_24, h⟩ := gd_ex h
        refine ml_0_7 F hK hw hi_24 d_Model_tellField_93 ?_
        refine lv_goto (tgt := 98) F.1 F.2.1 d_Model_tellField_94 (by decide) ?_
        exact J_98 S_19 x1 t0 x3_20 (gA S_19 0 7 (gI S_19 0 11).toNatClampNeg) H locs ls hw (lv_sub hl [2, 3, 1, 0] rfl) o h ho
    have J_19 : ∀ (S : St) (H : Heap) (locs : List Loc) (ls : Array Slot), Bw mw D ar A s.heap H locs ad S → lv_has ls 6 [(0, .ref (ad 0 0))] → ∀ o, Model_tellField_j19 S = some o → X_0 o → W p l e (RM 3 62) s m args below meth c H locs 0 0 Q (F0 m 19 ls []) := by
      intro S H locs ls hw hl o h ho
      unfold Model_tellField_j19 at h
      refine lv_aload_n F.1 F.2.1 d_Model_tellField_19 rfl (lv_at hl 0 rfl) ?_
      obtain ⟨S_6, hc_5, h⟩ := bd_ex h
      refine cV_v F hA rfl hK hw (c_Model_next l hc_5) trivial rfl (good_V lk_1265 lk_1267 ls_66 lk_10 lk_1268) (mr_0 hK hw) hd_Model_next ⟨Nat.le_of_ble_eq_true rfl, Nat.le_of_ble_eq_true rfl⟩ rfl hl.1 rfl (Nat.le_of_ble_eq_true rfl) d_Model_tellField_20 ⟨(Nat.zero_le _), (Nat.zero_le _)⟩ (fun H locs hw => ?_)
      refine lv_aload_n F.1 F.2.1 d_Model_tellField_23 rfl (lv_at hl 0 rfl) ?_
      refine mg_0_11 F hK hw lk_1022 d_Model_tellField_24 ?_
      obtain ⟨x1_7, ex1_7, h⟩ := nm_ex h
      refine lv_nm ex1_7 ?_
      refine lv_istore_n (lv' := [(1, .int x1_7), (0, .ref (ad 0 0))]) F.1 F.2.1 d_Model_tellField_27 rfl hl (by decide) rfl (fun ls hl => ?_)
      refine lv_aload_n F.1 F.2.1 d_Model_tellField_28 rfl (lv_at hl 1 rfl) ?_
      refine lv_iconst (v := 1) F.1 F.2.1 d_Model_tellField_29 (by decide) ?_
      obtain ⟨S_9, hc_8, h⟩ := bd_ex h
      refine cV_v F hA rfl hK hw (c_Model_must l hc_8) trivial rfl (good_V lk_1269 lk_1271 ls_67 lk_10 lk_1272) (mr_0 hK hw) hd_Model_must ⟨Nat.le_of_ble_eq_true rfl, Nat.le_of_ble_eq_true rfl⟩ rfl hl.1 rfl (Nat.le_of_ble_eq_true rfl) d_Model_tellField_30 ⟨(Nat.zero_le _), (Nat.zero_le _)⟩ (fun H locs hw => ?_)
      refine lv_aload_n F.1 F.2.1 d_Model_tellField_33 rfl (lv_at hl 1 rfl) ?_
      refine lv_bipush (v := 21) F.1 F.2.1 d_Model_tellField_34 (by decide) ?_
      obtain ⟨S_11, hc_10, h⟩ := bd_ex h
      refine cV_v F hA rfl hK hw (c_Model_must l hc_10) trivial rfl (good_V lk_1269 lk_1271 ls_67 lk_10 lk_1272) (mr_0 hK hw) hd_Model_must ⟨Nat.le_of_ble_eq_true rfl, Nat.le_of_ble_eq_true rfl⟩ rfl hl.1 rfl (Nat.le_of_ble_eq_true rfl) d_Model_tellField_36 ⟨(Nat.zero_le _), (Nat.zero_le _)⟩ (fun H locs hw => ?_)
      refine lv_aload_n F.1 F.2.1 d_Model_tellField_39 rfl (lv_at hl 1 rfl) ?_
      refine lv_iconst (v := 2) F.1 F.2.1 d_Model_tellField_40 (by decide) ?_
      obtain ⟨v_13, hc_12, h⟩ := bd_ex h
      refine cV_i F hA rfl hK hw (c_Model_is l hc_12) trivial rfl (good_V lk_1249 lk_1251 ls_62 lk_10 lk_1252) (mr_0 hK hw) hd_Model_is ⟨Nat.le_of_ble_eq_true rfl, Nat.le_of_ble_eq_true rfl⟩ rfl hl.1 rfl (Nat.le_of_ble_eq_true rfl) d_Model_tellField_41 ⟨(Nat.zero_le _), (Nat.zero_le _)⟩ (fun H locs hw => ?_)
      refine lv_if_eq (tgt := 59) F.1 F.2.1 d_Model_tellField_44 (by decide) (fun c_14 => ?_) (fun c_14 => ?_)
      · replace h := ip c_14 h
        refine lv_iconst (v := 0) F.1 F.2.1 d_Model_tellField_59 (by decide) ?_
        exact J_60 S_11 x1_7 (0 : Int32) H locs ls hw (lv_sub hl [1, 0] rfl) o h ho
      · replace h := iq c_14 h
        refine lv_aload_n F.1 F.2.1 d_Model_tellField_47 rfl (lv_at hl 1 rfl) ?_
        refine mg_0_7 F hK hw lk_1018 d_Model_tellField_48 ?_
        refine lv_aload_n F.1 F.2.1 d_Model_tellField_51 rfl (lv_at hl 1 rfl) ?_
        refine mg_0_11 F hK hw lk_1022 d_Model_tellField_52 ?_
        obtain ⟨hi_15, h⟩ := gd_ex h
        refine ml_0_7 F hK hw hi_15 d_Model_tellField_55 ?_
        refine lv_goto (tgt := 60) F.1 F.2.1 d_Model_tellField_56 (by decide) ?_
        exact J_60 S_11 x1_7 (gA S_11 0 7 (gI S_11 0 11).toNatClampNeg) H locs ls hw (lv_sub hl [1, 0] rfl) o h ho
    refine lv_aload_n F.1 F.2.1 d_Model_tellField_0 rfl (lv_at hl 0 rfl) ?_
    refine mg_0_20 F hK hw lk_1031 d_Model_tellField_1 ?_
    refine lv_aload_n F.1 F.2.1 d_Model_tellField_4 rfl (lv_at hl 0 rfl) ?_
    refine mg_0_19 F hK hw lk_1030 d_Model_tellField_5 ?_
    obtain ⟨hi_1, h⟩ := gd_ex h
    refine ml_0_20 F hK hw hi_1 d_Model_tellField_8 ?_
    refine lv_bipush (v := 6) F.1 F.2.1 d_Model_tellField_9 (by decide) ?_
    refine lv_icmp_ne (tgt := 19) F.1 F.2.1 d_Model_tellField_11 (by decide) (fun c_2 => ?_) (fun c_2 => ?_)
    · replace h := iq c_2 h
      exact J_19 S H locs ls hw (lv_sub hl [0] rfl) o h ho
    · replace h := ip c_2 h
      refine lv_aload_n F.1 F.2.1 d_Model_tellField_14 rfl (lv_at hl 0 rfl) ?_
      refine lv_iconst (v := 2) F.1 F.2.1 d_Model_tellField_15 (by decide) ?_
      obtain ⟨S_4, hc_3, h⟩ := bd_ex h
      refine cV_v F hA rfl hK hw (c_Model_fail l hc_3) trivial rfl (good_V lk_1261 lk_1263 ls_65 lk_10 lk_1264) (mr_0 hK hw) hd_Model_fail ⟨Nat.le_of_ble_eq_true rfl, Nat.le_of_ble_eq_true rfl⟩ rfl hl.1 rfl (Nat.le_of_ble_eq_true rfl) d_Model_tellField_16 ⟨(Nat.zero_le _), (Nat.zero_le _)⟩ (fun H locs hw => ?_)
      exact J_19 S_4 H locs ls hw (lv_sub hl [0] rfl) o h ho
  exact key _ _ hw _ h (by rw [eX_0]; exact fun H locs pc ls hd hw => hQ H locs pc ls ad rfl hd hw)
theorem d_Model_emit_0 : decode b_Model_emit 0 = .ok (.aload_n 0, 1) := by decide +kernel
theorem d_Model_emit_1 : decode b_Model_emit 1 = .ok (.getfield 92, 3) := by decide +kernel
theorem d_Model_emit_4 : decode b_Model_emit 4 = .ok (.aload_n 0, 1) := by decide +kernel
theorem d_Model_emit_5 : decode b_Model_emit 5 = .ok (.getfield 238, 3) := by decide +kernel
theorem d_Model_emit_8 : decode b_Model_emit 8 = .ok (.iload_n 1, 1) := by decide +kernel
theorem d_Model_emit_9 : decode b_Model_emit 9 = .ok (.iastore, 1) := by decide +kernel
theorem d_Model_emit_10 : decode b_Model_emit 10 = .ok (.aload_n 0, 1) := by decide +kernel
theorem d_Model_emit_11 : decode b_Model_emit 11 = .ok (.getfield 95, 3) := by decide +kernel
theorem d_Model_emit_14 : decode b_Model_emit 14 = .ok (.aload_n 0, 1) := by decide +kernel
theorem d_Model_emit_15 : decode b_Model_emit 15 = .ok (.getfield 238, 3) := by decide +kernel
theorem d_Model_emit_18 : decode b_Model_emit 18 = .ok (.iload_n 2, 1) := by decide +kernel
theorem d_Model_emit_19 : decode b_Model_emit 19 = .ok (.iastore, 1) := by decide +kernel
theorem d_Model_emit_20 : decode b_Model_emit 20 = .ok (.aload_n 0, 1) := by decide +kernel
theorem d_Model_emit_21 : decode b_Model_emit 21 = .ok (.dup, 1) := by decide +kernel
theorem d_Model_emit_22 : decode b_Model_emit 22 = .ok (.getfield 238, 3) := by decide +kernel
theorem d_Model_emit_25 : decode b_Model_emit 25 = .ok (.iconst 1, 1) := by decide +kernel
theorem d_Model_emit_26 : decode b_Model_emit 26 = .ok (.iadd, 1) := by decide +kernel
theorem d_Model_emit_27 : decode b_Model_emit 27 = .ok (.putfield 238, 3) := by decide +kernel
theorem d_Model_emit_30 : decode b_Model_emit 30 = .ok (.return_, 1) := by decide +kernel
set_option maxHeartbeats 4000000 in
set_option maxRecDepth 100000 in
theorem c_Model_emit (l : Launch) {S : St} {x1 : Int32} {x2 : Int32} {S' : St} (h : f_Model_emit S x1 x2 = some S') : MV mw l y_Model_emit b_Model_emit 3 none 0 0 0 0 (fun ad => [.ref (ad 0 0), .int x1, .int x2]) aT aE S S' := by
  refine MV_of "LawfulLotsModel" rfl (by decide) (fun _ => Nat.le_of_ble_eq_true rfl) ?_
  intro p e s m args below meth c D ar ad A Q ls hP F hK hA hw hl hQ
  have hl : lv_has ls 3 [(0, .ref (ad 0 0)), (1, .int x1), (2, .int x2)] := hl
  obtain ⟨X_0, eX_0⟩ : ∃ X : St → Prop, X = (fun q => ∀ (H : Heap) (locs : List Loc) (pc : Nat) (ls : Array Slot), decode b_Model_emit pc = .ok (.return_, 1) → Bw mw D ar A s.heap H locs ad q → W p l e (RM 0 0) s m args below meth c H locs 0 0 Q (F0 m pc ls [])) := ⟨_, rfl⟩
  have key : ∀ (H : Heap) (locs : List Loc), Bw mw D ar A s.heap H locs ad S → ∀ o, f_Model_emit S x1 x2 = some o → X_0 o → W p l e (RM 0 0) s m args below meth c H locs 0 0 Q (F0 m 0 ls []) := by
    intro H locs hw o h ho
    unfold f_Model_emit at h
    refine lv_aload_n F.1 F.2.1 d_Model_emit_0 rfl (lv_at hl 0 rfl) ?_
    refine mg_0_39 F hK hw lk_1050 d_Model_emit_1 ?_
    refine lv_aload_n F.1 F.2.1 d_Model_emit_4 rfl (lv_at hl 0 rfl) ?_
    refine mg_0_38 F hK hw lk_1049 d_Model_emit_5 ?_
    refine lv_iload_n F.1 F.2.1 d_Model_emit_8 rfl (lv_at hl 1 rfl) ?_
    obtain ⟨hi_1, h⟩ := gd_ex h
    obtain ⟨S_2, eS_2, h⟩ := nm_ex h
    refine ms_0_39 F hK hw hi_1 d_Model_emit_9 eS_2 (fun H locs hw => ?_)
    refine lv_aload_n F.1 F.2.1 d_Model_emit_10 rfl (lv_at hl 0 rfl) ?_
    refine mg_0_40 F hK hw lk_1051 d_Model_emit_11 ?_
    refine lv_aload_n F.1 F.2.1 d_Model_emit_14 rfl (lv_at hl 0 rfl) ?_
    refine mg_0_38 F hK hw lk_1049 d_Model_emit_15 ?_
    refine lv_iload_n F.1 F.2.1 d_Model_emit_18 rfl (lv_at hl 2 rfl) ?_
    obtain ⟨hi_3, h⟩ := gd_ex h
    obtain ⟨S_4, eS_4, h⟩ := nm_ex h
    refine ms_0_40 F hK hw hi_3 d_Model_emit_19 eS_4 (fun H locs hw => ?_)
    refine lv_aload_n F.1 F.2.1 d_Model_emit_20 rfl (lv_at hl 0 rfl) ?_
    refine lv_dup F.1 F.2.1 d_Model_emit_21 rfl ?_
    refine mg_0_38 F hK hw lk_1049 d_Model_emit_22 ?_
    refine lv_iconst (v := 1) F.1 F.2.1 d_Model_emit_25 (by decide) ?_
    refine lv_iadd F.1 F.2.1 d_Model_emit_26 ?_
    obtain ⟨S_5, eS_5, h⟩ := nm_ex h
    refine mp_0_38 F hK hw lk_1049 d_Model_emit_27 eS_5 (fun H locs hw => ?_)
    cases h
    have ho : X_0 _ := ho
    rw [eX_0] at ho
    exact ho H locs _ ls d_Model_emit_30 hw
  exact key _ _ hw _ h (by rw [eX_0]; exact fun H locs pc ls hd hw => hQ H locs pc ls ad rfl hd hw)
theorem d_Model_named_0 : decode b_Model_named 0 = .ok (.iconst 0, 1) := by decide +kernel
theorem d_Model_named_1 : decode b_Model_named 1 = .ok (.istore_n 3, 1) := by decide +kernel
theorem d_Model_named_2 : decode b_Model_named 2 = .ok (.iload_n 3, 1) := by decide +kernel
theorem d_Model_named_3 : decode b_Model_named 3 = .ok (.aload_n 0, 1) := by decide +kernel
theorem d_Model_named_4 : decode b_Model_named 4 = .ok (.getfield 40, 3) := by decide +kernel
theorem d_Model_named_7 : decode b_Model_named 7 = .ok (.aload_n 0, 1) := by decide +kernel
theorem d_Model_named_8 : decode b_Model_named 8 = .ok (.getfield 231, 3) := by decide +kernel
theorem d_Model_named_11 : decode b_Model_named 11 = .ok (.iaload, 1) := by decide +kernel
theorem d_Model_named_12 : decode b_Model_named 12 = .ok (.if_icmp .ge 43, 3) := by decide +kernel
theorem d_Model_named_15 : decode b_Model_named 15 = .ok (.aload_n 0, 1) := by decide +kernel
theorem d_Model_named_16 : decode b_Model_named 16 = .ok (.getfield 43, 3) := by decide +kernel
theorem d_Model_named_19 : decode b_Model_named 19 = .ok (.bipush 6, 2) := by decide +kernel
theorem d_Model_named_21 : decode b_Model_named 21 = .ok (.aload_n 0, 1) := by decide +kernel
theorem d_Model_named_22 : decode b_Model_named 22 = .ok (.getfield 231, 3) := by decide +kernel
theorem d_Model_named_25 : decode b_Model_named 25 = .ok (.imul, 1) := by decide +kernel
theorem d_Model_named_26 : decode b_Model_named 26 = .ok (.iload_n 3, 1) := by decide +kernel
theorem d_Model_named_27 : decode b_Model_named 27 = .ok (.iadd, 1) := by decide +kernel
theorem d_Model_named_28 : decode b_Model_named 28 = .ok (.laload, 1) := by decide +kernel
theorem d_Model_named_29 : decode b_Model_named 29 = .ok (.aload_n 0, 1) := by decide +kernel
theorem d_Model_named_30 : decode b_Model_named 30 = .ok (.getfield 30, 3) := by decide +kernel
theorem d_Model_named_33 : decode b_Model_named 33 = .ok (.iload_n 1, 1) := by decide +kernel
theorem d_Model_named_34 : decode b_Model_named 34 = .ok (.laload, 1) := by decide +kernel
theorem d_Model_named_35 : decode b_Model_named 35 = .ok (.lcmp, 1) := by decide +kernel
theorem d_Model_named_36 : decode b_Model_named 36 = .ok (.ifCond .eq 6, 3) := by decide +kernel
theorem d_Model_named_39 : decode b_Model_named 39 = .ok (.goto 10, 3) := by decide +kernel
theorem d_Model_named_42 : decode b_Model_named 42 = .ok (.aload_n 0, 1) := by decide +kernel
theorem d_Model_named_43 : decode b_Model_named 43 = .ok (.iload_n 2, 1) := by decide +kernel
theorem d_Model_named_44 : decode b_Model_named 44 = .ok (.iload_n 3, 1) := by decide +kernel
theorem d_Model_named_45 : decode b_Model_named 45 = .ok (.invokevirtual 272, 3) := by decide +kernel
theorem d_Model_named_48 : decode b_Model_named 48 = .ok (.return_, 1) := by decide +kernel
theorem d_Model_named_49 : decode b_Model_named 49 = .ok (.iinc 3 1, 3) := by decide +kernel
theorem d_Model_named_52 : decode b_Model_named 52 = .ok (.goto (-50), 3) := by decide +kernel
theorem d_Model_named_55 : decode b_Model_named 55 = .ok (.aload_n 0, 1) := by decide +kernel
theorem d_Model_named_56 : decode b_Model_named 56 = .ok (.iconst 4, 1) := by decide +kernel
theorem d_Model_named_57 : decode b_Model_named 57 = .ok (.iload_n 1, 1) := by decide +kernel
theorem d_Model_named_58 : decode b_Model_named 58 = .ok (.invokevirtual 264, 3) := by decide +kernel
theorem d_Model_named_61 : decode b_Model_named 61 = .ok (.aload_n 0, 1) := by decide +kernel
theorem d_Model_named_62 : decode b_Model_named 62 = .ok (.iconst 0, 1) := by decide +kernel
theorem d_Model_named_63 : decode b_Model_named 63 = .ok (.iconst 0, 1) := by decide +kernel
theorem d_Model_named_64 : decode b_Model_named 64 = .ok (.invokevirtual 272, 3) := by decide +kernel
theorem d_Model_named_67 : decode b_Model_named 67 = .ok (.return_, 1) := by decide +kernel
set_option maxHeartbeats 4000000 in
set_option maxRecDepth 100000 in
theorem c_Model_named (l : Launch) {S : St} {x1 : Int32} {x2 : Int32} {S' : St} (h : f_Model_named S x1 x2 = some S') : MV mw l y_Model_named b_Model_named 4 none 1 23 0 0 (fun ad => [.ref (ad 0 0), .int x1, .int x2]) aT aE S S' := by
  refine MV_of "LawfulLotsModel" rfl (by decide) (fun _ => Nat.le_of_ble_eq_true rfl) ?_
  intro p e s m args below meth c D ar ad A Q ls hP F hK hA hw hl hQ
  have hl : lv_has ls 4 [(0, .ref (ad 0 0)), (1, .int x1), (2, .int x2)] := hl
  obtain ⟨X_0, eX_0⟩ : ∃ X : St → Prop, X = (fun q => ∀ (H : Heap) (locs : List Loc) (pc : Nat) (ls : Array Slot), decode b_Model_named pc = .ok (.return_, 1) → Bw mw D ar A s.heap H locs ad q → W p l e (RM 1 23) s m args below meth c H locs 0 0 Q (F0 m pc ls [])) := ⟨_, rfl⟩
  have key : ∀ (H : Heap) (locs : List Loc), Bw mw D ar A s.heap H locs ad S → ∀ o, f_Model_named S x1 x2 = some o → X_0 o → W p l e (RM 1 23) s m args below meth c H locs 0 0 Q (F0 m 0 ls []) := by
    intro H locs hw o h ho
    unfold f_Model_named at h
    refine lv_iconst (v := 0) F.1 F.2.1 d_Model_named_0 (by decide) ?_
    refine lv_istore_n (lv' := [(3, .int (0 : Int32)), (0, .ref (ad 0 0)), (1, .int x1), (2, .int x2)]) F.1 F.2.1 d_Model_named_1 rfl hl (by decide) rfl (fun ls hl => ?_)
    obtain ⟨P_2, eP_2⟩ : ∃ P : Int32 → Prop, P = (fun q => ∀ (H : Heap) (locs : List Loc) (ls : Array Slot), Bw mw D ar A s.heap H locs ad S → lv_has ls 4 [(0, .ref (ad 0 0)), (1, .int x1), (2, .int x2), (3, .int q)] → W p l e (RM 1 23) s m args below meth c H locs 0 0 Q (F0 m 2 ls [])) := ⟨_, rfl⟩
    have hL_2 : P_2 (0 : Int32) := by
      refine wh_gp (P := P_2) (X := X_0) h ho ?_
      clear h ho
      intro x3 o h ho
      have h : Model_named_l2 S x1 x2 x3 = some o := h
      unfold Model_named_l2 at h
      rw [eP_2]
      intro H locs ls hw hl
      refine lv_iload_n F.1 F.2.1 d_Model_named_2 rfl (lv_at hl 3 rfl) ?_
      refine lv_aload_n F.1 F.2.1 d_Model_named_3 rfl (lv_at hl 0 rfl) ?_
      refine mg_0_20 F hK hw lk_1031 d_Model_named_4 ?_
      refine lv_aload_n F.1 F.2.1 d_Model_named_7 rfl (lv_at hl 0 rfl) ?_
      refine mg_0_19 F hK hw lk_1030 d_Model_named_8 ?_
      obtain ⟨hi_1, h⟩ := gd_ex h
      refine ml_0_20 F hK hw hi_1 d_Model_named_11 ?_
      refine lv_icmp_ge (tgt := 55) F.1 F.2.1 d_Model_named_12 (by decide) (fun c_2 => ?_) (fun c_2 => ?_)
      · replace h := ip c_2 h
        refine lv_aload_n F.1 F.2.1 d_Model_named_55 rfl (lv_at hl 0 rfl) ?_
        refine lv_iconst (v := 4) F.1 F.2.1 d_Model_named_56 (by decide) ?_
        refine lv_iload_n F.1 F.2.1 d_Model_named_57 rfl (lv_at hl 1 rfl) ?_
        obtain ⟨S_4, hc_3, h⟩ := bd_ex h
        refine cV_v F hA rfl hK hw (c_Model_wrong l hc_3) trivial rfl (good_V lk_1273 lk_1275 ls_68 lk_10 lk_1276) (mr_0 hK hw) hd_Model_wrong ⟨Nat.le_of_ble_eq_true rfl, Nat.le_of_ble_eq_true rfl⟩ rfl hl.1 rfl (Nat.le_of_ble_eq_true rfl) d_Model_named_58 ⟨(Nat.zero_le _), (Nat.zero_le _)⟩ (fun H locs hw => ?_)
        refine lv_aload_n F.1 F.2.1 d_Model_named_61 rfl (lv_at hl 0 rfl) ?_
        refine lv_iconst (v := 0) F.1 F.2.1 d_Model_named_62 (by decide) ?_
        refine lv_iconst (v := 0) F.1 F.2.1 d_Model_named_63 (by decide) ?_
        obtain ⟨S_6, hc_5, h⟩ := bd_ex h
        refine cV_v F hA rfl hK hw (c_Model_emit l hc_5) trivial rfl (good_V lk_1287 lk_1289 ls_71 lk_10 lk_1290) (mr_0 hK hw) hd_Model_emit ⟨Nat.le_of_ble_eq_true rfl, Nat.le_of_ble_eq_true rfl⟩ rfl hl.1 rfl (Nat.le_of_ble_eq_true rfl) d_Model_named_64 ⟨(Nat.zero_le _), (Nat.zero_le _)⟩ (fun H locs hw => ?_)
        cases h
        have ho : X_0 _ := ho
        rw [eX_0] at ho
        exact ho H locs _ ls d_Model_named_67 hw
      · replace h := iq c_2 h
        refine lv_aload_n F.1 F.2.1 d_Model_named_15 rfl (lv_at hl 0 rfl) ?_
        refine mg_0_21 F hK hw lk_1032 d_Model_named_16 ?_
        refine lv_bipush (v := 6) F.1 F.2.1 d_Model_named_19 (by decide) ?_
        refine lv_aload_n F.1 F.2.1 d_Model_named_21 rfl (lv_at hl 0 rfl) ?_
        refine mg_0_19 F hK hw lk_1030 d_Model_named_22 ?_
        refine lv_imul F.1 F.2.1 d_Model_named_25 ?_
        refine lv_iload_n F.1 F.2.1 d_Model_named_26 rfl (lv_at hl 3 rfl) ?_
        refine lv_iadd F.1 F.2.1 d_Model_named_27 ?_
        obtain ⟨hi_7, h⟩ := gd_ex h
        refine ml_0_21 F hK hw hi_7 d_Model_named_28 ?_
        refine lv_aload_n F.1 F.2.1 d_Model_named_29 rfl (lv_at hl 0 rfl) ?_
        refine mg_0_8 F hK hw lk_1019 d_Model_named_30 ?_
        refine lv_iload_n F.1 F.2.1 d_Model_named_33 rfl (lv_at hl 1 rfl) ?_
        obtain ⟨hi_8, h⟩ := gd_ex h
        refine ml_0_8 F hK hw hi_8 d_Model_named_34 ?_
        refine W.lcmp F.1 F.2.1 d_Model_named_35 ?_
        refine lv_if_eq (tgt := 42) F.1 F.2.1 d_Model_named_36 (by decide) (fun c_9 => ?_) (fun c_9 => ?_)
        · replace h := ip c_9 h
          refine lv_aload_n F.1 F.2.1 d_Model_named_42 rfl (lv_at hl 0 rfl) ?_
          refine lv_iload_n F.1 F.2.1 d_Model_named_43 rfl (lv_at hl 2 rfl) ?_
          refine lv_iload_n F.1 F.2.1 d_Model_named_44 rfl (lv_at hl 3 rfl) ?_
          obtain ⟨S_11, hc_10, h⟩ := bd_ex h
          refine cV_v F hA rfl hK hw (c_Model_emit l hc_10) trivial rfl (good_V lk_1287 lk_1289 ls_71 lk_10 lk_1290) (mr_0 hK hw) hd_Model_emit ⟨Nat.le_of_ble_eq_true rfl, Nat.le_of_ble_eq_true rfl⟩ rfl hl.1 rfl (Nat.le_of_ble_eq_true rfl) d_Model_named_45 ⟨(Nat.zero_le _), (Nat.zero_le _)⟩ (fun H locs hw => ?_)
          cases h
          have ho : X_0 _ := ho
          rw [eX_0] at ho
          exact ho H locs _ ls d_Model_named_48 hw
        · replace h := iq c_9 h
          refine lv_goto (tgt := 49) F.1 F.2.1 d_Model_named_39 (by decide) ?_
          obtain ⟨x3_12, ex3_12, h⟩ := nm_ex h
          refine lv_iinc (v := x3_12) (lv' := [(3, .int x3_12), (0, .ref (ad 0 0)), (1, .int x1), (2, .int x2)]) F.1 F.2.1 d_Model_named_49 hl (k := 3) rfl (by rw [ex3_12]; rfl) (by decide) rfl (fun ls hl => ?_)
          refine lv_goto (tgt := 2) F.1 F.2.1 d_Model_named_52 (by decide) ?_
          cases h
          have ho : P_2 _ := ho
          rw [eP_2] at ho
          exact ho H locs ls hw (lv_sub hl [1, 2, 3, 0] rfl)
    rw [eP_2] at hL_2
    exact hL_2 H locs ls hw (lv_sub hl [1, 2, 3, 0] rfl)
  exact key _ _ hw _ h (by rw [eX_0]; exact fun H locs pc ls hd hw => hQ H locs pc ls ad rfl hd hw)
theorem d_Model_unit_0 : decode b_Model_unit 0 = .ok (.aload_n 0, 1) := by decide +kernel
theorem d_Model_unit_1 : decode b_Model_unit 1 = .ok (.iconst 2, 1) := by decide +kernel
theorem d_Model_unit_2 : decode b_Model_unit 2 = .ok (.invokevirtual 216, 3) := by decide +kernel
theorem d_Model_unit_5 : decode b_Model_unit 5 = .ok (.ifCond .eq 22, 3) := by decide +kernel
theorem d_Model_unit_8 : decode b_Model_unit 8 = .ok (.aload_n 0, 1) := by decide +kernel
theorem d_Model_unit_9 : decode b_Model_unit 9 = .ok (.iconst 0, 1) := by decide +kernel
theorem d_Model_unit_10 : decode b_Model_unit 10 = .ok (.aload_n 0, 1) := by decide +kernel
theorem d_Model_unit_11 : decode b_Model_unit 11 = .ok (.getfield 27, 3) := by decide +kernel
theorem d_Model_unit_14 : decode b_Model_unit 14 = .ok (.aload_n 0, 1) := by decide +kernel
theorem d_Model_unit_15 : decode b_Model_unit 15 = .ok (.getfield 201, 3) := by decide +kernel
theorem d_Model_unit_18 : decode b_Model_unit 18 = .ok (.iaload, 1) := by decide +kernel
theorem d_Model_unit_19 : decode b_Model_unit 19 = .ok (.invokevirtual 272, 3) := by decide +kernel
theorem d_Model_unit_22 : decode b_Model_unit 22 = .ok (.aload_n 0, 1) := by decide +kernel
theorem d_Model_unit_23 : decode b_Model_unit 23 = .ok (.invokevirtual 219, 3) := by decide +kernel
theorem d_Model_unit_26 : decode b_Model_unit 26 = .ok (.return_, 1) := by decide +kernel
theorem d_Model_unit_27 : decode b_Model_unit 27 = .ok (.iconst 1, 1) := by decide +kernel
theorem d_Model_unit_28 : decode b_Model_unit 28 = .ok (.istore_n 1, 1) := by decide +kernel
theorem d_Model_unit_29 : decode b_Model_unit 29 = .ok (.aload_n 0, 1) := by decide +kernel
theorem d_Model_unit_30 : decode b_Model_unit 30 = .ok (.bipush 32, 2) := by decide +kernel
theorem d_Model_unit_32 : decode b_Model_unit 32 = .ok (.invokevirtual 216, 3) := by decide +kernel
theorem d_Model_unit_35 : decode b_Model_unit 35 = .ok (.ifCond .eq 25, 3) := by decide +kernel
theorem d_Model_unit_38 : decode b_Model_unit 38 = .ok (.iconst 2, 1) := by decide +kernel
theorem d_Model_unit_39 : decode b_Model_unit 39 = .ok (.istore_n 1, 1) := by decide +kernel
theorem d_Model_unit_40 : decode b_Model_unit 40 = .ok (.aload_n 0, 1) := by decide +kernel
theorem d_Model_unit_41 : decode b_Model_unit 41 = .ok (.getfield 250, 3) := by decide +kernel
theorem d_Model_unit_44 : decode b_Model_unit 44 = .ok (.ifCond .ne 12, 3) := by decide +kernel
theorem d_Model_unit_47 : decode b_Model_unit 47 = .ok (.aload_n 0, 1) := by decide +kernel
theorem d_Model_unit_48 : decode b_Model_unit 48 = .ok (.iconst 5, 1) := by decide +kernel
theorem d_Model_unit_49 : decode b_Model_unit 49 = .ok (.aload_n 0, 1) := by decide +kernel
theorem d_Model_unit_50 : decode b_Model_unit 50 = .ok (.getfield 201, 3) := by decide +kernel
theorem d_Model_unit_53 : decode b_Model_unit 53 = .ok (.invokevirtual 264, 3) := by decide +kernel
theorem d_Model_unit_56 : decode b_Model_unit 56 = .ok (.aload_n 0, 1) := by decide +kernel
theorem d_Model_unit_57 : decode b_Model_unit 57 = .ok (.invokevirtual 219, 3) := by decide +kernel
theorem d_Model_unit_60 : decode b_Model_unit 60 = .ok (.aload_n 0, 1) := by decide +kernel
theorem d_Model_unit_61 : decode b_Model_unit 61 = .ok (.getfield 201, 3) := by decide +kernel
theorem d_Model_unit_64 : decode b_Model_unit 64 = .ok (.istore_n 2, 1) := by decide +kernel
theorem d_Model_unit_65 : decode b_Model_unit 65 = .ok (.aload_n 0, 1) := by decide +kernel
theorem d_Model_unit_66 : decode b_Model_unit 66 = .ok (.iconst 1, 1) := by decide +kernel
theorem d_Model_unit_67 : decode b_Model_unit 67 = .ok (.invokevirtual 254, 3) := by decide +kernel
theorem d_Model_unit_70 : decode b_Model_unit 70 = .ok (.aload_n 0, 1) := by decide +kernel
theorem d_Model_unit_71 : decode b_Model_unit 71 = .ok (.getfield 198, 3) := by decide +kernel
theorem d_Model_unit_74 : decode b_Model_unit 74 = .ok (.ifCond .ne 9, 3) := by decide +kernel
theorem d_Model_unit_77 : decode b_Model_unit 77 = .ok (.aload_n 0, 1) := by decide +kernel
theorem d_Model_unit_78 : decode b_Model_unit 78 = .ok (.iload_n 2, 1) := by decide +kernel
theorem d_Model_unit_79 : decode b_Model_unit 79 = .ok (.iload_n 1, 1) := by decide +kernel
theorem d_Model_unit_80 : decode b_Model_unit 80 = .ok (.invokevirtual 284, 3) := by decide +kernel
theorem d_Model_unit_83 : decode b_Model_unit 83 = .ok (.return_, 1) := by decide +kernel
set_option maxHeartbeats 4000000 in
set_option maxRecDepth 100000 in
theorem c_Model_unit (l : Launch) {S : St} {S' : St} (h : f_Model_unit S = some S') : MV mw l y_Model_unit b_Model_unit 3 none 3 62 0 0 (fun ad => [.ref (ad 0 0)]) aT aE S S' := by
  refine MV_of "LawfulLotsModel" rfl (by decide) (fun _ => Nat.le_of_ble_eq_true rfl) ?_
  intro p e s m args below meth c D ar ad A Q ls hP F hK hA hw hl hQ
  have hl : lv_has ls 3 [(0, .ref (ad 0 0))] := hl
  obtain ⟨X_0, eX_0⟩ : ∃ X : St → Prop, X = (fun q => ∀ (H : Heap) (locs : List Loc) (pc : Nat) (ls : Array Slot), decode b_Model_unit pc = .ok (.return_, 1) → Bw mw D ar A s.heap H locs ad q → W p l e (RM 3 62) s m args below meth c H locs 0 0 Q (F0 m pc ls [])) := ⟨_, rfl⟩
  have key : ∀ (H : Heap) (locs : List Loc), Bw mw D ar A s.heap H locs ad S → ∀ o, f_Model_unit S = some o → X_0 o → W p l e (RM 3 62) s m args below meth c H locs 0 0 Q (F0 m 0 ls []) := by
    intro H locs hw o h ho
    unfold f_Model_unit at h
    have J_83 : ∀ (S : St) (H : Heap) (locs : List Loc) (ls : Array Slot), Bw mw D ar A s.heap H locs ad S → lv_has ls 3 [] → ∀ o, Model_unit_j83 S = some o → X_0 o → W p l e (RM 3 62) s m args below meth c H locs 0 0 Q (F0 m 83 ls []) := by
      intro S H locs ls hw hl o h ho
      unfold Model_unit_j83 at h
      cases h
      have ho : X_0 _ := ho
      rw [eX_0] at ho
      exact ho H locs _ ls d_Model_unit_83 hw
    have J_60 : ∀ (S : St) (x1 : Int32) (H : Heap) (locs : List Loc) (ls : Array Slot), Bw mw D ar A s.heap H locs ad S → lv_has ls 3 [(0, .ref (ad 0 0)), (1, .int x1)] → ∀ o, Model_unit_j60 S x1 = some o → X_0 o → W p l e (RM 3 62) s m args below meth c H locs 0 0 Q (F0 m 60 ls []) := by
      intro S x1 H locs ls hw hl o h ho
      unfold Model_unit_j60 at h
      refine lv_aload_n F.1 F.2.1 d_Model_unit_60 rfl (lv_at hl 0 rfl) ?_
      refine mg_0_11 F hK hw lk_1022 d_Model_unit_61 ?_
      obtain ⟨x2_17, ex2_17, h⟩ := nm_ex h
      refine lv_nm ex2_17 ?_
      refine lv_istore_n (lv' := [(2, .int x2_17), (0, .ref (ad 0 0)), (1, .int x1)]) F.1 F.2.1 d_Model_unit_64 rfl hl (by decide) rfl (fun ls hl => ?_)
      refine lv_aload_n F.1 F.2.1 d_Model_unit_65 rfl (lv_at hl 1 rfl) ?_
      refine lv_iconst (v := 1) F.1 F.2.1 d_Model_unit_66 (by decide) ?_
      obtain ⟨S_19, hc_18, h⟩ := bd_ex h
      refine cV_v F hA rfl hK hw (c_Model_must l hc_18) trivial rfl (good_V lk_1269 lk_1271 ls_67 lk_10 lk_1272) (mr_0 hK hw) hd_Model_must ⟨Nat.le_of_ble_eq_true rfl, Nat.le_of_ble_eq_true rfl⟩ rfl hl.1 rfl (Nat.le_of_ble_eq_true rfl) d_Model_unit_67 ⟨(Nat.zero_le _), (Nat.zero_le _)⟩ (fun H locs hw => ?_)
      refine lv_aload_n F.1 F.2.1 d_Model_unit_70 rfl (lv_at hl 1 rfl) ?_
      refine mg_0_13 F hK hw lk_1024 d_Model_unit_71 ?_
      refine lv_if_ne (tgt := 83) F.1 F.2.1 d_Model_unit_74 (by decide) (fun c_20 => ?_) (fun c_20 => ?_)
      · replace h := iq c_20 h
        exact J_83 S_19 H locs ls hw (lv_sub hl [] rfl) o h ho
      · replace h := ip c_20 h
        refine lv_aload_n F.1 F.2.1 d_Model_unit_77 rfl (lv_at hl 1 rfl) ?_
        refine lv_iload_n F.1 F.2.1 d_Model_unit_78 rfl (lv_at hl 0 rfl) ?_
        refine lv_iload_n F.1 F.2.1 d_Model_unit_79 rfl (lv_at hl 2 rfl) ?_
        obtain ⟨S_22, hc_21, h⟩ := bd_ex h
        refine cV_v F hA rfl hK hw (c_Model_named l hc_21) trivial rfl (good_V lk_1291 lk_1293 ls_72 lk_10 lk_1294) (mr_0 hK hw) hd_Model_named ⟨Nat.le_of_ble_eq_true rfl, Nat.le_of_ble_eq_true rfl⟩ rfl hl.1 rfl (Nat.le_of_ble_eq_true rfl) d_Model_unit_80 ⟨(Nat.zero_le _), (Nat.zero_le _)⟩ (fun H locs hw => ?_)
        exact J_83 S_22 H locs ls hw (lv_sub hl [] rfl) o h ho
    have J_56 : ∀ (S : St) (x1 : Int32) (H : Heap) (locs : List Loc) (ls : Array Slot), Bw mw D ar A s.heap H locs ad S → lv_has ls 3 [(0, .ref (ad 0 0)), (1, .int x1)] → ∀ o, Model_unit_j56 S x1 = some o → X_0 o → W p l e (RM 3 62) s m args below meth c H locs 0 0 Q (F0 m 56 ls []) := by
      intro S x1 H locs ls hw hl o h ho
      unfold Model_unit_j56 at h
      refine lv_aload_n F.1 F.2.1 d_Model_unit_56 rfl (lv_at hl 0 rfl) ?_
      obtain ⟨S_16, hc_15, h⟩ := bd_ex h
      refine cV_v F hA rfl hK hw (c_Model_next l hc_15) trivial rfl (good_V lk_1265 lk_1267 ls_66 lk_10 lk_1268) (mr_0 hK hw) hd_Model_next ⟨Nat.le_of_ble_eq_true rfl, Nat.le_of_ble_eq_true rfl⟩ rfl hl.1 rfl (Nat.le_of_ble_eq_true rfl) d_Model_unit_57 ⟨(Nat.zero_le _), (Nat.zero_le _)⟩ (fun H locs hw => ?_)
      exact J_60 S_16 x1 H locs ls hw (lv_sub hl [0, 1] rfl) o h ho
    refine lv_aload_n F.1 F.2.1 d_Model_unit_0 rfl (lv_at hl 0 rfl) ?_
    refine lv_iconst (v := 2) F.1 F.2.1 d_Model_unit_1 (by decide) ?_
    obtain ⟨v_2, hc_1, h⟩ := bd_ex h
    refine cV_i F hA rfl hK hw (c_Model_is l hc_1) trivial rfl (good_V lk_1249 lk_1251 ls_62 lk_10 lk_1252) (mr_0 hK hw) hd_Model_is ⟨Nat.le_of_ble_eq_true rfl, Nat.le_of_ble_eq_true rfl⟩ rfl hl.1 rfl (Nat.le_of_ble_eq_true rfl) d_Model_unit_2 ⟨(Nat.zero_le _), (Nat.zero_le _)⟩ (fun H locs hw => ?_)
    refine lv_if_eq (tgt := 27) F.1 F.2.1 d_Model_unit_5 (by decide) (fun c_3 => ?_) (fun c_3 => ?_)
    · replace h := ip c_3 h
      refine lv_iconst (v := 1) F.1 F.2.1 d_Model_unit_27 (by decide) ?_
      refine lv_istore_n (lv' := [(1, .int (1 : Int32)), (0, .ref (ad 0 0))]) F.1 F.2.1 d_Model_unit_28 rfl hl (by decide) rfl (fun ls hl => ?_)
      refine lv_aload_n F.1 F.2.1 d_Model_unit_29 rfl (lv_at hl 1 rfl) ?_
      refine lv_bipush (v := 32) F.1 F.2.1 d_Model_unit_30 (by decide) ?_
      obtain ⟨v_5, hc_4, h⟩ := bd_ex h
      refine cV_i F hA rfl hK hw (c_Model_is l hc_4) trivial rfl (good_V lk_1249 lk_1251 ls_62 lk_10 lk_1252) (mr_0 hK hw) hd_Model_is ⟨Nat.le_of_ble_eq_true rfl, Nat.le_of_ble_eq_true rfl⟩ rfl hl.1 rfl (Nat.le_of_ble_eq_true rfl) d_Model_unit_32 ⟨(Nat.zero_le _), (Nat.zero_le _)⟩ (fun H locs hw => ?_)
      refine lv_if_eq (tgt := 60) F.1 F.2.1 d_Model_unit_35 (by decide) (fun c_6 => ?_) (fun c_6 => ?_)
      · replace h := ip c_6 h
        exact J_60 S (1 : Int32) H locs ls hw (lv_sub hl [1, 0] rfl) o h ho
      · replace h := iq c_6 h
        refine lv_iconst (v := 2) F.1 F.2.1 d_Model_unit_38 (by decide) ?_
        refine lv_istore_n (lv' := [(1, .int (2 : Int32)), (0, .ref (ad 0 0))]) F.1 F.2.1 d_Model_unit_39 rfl hl (by decide) rfl (fun ls hl => ?_)
        refine lv_aload_n F.1 F.2.1 d_Model_unit_40 rfl (lv_at hl 1 rfl) ?_
        refine mg_0_41 F hK hw lk_1052 d_Model_unit_41 ?_
        refine lv_if_ne (tgt := 56) F.1 F.2.1 d_Model_unit_44 (by decide) (fun c_7 => ?_) (fun c_7 => ?_)
        · replace h := iq c_7 h
          exact J_56 S (2 : Int32) H locs ls hw (lv_sub hl [1, 0] rfl) o h ho
        · replace h := ip c_7 h
          refine lv_aload_n F.1 F.2.1 d_Model_unit_47 rfl (lv_at hl 1 rfl) ?_
          refine lv_iconst (v := 5) F.1 F.2.1 d_Model_unit_48 (by decide) ?_
          refine lv_aload_n F.1 F.2.1 d_Model_unit_49 rfl (lv_at hl 1 rfl) ?_
          refine mg_0_11 F hK hw lk_1022 d_Model_unit_50 ?_
          obtain ⟨S_9, hc_8, h⟩ := bd_ex h
          refine cV_v F hA rfl hK hw (c_Model_wrong l hc_8) trivial rfl (good_V lk_1273 lk_1275 ls_68 lk_10 lk_1276) (mr_0 hK hw) hd_Model_wrong ⟨Nat.le_of_ble_eq_true rfl, Nat.le_of_ble_eq_true rfl⟩ rfl hl.1 rfl (Nat.le_of_ble_eq_true rfl) d_Model_unit_53 ⟨(Nat.zero_le _), (Nat.zero_le _)⟩ (fun H locs hw => ?_)
          exact J_56 S_9 (2 : Int32) H locs ls hw (lv_sub hl [1, 0] rfl) o h ho
    · replace h := iq c_3 h
      refine lv_aload_n F.1 F.2.1 d_Model_unit_8 rfl (lv_at hl 0 rfl) ?_
      refine lv_iconst (v := 0) F.1 F.2.1 d_Model_unit_9 (by decide) ?_
      refine lv_aload_n F.1 F.2.1 d_Model_unit_10 rfl (lv_at hl 0 rfl) ?_
      refine mg_0_7 F hK hw lk_1018 d_Model_unit_11 ?_
      refine lv_aload_n F.1 F.2.1 d_Model_unit_14 rfl (lv_at hl 0 rfl) ?_
      refine mg_0_11 F hK hw lk_1022 d_Model_unit_15 ?_
      obtain ⟨hi_10, h⟩ := gd_ex h
      refine ml_0_7 F hK hw hi_10 d_Model_unit_18 ?_
      obtain ⟨S_12, hc_11, h⟩ := bd_ex h
      refine cV_v F hA rfl hK hw (c_Model_emit l hc_11) trivial rfl (good_V lk_1287 lk_1289 ls_71 lk_10 lk_1290) (mr_0 hK hw) hd_Model_emit ⟨Nat.le_of_ble_eq_true rfl, Nat.le_of_ble_eq_true rfl⟩ rfl hl.1 rfl (Nat.le_of_ble_eq_true rfl) d_Model_unit_19 ⟨(Nat.zero_le _), (Nat.zero_le _)⟩ (fun H locs hw => ?_)
      refine lv_aload_n F.1 F.2.1 d_Model_unit_22 rfl (lv_at hl 0 rfl) ?_
      obtain ⟨S_14, hc_13, h⟩ := bd_ex h
      refine cV_v F hA rfl hK hw (c_Model_next l hc_13) trivial rfl (good_V lk_1265 lk_1267 ls_66 lk_10 lk_1268) (mr_0 hK hw) hd_Model_next ⟨Nat.le_of_ble_eq_true rfl, Nat.le_of_ble_eq_true rfl⟩ rfl hl.1 rfl (Nat.le_of_ble_eq_true rfl) d_Model_unit_23 ⟨(Nat.zero_le _), (Nat.zero_le _)⟩ (fun H locs hw => ?_)
      cases h
      have ho : X_0 _ := ho
      rw [eX_0] at ho
      exact ho H locs _ ls d_Model_unit_26 hw
  exact key _ _ hw _ h (by rw [eX_0]; exact fun H locs pc ls hd hw => hQ H locs pc ls ad rfl hd hw)
