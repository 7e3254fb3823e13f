theorem d_Reader_nameInCode_0 : decode b_Reader_nameInCode 0 = .ok (.aload_n 0, 1) := by decide +kernel
theorem d_Reader_nameInCode_1 : decode b_Reader_nameInCode 1 = .ok (.getfield 25, 3) := by decide +kernel
theorem d_Reader_nameInCode_4 : decode b_Reader_nameInCode 4 = .ok (.aload_n 0, 1) := by decide +kernel
theorem d_Reader_nameInCode_5 : decode b_Reader_nameInCode 5 = .ok (.getfield 12, 3) := by decide +kernel
theorem d_Reader_nameInCode_8 : decode b_Reader_nameInCode 8 = .ok (.getfield 104, 3) := by decide +kernel
theorem d_Reader_nameInCode_11 : decode b_Reader_nameInCode 11 = .ok (.invokevirtual 145, 3) := by decide +kernel
theorem d_Reader_nameInCode_14 : decode b_Reader_nameInCode 14 = .ok (.istore_n 2, 1) := by decide +kernel
theorem d_Reader_nameInCode_15 : decode b_Reader_nameInCode 15 = .ok (.iload_n 2, 1) := by decide +kernel
theorem d_Reader_nameInCode_16 : decode b_Reader_nameInCode 16 = .ok (.iconst (-1), 1) := by decide +kernel
theorem d_Reader_nameInCode_17 : decode b_Reader_nameInCode 17 = .ok (.if_icmp .ne 15, 3) := by decide +kernel
theorem d_Reader_nameInCode_20 : decode b_Reader_nameInCode 20 = .ok (.aload_n 0, 1) := by decide +kernel
theorem d_Reader_nameInCode_21 : decode b_Reader_nameInCode 21 = .ok (.iconst 4, 1) := by decide +kernel
theorem d_Reader_nameInCode_22 : decode b_Reader_nameInCode 22 = .ok (.aload_n 0, 1) := by decide +kernel
theorem d_Reader_nameInCode_23 : decode b_Reader_nameInCode 23 = .ok (.getfield 12, 3) := by decide +kernel
theorem d_Reader_nameInCode_26 : decode b_Reader_nameInCode 26 = .ok (.getfield 98, 3) := by decide +kernel
theorem d_Reader_nameInCode_29 : decode b_Reader_nameInCode 29 = .ok (.invokevirtual 149, 3) := by decide +kernel
theorem d_Reader_nameInCode_32 : decode b_Reader_nameInCode 32 = .ok (.aload_n 0, 1) := by decide +kernel
theorem d_Reader_nameInCode_33 : decode b_Reader_nameInCode 33 = .ok (.getfield 25, 3) := by decide +kernel
theorem d_Reader_nameInCode_36 : decode b_Reader_nameInCode 36 = .ok (.aload_n 0, 1) := by decide +kernel
theorem d_Reader_nameInCode_37 : decode b_Reader_nameInCode 37 = .ok (.getfield 51, 3) := by decide +kernel
theorem d_Reader_nameInCode_40 : decode b_Reader_nameInCode 40 = .ok (.iload_n 1, 1) := by decide +kernel
theorem d_Reader_nameInCode_41 : decode b_Reader_nameInCode 41 = .ok (.iconst 0, 1) := by decide +kernel
theorem d_Reader_nameInCode_42 : decode b_Reader_nameInCode 42 = .ok (.iload_n 2, 1) := by decide +kernel
theorem d_Reader_nameInCode_43 : decode b_Reader_nameInCode 43 = .ok (.invokestatic 177, 3) := by decide +kernel
theorem d_Reader_nameInCode_46 : decode b_Reader_nameInCode 46 = .ok (.invokevirtual 167, 3) := by decide +kernel
theorem d_Reader_nameInCode_49 : decode b_Reader_nameInCode 49 = .ok (.bipush 11, 2) := by decide +kernel
theorem d_Reader_nameInCode_51 : decode b_Reader_nameInCode 51 = .ok (.ireturn, 1) := by decide +kernel
set_option maxHeartbeats 4000000 in
set_option maxRecDepth 100000 in
theorem c_Reader_nameInCode (l : Launch) {S : St} {x1 : Int32} {S' : St} {r : Int32} (h : f_Reader_nameInCode S x1 = some (r, S')) : MI cw l y_Reader_nameInCode b_Reader_nameInCode 3 (some .int) 1 23 0 0 (fun ad => [.ref (ad 1 0), .int x1]) aT aE S r S' := by
  refine MI_of "LawfulLots$Reader" rfl (by decide) (fun _ => Nat.le_of_ble_eq_true rfl) ?_
  intro p e s m args below meth c D ar ad A Q ls hP F hK hA hw hl hQ
  have hl : lv_has ls 3 [(0, .ref (ad 1 0)), (1, .int x1)] := hl
  obtain ⟨X_0, eX_0⟩ : ∃ X : (Int32 × St) → Prop, X = (fun q => ∀ (H : Heap) (locs : List Loc) (pc : Nat) (ls : Array Slot), decode b_Reader_nameInCode pc = .ok (.ireturn, 1) → Bw cw D ar A s.heap H locs ad q.2 → W p l e (RM 1 23) s m args below meth c H locs 0 0 Q (F0 m pc ls [.int q.1])) := ⟨_, rfl⟩
  have key : ∀ (H : Heap) (locs : List Loc), Bw cw D ar A s.heap H locs ad S → ∀ o, f_Reader_nameInCode S x1 = some o → X_0 o → W p l e (RM 1 23) s m args below meth c H locs 0 0 Q (F0 m 0 ls []) := by
    intro H locs hw o h ho
    unfold f_Reader_nameInCode at h
    have J_32 : ∀ (S : St) (x2 : Int32) (H : Heap) (locs : List Loc) (ls : Array Slot), Bw cw D ar A s.heap H locs ad S → lv_has ls 3 [(0, .ref (ad 1 0)), (1, .int x1), (2, .int x2)] → ∀ o, Reader_nameInCode_j32 S x1 x2 = some o → X_0 o → W p l e (RM 1 23) s m args below meth c H locs 0 0 Q (F0 m 32 ls []) := by
      intro S x2 H locs ls hw hl o h ho
      unfold Reader_nameInCode_j32 at h
      refine lv_aload_n F.1 F.2.1 d_Reader_nameInCode_32 rfl (lv_at hl 0 rfl) ?_
      refine cg_1_2 F hK hw lk_121 d_Reader_nameInCode_33 ?_
      refine lv_aload_n F.1 F.2.1 d_Reader_nameInCode_36 rfl (lv_at hl 0 rfl) ?_
      refine cg_1_10 F hK hw lk_131 d_Reader_nameInCode_37 ?_
      refine lv_iload_n F.1 F.2.1 d_Reader_nameInCode_40 rfl (lv_at hl 1 rfl) ?_
      refine lv_iconst (v := 0) F.1 F.2.1 d_Reader_nameInCode_41 (by decide) ?_
      refine lv_iload_n F.1 F.2.1 d_Reader_nameInCode_42 rfl (lv_at hl 2 rfl) ?_
      refine va_mmax F.1 F.2.1 (F.2.2.1.trans hl.1.symm) F.2.2.2.1 (F.2.2.2.2 _ lk_495) (F.2.2.2.2 _ lk_400) (F.2.2.2.2 _ lk_12) (F.2.2.2.2 _ lk_401) (Nat.le_of_ble_eq_true rfl) (Nat.le_of_ble_eq_true rfl) (Nat.zero_le _) (Nat.zero_le _) d_Reader_nameInCode_43 ?_
      obtain ⟨S_7, hc_6, h⟩ := bd_ex h
      refine cV_v F hA rfl hK hw (c_Book_emit l hc_6) trivial rfl (good_V lk_496 lk_497 lk_498 lk_4 lk_499) (cr_3 hK hw) hd_Book_emit ⟨Nat.le_of_ble_eq_true rfl, Nat.le_of_ble_eq_true rfl⟩ rfl hl.1 rfl (Nat.le_of_ble_eq_true rfl) d_Reader_nameInCode_46 ⟨(Nat.zero_le _), (Nat.zero_le _)⟩ (fun H locs hw => ?_)
      refine lv_bipush (v := 11) F.1 F.2.1 d_Reader_nameInCode_49 (by decide) ?_
      cases h
      have ho : X_0 _ := ho
      rw [eX_0] at ho
      exact ho H locs _ ls d_Reader_nameInCode_51 hw
    refine lv_aload_n F.1 F.2.1 d_Reader_nameInCode_0 rfl (lv_at hl 0 rfl) ?_
    refine cg_1_2 F hK hw lk_121 d_Reader_nameInCode_1 ?_
    refine lv_aload_n F.1 F.2.1 d_Reader_nameInCode_4 rfl (lv_at hl 0 rfl) ?_
    refine cg_1_0 F hK hw lk_119 d_Reader_nameInCode_5 ?_
    refine cg_2_6 F hK hw lk_44 d_Reader_nameInCode_8 ?_
    obtain ⟨v_2, hc_1, h⟩ := bd_ex h
    refine cV_i F hA rfl hK hw (c_Book_fieldNamed l hc_1) trivial rfl (good_V lk_467 lk_468 lk_469 lk_4 lk_470) (cr_3 hK hw) hd_Book_fieldNamed ⟨Nat.le_of_ble_eq_true rfl, Nat.le_of_ble_eq_true rfl⟩ rfl hl.1 rfl (Nat.le_of_ble_eq_true rfl) d_Reader_nameInCode_11 ⟨(Nat.zero_le _), (Nat.zero_le _)⟩ (fun H locs hw => ?_)
    refine lv_istore_n (lv' := [(2, .int v_2), (0, .ref (ad 1 0)), (1, .int x1)]) F.1 F.2.1 d_Reader_nameInCode_14 rfl hl (by decide) rfl (fun ls hl => ?_)
    refine lv_iload_n F.1 F.2.1 d_Reader_nameInCode_15 rfl (lv_at hl 0 rfl) ?_
    refine lv_iconst (v := -1) F.1 F.2.1 d_Reader_nameInCode_16 (by decide) ?_
    refine lv_icmp_ne (tgt := 32) F.1 F.2.1 d_Reader_nameInCode_17 (by decide) (fun c_3 => ?_) (fun c_3 => ?_)
    · replace h := iq c_3 h
      exact J_32 S v_2 H locs ls hw (lv_sub hl [1, 2, 0] rfl) o h ho
    · replace h := ip c_3 h
      refine lv_aload_n F.1 F.2.1 d_Reader_nameInCode_20 rfl (lv_at hl 1 rfl) ?_
      refine lv_iconst (v := 4) F.1 F.2.1 d_Reader_nameInCode_21 (by decide) ?_
      refine lv_aload_n F.1 F.2.1 d_Reader_nameInCode_22 rfl (lv_at hl 1 rfl) ?_
      refine cg_1_0 F hK hw lk_119 d_Reader_nameInCode_23 ?_
      refine cg_2_4 F hK hw lk_40 d_Reader_nameInCode_26 ?_
      obtain ⟨S_5, hc_4, h⟩ := bd_ex h
      refine cV_v F hA rfl hK hw (c_Reader_blame l hc_4) trivial rfl (good_V lk_471 lk_473 ls_9 lk_2 lk_474) (cr_1 hK hw) hd_Reader_blame ⟨Nat.le_of_ble_eq_true rfl, Nat.le_of_ble_eq_true rfl⟩ rfl hl.1 rfl (Nat.le_of_ble_eq_true rfl) d_Reader_nameInCode_29 ⟨(Nat.zero_le _), (Nat.zero_le _)⟩ (fun H locs hw => ?_)
      exact J_32 S_5 v_2 H locs ls hw (lv_sub hl [1, 2, 0] rfl) o h ho
  exact key _ _ hw _ h (by rw [eX_0]; exact fun H locs pc ls hd hw => hQ H locs pc ls ad rfl hd hw)
theorem d_Reader_lastWaiting_0 : decode b_Reader_lastWaiting 0 = .ok (.aload_n 0, 1) := by decide +kernel
theorem d_Reader_lastWaiting_1 : decode b_Reader_lastWaiting 1 = .ok (.getfield 54, 3) := by decide +kernel
theorem d_Reader_lastWaiting_4 : decode b_Reader_lastWaiting 4 = .ok (.ifCond .le 29, 3) := by decide +kernel
theorem d_Reader_lastWaiting_7 : decode b_Reader_lastWaiting 7 = .ok (.aload_n 0, 1) := by decide +kernel
theorem d_Reader_lastWaiting_8 : decode b_Reader_lastWaiting 8 = .ok (.getfield 54, 3) := by decide +kernel
theorem d_Reader_lastWaiting_11 : decode b_Reader_lastWaiting 11 = .ok (.aload_n 0, 1) := by decide +kernel
theorem d_Reader_lastWaiting_12 : decode b_Reader_lastWaiting 12 = .ok (.getfield 18, 3) := by decide +kernel
theorem d_Reader_lastWaiting_15 : decode b_Reader_lastWaiting 15 = .ok (.arraylength, 1) := by decide +kernel
theorem d_Reader_lastWaiting_16 : decode b_Reader_lastWaiting 16 = .ok (.if_icmp .gt 17, 3) := by decide +kernel
theorem d_Reader_lastWaiting_19 : decode b_Reader_lastWaiting 19 = .ok (.aload_n 0, 1) := by decide +kernel
theorem d_Reader_lastWaiting_20 : decode b_Reader_lastWaiting 20 = .ok (.getfield 18, 3) := by decide +kernel
theorem d_Reader_lastWaiting_23 : decode b_Reader_lastWaiting 23 = .ok (.aload_n 0, 1) := by decide +kernel
theorem d_Reader_lastWaiting_24 : decode b_Reader_lastWaiting 24 = .ok (.getfield 54, 3) := by decide +kernel
theorem d_Reader_lastWaiting_27 : decode b_Reader_lastWaiting 27 = .ok (.iconst 1, 1) := by decide +kernel
theorem d_Reader_lastWaiting_28 : decode b_Reader_lastWaiting 28 = .ok (.isub, 1) := by decide +kernel
theorem d_Reader_lastWaiting_29 : decode b_Reader_lastWaiting 29 = .ok (.iaload, 1) := by decide +kernel
theorem d_Reader_lastWaiting_30 : decode b_Reader_lastWaiting 30 = .ok (.goto 4, 3) := by decide +kernel
theorem d_Reader_lastWaiting_33 : decode b_Reader_lastWaiting 33 = .ok (.iconst 0, 1) := by decide +kernel
theorem d_Reader_lastWaiting_34 : decode b_Reader_lastWaiting 34 = .ok (.ireturn, 1) := by decide +kernel
set_option maxHeartbeats 4000000 in
set_option maxRecDepth 100000 in
theorem c_Reader_lastWaiting (l : Launch) {S : St} {r : Int32} (h : f_Reader_lastWaiting S = some r) : MI cw l y_Reader_lastWaiting b_Reader_lastWaiting 1 (some .int) 0 0 0 0 (fun ad => [.ref (ad 1 0)]) aT aE S r S := by
  refine MI_of "LawfulLots$Reader" rfl (by decide) (fun _ => Nat.le_of_ble_eq_true rfl) ?_
  intro p e s m args below meth c D ar ad A Q ls hP F hK hA hw hl hQ
  have hl : lv_has ls 1 [(0, .ref (ad 1 0))] := hl
  obtain ⟨X_0, eX_0⟩ : ∃ X : Int32 → Prop, X = (fun q => ∀ (H : Heap) (locs : List Loc) (pc : Nat) (ls : Array Slot), decode b_Reader_lastWaiting pc = .ok (.ireturn, 1) → Bw cw D ar A s.heap H locs ad S → W p l e (RM 0 0) s m args below meth c H locs 0 0 Q (F0 m pc ls [.int q])) := ⟨_, rfl⟩
  have key : ∀ (H : Heap) (locs : List Loc), Bw cw D ar A s.heap H locs ad S → ∀ o, f_Reader_lastWaiting S = some o → X_0 o → W p l e (RM 0 0) s m args below meth c H locs 0 0 Q (F0 m 0 ls []) := by
    intro H locs hw o h ho
    unfold f_Reader_lastWaiting at h
    have J_34 : ∀ (t0 : Int32) (H : Heap) (locs : List Loc) (ls : Array Slot), Bw cw D ar A s.heap H locs ad S → lv_has ls 1 [] → ∀ o, Reader_lastWaiting_j34 S t0 = some o → X_0 o → W p l e (RM 0 0) s m args below meth c H locs 0 0 Q (F0 m 34 ls [.int t0]) := by
      intro t0 H locs ls hw hl o h ho
      unfold Reader_lastWaiting_j34 at h
      cases h
      have ho : X_0 _ := ho
      rw [eX_0] at ho
      exact ho H locs _ ls d_Reader_lastWaiting_34 hw
    have J_33 : ∀ (H : Heap) (locs : List Loc) (ls : Array Slot), Bw cw D ar A s.heap H locs ad S → lv_has ls 1 [] → ∀ o, Reader_lastWaiting_j33 S = some o → X_0 o → W p l e (RM 0 0) s m args below meth c H locs 0 0 Q (F0 m 33 ls []) := by
      intro H locs ls hw hl o h ho
      unfold Reader_lastWaiting_j33 at h
      refine lv_iconst (v := 0) F.1 F.2.1 d_Reader_lastWaiting_33 (by decide) ?_
      exact J_34 (0 : Int32) H locs ls hw (lv_sub hl [] rfl) o h ho
    refine lv_aload_n F.1 F.2.1 d_Reader_lastWaiting_0 rfl (lv_at hl 0 rfl) ?_
    refine cg_1_11 F hK hw lk_132 d_Reader_lastWaiting_1 ?_
    refine lv_if_le (tgt := 33) F.1 F.2.1 d_Reader_lastWaiting_4 (by decide) (fun c_1 => ?_) (fun c_1 => ?_)
    · replace h := ip c_1 h
      exact J_33 H locs ls hw (lv_sub hl [] rfl) o h ho
    · replace h := iq c_1 h
      refine lv_aload_n F.1 F.2.1 d_Reader_lastWaiting_7 rfl (lv_at hl 0 rfl) ?_
      refine cg_1_11 F hK hw lk_132 d_Reader_lastWaiting_8 ?_
      refine lv_aload_n F.1 F.2.1 d_Reader_lastWaiting_11 rfl (lv_at hl 0 rfl) ?_
      refine cg_1_1 F hK hw lk_120 d_Reader_lastWaiting_12 ?_
      refine cn_1_1 F hK hw d_Reader_lastWaiting_15 ?_
      refine lv_icmp_gt (tgt := 33) F.1 F.2.1 d_Reader_lastWaiting_16 (by decide) (fun c_2 => ?_) (fun c_2 => ?_)
      · replace h := ip c_2 h
        exact J_33 H locs ls hw (lv_sub hl [] rfl) o h ho
      · replace h := iq c_2 h
        refine lv_aload_n F.1 F.2.1 d_Reader_lastWaiting_19 rfl (lv_at hl 0 rfl) ?_
        refine cg_1_1 F hK hw lk_120 d_Reader_lastWaiting_20 ?_
        refine lv_aload_n F.1 F.2.1 d_Reader_lastWaiting_23 rfl (lv_at hl 0 rfl) ?_
        refine cg_1_11 F hK hw lk_132 d_Reader_lastWaiting_24 ?_
        refine lv_iconst (v := 1) F.1 F.2.1 d_Reader_lastWaiting_27 (by decide) ?_
        refine lv_isub F.1 F.2.1 d_Reader_lastWaiting_28 ?_
        obtain ⟨hi_3, h⟩ := gd_ex h
        refine cl_1_1 F hK hw hi_3 d_Reader_lastWaiting_29 ?_
        refine lv_goto (tgt := 34) F.1 F.2.1 d_Reader_lastWaiting_30 (by decide) ?_
        exact J_34 (gA S 1 1 ((gI S 1 11) - (1 : Int32)).toNatClampNeg) H locs ls hw (lv_sub hl [] rfl) o h ho
  exact key _ _ hw _ h (by rw [eX_0]; exact fun H locs pc ls hd hw => hQ H locs pc ls ad rfl hd hw)
theorem d_Reader_tightness_0 : decode b_Reader_tightness 0 = .ok (.iload_n 0, 1) := by decide +kernel
theorem d_Reader_tightness_1 : decode b_Reader_tightness 1 = .ok (.tableswitch 112 5 25 #[102, 102, 99, 104, 104, 104, 104, 112, 112, 112, 112, 112, 112, 112, 112, 112, 112, 112, 110, 108, 106], 99) := by decide +kernel
theorem d_Reader_tightness_100 : decode b_Reader_tightness 100 = .ok (.bipush 6, 2) := by decide +kernel
theorem d_Reader_tightness_102 : decode b_Reader_tightness 102 = .ok (.ireturn, 1) := by decide +kernel
theorem d_Reader_tightness_103 : decode b_Reader_tightness 103 = .ok (.iconst 5, 1) := by decide +kernel
theorem d_Reader_tightness_104 : decode b_Reader_tightness 104 = .ok (.ireturn, 1) := by decide +kernel
theorem d_Reader_tightness_105 : decode b_Reader_tightness 105 = .ok (.iconst 4, 1) := by decide +kernel
theorem d_Reader_tightness_106 : decode b_Reader_tightness 106 = .ok (.ireturn, 1) := by decide +kernel
theorem d_Reader_tightness_107 : decode b_Reader_tightness 107 = .ok (.iconst 3, 1) := by decide +kernel
theorem d_Reader_tightness_108 : decode b_Reader_tightness 108 = .ok (.ireturn, 1) := by decide +kernel
theorem d_Reader_tightness_109 : decode b_Reader_tightness 109 = .ok (.iconst 2, 1) := by decide +kernel
theorem d_Reader_tightness_110 : decode b_Reader_tightness 110 = .ok (.ireturn, 1) := by decide +kernel
theorem d_Reader_tightness_111 : decode b_Reader_tightness 111 = .ok (.iconst 1, 1) := by decide +kernel
theorem d_Reader_tightness_112 : decode b_Reader_tightness 112 = .ok (.ireturn, 1) := by decide +kernel
theorem d_Reader_tightness_113 : decode b_Reader_tightness 113 = .ok (.iconst 0, 1) := by decide +kernel
theorem d_Reader_tightness_114 : decode b_Reader_tightness 114 = .ok (.ireturn, 1) := by decide +kernel
set_option maxHeartbeats 4000000 in
set_option maxRecDepth 100000 in
theorem c_Reader_tightness (l : Launch) (S : St) {x0 : Int32} {r : Int32} (h : f_Reader_tightness x0 = some r) : MI cw l y_Reader_tightness b_Reader_tightness 1 (some .int) 0 0 0 0 (fun ad => [.int x0]) aT aE S r S := by
  refine MI_of "LawfulLots$Reader" rfl (by decide) (fun _ => Nat.le_of_ble_eq_true rfl) ?_
  intro p e s m args below meth c D ar ad A Q ls hP F hK hA hw hl hQ
  have hl : lv_has ls 1 [(0, .int x0)] := hl
  obtain ⟨X_0, eX_0⟩ : ∃ X : Int32 → Prop, X = (fun q => ∀ (H : Heap) (locs : List Loc) (pc : Nat) (ls : Array Slot), decode b_Reader_tightness pc = .ok (.ireturn, 1) → Bw cw D ar A s.heap H locs ad S → W p l e (RM 0 0) s m args below meth c H locs 0 0 Q (F0 m pc ls [.int q])) := ⟨_, rfl⟩
  have key : ∀ (H : Heap) (locs : List Loc), Bw cw D ar A s.heap H locs ad S → ∀ o, f_Reader_tightness x0 = some o → X_0 o → W p l e (RM 0 0) s m args below meth c H locs 0 0 Q (F0 m 0 ls []) := by
    intro H locs hw o h ho
    unfold f_Reader_tightness at h
    have J_113 : ∀ (H : Heap) (locs : List Loc) (ls : Array Slot), Bw cw D ar A s.heap H locs ad S → lv_has ls 1 [] → ∀ o, Reader_tightness_j113 = some o → X_0 o → W p l e (RM 0 0) s m args below meth c H locs 0 0 Q (F0 m 113 ls []) := by
      intro H locs ls hw hl o h ho
      unfold Reader_tightness_j113 at h
      refine lv_iconst (v := 0) F.1 F.2.1 d_Reader_tightness_113 (by decide) ?_
      cases h
      have ho : X_0 _ := ho
      rw [eX_0] at ho
      exact ho H locs _ ls d_Reader_tightness_114 hw
    have J_105 : ∀ (H : Heap) (locs : List Loc) (ls : Array Slot), Bw cw D ar A s.heap H locs ad S → lv_has ls 1 [] → ∀ o, Reader_tightness_j105 = some o → X_0 o → W p l e (RM 0 0) s m args below meth c H locs 0 0 Q (F0 m 105 ls []) := by
      intro H locs ls hw hl o h ho
      unfold Reader_tightness_j105 at h
      refine lv_iconst (v := 4) F.1 F.2.1 d_Reader_tightness_105 (by decide) ?_
      cases h
      have ho : X_0 _ := ho
      rw [eX_0] at ho
      exact ho H locs _ ls d_Reader_tightness_106 hw
    have J_103 : ∀ (H : Heap) (locs : List Loc) (ls : Array Slot), Bw cw D ar A s.heap H locs ad S → lv_has ls 1 [] → ∀ o, Reader_tightness_j103 = some o → X_0 o → W p l e (RM 0 0) s m args below meth c H locs 0 0 Q (F0 m 103 ls []) := by
      intro H locs ls hw hl o h ho
      unfold Reader_tightness_j103 at h
      refine lv_iconst (v := 5) F.1 F.2.1 d_Reader_tightness_103 (by decide) ?_
      cases h
      have ho : X_0 _ := ho
      rw [eX_0] at ho
      exact ho H locs _ ls d_Reader_tightness_104 hw
    refine lv_iload_n F.1 F.2.1 d_Reader_tightness_0 rfl (lv_at hl 0 rfl) ?_
    rcases Decidable.em (x0 = (5 : Int32)) with c_1 | c_1
    · replace h := ip c_1 h
      refine lv_tableIn (off := 102) (tgt := 103) F.1 F.2.1 d_Reader_tightness_1 (by rw [c_1]; decide) (by rw [c_1]; decide) (by rw [c_1]; decide) (by decide) ?_
      exact J_103 H locs ls hw (lv_sub hl [] rfl) o h ho
    replace h := iq c_1 h
    rcases Decidable.em (x0 = (6 : Int32)) with c_2 | c_2
    · replace h := ip c_2 h
      refine lv_tableIn (off := 102) (tgt := 103) F.1 F.2.1 d_Reader_tightness_1 (by rw [c_2]; decide) (by rw [c_2]; decide) (by rw [c_2]; decide) (by decide) ?_
      exact J_103 H locs ls hw (lv_sub hl [] rfl) o h ho
    replace h := iq c_2 h
    rcases Decidable.em (x0 = (7 : Int32)) with c_3 | c_3
    · replace h := ip c_3 h
      refine lv_tableIn (off := 99) (tgt := 100) F.1 F.2.1 d_Reader_tightness_1 (by rw [c_3]; decide) (by rw [c_3]; decide) (by rw [c_3]; decide) (by decide) ?_
      refine lv_bipush (v := 6) F.1 F.2.1 d_Reader_tightness_100 (by decide) ?_
      cases h
      have ho : X_0 _ := ho
      rw [eX_0] at ho
      exact ho H locs _ ls d_Reader_tightness_102 hw
    replace h := iq c_3 h
    rcases Decidable.em (x0 = (8 : Int32)) with c_4 | c_4
    · replace h := ip c_4 h
      refine lv_tableIn (off := 104) (tgt := 105) F.1 F.2.1 d_Reader_tightness_1 (by rw [c_4]; decide) (by rw [c_4]; decide) (by rw [c_4]; decide) (by decide) ?_
      exact J_105 H locs ls hw (lv_sub hl [] rfl) o h ho
    replace h := iq c_4 h
    rcases Decidable.em (x0 = (9 : Int32)) with c_5 | c_5
    · replace h := ip c_5 h
      refine lv_tableIn (off := 104) (tgt := 105) F.1 F.2.1 d_Reader_tightness_1 (by rw [c_5]; decide) (by rw [c_5]; decide) (by rw [c_5]; decide) (by decide) ?_
      exact J_105 H locs ls hw (lv_sub hl [] rfl) o h ho
    replace h := iq c_5 h
    rcases Decidable.em (x0 = (10 : Int32)) with c_6 | c_6
    · replace h := ip c_6 h
      refine lv_tableIn (off := 104) (tgt := 105) F.1 F.2.1 d_Reader_tightness_1 (by rw [c_6]; decide) (by rw [c_6]; decide) (by rw [c_6]; decide) (by decide) ?_
      exact J_105 H locs ls hw (lv_sub hl [] rfl) o h ho
    replace h := iq c_6 h
    rcases Decidable.em (x0 = (11 : Int32)) with c_7 | c_7
    · replace h := ip c_7 h
      refine lv_tableIn (off := 104) (tgt := 105) F.1 F.2.1 d_Reader_tightness_1 (by rw [c_7]; decide) (by rw [c_7]; decide) (by rw [c_7]; decide) (by decide) ?_
      exact J_105 H locs ls hw (lv_sub hl [] rfl) o h ho
    replace h := iq c_7 h
    rcases Decidable.em (x0 = (12 : Int32)) with c_8 | c_8
    · replace h := ip c_8 h
      refine lv_tableIn (off := 112) (tgt := 113) F.1 F.2.1 d_Reader_tightness_1 (by rw [c_8]; decide) (by rw [c_8]; decide) (by rw [c_8]; decide) (by decide) ?_
      exact J_113 H locs ls hw (lv_sub hl [] rfl) o h ho
    replace h := iq c_8 h
    rcases Decidable.em (x0 = (13 : Int32)) with c_9 | c_9
    · replace h := ip c_9 h
      refine lv_tableIn (off := 112) (tgt := 113) F.1 F.2.1 d_Reader_tightness_1 (by rw [c_9]; decide) (by rw [c_9]; decide) (by rw [c_9]; decide) (by decide) ?_
      exact J_113 H locs ls hw (lv_sub hl [] rfl) o h ho
    replace h := iq c_9 h
    rcases Decidable.em (x0 = (14 : Int32)) with c_10 | c_10
    · replace h := ip c_10 h
      refine lv_tableIn (off := 112) (tgt := 113) F.1 F.2.1 d_Reader_tightness_1 (by rw [c_10]; decide) (by rw [c_10]; decide) (by rw [c_10]; decide) (by decide) ?_
      exact J_113 H locs ls hw (lv_sub hl [] rfl) o h ho
    replace h := iq c_10 h
    rcases Decidable.em (x0 = (15 : Int32)) with c_11 | c_11
    · replace h := ip c_11 h
      refine lv_tableIn (off := 112) (tgt := 113) F.1 F.2.1 d_Reader_tightness_1 (by rw [c_11]; decide) (by rw [c_11]; decide) (by rw [c_11]; decide) (by decide) ?_
      exact J_113 H locs ls hw (lv_sub hl [] rfl) o h ho
    replace h := iq c_11 h
    rcases Decidable.em (x0 = (16 : Int32)) with c_12 | c_12
    · replace h := ip c_12 h
      refine lv_tableIn (off := 112) (tgt := 113) F.1 F.2.1 d_Reader_tightness_1 (by rw [c_12]; decide) (by rw [c_12]; decide) (by rw [c_12]; decide) (by decide) ?_
      exact J_113 H locs ls hw (lv_sub hl [] rfl) o h ho
    replace h := iq c_12 h
    rcases Decidable.em (x0 = (17 : Int32)) with c_13 | c_13
    · replace h := ip c_13 h
      refine lv_tableIn (off := 112) (tgt := 113) F.1 F.2.1 d_Reader_tightness_1 (by rw [c_13]; decide) (by rw [c_13]; decide) (by rw [c_13]; decide) (by decide) ?_
      exact J_113 H locs ls hw (lv_sub hl [] rfl) o h ho
    replace h := iq c_13 h
    rcases Decidable.em (x0 = (18 : Int32)) with c_14 | c_14
    · replace h := ip c_14 h
      refine lv_tableIn (off := 112) (tgt := 113) F.1 F.2.1 d_Reader_tightness_1 (by rw [c_14]; decide) (by rw [c_14]; decide) (by rw [c_14]; decide) (by decide) ?_
      exact J_113 H locs ls hw (lv_sub hl [] rfl) o h ho
    replace h := iq c_14 h
    rcases Decidable.em (x0 = (19 : Int32)) with c_15 | c_15
    · replace h := ip c_15 h
      refine lv_tableIn (off := 112) (tgt := 113) F.1 F.2.1 d_Reader_tightness_1 (by rw [c_15]; decide) (by rw [c_15]; decide) (by rw [c_15]; decide) (by decide) ?_
      exact J_113 H locs ls hw (lv_sub hl [] rfl) o h ho
    replace h := iq c_15 h
    rcases Decidable.em (x0 = (20 : Int32)) with c_16 | c_16
    · replace h := ip c_16 h
      refine lv_tableIn (off := 112) (tgt := 113) F.1 F.2.1 d_Reader_tightness_1 (by rw [c_16]; decide) (by rw [c_16]; decide) (by rw [c_16]; decide) (by decide) ?_
      exact J_113 H locs ls hw (lv_sub hl [] rfl) o h ho
    replace h := iq c_16 h
    rcases Decidable.em (x0 = (21 : Int32)) with c_17 | c_17
    · replace h := ip c_17 h
      refine lv_tableIn (off := 112) (tgt := 113) F.1 F.2.1 d_Reader_tightness_1 (by rw [c_17]; decide) (by rw [c_17]; decide) (by rw [c_17]; decide) (by decide) ?_
      exact J_113 H locs ls hw (lv_sub hl [] rfl) o h ho
    replace h := iq c_17 h
    rcases Decidable.em (x0 = (22 : Int32)) with c_18 | c_18
    · replace h := ip c_18 h
      refine lv_tableIn (off := 112) (tgt := 113) F.1 F.2.1 d_Reader_tightness_1 (by rw [c_18]; decide) (by rw [c_18]; decide) (by rw [c_18]; decide) (by decide) ?_
      exact J_113 H locs ls hw (lv_sub hl [] rfl) o h ho
    replace h := iq c_18 h
    rcases Decidable.em (x0 = (23 : Int32)) with c_19 | c_19
    · replace h := ip c_19 h
      refine lv_tableIn (off := 110) (tgt := 111) F.1 F.2.1 d_Reader_tightness_1 (by rw [c_19]; decide) (by rw [c_19]; decide) (by rw [c_19]; decide) (by decide) ?_
      refine lv_iconst (v := 1) F.1 F.2.1 d_Reader_tightness_111 (by decide) ?_
      cases h
      have ho : X_0 _ := ho
      rw [eX_0] at ho
      exact ho H locs _ ls d_Reader_tightness_112 hw
    replace h := iq c_19 h
    rcases Decidable.em (x0 = (24 : Int32)) with c_20 | c_20
    · replace h := ip c_20 h
      refine lv_tableIn (off := 108) (tgt := 109) F.1 F.2.1 d_Reader_tightness_1 (by rw [c_20]; decide) (by rw [c_20]; decide) (by rw [c_20]; decide) (by decide) ?_
      refine lv_iconst (v := 2) F.1 F.2.1 d_Reader_tightness_109 (by decide) ?_
      cases h
      have ho : X_0 _ := ho
      rw [eX_0] at ho
      exact ho H locs _ ls d_Reader_tightness_110 hw
    replace h := iq c_20 h
    rcases Decidable.em (x0 = (25 : Int32)) with c_21 | c_21
    · replace h := ip c_21 h
      refine lv_tableIn (off := 106) (tgt := 107) F.1 F.2.1 d_Reader_tightness_1 (by rw [c_21]; decide) (by rw [c_21]; decide) (by rw [c_21]; decide) (by decide) ?_
      refine lv_iconst (v := 3) F.1 F.2.1 d_Reader_tightness_107 (by decide) ?_
      cases h
      have ho : X_0 _ := ho
      rw [eX_0] at ho
      exact ho H locs _ ls d_Reader_tightness_108 hw
    replace h := iq c_21 h
    have zc_1 := lv_neT (a := 5) c_1 rfl
    have zc_2 := lv_neT (a := 6) c_2 rfl
    have zc_3 := lv_neT (a := 7) c_3 rfl
    have zc_4 := lv_neT (a := 8) c_4 rfl
    have zc_5 := lv_neT (a := 9) c_5 rfl
    have zc_6 := lv_neT (a := 10) c_6 rfl
    have zc_7 := lv_neT (a := 11) c_7 rfl
    have zc_8 := lv_neT (a := 12) c_8 rfl
    have zc_9 := lv_neT (a := 13) c_9 rfl
    have zc_10 := lv_neT (a := 14) c_10 rfl
    have zc_11 := lv_neT (a := 15) c_11 rfl
    have zc_12 := lv_neT (a := 16) c_12 rfl
    have zc_13 := lv_neT (a := 17) c_13 rfl
    have zc_14 := lv_neT (a := 18) c_14 rfl
    have zc_15 := lv_neT (a := 19) c_15 rfl
    have zc_16 := lv_neT (a := 20) c_16 rfl
    have zc_17 := lv_neT (a := 21) c_17 rfl
    have zc_18 := lv_neT (a := 22) c_18 rfl
    have zc_19 := lv_neT (a := 23) c_19 rfl
    have zc_20 := lv_neT (a := 24) c_20 rfl
    have zc_21 := lv_neT (a := 25) c_21 rfl
    refine lv_tableOut (tgt := 113) F.1 F.2.1 d_Reader_tightness_1 (by omega) (by decide) ?_
    exact J_113 H locs ls hw (lv_sub hl [] rfl) o h ho
  exact key _ _ hw _ h (by rw [eX_0]; exact fun H locs pc ls hd hw => hQ H locs pc ls ad rfl hd hw)
theorem d_Reader_release_0 : decode b_Reader_release 0 = .ok (.aload_n 0, 1) := by decide +kernel
theorem d_Reader_release_1 : decode b_Reader_release 1 = .ok (.getfield 54, 3) := by decide +kernel
theorem d_Reader_release_4 : decode b_Reader_release 4 = .ok (.istore_n 2, 1) := by decide +kernel
theorem d_Reader_release_5 : decode b_Reader_release 5 = .ok (.iload_n 2, 1) := by decide +kernel
theorem d_Reader_release_6 : decode b_Reader_release 6 = .ok (.ifCond .le 46, 3) := by decide +kernel
theorem d_Reader_release_9 : decode b_Reader_release 9 = .ok (.aload_n 0, 1) := by decide +kernel
theorem d_Reader_release_10 : decode b_Reader_release 10 = .ok (.invokevirtual 174, 3) := by decide +kernel
theorem d_Reader_release_13 : decode b_Reader_release 13 = .ok (.invokestatic 194, 3) := by decide +kernel
theorem d_Reader_release_16 : decode b_Reader_release 16 = .ok (.iload_n 1, 1) := by decide +kernel
theorem d_Reader_release_17 : decode b_Reader_release 17 = .ok (.if_icmp .lt 35, 3) := by decide +kernel
theorem d_Reader_release_20 : decode b_Reader_release 20 = .ok (.aload_n 0, 1) := by decide +kernel
theorem d_Reader_release_21 : decode b_Reader_release 21 = .ok (.getfield 25, 3) := by decide +kernel
theorem d_Reader_release_24 : decode b_Reader_release 24 = .ok (.aload_n 0, 1) := by decide +kernel
theorem d_Reader_release_25 : decode b_Reader_release 25 = .ok (.getfield 51, 3) := by decide +kernel
theorem d_Reader_release_28 : decode b_Reader_release 28 = .ok (.aload_n 0, 1) := by decide +kernel
theorem d_Reader_release_29 : decode b_Reader_release 29 = .ok (.invokevirtual 174, 3) := by decide +kernel
theorem d_Reader_release_32 : decode b_Reader_release 32 = .ok (.iconst 0, 1) := by decide +kernel
theorem d_Reader_release_33 : decode b_Reader_release 33 = .ok (.invokevirtual 167, 3) := by decide +kernel
theorem d_Reader_release_36 : decode b_Reader_release 36 = .ok (.aload_n 0, 1) := by decide +kernel
theorem d_Reader_release_37 : decode b_Reader_release 37 = .ok (.dup, 1) := by decide +kernel
theorem d_Reader_release_38 : decode b_Reader_release 38 = .ok (.getfield 54, 3) := by decide +kernel
theorem d_Reader_release_41 : decode b_Reader_release 41 = .ok (.iconst 1, 1) := by decide +kernel
theorem d_Reader_release_42 : decode b_Reader_release 42 = .ok (.isub, 1) := by decide +kernel
theorem d_Reader_release_43 : decode b_Reader_release 43 = .ok (.putfield 54, 3) := by decide +kernel
theorem d_Reader_release_46 : decode b_Reader_release 46 = .ok (.iinc 2 (-1), 3) := by decide +kernel
theorem d_Reader_release_49 : decode b_Reader_release 49 = .ok (.goto (-44), 3) := by decide +kernel
theorem d_Reader_release_52 : decode b_Reader_release 52 = .ok (.return_, 1) := by decide +kernel
set_option maxHeartbeats 4000000 in
set_option maxRecDepth 100000 in
theorem c_Reader_release (l : Launch) {S : St} {x1 : Int32} {S' : St} (h : f_Reader_release S x1 = some S') : MV cw l y_Reader_release b_Reader_release 3 none 1 23 0 0 (fun ad => [.ref (ad 1 0), .int x1]) aT aE S S' := by
  refine MV_of "LawfulLots$Reader" rfl (by decide) (fun _ => Nat.le_of_ble_eq_true rfl) ?_
  intro p e s m args below meth c D ar ad A Q ls hP F hK hA hw hl hQ
  have hl : lv_has ls 3 [(0, .ref (ad 1 0)), (1, .int x1)] := hl
  obtain ⟨X_0, eX_0⟩ : ∃ X : St → Prop, X = (fun q => ∀ (H : Heap) (locs : List Loc) (pc : Nat) (ls : Array Slot), decode b_Reader_release pc = .ok (.return_, 1) → Bw cw D ar A s.heap H locs ad q → W p l e (RM 1 23) s m args below meth c H locs 0 0 Q (F0 m pc ls [])) := ⟨_, rfl⟩
  have key : ∀ (H : Heap) (locs : List Loc), Bw cw D ar A s.heap H locs ad S → ∀ o, f_Reader_release S x1 = some o → X_0 o → W p l e (RM 1 23) s m args below meth c H locs 0 0 Q (F0 m 0 ls []) := by
    intro H locs hw o h ho
    unfold f_Reader_release at h
    have J_52 : ∀ (S : St) (H : Heap) (locs : List Loc) (ls : Array Slot), Bw cw D ar A s.heap H locs ad S → lv_has ls 3 [] → ∀ o, Reader_release_j52 S = some o → X_0 o → W p l e (RM 1 23) s m args below meth c H locs 0 0 Q (F0 m 52 ls []) := by
      intro S H locs ls hw hl o h ho
      unfold Reader_release_j52 at h
      cases h
      have ho : X_0 _ := ho
      rw [eX_0] at ho
      exact ho H locs _ ls d_Reader_release_52 hw
    refine lv_aload_n F.1 F.2.1 d_Reader_release_0 rfl (lv_at hl 0 rfl) ?_
    refine cg_1_11 F hK hw lk_132 d_Reader_release_1 ?_
    obtain ⟨x2_1, ex2_1, h⟩ := nm_ex h
    refine lv_nm ex2_1 ?_
    refine lv_istore_n (lv' := [(2, .int x2_1), (0, .ref (ad 1 0)), (1, .int x1)]) F.1 F.2.1 d_Reader_release_4 rfl hl (by decide) rfl (fun ls hl => ?_)
    obtain ⟨S_14, hc_15, h⟩ := bd_ex h
    obtain ⟨X_5, eX_5⟩ : ∃ X : St → Prop, X = (fun q => ∀ (H : Heap) (locs : List Loc) (ls : Array Slot), Bw cw D ar A s.heap H locs ad q → lv_has ls 3 [] → W p l e (RM 1 23) s m args below meth c H locs 0 0 Q (F0 m 52 ls [])) := ⟨_, rfl⟩
    have hX_5 : X_5 S_14 := by
      rw [eX_5]
      intro H locs ls hw hl
      exact J_52 S_14 H locs ls hw (lv_sub hl [] rfl) o h ho
    obtain ⟨P_5, eP_5⟩ : ∃ P : (St × Int32) → Prop, P = (fun q => ∀ (H : Heap) (locs : List Loc) (ls : Array Slot), Bw cw D ar A s.heap H locs ad q.1 → lv_has ls 3 [(0, .ref (ad 1 0)), (1, .int x1), (2, .int q.2)] → W p l e (RM 1 23) s m args below meth c H locs 0 0 Q (F0 m 5 ls [])) := ⟨_, rfl⟩
    have hL_5 : P_5 (S, x2_1) := by
      refine wh_gp (P := P_5) (X := X_5) hc_15 hX_5 ?_
      clear h
      intro q o h ho
      obtain ⟨S, x2⟩ := q
      have h : Reader_release_l5 x1 S x2 = some o := h
      unfold Reader_release_l5 at h
      rw [eP_5]
      intro H locs ls hw hl
      refine lv_iload_n F.1 F.2.1 d_Reader_release_5 rfl (lv_at hl 2 rfl) ?_
      refine lv_if_le (tgt := 52) F.1 F.2.1 d_Reader_release_6 (by decide) (fun c_2 => ?_) (fun c_2 => ?_)
      · replace h := ip c_2 h
        cases h
        have ho : X_5 _ := ho
        rw [eX_5] at ho
        exact ho H locs ls hw (lv_sub hl [] rfl)
      · replace h := iq c_2 h
        refine lv_aload_n F.1 F.2.1 d_Reader_release_9 rfl (lv_at hl 0 rfl) ?_
        obtain ⟨v_4, hc_3, h⟩ := bd_ex h
        refine cV_i F hA rfl hK hw (c_Reader_lastWaiting l hc_3) trivial rfl (good_V lk_515 lk_517 ls_15 lk_2 lk_518) (cr_1 hK hw) hd_Reader_lastWaiting ⟨Nat.le_of_ble_eq_true rfl, Nat.le_of_ble_eq_true rfl⟩ rfl hl.1 rfl (Nat.le_of_ble_eq_true rfl) d_Reader_release_10 ⟨(Nat.zero_le _), (Nat.zero_le _)⟩ (fun H locs hw => ?_)
        obtain ⟨v_6, hc_5, h⟩ := bd_ex h
        refine cS_i F hA rfl hK hw (c_Reader_tightness l S hc_5) trivial rfl (good_S lk_508 lk_509 lk_2 lk_510) hd_Reader_tightness ⟨Nat.le_of_ble_eq_true rfl, Nat.le_of_ble_eq_true rfl⟩ rfl hl.1 rfl (Nat.le_of_ble_eq_true rfl) d_Reader_release_13 ⟨(Nat.zero_le _), (Nat.zero_le _)⟩ (fun H locs hw => ?_)
        refine lv_iload_n F.1 F.2.1 d_Reader_release_16 rfl (lv_at hl 1 rfl) ?_
        refine lv_icmp_lt (tgt := 52) F.1 F.2.1 d_Reader_release_17 (by decide) (fun c_7 => ?_) (fun c_7 => ?_)
        · replace h := ip c_7 h
          cases h
          have ho : X_5 _ := ho
          rw [eX_5] at ho
          exact ho H locs ls hw (lv_sub hl [] rfl)
        · replace h := iq c_7 h
          refine lv_aload_n F.1 F.2.1 d_Reader_release_20 rfl (lv_at hl 0 rfl) ?_
          refine cg_1_2 F hK hw lk_121 d_Reader_release_21 ?_
          refine lv_aload_n F.1 F.2.1 d_Reader_release_24 rfl (lv_at hl 0 rfl) ?_
          refine cg_1_10 F hK hw lk_131 d_Reader_release_25 ?_
          refine lv_aload_n F.1 F.2.1 d_Reader_release_28 rfl (lv_at hl 0 rfl) ?_
          obtain ⟨v_9, hc_8, h⟩ := bd_ex h
          refine cV_i F hA rfl hK hw (c_Reader_lastWaiting l hc_8) trivial rfl (good_V lk_515 lk_517 ls_15 lk_2 lk_518) (cr_1 hK hw) hd_Reader_lastWaiting ⟨Nat.le_of_ble_eq_true rfl, Nat.le_of_ble_eq_true rfl⟩ rfl hl.1 rfl (Nat.le_of_ble_eq_true rfl) d_Reader_release_29 ⟨(Nat.zero_le _), (Nat.zero_le _)⟩ (fun H locs hw => ?_)
          refine lv_iconst (v := 0) F.1 F.2.1 d_Reader_release_32 (by decide) ?_
          obtain ⟨S_11, hc_10, h⟩ := bd_ex h
          refine cV_v F hA rfl hK hw (c_Book_emit l hc_10) trivial rfl (good_V lk_496 lk_497 lk_498 lk_4 lk_499) (cr_3 hK hw) hd_Book_emit ⟨Nat.le_of_ble_eq_true rfl, Nat.le_of_ble_eq_true rfl⟩ rfl hl.1 rfl (Nat.le_of_ble_eq_true rfl) d_Reader_release_33 ⟨(Nat.zero_le _), (Nat.zero_le _)⟩ (fun H locs hw => ?_)
          refine lv_aload_n F.1 F.2.1 d_Reader_release_36 rfl (lv_at hl 0 rfl) ?_
          refine lv_dup F.1 F.2.1 d_Reader_release_37 rfl ?_
          refine cg_1_11 F hK hw lk_132 d_Reader_release_38 ?_
          refine lv_iconst (v := 1) F.1 F.2.1 d_Reader_release_41 (by decide) ?_
          refine lv_isub F.1 F.2.1 d_Reader_release_42 ?_
          obtain ⟨S_12, eS_12, h⟩ := nm_ex h
          refine cp_1_11 F hK hw lk_132 d_Reader_release_43 eS_12 (fun H locs hw => ?_)
          obtain ⟨x2_13, ex2_13, h⟩ := nm_ex h
          refine lv_iinc (v := x2_13) (lv' := [(2, .int x2_13), (0, .ref (ad 1 0)), (1, .int x1)]) F.1 F.2.1 d_Reader_release_46 hl (k := 2) rfl (by rw [ex2_13]; rfl) (by decide) rfl (fun ls hl => ?_)
          refine lv_goto (tgt := 5) F.1 F.2.1 d_Reader_release_49 (by decide) ?_
          cases h
          have ho : P_5 _ := ho
          rw [eP_5] at ho
          exact ho H locs ls hw (lv_sub hl [1, 2, 0] rfl)
    rw [eP_5] at hL_5
    exact hL_5 H locs ls hw (lv_sub hl [1, 2, 0] rfl)
  exact key _ _ hw _ h (by rw [eX_0]; exact fun H locs pc ls hd hw => hQ H locs pc ls ad rfl hd hw)
theorem d_Reader_beginShareCondition_0 : decode b_Reader_beginShareCondition 0 = .ok (.aload_n 0, 1) := by decide +kernel
theorem d_Reader_beginShareCondition_1 : decode b_Reader_beginShareCondition 1 = .ok (.iconst 1, 1) := by decide +kernel
theorem d_Reader_beginShareCondition_2 : decode b_Reader_beginShareCondition 2 = .ok (.invokevirtual 191, 3) := by decide +kernel
theorem d_Reader_beginShareCondition_5 : decode b_Reader_beginShareCondition 5 = .ok (.aload_n 0, 1) := by decide +kernel
theorem d_Reader_beginShareCondition_6 : decode b_Reader_beginShareCondition 6 = .ok (.bipush 40, 2) := by decide +kernel
theorem d_Reader_beginShareCondition_8 : decode b_Reader_beginShareCondition 8 = .ok (.aload_n 0, 1) := by decide +kernel
theorem d_Reader_beginShareCondition_9 : decode b_Reader_beginShareCondition 9 = .ok (.getfield 25, 3) := by decide +kernel
theorem d_Reader_beginShareCondition_12 : decode b_Reader_beginShareCondition 12 = .ok (.iconst 4, 1) := by decide +kernel
theorem d_Reader_beginShareCondition_13 : decode b_Reader_beginShareCondition 13 = .ok (.invokevirtual 136, 3) := by decide +kernel
theorem d_Reader_beginShareCondition_16 : decode b_Reader_beginShareCondition 16 = .ok (.iadd, 1) := by decide +kernel
theorem d_Reader_beginShareCondition_17 : decode b_Reader_beginShareCondition 17 = .ok (.iconst 1, 1) := by decide +kernel
theorem d_Reader_beginShareCondition_18 : decode b_Reader_beginShareCondition 18 = .ok (.isub, 1) := by decide +kernel
theorem d_Reader_beginShareCondition_19 : decode b_Reader_beginShareCondition 19 = .ok (.putfield 51, 3) := by decide +kernel
theorem d_Reader_beginShareCondition_22 : decode b_Reader_beginShareCondition 22 = .ok (.aload_n 0, 1) := by decide +kernel
theorem d_Reader_beginShareCondition_23 : decode b_Reader_beginShareCondition 23 = .ok (.getfield 25, 3) := by decide +kernel
theorem d_Reader_beginShareCondition_26 : decode b_Reader_beginShareCondition 26 = .ok (.aload_n 0, 1) := by decide +kernel
theorem d_Reader_beginShareCondition_27 : decode b_Reader_beginShareCondition 27 = .ok (.getfield 51, 3) := by decide +kernel
theorem d_Reader_beginShareCondition_30 : decode b_Reader_beginShareCondition 30 = .ok (.invokevirtual 139, 3) := by decide +kernel
theorem d_Reader_beginShareCondition_33 : decode b_Reader_beginShareCondition 33 = .ok (.bipush 8, 2) := by decide +kernel
theorem d_Reader_beginShareCondition_35 : decode b_Reader_beginShareCondition 35 = .ok (.ireturn, 1) := by decide +kernel
set_option maxHeartbeats 4000000 in
set_option maxRecDepth 100000 in
theorem c_Reader_beginShareCondition (l : Launch) {S : St} {S' : St} {r : Int32} (h : f_Reader_beginShareCondition S = some (r, S')) : MI cw l y_Reader_beginShareCondition b_Reader_beginShareCondition 1 (some .int) 2 45 0 0 (fun ad => [.ref (ad 1 0)]) aT aE S r S' := by
  refine MI_of "LawfulLots$Reader" rfl (by decide) (fun _ => Nat.le_of_ble_eq_true rfl) ?_
  intro p e s m args below meth c D ar ad A Q ls hP F hK hA hw hl hQ
  have hl : lv_has ls 1 [(0, .ref (ad 1 0))] := hl
  obtain ⟨X_0, eX_0⟩ : ∃ X : (Int32 × St) → Prop, X = (fun q => ∀ (H : Heap) (locs : List Loc) (pc : Nat) (ls : Array Slot), decode b_Reader_beginShareCondition pc = .ok (.ireturn, 1) → Bw cw D ar A s.heap H locs ad q.2 → W p l e (RM 2 45) s m args below meth c H locs 0 0 Q (F0 m pc ls [.int q.1])) := ⟨_, rfl⟩
  have key : ∀ (H : Heap) (locs : List Loc), Bw cw D ar A s.heap H locs ad S → ∀ o, f_Reader_beginShareCondition S = some o → X_0 o → W p l e (RM 2 45) s m args below meth c H locs 0 0 Q (F0 m 0 ls []) := by
    intro H locs hw o h ho
    unfold f_Reader_beginShareCondition at h
    refine lv_aload_n F.1 F.2.1 d_Reader_beginShareCondition_0 rfl (lv_at hl 0 rfl) ?_
    refine lv_iconst (v := 1) F.1 F.2.1 d_Reader_beginShareCondition_1 (by decide) ?_
    obtain ⟨S_2, hc_1, h⟩ := bd_ex h
    refine cV_v F hA rfl hK hw (c_Reader_release l hc_1) trivial rfl (good_V lk_511 lk_513 ls_14 lk_2 lk_514) (cr_1 hK hw) hd_Reader_release ⟨Nat.le_of_ble_eq_true rfl, Nat.le_of_ble_eq_true rfl⟩ rfl hl.1 rfl (Nat.le_of_ble_eq_true rfl) d_Reader_beginShareCondition_2 ⟨(Nat.zero_le _), (Nat.zero_le _)⟩ (fun H locs hw => ?_)
    refine lv_aload_n F.1 F.2.1 d_Reader_beginShareCondition_5 rfl (lv_at hl 0 rfl) ?_
    refine lv_bipush (v := 40) F.1 F.2.1 d_Reader_beginShareCondition_6 (by decide) ?_
    refine lv_aload_n F.1 F.2.1 d_Reader_beginShareCondition_8 rfl (lv_at hl 0 rfl) ?_
    refine cg_1_2 F hK hw lk_121 d_Reader_beginShareCondition_9 ?_
    refine lv_iconst (v := 4) F.1 F.2.1 d_Reader_beginShareCondition_12 (by decide) ?_
    obtain ⟨v_4, hc_3, h⟩ := bd_ex h
    refine cV_i F hA rfl hK hw (c_Book_toldOf_3 l hc_3) trivial rfl (good_V lk_451 lk_452 lk_453 lk_4 lk_454) (cr_3 hK hw) hd_Book_toldOf ⟨Nat.le_of_ble_eq_true rfl, Nat.le_of_ble_eq_true rfl⟩ rfl hl.1 rfl (Nat.le_of_ble_eq_true rfl) d_Reader_beginShareCondition_13 ⟨(Nat.zero_le _), (Nat.zero_le _)⟩ (fun H locs hw => ?_)
    refine lv_iadd F.1 F.2.1 d_Reader_beginShareCondition_16 ?_
    refine lv_iconst (v := 1) F.1 F.2.1 d_Reader_beginShareCondition_17 (by decide) ?_
    refine lv_isub F.1 F.2.1 d_Reader_beginShareCondition_18 ?_
    obtain ⟨S_5, eS_5, h⟩ := nm_ex h
    refine cp_1_10 F hK hw lk_131 d_Reader_beginShareCondition_19 eS_5 (fun H locs hw => ?_)
    refine lv_aload_n F.1 F.2.1 d_Reader_beginShareCondition_22 rfl (lv_at hl 0 rfl) ?_
    refine cg_1_2 F hK hw lk_121 d_Reader_beginShareCondition_23 ?_
    refine lv_aload_n F.1 F.2.1 d_Reader_beginShareCondition_26 rfl (lv_at hl 0 rfl) ?_
    refine cg_1_10 F hK hw lk_131 d_Reader_beginShareCondition_27 ?_
    obtain ⟨S_7, hc_6, h⟩ := bd_ex h
    refine cV_v F hA rfl hK hw (c_Book_open l hc_6) trivial rfl (good_V lk_455 lk_456 lk_457 lk_4 lk_458) (cr_3 hK hw) hd_Book_open ⟨Nat.le_of_ble_eq_true rfl, Nat.le_of_ble_eq_true rfl⟩ rfl hl.1 rfl (Nat.le_of_ble_eq_true rfl) d_Reader_beginShareCondition_30 ⟨(Nat.zero_le _), (Nat.zero_le _)⟩ (fun H locs hw => ?_)
    refine lv_bipush (v := 8) F.1 F.2.1 d_Reader_beginShareCondition_33 (by decide) ?_
    cases h
    have ho : X_0 _ := ho
    rw [eX_0] at ho
    exact ho H locs _ ls d_Reader_beginShareCondition_35 hw
  exact key _ _ hw _ h (by rw [eX_0]; exact fun H locs pc ls hd hw => hQ H locs pc ls ad rfl hd hw)
theorem d_Reader_await_0 : decode b_Reader_await 0 = .ok (.aload_n 0, 1) := by decide +kernel
theorem d_Reader_await_1 : decode b_Reader_await 1 = .ok (.getfield 54, 3) := by decide +kernel
theorem d_Reader_await_4 : decode b_Reader_await 4 = .ok (.ifCond .lt 35, 3) := by decide +kernel
theorem d_Reader_await_7 : decode b_Reader_await 7 = .ok (.aload_n 0, 1) := by decide +kernel
theorem d_Reader_await_8 : decode b_Reader_await 8 = .ok (.getfield 54, 3) := by decide +kernel
theorem d_Reader_await_11 : decode b_Reader_await 11 = .ok (.aload_n 0, 1) := by decide +kernel
theorem d_Reader_await_12 : decode b_Reader_await 12 = .ok (.getfield 18, 3) := by decide +kernel
theorem d_Reader_await_15 : decode b_Reader_await 15 = .ok (.arraylength, 1) := by decide +kernel
theorem d_Reader_await_16 : decode b_Reader_await 16 = .ok (.if_icmp .ge 23, 3) := by decide +kernel
theorem d_Reader_await_19 : decode b_Reader_await 19 = .ok (.aload_n 0, 1) := by decide +kernel
theorem d_Reader_await_20 : decode b_Reader_await 20 = .ok (.getfield 18, 3) := by decide +kernel
theorem d_Reader_await_23 : decode b_Reader_await 23 = .ok (.aload_n 0, 1) := by decide +kernel
theorem d_Reader_await_24 : decode b_Reader_await 24 = .ok (.getfield 54, 3) := by decide +kernel
theorem d_Reader_await_27 : decode b_Reader_await 27 = .ok (.iload_n 1, 1) := by decide +kernel
theorem d_Reader_await_28 : decode b_Reader_await 28 = .ok (.iastore, 1) := by decide +kernel
theorem d_Reader_await_29 : decode b_Reader_await 29 = .ok (.aload_n 0, 1) := by decide +kernel
theorem d_Reader_await_30 : decode b_Reader_await 30 = .ok (.dup, 1) := by decide +kernel
theorem d_Reader_await_31 : decode b_Reader_await 31 = .ok (.getfield 54, 3) := by decide +kernel
theorem d_Reader_await_34 : decode b_Reader_await 34 = .ok (.iconst 1, 1) := by decide +kernel
theorem d_Reader_await_35 : decode b_Reader_await 35 = .ok (.iadd, 1) := by decide +kernel
theorem d_Reader_await_36 : decode b_Reader_await 36 = .ok (.putfield 54, 3) := by decide +kernel
theorem d_Reader_await_39 : decode b_Reader_await 39 = .ok (.return_, 1) := by decide +kernel
set_option maxHeartbeats 4000000 in
set_option maxRecDepth 100000 in
theorem c_Reader_await (l : Launch) {S : St} {x1 : Int32} {S' : St} (h : f_Reader_await S x1 = some S') : MV cw l y_Reader_await b_Reader_await 2 none 0 0 0 0 (fun ad => [.ref (ad 1 0), .int x1]) aT aE S S' := by
  refine MV_of "LawfulLots$Reader" rfl (by decide) (fun _ => Nat.le_of_ble_eq_true rfl) ?_
  intro p e s m args below meth c D ar ad A Q ls hP F hK hA hw hl hQ
  have hl : lv_has ls 2 [(0, .ref (ad 1 0)), (1, .int x1)] := hl
  obtain ⟨X_0, eX_0⟩ : ∃ X : St → Prop, X = (fun q => ∀ (H : Heap) (locs : List Loc) (pc : Nat) (ls : Array Slot), decode b_Reader_await pc = .ok (.return_, 1) → Bw cw D ar A s.heap H locs ad q → W p l e (RM 0 0) s m args below meth c H locs 0 0 Q (F0 m pc ls [])) := ⟨_, rfl⟩
  have key : ∀ (H : Heap) (locs : List Loc), Bw cw D ar A s.heap H locs ad S → ∀ o, f_Reader_await S x1 = some o → X_0 o → W p l e (RM 0 0) s m args below meth c H locs 0 0 Q (F0 m 0 ls []) := by
    intro H locs hw o h ho
    unfold f_Reader_await at h
    have J_39 : ∀ (S : St) (H : Heap) (locs : List Loc) (ls : Array Slot), Bw cw D ar A s.heap H locs ad S → lv_has ls 2 [] → ∀ o, Reader_await_j39 S = some o → X_0 o → W p l e (RM 0 0) s m args below meth c H locs 0 0 Q (F0 m 39 ls []) := by
      intro S H locs ls hw hl o h ho
      unfold Reader_await_j39 at h
      cases h
      have ho : X_0 _ := ho
      rw [eX_0] at ho
      exact ho H locs _ ls d_Reader_await_39 hw
    refine lv_aload_n F.1 F.2.1 d_Reader_await_0 rfl (lv_at hl 0 rfl) ?_
    refine cg_1_11 F hK hw lk_132 d_Reader_await_1 ?_
    refine lv_if_lt (tgt := 39) F.1 F.2.1 d_Reader_await_4 (by decide) (fun c_1 => ?_) (fun c_1 => ?_)
    · replace h := ip c_1 h
      exact J_39 S H locs ls hw (lv_sub hl [] rfl) o h ho
    · replace h := iq c_1 h
      refine lv_aload_n F.1 F.2.1 d_Reader_await_7 rfl (lv_at hl 0 rfl) ?_
      refine cg_1_11 F hK hw lk_132 d_Reader_await_8 ?_
      refine lv_aload_n F.1 F.2.1 d_Reader_await_11 rfl (lv_at hl 0 rfl) ?_
      refine cg_1_1 F hK hw lk_120 d_Reader_await_12 ?_
      refine cn_1_1 F hK hw d_Reader_await_15 ?_
      refine lv_icmp_ge (tgt := 39) F.1 F.2.1 d_Reader_await_16 (by decide) (fun c_2 => ?_) (fun c_2 => ?_)
      · replace h := ip c_2 h
        exact J_39 S H locs ls hw (lv_sub hl [] rfl) o h ho
      · replace h := iq c_2 h
        refine lv_aload_n F.1 F.2.1 d_Reader_await_19 rfl (lv_at hl 0 rfl) ?_
        refine cg_1_1 F hK hw lk_120 d_Reader_await_20 ?_
        refine lv_aload_n F.1 F.2.1 d_Reader_await_23 rfl (lv_at hl 0 rfl) ?_
        refine cg_1_11 F hK hw lk_132 d_Reader_await_24 ?_
        refine lv_iload_n F.1 F.2.1 d_Reader_await_27 rfl (lv_at hl 1 rfl) ?_
        obtain ⟨hi_3, h⟩ := gd_ex h
        obtain ⟨S_4, eS_4, h⟩ := nm_ex h
        refine cs_1_1 F hK hw hi_3 d_Reader_await_28 eS_4 (fun H locs hw => ?_)
        refine lv_aload_n F.1 F.2.1 d_Reader_await_29 rfl (lv_at hl 0 rfl) ?_
        refine lv_dup F.1 F.2.1 d_Reader_await_30 rfl ?_
        refine cg_1_11 F hK hw lk_132 d_Reader_await_31 ?_
        refine lv_iconst (v := 1) F.1 F.2.1 d_Reader_await_34 (by decide) ?_
        refine lv_iadd F.1 F.2.1 d_Reader_await_35 ?_
        obtain ⟨S_5, eS_5, h⟩ := nm_ex h
        refine cp_1_11 F hK hw lk_132 d_Reader_await_36 eS_5 (fun H locs hw => ?_)
        exact J_39 S_5 H locs ls hw (lv_sub hl [] rfl) o h ho
  exact key _ _ hw _ h (by rw [eX_0]; exact fun H locs pc ls hd hw => hQ H locs pc ls ad rfl hd hw)
theorem d_Reader_join_0 : decode b_Reader_join 0 = .ok (.aload_n 0, 1) := by decide +kernel
theorem d_Reader_join_1 : decode b_Reader_join 1 = .ok (.iload_n 1, 1) := by decide +kernel
theorem d_Reader_join_2 : decode b_Reader_join 2 = .ok (.invokestatic 194, 3) := by decide +kernel
theorem d_Reader_join_5 : decode b_Reader_join 5 = .ok (.invokevirtual 191, 3) := by decide +kernel
theorem d_Reader_join_8 : decode b_Reader_join 8 = .ok (.aload_n 0, 1) := by decide +kernel
theorem d_Reader_join_9 : decode b_Reader_join 9 = .ok (.iload_n 1, 1) := by decide +kernel
theorem d_Reader_join_10 : decode b_Reader_join 10 = .ok (.invokevirtual 171, 3) := by decide +kernel
theorem d_Reader_join_13 : decode b_Reader_join 13 = .ok (.iload_n 2, 1) := by decide +kernel
theorem d_Reader_join_14 : decode b_Reader_join 14 = .ok (.ireturn, 1) := by decide +kernel
set_option maxHeartbeats 4000000 in
set_option maxRecDepth 100000 in
theorem c_Reader_join (l : Launch) {S : St} {x1 : Int32} {x2 : Int32} {S' : St} {r : Int32} (h : f_Reader_join S x1 x2 = some (r, S')) : MI cw l y_Reader_join b_Reader_join 3 (some .int) 2 45 0 0 (fun ad => [.ref (ad 1 0), .int x1, .int x2]) aT aE S r S' := by
  refine MI_of "LawfulLots$Reader" rfl (by decide) (fun _ => Nat.le_of_ble_eq_true rfl) ?_
  intro p e s m args below meth c D ar ad A Q ls hP F hK hA hw hl hQ
  have hl : lv_has ls 3 [(0, .ref (ad 1 0)), (1, .int x1), (2, .int x2)] := hl
  obtain ⟨X_0, eX_0⟩ : ∃ X : (Int32 × St) → Prop, X = (fun q => ∀ (H : Heap) (locs : List Loc) (pc : Nat) (ls : Array Slot), decode b_Reader_join pc = .ok (.ireturn, 1) → Bw cw D ar A s.heap H locs ad q.2 → W p l e (RM 2 45) s m args below meth c H locs 0 0 Q (F0 m pc ls [.int q.1])) := ⟨_, rfl⟩
  have key : ∀ (H : Heap) (locs : List Loc), Bw cw D ar A s.heap H locs ad S → ∀ o, f_Reader_join S x1 x2 = some o → X_0 o → W p l e (RM 2 45) s m args below meth c H locs 0 0 Q (F0 m 0 ls []) := by
    intro H locs hw o h ho
    unfold f_Reader_join at h
    refine lv_aload_n F.1 F.2.1 d_Reader_join_0 rfl (lv_at hl 0 rfl) ?_
    refine lv_iload_n F.1 F.2.1 d_Reader_join_1 rfl (lv_at hl 1 rfl) ?_
    obtain ⟨v_2, hc_1, h⟩ := bd_ex h
    refine cS_i F hA rfl hK hw (c_Reader_tightness l S hc_1) trivial rfl (good_S lk_508 lk_509 lk_2 lk_510) hd_Reader_tightness ⟨Nat.le_of_ble_eq_true rfl, Nat.le_of_ble_eq_true rfl⟩ rfl hl.1 rfl (Nat.le_of_ble_eq_true rfl) d_Reader_join_2 ⟨(Nat.zero_le _), (Nat.zero_le _)⟩ (fun H locs hw => ?_)
    obtain ⟨S_4, hc_3, h⟩ := bd_ex h
    refine cV_v F hA rfl hK hw (c_Reader_release l hc_3) trivial rfl (good_V lk_511 lk_513 ls_14 lk_2 lk_514) (cr_1 hK hw) hd_Reader_release ⟨Nat.le_of_ble_eq_true rfl, Nat.le_of_ble_eq_true rfl⟩ rfl hl.1 rfl (Nat.le_of_ble_eq_true rfl) d_Reader_join_5 ⟨(Nat.zero_le _), (Nat.zero_le _)⟩ (fun H locs hw => ?_)
    refine lv_aload_n F.1 F.2.1 d_Reader_join_8 rfl (lv_at hl 0 rfl) ?_
    refine lv_iload_n F.1 F.2.1 d_Reader_join_9 rfl (lv_at hl 1 rfl) ?_
    obtain ⟨S_6, hc_5, h⟩ := bd_ex h
    refine cV_v F hA rfl hK hw (c_Reader_await l hc_5) trivial rfl (good_V lk_519 lk_521 ls_16 lk_2 lk_522) (cr_1 hK hw) hd_Reader_await ⟨Nat.le_of_ble_eq_true rfl, Nat.le_of_ble_eq_true rfl⟩ rfl hl.1 rfl (Nat.le_of_ble_eq_true rfl) d_Reader_join_10 ⟨(Nat.zero_le _), (Nat.zero_le _)⟩ (fun H locs hw => ?_)
    refine lv_iload_n F.1 F.2.1 d_Reader_join_13 rfl (lv_at hl 2 rfl) ?_
    cases h
    have ho : X_0 _ := ho
    rw [eX_0] at ho
    exact ho H locs _ ls d_Reader_join_14 hw
  exact key _ _ hw _ h (by rw [eX_0]; exact fun H locs pc ls hd hw => hQ H locs pc ls ad rfl hd hw)
theorem d_Reader_goOnBehindExpression_0 : decode b_Reader_goOnBehindExpression 0 = .ok (.aload_n 0, 1) := by decide +kernel
theorem d_Reader_goOnBehindExpression_1 : decode b_Reader_goOnBehindExpression 1 = .ok (.getfield 45, 3) := by decide +kernel
theorem d_Reader_goOnBehindExpression_4 : decode b_Reader_goOnBehindExpression 4 = .ok (.istore_n 2, 1) := by decide +kernel
theorem d_Reader_goOnBehindExpression_5 : decode b_Reader_goOnBehindExpression 5 = .ok (.iload_n 1, 1) := by decide +kernel
theorem d_Reader_goOnBehindExpression_6 : decode b_Reader_goOnBehindExpression 6 = .ok (.tableswitch 184 4 24 #[168, 98, 98, 98, 106, 106, 106, 106, 184, 184, 184, 184, 184, 184, 184, 184, 184, 184, 150, 128, 128], 98) := by decide +kernel
theorem d_Reader_goOnBehindExpression_104 : decode b_Reader_goOnBehindExpression 104 = .ok (.aload_n 0, 1) := by decide +kernel
theorem d_Reader_goOnBehindExpression_105 : decode b_Reader_goOnBehindExpression 105 = .ok (.iload_n 1, 1) := by decide +kernel
theorem d_Reader_goOnBehindExpression_106 : decode b_Reader_goOnBehindExpression 106 = .ok (.bipush 9, 2) := by decide +kernel
theorem d_Reader_goOnBehindExpression_108 : decode b_Reader_goOnBehindExpression 108 = .ok (.invokevirtual 182, 3) := by decide +kernel
theorem d_Reader_goOnBehindExpression_111 : decode b_Reader_goOnBehindExpression 111 = .ok (.ireturn, 1) := by decide +kernel
theorem d_Reader_goOnBehindExpression_112 : decode b_Reader_goOnBehindExpression 112 = .ok (.aload_n 0, 1) := by decide +kernel
theorem d_Reader_goOnBehindExpression_113 : decode b_Reader_goOnBehindExpression 113 = .ok (.iconst 2, 1) := by decide +kernel
theorem d_Reader_goOnBehindExpression_114 : decode b_Reader_goOnBehindExpression 114 = .ok (.putfield 45, 3) := by decide +kernel
theorem d_Reader_goOnBehindExpression_117 : decode b_Reader_goOnBehindExpression 117 = .ok (.iload_n 2, 1) := by decide +kernel
theorem d_Reader_goOnBehindExpression_118 : decode b_Reader_goOnBehindExpression 118 = .ok (.iconst 1, 1) := by decide +kernel
theorem d_Reader_goOnBehindExpression_119 : decode b_Reader_goOnBehindExpression 119 = .ok (.if_icmp .ne 13, 3) := by decide +kernel
theorem d_Reader_goOnBehindExpression_122 : decode b_Reader_goOnBehindExpression 122 = .ok (.aload_n 0, 1) := by decide +kernel
theorem d_Reader_goOnBehindExpression_123 : decode b_Reader_goOnBehindExpression 123 = .ok (.iload_n 1, 1) := by decide +kernel
theorem d_Reader_goOnBehindExpression_124 : decode b_Reader_goOnBehindExpression 124 = .ok (.bipush 9, 2) := by decide +kernel
theorem d_Reader_goOnBehindExpression_126 : decode b_Reader_goOnBehindExpression 126 = .ok (.invokevirtual 182, 3) := by decide +kernel
theorem d_Reader_goOnBehindExpression_129 : decode b_Reader_goOnBehindExpression 129 = .ok (.goto 4, 3) := by decide +kernel
theorem d_Reader_goOnBehindExpression_132 : decode b_Reader_goOnBehindExpression 132 = .ok (.iconst (-1), 1) := by decide +kernel
theorem d_Reader_goOnBehindExpression_133 : decode b_Reader_goOnBehindExpression 133 = .ok (.ireturn, 1) := by decide +kernel
theorem d_Reader_goOnBehindExpression_134 : decode b_Reader_goOnBehindExpression 134 = .ok (.aload_n 0, 1) := by decide +kernel
theorem d_Reader_goOnBehindExpression_135 : decode b_Reader_goOnBehindExpression 135 = .ok (.iconst 1, 1) := by decide +kernel
theorem d_Reader_goOnBehindExpression_136 : decode b_Reader_goOnBehindExpression 136 = .ok (.putfield 45, 3) := by decide +kernel
theorem d_Reader_goOnBehindExpression_139 : decode b_Reader_goOnBehindExpression 139 = .ok (.iload_n 2, 1) := by decide +kernel
theorem d_Reader_goOnBehindExpression_140 : decode b_Reader_goOnBehindExpression 140 = .ok (.iconst 2, 1) := by decide +kernel
theorem d_Reader_goOnBehindExpression_141 : decode b_Reader_goOnBehindExpression 141 = .ok (.if_icmp .ne 13, 3) := by decide +kernel
theorem d_Reader_goOnBehindExpression_144 : decode b_Reader_goOnBehindExpression 144 = .ok (.aload_n 0, 1) := by decide +kernel
theorem d_Reader_goOnBehindExpression_145 : decode b_Reader_goOnBehindExpression 145 = .ok (.iload_n 1, 1) := by decide +kernel
theorem d_Reader_goOnBehindExpression_146 : decode b_Reader_goOnBehindExpression 146 = .ok (.bipush 8, 2) := by decide +kernel
theorem d_Reader_goOnBehindExpression_148 : decode b_Reader_goOnBehindExpression 148 = .ok (.invokevirtual 182, 3) := by decide +kernel
theorem d_Reader_goOnBehindExpression_151 : decode b_Reader_goOnBehindExpression 151 = .ok (.goto 4, 3) := by decide +kernel
theorem d_Reader_goOnBehindExpression_154 : decode b_Reader_goOnBehindExpression 154 = .ok (.iconst (-1), 1) := by decide +kernel
theorem d_Reader_goOnBehindExpression_155 : decode b_Reader_goOnBehindExpression 155 = .ok (.ireturn, 1) := by decide +kernel
theorem d_Reader_goOnBehindExpression_156 : decode b_Reader_goOnBehindExpression 156 = .ok (.aload_n 0, 1) := by decide +kernel
theorem d_Reader_goOnBehindExpression_157 : decode b_Reader_goOnBehindExpression 157 = .ok (.iconst 1, 1) := by decide +kernel
theorem d_Reader_goOnBehindExpression_158 : decode b_Reader_goOnBehindExpression 158 = .ok (.putfield 45, 3) := by decide +kernel
theorem d_Reader_goOnBehindExpression_161 : decode b_Reader_goOnBehindExpression 161 = .ok (.iload_n 2, 1) := by decide +kernel
theorem d_Reader_goOnBehindExpression_162 : decode b_Reader_goOnBehindExpression 162 = .ok (.ifCond .ne 10, 3) := by decide +kernel
theorem d_Reader_goOnBehindExpression_165 : decode b_Reader_goOnBehindExpression 165 = .ok (.aload_n 0, 1) := by decide +kernel
theorem d_Reader_goOnBehindExpression_166 : decode b_Reader_goOnBehindExpression 166 = .ok (.invokevirtual 188, 3) := by decide +kernel
theorem d_Reader_goOnBehindExpression_169 : decode b_Reader_goOnBehindExpression 169 = .ok (.goto 4, 3) := by decide +kernel
theorem d_Reader_goOnBehindExpression_172 : decode b_Reader_goOnBehindExpression 172 = .ok (.iconst (-1), 1) := by decide +kernel
theorem d_Reader_goOnBehindExpression_173 : decode b_Reader_goOnBehindExpression 173 = .ok (.ireturn, 1) := by decide +kernel
theorem d_Reader_goOnBehindExpression_174 : decode b_Reader_goOnBehindExpression 174 = .ok (.aload_n 0, 1) := by decide +kernel
theorem d_Reader_goOnBehindExpression_175 : decode b_Reader_goOnBehindExpression 175 = .ok (.iconst 1, 1) := by decide +kernel
theorem d_Reader_goOnBehindExpression_176 : decode b_Reader_goOnBehindExpression 176 = .ok (.invokevirtual 191, 3) := by decide +kernel
theorem d_Reader_goOnBehindExpression_179 : decode b_Reader_goOnBehindExpression 179 = .ok (.iload_n 2, 1) := by decide +kernel
theorem d_Reader_goOnBehindExpression_180 : decode b_Reader_goOnBehindExpression 180 = .ok (.iconst 1, 1) := by decide +kernel
theorem d_Reader_goOnBehindExpression_181 : decode b_Reader_goOnBehindExpression 181 = .ok (.if_icmp .eq 7, 3) := by decide +kernel
theorem d_Reader_goOnBehindExpression_184 : decode b_Reader_goOnBehindExpression 184 = .ok (.iconst 0, 1) := by decide +kernel
theorem d_Reader_goOnBehindExpression_185 : decode b_Reader_goOnBehindExpression 185 = .ok (.goto 4, 3) := by decide +kernel
theorem d_Reader_goOnBehindExpression_188 : decode b_Reader_goOnBehindExpression 188 = .ok (.iconst (-1), 1) := by decide +kernel
theorem d_Reader_goOnBehindExpression_189 : decode b_Reader_goOnBehindExpression 189 = .ok (.ireturn, 1) := by decide +kernel
theorem d_Reader_goOnBehindExpression_190 : decode b_Reader_goOnBehindExpression 190 = .ok (.iconst (-1), 1) := by decide +kernel
theorem d_Reader_goOnBehindExpression_191 : decode b_Reader_goOnBehindExpression 191 = .ok (.ireturn, 1) := by decide +kernel
set_option maxHeartbeats 4000000 in
set_option maxRecDepth 100000 in
theorem c_Reader_goOnBehindExpression (l : Launch) {S : St} {x1 : Int32} {S' : St} {r : Int32} (h : f_Reader_goOnBehindExpression S x1 = some (r, S')) : MI cw l y_Reader_goOnBehindExpression b_Reader_goOnBehindExpression 3 (some .int) 3 67 0 0 (fun ad => [.ref (ad 1 0), .int x1]) aT aE S r S' := by
  refine MI_of "LawfulLots$Reader" rfl (by decide) (fun _ => Nat.le_of_ble_eq_true rfl) ?_
  intro p e s m args below meth c D ar ad A Q ls hP F hK hA hw hl hQ
  have hl : lv_has ls 3 [(0, .ref (ad 1 0)), (1, .int x1)] := hl
  obtain ⟨X_0, eX_0⟩ : ∃ X : (Int32 × St) → Prop, X = (fun q => ∀ (H : Heap) (locs : List Loc) (pc : Nat) (ls : Array Slot), decode b_Reader_goOnBehindExpression pc = .ok (.ireturn, 1) → Bw cw D ar A s.heap H locs ad q.2 → W p l e (RM 3 67) s m args below meth c H locs 0 0 Q (F0 m pc ls [.int q.1])) := ⟨_, rfl⟩
  have key : ∀ (H : Heap) (locs : List Loc), Bw cw D ar A s.heap H locs ad S → ∀ o, f_Reader_goOnBehindExpression S x1 = some o → X_0 o → W p l e (RM 3 67) s m args below meth c H locs 0 0 Q (F0 m 0 ls []) := by
    intro H locs hw o h ho
    unfold f_Reader_goOnBehindExpression at h
    have J_190 : ∀ (S : St) (H : Heap) (locs : List Loc) (ls : Array Slot), Bw cw D ar A s.heap H locs ad S → lv_has ls 3 [] → ∀ o, Reader_goOnBehindExpression_j190 S = some o → X_0 o → W p l e (RM 3 67) s m args below meth c H locs 0 0 Q (F0 m 190 ls []) := by
      intro S H locs ls hw hl o h ho
      unfold Reader_goOnBehindExpression_j190 at h
      refine lv_iconst (v := -1) F.1 F.2.1 d_Reader_goOnBehindExpression_190 (by decide) ?_
      cases h
      have ho : X_0 _ := ho
      rw [eX_0] at ho
      exact ho H locs _ ls d_Reader_goOnBehindExpression_191 hw
    have J_189 : ∀ (S : St) (t0 : Int32) (H : Heap) (locs : List Loc) (ls : Array Slot), Bw cw D ar A s.heap H locs ad S → lv_has ls 3 [] → ∀ o, Reader_goOnBehindExpression_j189 S t0 = some o → X_0 o → W p l e (RM 3 67) s m args below meth c H locs 0 0 Q (F0 m 189 ls [.int t0]) := by
      intro S t0 H locs ls hw hl o h ho
      unfold Reader_goOnBehindExpression_j189 at h
      cases h
      have ho : X_0 _ := ho
      rw [eX_0] at ho
      exact ho H locs _ ls d_Reader_goOnBehindExpression_189 hw
    have J_173 : ∀ (S : St) (t0 : Int32) (H : Heap) (locs : List Loc) (ls : Array Slot), Bw cw D ar A s.heap H locs ad S → lv_has ls 3 [] → ∀ o, Reader_goOnBehindExpression_j173 S t0 = some o → X_0 o → W p l e (RM 3 67) s m args below meth c H locs 0 0 Q (F0 m 173 ls [.int t0]) := by
      intro S t0 H locs ls hw hl o h ho
      unfold Reader_goOnBehindExpression_j173 at h
      cases h
      have ho : X_0 _ := ho
      rw [eX_0] at ho
      exact ho H locs _ ls d_Reader_goOnBehindExpression_173 hw
    have J_155 : ∀ (S : St) (t0 : Int32) (H : Heap) (locs : List Loc) (ls : Array Slot), Bw cw D ar A s.heap H locs ad S → lv_has ls 3 [] → ∀ o, Reader_goOnBehindExpression_j155 S t0 = some o → X_0 o → W p l e (RM 3 67) s m args below meth c H locs 0 0 Q (F0 m 155 ls [.int t0]) := by
      intro S t0 H locs ls hw hl o h ho
      unfold Reader_goOnBehindExpression_j155 at h
      cases h
      have ho : X_0 _ := ho
      rw [eX_0] at ho
      exact ho H locs _ ls d_Reader_goOnBehindExpression_155 hw
    have J_134 : ∀ (S : St) (x2 : Int32) (H : Heap) (locs : List Loc) (ls : Array Slot), Bw cw D ar A s.heap H locs ad S → lv_has ls 3 [(0, .ref (ad 1 0)), (1, .int x1), (2, .int x2)] → ∀ o, Reader_goOnBehindExpression_j134 S x1 x2 = some o → X_0 o → W p l e (RM 3 67) s m args below meth c H locs 0 0 Q (F0 m 134 ls []) := by
      intro S x2 H locs ls hw hl o h ho
      unfold Reader_goOnBehindExpression_j134 at h
      refine lv_aload_n F.1 F.2.1 d_Reader_goOnBehindExpression_134 rfl (lv_at hl 0 rfl) ?_
      refine lv_iconst (v := 1) F.1 F.2.1 d_Reader_goOnBehindExpression_135 (by decide) ?_
      obtain ⟨S_39, eS_39, h⟩ := nm_ex h
      refine cp_1_8 F hK hw lk_129 d_Reader_goOnBehindExpression_136 eS_39 (fun H locs hw => ?_)
      refine lv_iload_n F.1 F.2.1 d_Reader_goOnBehindExpression_139 rfl (lv_at hl 2 rfl) ?_
      refine lv_iconst (v := 2) F.1 F.2.1 d_Reader_goOnBehindExpression_140 (by decide) ?_
      refine lv_icmp_ne (tgt := 154) F.1 F.2.1 d_Reader_goOnBehindExpression_141 (by decide) (fun c_40 => ?_) (fun c_40 => ?_)
      · replace h := iq c_40 h
        refine lv_iconst (v := -1) F.1 F.2.1 d_Reader_goOnBehindExpression_154 (by decide) ?_
        exact J_155 S_39 (-1 : Int32) H locs ls hw (lv_sub hl [] rfl) o h ho
      · replace h := ip c_40 h
        refine lv_aload_n F.1 F.2.1 d_Reader_goOnBehindExpression_144 rfl (lv_at hl 0 rfl) ?_
        refine lv_iload_n F.1 F.2.1 d_Reader_goOnBehindExpression_145 rfl (lv_at hl 1 rfl) ?_
        refine lv_bipush (v := 8) F.1 F.2.1 d_Reader_goOnBehindExpression_146 (by decide) ?_
        obtain ⟨v_42, S_43, hc_41, h⟩ := bd2_ex h
        refine cV_i F hA rfl hK hw (c_Reader_join l hc_41) trivial rfl (good_V lk_504 lk_506 ls_13 lk_2 lk_507) (cr_1 hK hw) hd_Reader_join ⟨Nat.le_of_ble_eq_true rfl, Nat.le_of_ble_eq_true rfl⟩ rfl hl.1 rfl (Nat.le_of_ble_eq_true rfl) d_Reader_goOnBehindExpression_148 ⟨(Nat.zero_le _), (Nat.zero_le _)⟩ (fun H locs hw => ?_)
        refine lv_goto (tgt := 155) F.1 F.2.1 d_Reader_goOnBehindExpression_151 (by decide) ?_
        exact J_155 S_43 v_42 H locs ls hw (lv_sub hl [] rfl) o h ho
    have J_133 : ∀ (S : St) (t0 : Int32) (H : Heap) (locs : List Loc) (ls : Array Slot), Bw cw D ar A s.heap H locs ad S → lv_has ls 3 [] → ∀ o, Reader_goOnBehindExpression_j133 S t0 = some o → X_0 o → W p l e (RM 3 67) s m args below meth c H locs 0 0 Q (F0 m 133 ls [.int t0]) := by
      intro S t0 H locs ls hw hl o h ho
      unfold Reader_goOnBehindExpression_j133 at h
      cases h
      have ho : X_0 _ := ho
      rw [eX_0] at ho
      exact ho H locs _ ls d_Reader_goOnBehindExpression_133 hw
    have J_112 : ∀ (S : St) (x2 : Int32) (H : Heap) (locs : List Loc) (ls : Array Slot), Bw cw D ar A s.heap H locs ad S → lv_has ls 3 [(0, .ref (ad 1 0)), (1, .int x1), (2, .int x2)] → ∀ o, Reader_goOnBehindExpression_j112 S x1 x2 = some o → X_0 o → W p l e (RM 3 67) s m args below meth c H locs 0 0 Q (F0 m 112 ls []) := by
      intro S x2 H locs ls hw hl o h ho
      unfold Reader_goOnBehindExpression_j112 at h
      refine lv_aload_n F.1 F.2.1 d_Reader_goOnBehindExpression_112 rfl (lv_at hl 0 rfl) ?_
      refine lv_iconst (v := 2) F.1 F.2.1 d_Reader_goOnBehindExpression_113 (by decide) ?_
      obtain ⟨S_34, eS_34, h⟩ := nm_ex h
      refine cp_1_8 F hK hw lk_129 d_Reader_goOnBehindExpression_114 eS_34 (fun H locs hw => ?_)
      refine lv_iload_n F.1 F.2.1 d_Reader_goOnBehindExpression_117 rfl (lv_at hl 2 rfl) ?_
      refine lv_iconst (v := 1) F.1 F.2.1 d_Reader_goOnBehindExpression_118 (by decide) ?_
      refine lv_icmp_ne (tgt := 132) F.1 F.2.1 d_Reader_goOnBehindExpression_119 (by decide) (fun c_35 => ?_) (fun c_35 => ?_)
      · replace h := iq c_35 h
        refine lv_iconst (v := -1) F.1 F.2.1 d_Reader_goOnBehindExpression_132 (by decide) ?_
        exact J_133 S_34 (-1 : Int32) H locs ls hw (lv_sub hl [] rfl) o h ho
      · replace h := ip c_35 h
        refine lv_aload_n F.1 F.2.1 d_Reader_goOnBehindExpression_122 rfl (lv_at hl 0 rfl) ?_
        refine lv_iload_n F.1 F.2.1 d_Reader_goOnBehindExpression_123 rfl (lv_at hl 1 rfl) ?_
        refine lv_bipush (v := 9) F.1 F.2.1 d_Reader_goOnBehindExpression_124 (by decide) ?_
        obtain ⟨v_37, S_38, hc_36, h⟩ := bd2_ex h
        refine cV_i F hA rfl hK hw (c_Reader_join l hc_36) trivial rfl (good_V lk_504 lk_506 ls_13 lk_2 lk_507) (cr_1 hK hw) hd_Reader_join ⟨Nat.le_of_ble_eq_true rfl, Nat.le_of_ble_eq_true rfl⟩ rfl hl.1 rfl (Nat.le_of_ble_eq_true rfl) d_Reader_goOnBehindExpression_126 ⟨(Nat.zero_le _), (Nat.zero_le _)⟩ (fun H locs hw => ?_)
        refine lv_goto (tgt := 133) F.1 F.2.1 d_Reader_goOnBehindExpression_129 (by decide) ?_
        exact J_133 S_38 v_37 H locs ls hw (lv_sub hl [] rfl) o h ho
    have J_104 : ∀ (S : St) (H : Heap) (locs : List Loc) (ls : Array Slot), Bw cw D ar A s.heap H locs ad S → lv_has ls 3 [(0, .ref (ad 1 0)), (1, .int x1)] → ∀ o, Reader_goOnBehindExpression_j104 S x1 = some o → X_0 o → W p l e (RM 3 67) s m args below meth c H locs 0 0 Q (F0 m 104 ls []) := by
      intro S H locs ls hw hl o h ho
      unfold Reader_goOnBehindExpression_j104 at h
      refine lv_aload_n F.1 F.2.1 d_Reader_goOnBehindExpression_104 rfl (lv_at hl 0 rfl) ?_
      refine lv_iload_n F.1 F.2.1 d_Reader_goOnBehindExpression_105 rfl (lv_at hl 1 rfl) ?_
      refine lv_bipush (v := 9) F.1 F.2.1 d_Reader_goOnBehindExpression_106 (by decide) ?_
      obtain ⟨v_32, S_33, hc_31, h⟩ := bd2_ex h
      refine cV_i F hA rfl hK hw (c_Reader_join l hc_31) trivial rfl (good_V lk_504 lk_506 ls_13 lk_2 lk_507) (cr_1 hK hw) hd_Reader_join ⟨Nat.le_of_ble_eq_true rfl, Nat.le_of_ble_eq_true rfl⟩ rfl hl.1 rfl (Nat.le_of_ble_eq_true rfl) d_Reader_goOnBehindExpression_108 ⟨(Nat.zero_le _), (Nat.zero_le _)⟩ (fun H locs hw => ?_)
      cases h
      have ho : X_0 _ := ho
      rw [eX_0] at ho
      exact ho H locs _ ls d_Reader_goOnBehindExpression_111 hw
    refine lv_aload_n F.1 F.2.1 d_Reader_goOnBehindExpression_0 rfl (lv_at hl 0 rfl) ?_
    refine cg_1_8 F hK hw lk_129 d_Reader_goOnBehindExpression_1 ?_
    obtain ⟨x2_1, ex2_1, h⟩ := nm_ex h
    refine lv_nm ex2_1 ?_
    refine lv_istore_n (lv' := [(2, .int x2_1), (0, .ref (ad 1 0)), (1, .int x1)]) F.1 F.2.1 d_Reader_goOnBehindExpression_4 rfl hl (by decide) rfl (fun ls hl => ?_)
    refine lv_iload_n F.1 F.2.1 d_Reader_goOnBehindExpression_5 rfl (lv_at hl 2 rfl) ?_
    rcases Decidable.em (x1 = (4 : Int32)) with c_2 | c_2
    · replace h := ip c_2 h
      refine lv_tableIn (off := 168) (tgt := 174) F.1 F.2.1 d_Reader_goOnBehindExpression_6 (by rw [c_2]; decide) (by rw [c_2]; decide) (by rw [c_2]; decide) (by decide) ?_
      refine lv_aload_n F.1 F.2.1 d_Reader_goOnBehindExpression_174 rfl (lv_at hl 1 rfl) ?_
      refine lv_iconst (v := 1) F.1 F.2.1 d_Reader_goOnBehindExpression_175 (by decide) ?_
      obtain ⟨S_4, hc_3, h⟩ := bd_ex h
      refine cV_v F hA rfl hK hw (c_Reader_release l hc_3) trivial rfl (good_V lk_511 lk_513 ls_14 lk_2 lk_514) (cr_1 hK hw) hd_Reader_release ⟨Nat.le_of_ble_eq_true rfl, Nat.le_of_ble_eq_true rfl⟩ rfl hl.1 rfl (Nat.le_of_ble_eq_true rfl) d_Reader_goOnBehindExpression_176 ⟨(Nat.zero_le _), (Nat.zero_le _)⟩ (fun H locs hw => ?_)
      refine lv_iload_n F.1 F.2.1 d_Reader_goOnBehindExpression_179 rfl (lv_at hl 0 rfl) ?_
      refine lv_iconst (v := 1) F.1 F.2.1 d_Reader_goOnBehindExpression_180 (by decide) ?_
      refine lv_icmp_eq (tgt := 188) F.1 F.2.1 d_Reader_goOnBehindExpression_181 (by decide) (fun c_5 => ?_) (fun c_5 => ?_)
      · replace h := ip c_5 h
        refine lv_iconst (v := -1) F.1 F.2.1 d_Reader_goOnBehindExpression_188 (by decide) ?_
        exact J_189 S_4 (-1 : Int32) H locs ls hw (lv_sub hl [] rfl) o h ho
      · replace h := iq c_5 h
        refine lv_iconst (v := 0) F.1 F.2.1 d_Reader_goOnBehindExpression_184 (by decide) ?_
        refine lv_goto (tgt := 189) F.1 F.2.1 d_Reader_goOnBehindExpression_185 (by decide) ?_
        exact J_189 S_4 (0 : Int32) H locs ls hw (lv_sub hl [] rfl) o h ho
    replace h := iq c_2 h
    rcases Decidable.em (x1 = (5 : Int32)) with c_6 | c_6
    · replace h := ip c_6 h
      refine lv_tableIn (off := 98) (tgt := 104) F.1 F.2.1 d_Reader_goOnBehindExpression_6 (by rw [c_6]; decide) (by rw [c_6]; decide) (by rw [c_6]; decide) (by decide) ?_
      exact J_104 S H locs ls hw (lv_sub hl [1, 2] rfl) o h ho
    replace h := iq c_6 h
    rcases Decidable.em (x1 = (6 : Int32)) with c_7 | c_7
    · replace h := ip c_7 h
      refine lv_tableIn (off := 98) (tgt := 104) F.1 F.2.1 d_Reader_goOnBehindExpression_6 (by rw [c_7]; decide) (by rw [c_7]; decide) (by rw [c_7]; decide) (by decide) ?_
      exact J_104 S H locs ls hw (lv_sub hl [1, 2] rfl) o h ho
    replace h := iq c_7 h
    rcases Decidable.em (x1 = (7 : Int32)) with c_8 | c_8
    · replace h := ip c_8 h
      refine lv_tableIn (off := 98) (tgt := 104) F.1 F.2.1 d_Reader_goOnBehindExpression_6 (by rw [c_8]; decide) (by rw [c_8]; decide) (by rw [c_8]; decide) (by decide) ?_
      exact J_104 S H locs ls hw (lv_sub hl [1, 2] rfl) o h ho
    replace h := iq c_8 h
    rcases Decidable.em (x1 = (8 : Int32)) with c_9 | c_9
    · replace h := ip c_9 h
      refine lv_tableIn (off := 106) (tgt := 112) F.1 F.2.1 d_Reader_goOnBehindExpression_6 (by rw [c_9]; decide) (by rw [c_9]; decide) (by rw [c_9]; decide) (by decide) ?_
      exact J_112 S x2_1 H locs ls hw (lv_sub hl [1, 2, 0] rfl) o h ho
    replace h := iq c_9 h
    rcases Decidable.em (x1 = (9 : Int32)) with c_10 | c_10
    · replace h := ip c_10 h
      refine lv_tableIn (off := 106) (tgt := 112) F.1 F.2.1 d_Reader_goOnBehindExpression_6 (by rw [c_10]; decide) (by rw [c_10]; decide) (by rw [c_10]; decide) (by decide) ?_
      exact J_112 S x2_1 H locs ls hw (lv_sub hl [1, 2, 0] rfl) o h ho
    replace h := iq c_10 h
    rcases Decidable.em (x1 = (10 : Int32)) with c_11 | c_11
    · replace h := ip c_11 h
      refine lv_tableIn (off := 106) (tgt := 112) F.1 F.2.1 d_Reader_goOnBehindExpression_6 (by rw [c_11]; decide) (by rw [c_11]; decide) (by rw [c_11]; decide) (by decide) ?_
      exact J_112 S x2_1 H locs ls hw (lv_sub hl [1, 2, 0] rfl) o h ho
    replace h := iq c_11 h
    rcases Decidable.em (x1 = (11 : Int32)) with c_12 | c_12
    · replace h := ip c_12 h
      refine lv_tableIn (off := 106) (tgt := 112) F.1 F.2.1 d_Reader_goOnBehindExpression_6 (by rw [c_12]; decide) (by rw [c_12]; decide) (by rw [c_12]; decide) (by decide) ?_
      exact J_112 S x2_1 H locs ls hw (lv_sub hl [1, 2, 0] rfl) o h ho
    replace h := iq c_12 h
    rcases Decidable.em (x1 = (12 : Int32)) with c_13 | c_13
    · replace h := ip c_13 h
      refine lv_tableIn (off := 184) (tgt := 190) F.1 F.2.1 d_Reader_goOnBehindExpression_6 (by rw [c_13]; decide) (by rw [c_13]; decide) (by rw [c_13]; decide) (by decide) ?_
      exact J_190 S H locs ls hw (lv_sub hl [] rfl) o h ho
    replace h := iq c_13 h
    rcases Decidable.em (x1 = (13 : Int32)) with c_14 | c_14
    · replace h := ip c_14 h
      refine lv_tableIn (off := 184) (tgt := 190) F.1 F.2.1 d_Reader_goOnBehindExpression_6 (by rw [c_14]; decide) (by rw [c_14]; decide) (by rw [c_14]; decide) (by decide) ?_
      exact J_190 S H locs ls hw (lv_sub hl [] rfl) o h ho
    replace h := iq c_14 h
    rcases Decidable.em (x1 = (14 : Int32)) with c_15 | c_15
    · replace h := ip c_15 h
      refine lv_tableIn (off := 184) (tgt := 190) F.1 F.2.1 d_Reader_goOnBehindExpression_6 (by rw [c_15]; decide) (by rw [c_15]; decide) (by rw [c_15]; decide) (by decide) ?_
      exact J_190 S H locs ls hw (lv_sub hl [] rfl) o h ho
    replace h := iq c_15 h
    rcases Decidable.em (x1 = (15 : Int32)) with c_16 | c_16
    · replace h := ip c_16 h
      refine lv_tableIn (off := 184) (tgt := 190) F.1 F.2.1 d_Reader_goOnBehindExpression_6 (by rw [c_16]; decide) (by rw [c_16]; decide) (by rw [c_16]; decide) (by decide) ?_
      exact J_190 S H locs ls hw (lv_sub hl [] rfl) o h ho
    replace h := iq c_16 h
    rcases Decidable.em (x1 = (16 : Int32)) with c_17 | c_17
    · replace h := ip c_17 h
      refine lv_tableIn (off := 184) (tgt := 190) F.1 F.2.1 d_Reader_goOnBehindExpression_6 (by rw [c_17]; decide) (by rw [c_17]; decide) (by rw [c_17]; decide) (by decide) ?_
      exact J_190 S H locs ls hw (lv_sub hl [] rfl) o h ho
    replace h := iq c_17 h
    rcases Decidable.em (x1 = (17 : Int32)) with c_18 | c_18
    · replace h := ip c_18 h
      refine lv_tableIn (off := 184) (tgt := 190) F.1 F.2.1 d_Reader_goOnBehindExpression_6 (by rw [c_18]; decide) (by rw [c_18]; decide) (by rw [c_18]; decide) (by decide) ?_
      exact J_190 S H locs ls hw (lv_sub hl [] rfl) o h ho
    replace h := iq c_18 h
    rcases Decidable.em (x1 = (18 : Int32)) with c_19 | c_19
    · replace h := ip c_19 h
      refine lv_tableIn (off := 184) (tgt := 190) F.1 F.2.1 d_Reader_goOnBehindExpression_6 (by rw [c_19]; decide) (by rw [c_19]; decide) (by rw [c_19]; decide) (by decide) ?_
      exact J_190 S H locs ls hw (lv_sub hl [] rfl) o h ho
    replace h := iq c_19 h
    rcases Decidable.em (x1 = (19 : Int32)) with c_20 | c_20
    · replace h := ip c_20 h
      refine lv_tableIn (off := 184) (tgt := 190) F.1 F.2.1 d_Reader_goOnBehindExpression_6 (by rw [c_20]; decide) (by rw [c_20]; decide) (by rw [c_20]; decide) (by decide) ?_
      exact J_190 S H locs ls hw (lv_sub hl [] rfl) o h ho
    replace h := iq c_20 h
    rcases Decidable.em (x1 = (20 : Int32)) with c_21 | c_21
    · replace h := ip c_21 h
      refine lv_tableIn (off := 184) (tgt := 190) F.1 F.2.1 d_Reader_goOnBehindExpression_6 (by rw [c_21]; decide) (by rw [c_21]; decide) (by rw [c_21]; decide) (by decide) ?_
      exact J_190 S H locs ls hw (lv_sub hl [] rfl) o h ho
    replace h := iq c_21 h
    rcases Decidable.em (x1 = (21 : Int32)) with c_22 | c_22
    · replace h := ip c_22 h
      refine lv_tableIn (off := 184) (tgt := 190) F.1 F.2.1 d_Reader_goOnBehindExpression_6 (by rw [c_22]; decide) (by rw [c_22]; decide) (by rw [c_22]; decide) (by decide) ?_
      exact J_190 S H locs ls hw (lv_sub hl [] rfl) o h ho
    replace h := iq c_22 h
    rcases Decidable.em (x1 = (22 : Int32)) with c_23 | c_23
    · replace h := ip c_23 h
      refine lv_tableIn (off := 150) (tgt := 156) F.1 F.2.1 d_Reader_goOnBehindExpression_6 (by rw [c_23]; decide) (by rw [c_23]; decide) (by rw [c_23]; decide) (by decide) ?_
      refine lv_aload_n F.1 F.2.1 d_Reader_goOnBehindExpression_156 rfl (lv_at hl 1 rfl) ?_
      refine lv_iconst (v := 1) F.1 F.2.1 d_Reader_goOnBehindExpression_157 (by decide) ?_
      obtain ⟨S_24, eS_24, h⟩ := nm_ex h
      refine cp_1_8 F hK hw lk_129 d_Reader_goOnBehindExpression_158 eS_24 (fun H locs hw => ?_)
      refine lv_iload_n F.1 F.2.1 d_Reader_goOnBehindExpression_161 rfl (lv_at hl 0 rfl) ?_
      refine lv_if_ne (tgt := 172) F.1 F.2.1 d_Reader_goOnBehindExpression_162 (by decide) (fun c_25 => ?_) (fun c_25 => ?_)
      · replace h := iq c_25 h
        refine lv_iconst (v := -1) F.1 F.2.1 d_Reader_goOnBehindExpression_172 (by decide) ?_
        exact J_173 S_24 (-1 : Int32) H locs ls hw (lv_sub hl [] rfl) o h ho
      · replace h := ip c_25 h
        refine lv_aload_n F.1 F.2.1 d_Reader_goOnBehindExpression_165 rfl (lv_at hl 1 rfl) ?_
        obtain ⟨v_27, S_28, hc_26, h⟩ := bd2_ex h
        refine cV_i F hA rfl hK hw (c_Reader_beginShareCondition l hc_26) trivial rfl (good_V lk_531 lk_533 ls_19 lk_2 lk_534) (cr_1 hK hw) hd_Reader_beginShareCondition ⟨Nat.le_of_ble_eq_true rfl, Nat.le_of_ble_eq_true rfl⟩ rfl hl.1 rfl (Nat.le_of_ble_eq_true rfl) d_Reader_goOnBehindExpression_166 ⟨(Nat.zero_le _), (Nat.zero_le _)⟩ (fun H locs hw => ?_)
        refine lv_goto (tgt := 173) F.1 F.2.1 d_Reader_goOnBehindExpression_169 (by decide) ?_
        exact J_173 S_28 v_27 H locs ls hw (lv_sub hl [] rfl) o h ho
    replace h := iq c_23 h
    rcases Decidable.em (x1 = (23 : Int32)) with c_29 | c_29
    · replace h := ip c_29 h
      refine lv_tableIn (off := 128) (tgt := 134) F.1 F.2.1 d_Reader_goOnBehindExpression_6 (by rw [c_29]; decide) (by rw [c_29]; decide) (by rw [c_29]; decide) (by decide) ?_
      exact J_134 S x2_1 H locs ls hw (lv_sub hl [1, 2, 0] rfl) o h ho
    replace h := iq c_29 h
    rcases Decidable.em (x1 = (24 : Int32)) with c_30 | c_30
    · replace h := ip c_30 h
      refine lv_tableIn (off := 128) (tgt := 134) F.1 F.2.1 d_Reader_goOnBehindExpression_6 (by rw [c_30]; decide) (by rw [c_30]; decide) (by rw [c_30]; decide) (by decide) ?_
      exact J_134 S x2_1 H locs ls hw (lv_sub hl [1, 2, 0] rfl) o h ho
    replace h := iq c_30 h
    have zc_2 := lv_neT (a := 4) c_2 rfl
    have zc_6 := lv_neT (a := 5) c_6 rfl
    have zc_7 := lv_neT (a := 6) c_7 rfl
    have zc_8 := lv_neT (a := 7) c_8 rfl
    have zc_9 := lv_neT (a := 8) c_9 rfl
    have zc_10 := lv_neT (a := 9) c_10 rfl
    have zc_11 := lv_neT (a := 10) c_11 rfl
    have zc_12 := lv_neT (a := 11) c_12 rfl
    have zc_13 := lv_neT (a := 12) c_13 rfl
    have zc_14 := lv_neT (a := 13) c_14 rfl
    have zc_15 := lv_neT (a := 14) c_15 rfl
    have zc_16 := lv_neT (a := 15) c_16 rfl
    have zc_17 := lv_neT (a := 16) c_17 rfl
    have zc_18 := lv_neT (a := 17) c_18 rfl
    have zc_19 := lv_neT (a := 18) c_19 rfl
    have zc_20 := lv_neT (a := 19) c_20 rfl
    have zc_21 := lv_neT (a := 20) c_21 rfl
    have zc_22 := lv_neT (a := 21) c_22 rfl
    have zc_23 := lv_neT (a := 22) c_23 rfl
    have zc_29 := lv_neT (a := 23) c_29 rfl
    have zc_30 := lv_neT (a := 24) c_30 rfl
    refine lv_tableOut (tgt := 190) F.1 F.2.1 d_Reader_goOnBehindExpression_6 (by omega) (by decide) ?_
    exact J_190 S H locs ls hw (lv_sub hl [] rfl) o h ho
  exact key _ _ hw _ h (by rw [eX_0]; exact fun H locs pc ls hd hw => hQ H locs pc ls ad rfl hd hw)
theorem d_Reader_closeBracket_0 : decode b_Reader_closeBracket 0 = .ok (.aload_n 0, 1) := by decide +kernel
theorem d_Reader_closeBracket_1 : decode b_Reader_closeBracket 1 = .ok (.iconst 1, 1) := by decide +kernel
theorem d_Reader_closeBracket_2 : decode b_Reader_closeBracket 2 = .ok (.invokevirtual 191, 3) := by decide +kernel
theorem d_Reader_closeBracket_5 : decode b_Reader_closeBracket 5 = .ok (.aload_n 0, 1) := by decide +kernel
theorem d_Reader_closeBracket_6 : decode b_Reader_closeBracket 6 = .ok (.dup, 1) := by decide +kernel
theorem d_Reader_closeBracket_7 : decode b_Reader_closeBracket 7 = .ok (.getfield 54, 3) := by decide +kernel
theorem d_Reader_closeBracket_10 : decode b_Reader_closeBracket 10 = .ok (.iconst 1, 1) := by decide +kernel
theorem d_Reader_closeBracket_11 : decode b_Reader_closeBracket 11 = .ok (.isub, 1) := by decide +kernel
theorem d_Reader_closeBracket_12 : decode b_Reader_closeBracket 12 = .ok (.putfield 54, 3) := by decide +kernel
theorem d_Reader_closeBracket_15 : decode b_Reader_closeBracket 15 = .ok (.aload_n 0, 1) := by decide +kernel
theorem d_Reader_closeBracket_16 : decode b_Reader_closeBracket 16 = .ok (.dup, 1) := by decide +kernel
theorem d_Reader_closeBracket_17 : decode b_Reader_closeBracket 17 = .ok (.getfield 57, 3) := by decide +kernel
theorem d_Reader_closeBracket_20 : decode b_Reader_closeBracket 20 = .ok (.iconst 1, 1) := by decide +kernel
theorem d_Reader_closeBracket_21 : decode b_Reader_closeBracket 21 = .ok (.isub, 1) := by decide +kernel
theorem d_Reader_closeBracket_22 : decode b_Reader_closeBracket 22 = .ok (.putfield 57, 3) := by decide +kernel
theorem d_Reader_closeBracket_25 : decode b_Reader_closeBracket 25 = .ok (.bipush 11, 2) := by decide +kernel
theorem d_Reader_closeBracket_27 : decode b_Reader_closeBracket 27 = .ok (.ireturn, 1) := by decide +kernel
set_option maxHeartbeats 4000000 in
set_option maxRecDepth 100000 in
theorem c_Reader_closeBracket (l : Launch) {S : St} {S' : St} {r : Int32} (h : f_Reader_closeBracket S = some (r, S')) : MI cw l y_Reader_closeBracket b_Reader_closeBracket 1 (some .int) 2 45 0 0 (fun ad => [.ref (ad 1 0)]) aT aE S r S' := by
  refine MI_of "LawfulLots$Reader" rfl (by decide) (fun _ => Nat.le_of_ble_eq_true rfl) ?_
  intro p e s m args below meth c D ar ad A Q ls hP F hK hA hw hl hQ
  have hl : lv_has ls 1 [(0, .ref (ad 1 0))] := hl
  obtain ⟨X_0, eX_0⟩ : ∃ X : (Int32 × St) → Prop, X = (fun q => ∀ (H : Heap) (locs : List Loc) (pc : Nat) (ls : Array Slot), decode b_Reader_closeBracket pc = .ok (.ireturn, 1) → Bw cw D ar A s.heap H locs ad q.2 → W p l e (RM 2 45) s m args below meth c H locs 0 0 Q (F0 m pc ls [.int q.1])) := ⟨_, rfl⟩
  have key : ∀ (H : Heap) (locs : List Loc), Bw cw D ar A s.heap H locs ad S → ∀ o, f_Reader_closeBracket S = some o → X_0 o → W p l e (RM 2 45) s m args below meth c H locs 0 0 Q (F0 m 0 ls []) := by
    intro H locs hw o h ho
    unfold f_Reader_closeBracket at h
    refine lv_aload_n F.1 F.2.1 d_Reader_closeBracket_0 rfl (lv_at hl 0 rfl) ?_
    refine lv_iconst (v := 1) F.1 F.2.1 d_Reader_closeBracket_1 (by decide) ?_
    obtain ⟨S_2, hc_1, h⟩ := bd_ex h
    refine cV_v F hA rfl hK hw (c_Reader_release l hc_1) trivial rfl (good_V lk_511 lk_513 ls_14 lk_2 lk_514) (cr_1 hK hw) hd_Reader_release ⟨Nat.le_of_ble_eq_true rfl, Nat.le_of_ble_eq_true rfl⟩ rfl hl.1 rfl (Nat.le_of_ble_eq_true rfl) d_Reader_closeBracket_2 ⟨(Nat.zero_le _), (Nat.zero_le _)⟩ (fun H locs hw => ?_)
    refine lv_aload_n F.1 F.2.1 d_Reader_closeBracket_5 rfl (lv_at hl 0 rfl) ?_
    refine lv_dup F.1 F.2.1 d_Reader_closeBracket_6 rfl ?_
    refine cg_1_11 F hK hw lk_132 d_Reader_closeBracket_7 ?_
    refine lv_iconst (v := 1) F.1 F.2.1 d_Reader_closeBracket_10 (by decide) ?_
    refine lv_isub F.1 F.2.1 d_Reader_closeBracket_11 ?_
    obtain ⟨S_3, eS_3, h⟩ := nm_ex h
    refine cp_1_11 F hK hw lk_132 d_Reader_closeBracket_12 eS_3 (fun H locs hw => ?_)
    refine lv_aload_n F.1 F.2.1 d_Reader_closeBracket_15 rfl (lv_at hl 0 rfl) ?_
    refine lv_dup F.1 F.2.1 d_Reader_closeBracket_16 rfl ?_
    refine cg_1_12 F hK hw lk_133 d_Reader_closeBracket_17 ?_
    refine lv_iconst (v := 1) F.1 F.2.1 d_Reader_closeBracket_20 (by decide) ?_
    refine lv_isub F.1 F.2.1 d_Reader_closeBracket_21 ?_
    obtain ⟨S_4, eS_4, h⟩ := nm_ex h
    refine cp_1_12 F hK hw lk_133 d_Reader_closeBracket_22 eS_4 (fun H locs hw => ?_)
    refine lv_bipush (v := 11) F.1 F.2.1 d_Reader_closeBracket_25 (by decide) ?_
    cases h
    have ho : X_0 _ := ho
    rw [eX_0] at ho
    exact ho H locs _ ls d_Reader_closeBracket_27 hw
  exact key _ _ hw _ h (by rw [eX_0]; exact fun H locs pc ls hd hw => hQ H locs pc ls ad rfl hd hw)
theorem d_Reader_goOnInBrackets_0 : decode b_Reader_goOnInBrackets 0 = .ok (.iload_n 1, 1) := by decide +kernel
theorem d_Reader_goOnInBrackets_1 : decode b_Reader_goOnInBrackets 1 = .ok (.tableswitch 64 5 13 #[51, 51, 51, 64, 64, 64, 64, 64, 59], 51) := by decide +kernel
theorem d_Reader_goOnInBrackets_52 : decode b_Reader_goOnInBrackets 52 = .ok (.aload_n 0, 1) := by decide +kernel
theorem d_Reader_goOnInBrackets_53 : decode b_Reader_goOnInBrackets 53 = .ok (.iload_n 1, 1) := by decide +kernel
theorem d_Reader_goOnInBrackets_54 : decode b_Reader_goOnInBrackets 54 = .ok (.bipush 9, 2) := by decide +kernel
theorem d_Reader_goOnInBrackets_56 : decode b_Reader_goOnInBrackets 56 = .ok (.invokevirtual 182, 3) := by decide +kernel
theorem d_Reader_goOnInBrackets_59 : decode b_Reader_goOnInBrackets 59 = .ok (.ireturn, 1) := by decide +kernel
theorem d_Reader_goOnInBrackets_60 : decode b_Reader_goOnInBrackets 60 = .ok (.aload_n 0, 1) := by decide +kernel
theorem d_Reader_goOnInBrackets_61 : decode b_Reader_goOnInBrackets 61 = .ok (.invokevirtual 185, 3) := by decide +kernel
theorem d_Reader_goOnInBrackets_64 : decode b_Reader_goOnInBrackets 64 = .ok (.ireturn, 1) := by decide +kernel
theorem d_Reader_goOnInBrackets_65 : decode b_Reader_goOnInBrackets 65 = .ok (.iconst (-1), 1) := by decide +kernel
theorem d_Reader_goOnInBrackets_66 : decode b_Reader_goOnInBrackets 66 = .ok (.ireturn, 1) := by decide +kernel
set_option maxHeartbeats 4000000 in
set_option maxRecDepth 100000 in
theorem c_Reader_goOnInBrackets (l : Launch) {S : St} {x1 : Int32} {S' : St} {r : Int32} (h : f_Reader_goOnInBrackets S x1 = some (r, S')) : MI cw l y_Reader_goOnInBrackets b_Reader_goOnInBrackets 2 (some .int) 3 67 0 0 (fun ad => [.ref (ad 1 0), .int x1]) aT aE S r S' := by
  refine MI_of "LawfulLots$Reader" rfl (by decide) (fun _ => Nat.le_of_ble_eq_true rfl) ?_
  intro p e s m args below meth c D ar ad A Q ls hP F hK hA hw hl hQ
  have hl : lv_has ls 2 [(0, .ref (ad 1 0)), (1, .int x1)] := hl
  obtain ⟨X_0, eX_0⟩ : ∃ X : (Int32 × St) → Prop, X = (fun q => ∀ (H : Heap) (locs : List Loc) (pc : Nat) (ls : Array Slot), decode b_Reader_goOnInBrackets pc = .ok (.ireturn, 1) → Bw cw D ar A s.heap H locs ad q.2 → W p l e (RM 3 67) s m args below meth c H locs 0 0 Q (F0 m pc ls [.int q.1])) := ⟨_, rfl⟩
  have key : ∀ (H : Heap) (locs : List Loc), Bw cw D ar A s.heap H locs ad S → ∀ o, f_Reader_goOnInBrackets S x1 = some o → X_0 o → W p l e (RM 3 67) s m args below meth c H locs 0 0 Q (F0 m 0 ls []) := by
    intro H locs hw o h ho
    unfold f_Reader_goOnInBrackets at h
    have J_65 : ∀ (S : St) (H : Heap) (locs : List Loc) (ls : Array Slot), Bw cw D ar A s.heap H locs ad S → lv_has ls 2 [] → ∀ o, Reader_goOnInBrackets_j65 S = some o → X_0 o → W p l e (RM 3 67) s m args below meth c H locs 0 0 Q (F0 m 65 ls []) := by
      intro S H locs ls hw hl o h ho
      unfold Reader_goOnInBrackets_j65 at h
      refine lv_iconst (v := -1) F.1 F.2.1 d_Reader_goOnInBrackets_65 (by decide) ?_
      cases h
      have ho : X_0 _ := ho
      rw [eX_0] at ho
      exact ho H locs _ ls d_Reader_goOnInBrackets_66 hw
    have J_52 : ∀ (S : St) (H : Heap) (locs : List Loc) (ls : Array Slot), Bw cw D ar A s.heap H locs ad S → lv_has ls 2 [(0, .ref (ad 1 0)), (1, .int x1)] → ∀ o, Reader_goOnInBrackets_j52 S x1 = some o → X_0 o → W p l e (RM 3 67) s m args below meth c H locs 0 0 Q (F0 m 52 ls []) := by
      intro S H locs ls hw hl o h ho
      unfold Reader_goOnInBrackets_j52 at h
      refine lv_aload_n F.1 F.2.1 d_Reader_goOnInBrackets_52 rfl (lv_at hl 0 rfl) ?_
      refine lv_iload_n F.1 F.2.1 d_Reader_goOnInBrackets_53 rfl (lv_at hl 1 rfl) ?_
      refine lv_bipush (v := 9) F.1 F.2.1 d_Reader_goOnInBrackets_54 (by decide) ?_
      obtain ⟨v_14, S_15, hc_13, h⟩ := bd2_ex h
      refine cV_i F hA rfl hK hw (c_Reader_join l hc_13) trivial rfl (good_V lk_504 lk_506 ls_13 lk_2 lk_507) (cr_1 hK hw) hd_Reader_join ⟨Nat.le_of_ble_eq_true rfl, Nat.le_of_ble_eq_true rfl⟩ rfl hl.1 rfl (Nat.le_of_ble_eq_true rfl) d_Reader_goOnInBrackets_56 ⟨(Nat.zero_le _), (Nat.zero_le _)⟩ (fun H locs hw => ?_)
      cases h
      have ho : X_0 _ := ho
      rw [eX_0] at ho
      exact ho H locs _ ls d_Reader_goOnInBrackets_59 hw
    refine lv_iload_n F.1 F.2.1 d_Reader_goOnInBrackets_0 rfl (lv_at hl 1 rfl) ?_
    rcases Decidable.em (x1 = (5 : Int32)) with c_1 | c_1
    · replace h := ip c_1 h
      refine lv_tableIn (off := 51) (tgt := 52) F.1 F.2.1 d_Reader_goOnInBrackets_1 (by rw [c_1]; decide) (by rw [c_1]; decide) (by rw [c_1]; decide) (by decide) ?_
      exact J_52 S H locs ls hw (lv_sub hl [0, 1] rfl) o h ho
    replace h := iq c_1 h
    rcases Decidable.em (x1 = (6 : Int32)) with c_2 | c_2
    · replace h := ip c_2 h
      refine lv_tableIn (off := 51) (tgt := 52) F.1 F.2.1 d_Reader_goOnInBrackets_1 (by rw [c_2]; decide) (by rw [c_2]; decide) (by rw [c_2]; decide) (by decide) ?_
      exact J_52 S H locs ls hw (lv_sub hl [0, 1] rfl) o h ho
    replace h := iq c_2 h
    rcases Decidable.em (x1 = (7 : Int32)) with c_3 | c_3
    · replace h := ip c_3 h
      refine lv_tableIn (off := 51) (tgt := 52) F.1 F.2.1 d_Reader_goOnInBrackets_1 (by rw [c_3]; decide) (by rw [c_3]; decide) (by rw [c_3]; decide) (by decide) ?_
      exact J_52 S H locs ls hw (lv_sub hl [0, 1] rfl) o h ho
    replace h := iq c_3 h
    rcases Decidable.em (x1 = (8 : Int32)) with c_4 | c_4
    · replace h := ip c_4 h
      refine lv_tableIn (off := 64) (tgt := 65) F.1 F.2.1 d_Reader_goOnInBrackets_1 (by rw [c_4]; decide) (by rw [c_4]; decide) (by rw [c_4]; decide) (by decide) ?_
      exact J_65 S H locs ls hw (lv_sub hl [] rfl) o h ho
    replace h := iq c_4 h
    rcases Decidable.em (x1 = (9 : Int32)) with c_5 | c_5
    · replace h := ip c_5 h
      refine lv_tableIn (off := 64) (tgt := 65) F.1 F.2.1 d_Reader_goOnInBrackets_1 (by rw [c_5]; decide) (by rw [c_5]; decide) (by rw [c_5]; decide) (by decide) ?_
      exact J_65 S H locs ls hw (lv_sub hl [] rfl) o h ho
    replace h := iq c_5 h
    rcases Decidable.em (x1 = (10 : Int32)) with c_6 | c_6
    · replace h := ip c_6 h
      refine lv_tableIn (off := 64) (tgt := 65) F.1 F.2.1 d_Reader_goOnInBrackets_1 (by rw [c_6]; decide) (by rw [c_6]; decide) (by rw [c_6]; decide) (by decide) ?_
      exact J_65 S H locs ls hw (lv_sub hl [] rfl) o h ho
    replace h := iq c_6 h
    rcases Decidable.em (x1 = (11 : Int32)) with c_7 | c_7
    · replace h := ip c_7 h
      refine lv_tableIn (off := 64) (tgt := 65) F.1 F.2.1 d_Reader_goOnInBrackets_1 (by rw [c_7]; decide) (by rw [c_7]; decide) (by rw [c_7]; decide) (by decide) ?_
      exact J_65 S H locs ls hw (lv_sub hl [] rfl) o h ho
    replace h := iq c_7 h
    rcases Decidable.em (x1 = (12 : Int32)) with c_8 | c_8
    · replace h := ip c_8 h
      refine lv_tableIn (off := 64) (tgt := 65) F.1 F.2.1 d_Reader_goOnInBrackets_1 (by rw [c_8]; decide) (by rw [c_8]; decide) (by rw [c_8]; decide) (by decide) ?_
      exact J_65 S H locs ls hw (lv_sub hl [] rfl) o h ho
    replace h := iq c_8 h
    rcases Decidable.em (x1 = (13 : Int32)) with c_9 | c_9
    · replace h := ip c_9 h
      refine lv_tableIn (off := 59) (tgt := 60) F.1 F.2.1 d_Reader_goOnInBrackets_1 (by rw [c_9]; decide) (by rw [c_9]; decide) (by rw [c_9]; decide) (by decide) ?_
      refine lv_aload_n F.1 F.2.1 d_Reader_goOnInBrackets_60 rfl (lv_at hl 0 rfl) ?_
      obtain ⟨v_11, S_12, hc_10, h⟩ := bd2_ex h
      refine cV_i F hA rfl hK hw (c_Reader_closeBracket l hc_10) trivial rfl (good_V lk_523 lk_525 ls_17 lk_2 lk_526) (cr_1 hK hw) hd_Reader_closeBracket ⟨Nat.le_of_ble_eq_true rfl, Nat.le_of_ble_eq_true rfl⟩ rfl hl.1 rfl (Nat.le_of_ble_eq_true rfl) d_Reader_goOnInBrackets_61 ⟨(Nat.zero_le _), (Nat.zero_le _)⟩ (fun H locs hw => ?_)
      cases h
      have ho : X_0 _ := ho
      rw [eX_0] at ho
      exact ho H locs _ ls d_Reader_goOnInBrackets_64 hw
    replace h := iq c_9 h
    have zc_1 := lv_neT (a := 5) c_1 rfl
    have zc_2 := lv_neT (a := 6) c_2 rfl
    have zc_3 := lv_neT (a := 7) c_3 rfl
    have zc_4 := lv_neT (a := 8) c_4 rfl
    have zc_5 := lv_neT (a := 9) c_5 rfl
    have zc_6 := lv_neT (a := 10) c_6 rfl
    have zc_7 := lv_neT (a := 11) c_7 rfl
    have zc_8 := lv_neT (a := 12) c_8 rfl
    have zc_9 := lv_neT (a := 13) c_9 rfl
    refine lv_tableOut (tgt := 65) F.1 F.2.1 d_Reader_goOnInBrackets_1 (by omega) (by decide) ?_
    exact J_65 S H locs ls hw (lv_sub hl [] rfl) o h ho
  exact key _ _ hw _ h (by rw [eX_0]; exact fun H locs pc ls hd hw => hQ H locs pc ls ad rfl hd hw)
theorem d_Reader_turnLiteral_0 : decode b_Reader_turnLiteral 0 = .ok (.aload_n 0, 1) := by decide +kernel
theorem d_Reader_turnLiteral_1 : decode b_Reader_turnLiteral 1 = .ok (.invokevirtual 174, 3) := by decide +kernel
theorem d_Reader_turnLiteral_4 : decode b_Reader_turnLiteral 4 = .ok (.bipush 25, 2) := by decide +kernel
theorem d_Reader_turnLiteral_6 : decode b_Reader_turnLiteral 6 = .ok (.if_icmp .ne 16, 3) := by decide +kernel
theorem d_Reader_turnLiteral_9 : decode b_Reader_turnLiteral 9 = .ok (.aload_n 0, 1) := by decide +kernel
theorem d_Reader_turnLiteral_10 : decode b_Reader_turnLiteral 10 = .ok (.dup, 1) := by decide +kernel
theorem d_Reader_turnLiteral_11 : decode b_Reader_turnLiteral 11 = .ok (.getfield 54, 3) := by decide +kernel
theorem d_Reader_turnLiteral_14 : decode b_Reader_turnLiteral 14 = .ok (.iconst 1, 1) := by decide +kernel
theorem d_Reader_turnLiteral_15 : decode b_Reader_turnLiteral 15 = .ok (.isub, 1) := by decide +kernel
theorem d_Reader_turnLiteral_16 : decode b_Reader_turnLiteral 16 = .ok (.putfield 54, 3) := by decide +kernel
theorem d_Reader_turnLiteral_19 : decode b_Reader_turnLiteral 19 = .ok (.goto 9, 3) := by decide +kernel
theorem d_Reader_turnLiteral_22 : decode b_Reader_turnLiteral 22 = .ok (.aload_n 0, 1) := by decide +kernel
theorem d_Reader_turnLiteral_23 : decode b_Reader_turnLiteral 23 = .ok (.bipush 25, 2) := by decide +kernel
theorem d_Reader_turnLiteral_25 : decode b_Reader_turnLiteral 25 = .ok (.invokevirtual 171, 3) := by decide +kernel
theorem d_Reader_turnLiteral_28 : decode b_Reader_turnLiteral 28 = .ok (.bipush 8, 2) := by decide +kernel
theorem d_Reader_turnLiteral_30 : decode b_Reader_turnLiteral 30 = .ok (.ireturn, 1) := by decide +kernel
set_option maxHeartbeats 4000000 in
set_option maxRecDepth 100000 in
theorem c_Reader_turnLiteral (l : Launch) {S : St} {S' : St} {r : Int32} (h : f_Reader_turnLiteral S = some (r, S')) : MI cw l y_Reader_turnLiteral b_Reader_turnLiteral 1 (some .int) 1 21 0 0 (fun ad => [.ref (ad 1 0)]) aT aE S r S' := by
  refine MI_of "LawfulLots$Reader" rfl (by decide) (fun _ => Nat.le_of_ble_eq_true rfl) ?_
  intro p e s m args below meth c D ar ad A Q ls hP F hK hA hw hl hQ
  have hl : lv_has ls 1 [(0, .ref (ad 1 0))] := hl
  obtain ⟨X_0, eX_0⟩ : ∃ X : (Int32 × St) → Prop, X = (fun q => ∀ (H : Heap) (locs : List Loc) (pc : Nat) (ls : Array Slot), decode b_Reader_turnLiteral pc = .ok (.ireturn, 1) → Bw cw D ar A s.heap H locs ad q.2 → W p l e (RM 1 21) s m args below meth c H locs 0 0 Q (F0 m pc ls [.int q.1])) := ⟨_, rfl⟩
  have key : ∀ (H : Heap) (locs : List Loc), Bw cw D ar A s.heap H locs ad S → ∀ o, f_Reader_turnLiteral S = some o → X_0 o → W p l e (RM 1 21) s m args below meth c H locs 0 0 Q (F0 m 0 ls []) := by
    intro H locs hw o h ho
    unfold f_Reader_turnLiteral at h
    have J_28 : ∀ (S : St) (H : Heap) (locs : List Loc) (ls : Array Slot), Bw cw D ar A s.heap H locs ad S → lv_has ls 1 [] → ∀ o, Reader_turnLiteral_j28 S = some o → X_0 o → W p l e (RM 1 21) s m args below meth c H locs 0 0 Q (F0 m 28 ls []) := by
      intro S H locs ls hw hl o h ho
      unfold Reader_turnLiteral_j28 at h
      refine lv_bipush (v := 8) F.1 F.2.1 d_Reader_turnLiteral_28 (by decide) ?_
      cases h
      have ho : X_0 _ := ho
      rw [eX_0] at ho
      exact ho H locs _ ls d_Reader_turnLiteral_30 hw
    refine lv_aload_n F.1 F.2.1 d_Reader_turnLiteral_0 rfl (lv_at hl 0 rfl) ?_
    obtain ⟨v_2, hc_1, h⟩ := bd_ex h
    refine cV_i F hA rfl hK hw (c_Reader_lastWaiting l hc_1) trivial rfl (good_V lk_515 lk_517 ls_15 lk_2 lk_518) (cr_1 hK hw) hd_Reader_lastWaiting ⟨Nat.le_of_ble_eq_true rfl, Nat.le_of_ble_eq_true rfl⟩ rfl hl.1 rfl (Nat.le_of_ble_eq_true rfl) d_Reader_turnLiteral_1 ⟨(Nat.zero_le _), (Nat.zero_le _)⟩ (fun H locs hw => ?_)
    refine lv_bipush (v := 25) F.1 F.2.1 d_Reader_turnLiteral_4 (by decide) ?_
    refine lv_icmp_ne (tgt := 22) F.1 F.2.1 d_Reader_turnLiteral_6 (by decide) (fun c_3 => ?_) (fun c_3 => ?_)
    · replace h := iq c_3 h
      refine lv_aload_n F.1 F.2.1 d_Reader_turnLiteral_22 rfl (lv_at hl 0 rfl) ?_
      refine lv_bipush (v := 25) F.1 F.2.1 d_Reader_turnLiteral_23 (by decide) ?_
      obtain ⟨S_5, hc_4, h⟩ := bd_ex h
      refine cV_v F hA rfl hK hw (c_Reader_await l hc_4) trivial rfl (good_V lk_519 lk_521 ls_16 lk_2 lk_522) (cr_1 hK hw) hd_Reader_await ⟨Nat.le_of_ble_eq_true rfl, Nat.le_of_ble_eq_true rfl⟩ rfl hl.1 rfl (Nat.le_of_ble_eq_true rfl) d_Reader_turnLiteral_25 ⟨(Nat.zero_le _), (Nat.zero_le _)⟩ (fun H locs hw => ?_)
      exact J_28 S_5 H locs ls hw (lv_sub hl [] rfl) o h ho
    · replace h := ip c_3 h
      refine lv_aload_n F.1 F.2.1 d_Reader_turnLiteral_9 rfl (lv_at hl 0 rfl) ?_
      refine lv_dup F.1 F.2.1 d_Reader_turnLiteral_10 rfl ?_
      refine cg_1_11 F hK hw lk_132 d_Reader_turnLiteral_11 ?_
      refine lv_iconst (v := 1) F.1 F.2.1 d_Reader_turnLiteral_14 (by decide) ?_
      refine lv_isub F.1 F.2.1 d_Reader_turnLiteral_15 ?_
      obtain ⟨S_6, eS_6, h⟩ := nm_ex h
      refine cp_1_11 F hK hw lk_132 d_Reader_turnLiteral_16 eS_6 (fun H locs hw => ?_)
      refine lv_goto (tgt := 28) F.1 F.2.1 d_Reader_turnLiteral_19 (by decide) ?_
      exact J_28 S_6 H locs ls hw (lv_sub hl [] rfl) o h ho
  exact key _ _ hw _ h (by rw [eX_0]; exact fun H locs pc ls hd hw => hQ H locs pc ls ad rfl hd hw)
theorem d_Reader_goOnAtUnit_0 : decode b_Reader_goOnAtUnit 0 = .ok (.iload_n 1, 1) := by decide +kernel
theorem d_Reader_goOnAtUnit_1 : decode b_Reader_goOnAtUnit 1 = .ok (.lookupswitch 157 #[(2, 91), (3, 69), (12, 120), (25, 51), (26, 97)], 51) := by decide +kernel
theorem d_Reader_goOnAtUnit_52 : decode b_Reader_goOnAtUnit 52 = .ok (.aload_n 0, 1) := by decide +kernel
theorem d_Reader_goOnAtUnit_53 : decode b_Reader_goOnAtUnit 53 = .ok (.getfield 42, 3) := by decide +kernel
theorem d_Reader_goOnAtUnit_56 : decode b_Reader_goOnAtUnit 56 = .ok (.bipush 8, 2) := by decide +kernel
theorem d_Reader_goOnAtUnit_58 : decode b_Reader_goOnAtUnit 58 = .ok (.if_icmp .ne 10, 3) := by decide +kernel
theorem d_Reader_goOnAtUnit_61 : decode b_Reader_goOnAtUnit 61 = .ok (.aload_n 0, 1) := by decide +kernel
theorem d_Reader_goOnAtUnit_62 : decode b_Reader_goOnAtUnit 62 = .ok (.invokevirtual 164, 3) := by decide +kernel
theorem d_Reader_goOnAtUnit_65 : decode b_Reader_goOnAtUnit 65 = .ok (.goto 4, 3) := by decide +kernel
theorem d_Reader_goOnAtUnit_68 : decode b_Reader_goOnAtUnit 68 = .ok (.iconst (-1), 1) := by decide +kernel
theorem d_Reader_goOnAtUnit_69 : decode b_Reader_goOnAtUnit 69 = .ok (.ireturn, 1) := by decide +kernel
theorem d_Reader_goOnAtUnit_70 : decode b_Reader_goOnAtUnit 70 = .ok (.aload_n 0, 1) := by decide +kernel
theorem d_Reader_goOnAtUnit_71 : decode b_Reader_goOnAtUnit 71 = .ok (.getfield 25, 3) := by decide +kernel
theorem d_Reader_goOnAtUnit_74 : decode b_Reader_goOnAtUnit 74 = .ok (.aload_n 0, 1) := by decide +kernel
theorem d_Reader_goOnAtUnit_75 : decode b_Reader_goOnAtUnit 75 = .ok (.getfield 51, 3) := by decide +kernel
theorem d_Reader_goOnAtUnit_78 : decode b_Reader_goOnAtUnit 78 = .ok (.iconst 3, 1) := by decide +kernel
theorem d_Reader_goOnAtUnit_79 : decode b_Reader_goOnAtUnit 79 = .ok (.aload_n 0, 1) := by decide +kernel
theorem d_Reader_goOnAtUnit_80 : decode b_Reader_goOnAtUnit 80 = .ok (.getfield 12, 3) := by decide +kernel
theorem d_Reader_goOnAtUnit_83 : decode b_Reader_goOnAtUnit 83 = .ok (.getfield 107, 3) := by decide +kernel
theorem d_Reader_goOnAtUnit_86 : decode b_Reader_goOnAtUnit 86 = .ok (.invokevirtual 167, 3) := by decide +kernel
theorem d_Reader_goOnAtUnit_89 : decode b_Reader_goOnAtUnit 89 = .ok (.bipush 11, 2) := by decide +kernel
theorem d_Reader_goOnAtUnit_91 : decode b_Reader_goOnAtUnit 91 = .ok (.ireturn, 1) := by decide +kernel
theorem d_Reader_goOnAtUnit_92 : decode b_Reader_goOnAtUnit 92 = .ok (.aload_n 0, 1) := by decide +kernel
theorem d_Reader_goOnAtUnit_93 : decode b_Reader_goOnAtUnit 93 = .ok (.iconst 2, 1) := by decide +kernel
theorem d_Reader_goOnAtUnit_94 : decode b_Reader_goOnAtUnit 94 = .ok (.invokevirtual 117, 3) := by decide +kernel
theorem d_Reader_goOnAtUnit_97 : decode b_Reader_goOnAtUnit 97 = .ok (.ireturn, 1) := by decide +kernel
theorem d_Reader_goOnAtUnit_98 : decode b_Reader_goOnAtUnit 98 = .ok (.aload_n 0, 1) := by decide +kernel
theorem d_Reader_goOnAtUnit_99 : decode b_Reader_goOnAtUnit 99 = .ok (.getfield 48, 3) := by decide +kernel
theorem d_Reader_goOnAtUnit_102 : decode b_Reader_goOnAtUnit 102 = .ok (.iconst 3, 1) := by decide +kernel
theorem d_Reader_goOnAtUnit_103 : decode b_Reader_goOnAtUnit 103 = .ok (.if_icmp .eq 15, 3) := by decide +kernel
theorem d_Reader_goOnAtUnit_106 : decode b_Reader_goOnAtUnit 106 = .ok (.aload_n 0, 1) := by decide +kernel
theorem d_Reader_goOnAtUnit_107 : decode b_Reader_goOnAtUnit 107 = .ok (.iconst 5, 1) := by decide +kernel
theorem d_Reader_goOnAtUnit_108 : decode b_Reader_goOnAtUnit 108 = .ok (.aload_n 0, 1) := by decide +kernel
theorem d_Reader_goOnAtUnit_109 : decode b_Reader_goOnAtUnit 109 = .ok (.getfield 12, 3) := by decide +kernel
theorem d_Reader_goOnAtUnit_112 : decode b_Reader_goOnAtUnit 112 = .ok (.getfield 98, 3) := by decide +kernel
theorem d_Reader_goOnAtUnit_115 : decode b_Reader_goOnAtUnit 115 = .ok (.invokevirtual 149, 3) := by decide +kernel
theorem d_Reader_goOnAtUnit_118 : decode b_Reader_goOnAtUnit 118 = .ok (.bipush 10, 2) := by decide +kernel
theorem d_Reader_goOnAtUnit_120 : decode b_Reader_goOnAtUnit 120 = .ok (.ireturn, 1) := by decide +kernel
theorem d_Reader_goOnAtUnit_121 : decode b_Reader_goOnAtUnit 121 = .ok (.aload_n 0, 1) := by decide +kernel
theorem d_Reader_goOnAtUnit_122 : decode b_Reader_goOnAtUnit 122 = .ok (.aload_n 0, 1) := by decide +kernel
theorem d_Reader_goOnAtUnit_123 : decode b_Reader_goOnAtUnit 123 = .ok (.getfield 57, 3) := by decide +kernel
theorem d_Reader_goOnAtUnit_126 : decode b_Reader_goOnAtUnit 126 = .ok (.bipush 6, 2) := by decide +kernel
theorem d_Reader_goOnAtUnit_128 : decode b_Reader_goOnAtUnit 128 = .ok (.if_icmp .lt 7, 3) := by decide +kernel
theorem d_Reader_goOnAtUnit_131 : decode b_Reader_goOnAtUnit 131 = .ok (.iconst 1, 1) := by decide +kernel
theorem d_Reader_goOnAtUnit_132 : decode b_Reader_goOnAtUnit 132 = .ok (.goto 4, 3) := by decide +kernel
theorem d_Reader_goOnAtUnit_135 : decode b_Reader_goOnAtUnit 135 = .ok (.iconst 0, 1) := by decide +kernel
theorem d_Reader_goOnAtUnit_136 : decode b_Reader_goOnAtUnit 136 = .ok (.putfield 60, 3) := by decide +kernel
theorem d_Reader_goOnAtUnit_139 : decode b_Reader_goOnAtUnit 139 = .ok (.aload_n 0, 1) := by decide +kernel
theorem d_Reader_goOnAtUnit_140 : decode b_Reader_goOnAtUnit 140 = .ok (.dup, 1) := by decide +kernel
theorem d_Reader_goOnAtUnit_141 : decode b_Reader_goOnAtUnit 141 = .ok (.getfield 57, 3) := by decide +kernel
theorem d_Reader_goOnAtUnit_144 : decode b_Reader_goOnAtUnit 144 = .ok (.iconst 1, 1) := by decide +kernel
theorem d_Reader_goOnAtUnit_145 : decode b_Reader_goOnAtUnit 145 = .ok (.iadd, 1) := by decide +kernel
theorem d_Reader_goOnAtUnit_146 : decode b_Reader_goOnAtUnit 146 = .ok (.putfield 57, 3) := by decide +kernel
theorem d_Reader_goOnAtUnit_149 : decode b_Reader_goOnAtUnit 149 = .ok (.aload_n 0, 1) := by decide +kernel
theorem d_Reader_goOnAtUnit_150 : decode b_Reader_goOnAtUnit 150 = .ok (.bipush 12, 2) := by decide +kernel
theorem d_Reader_goOnAtUnit_152 : decode b_Reader_goOnAtUnit 152 = .ok (.invokevirtual 171, 3) := by decide +kernel
theorem d_Reader_goOnAtUnit_155 : decode b_Reader_goOnAtUnit 155 = .ok (.bipush 9, 2) := by decide +kernel
theorem d_Reader_goOnAtUnit_157 : decode b_Reader_goOnAtUnit 157 = .ok (.ireturn, 1) := by decide +kernel
theorem d_Reader_goOnAtUnit_158 : decode b_Reader_goOnAtUnit 158 = .ok (.iconst (-1), 1) := by decide +kernel
theorem d_Reader_goOnAtUnit_159 : decode b_Reader_goOnAtUnit 159 = .ok (.ireturn, 1) := by decide +kernel
set_option maxHeartbeats 4000000 in
set_option maxRecDepth 100000 in
theorem c_Reader_goOnAtUnit (l : Launch) {S : St} {x1 : Int32} {S' : St} {r : Int32} (h : f_Reader_goOnAtUnit S x1 = some (r, S')) : MI cw l y_Reader_goOnAtUnit b_Reader_goOnAtUnit 2 (some .int) 2 45 0 0 (fun ad => [.ref (ad 1 0), .int x1]) aT aE S r S' := by
  refine MI_of "LawfulLots$Reader" rfl (by decide) (fun _ => Nat.le_of_ble_eq_true rfl) ?_
  intro p e s m args below meth c D ar ad A Q ls hP F hK hA hw hl hQ
  have hl : lv_has ls 2 [(0, .ref (ad 1 0)), (1, .int x1)] := hl
  obtain ⟨X_0, eX_0⟩ : ∃ X : (Int32 × St) → Prop, X = (fun q => ∀ (H : Heap) (locs : List Loc) (pc : Nat) (ls : Array Slot), decode b_Reader_goOnAtUnit pc = .ok (.ireturn, 1) → Bw cw D ar A s.heap H locs ad q.2 → W p l e (RM 2 45) s m args below meth c H locs 0 0 Q (F0 m pc ls [.int q.1])) := ⟨_, rfl⟩
  have key : ∀ (H : Heap) (locs : List Loc), Bw cw D ar A s.heap H locs ad S → ∀ o, f_Reader_goOnAtUnit S x1 = some o → X_0 o → W p l e (RM 2 45) s m args below meth c H locs 0 0 Q (F0 m 0 ls []) := by
    intro H locs hw o h ho
    unfold f_Reader_goOnAtUnit at h
    have J_136 : ∀ (S : St) (t1 : Int32) (H : Heap) (locs : List Loc) (ls : Array Slot), Bw cw D ar A s.heap H locs ad S → lv_has ls 2 [(0, .ref (ad 1 0))] → ∀ o, Reader_goOnAtUnit_j136 S t1 = some o → X_0 o → W p l e (RM 2 45) s m args below meth c H locs 0 0 Q (F0 m 136 ls [.int t1, .ref (ad 1 0)]) := by
      intro S t1 H locs ls hw hl o h ho
      unfold Reader_goOnAtUnit_j136 at h
      obtain ⟨hb_19, h⟩ := gd_ex h
      obtain ⟨S_20, eS_20, h⟩ := nm_ex h
      refine cp_1_13 F hK hw hb_19 lk_134 d_Reader_goOnAtUnit_136 eS_20 (fun H locs hw => ?_)
      refine lv_aload_n F.1 F.2.1 d_Reader_goOnAtUnit_139 rfl (lv_at hl 0 rfl) ?_
      refine lv_dup F.1 F.2.1 d_Reader_goOnAtUnit_140 rfl ?_
      refine cg_1_12 F hK hw lk_133 d_Reader_goOnAtUnit_141 ?_
      refine lv_iconst (v := 1) F.1 F.2.1 d_Reader_goOnAtUnit_144 (by decide) ?_
      refine lv_iadd F.1 F.2.1 d_Reader_goOnAtUnit_145 ?_
      obtain ⟨S_21, eS_21, h⟩ := nm_ex h
      refine cp_1_12 F hK hw lk_133 d_Reader_goOnAtUnit_146 eS_21 (fun H locs hw => ?_)
      refine lv_aload_n F.1 F.2.1 d_Reader_goOnAtUnit_149 rfl (lv_at hl 0 rfl) ?_
      refine lv_bipush (v := 12) F.1 F.2.1 d_Reader_goOnAtUnit_150 (by decide) ?_
      obtain ⟨S_23, hc_22, h⟩ := bd_ex h
      refine cV_v F hA rfl hK hw (c_Reader_await l hc_22) trivial rfl (good_V lk_519 lk_521 ls_16 lk_2 lk_522) (cr_1 hK hw) hd_Reader_await ⟨Nat.le_of_ble_eq_true rfl, Nat.le_of_ble_eq_true rfl⟩ rfl hl.1 rfl (Nat.le_of_ble_eq_true rfl) d_Reader_goOnAtUnit_152 ⟨(Nat.zero_le _), (Nat.zero_le _)⟩ (fun H locs hw => ?_)
      refine lv_bipush (v := 9) F.1 F.2.1 d_Reader_goOnAtUnit_155 (by decide) ?_
      cases h
      have ho : X_0 _ := ho
      rw [eX_0] at ho
      exact ho H locs _ ls d_Reader_goOnAtUnit_157 hw
    have J_118 : ∀ (S : St) (H : Heap) (locs : List Loc) (ls : Array Slot), Bw cw D ar A s.heap H locs ad S → lv_has ls 2 [] → ∀ o, Reader_goOnAtUnit_j118 S = some o → X_0 o → W p l e (RM 2 45) s m args below meth c H locs 0 0 Q (F0 m 118 ls []) := by
      intro S H locs ls hw hl o h ho
      unfold Reader_goOnAtUnit_j118 at h
      refine lv_bipush (v := 10) F.1 F.2.1 d_Reader_goOnAtUnit_118 (by decide) ?_
      cases h
      have ho : X_0 _ := ho
      rw [eX_0] at ho
      exact ho H locs _ ls d_Reader_goOnAtUnit_120 hw
    have J_69 : ∀ (S : St) (t0 : Int32) (H : Heap) (locs : List Loc) (ls : Array Slot), Bw cw D ar A s.heap H locs ad S → lv_has ls 2 [] → ∀ o, Reader_goOnAtUnit_j69 S t0 = some o → X_0 o → W p l e (RM 2 45) s m args below meth c H locs 0 0 Q (F0 m 69 ls [.int t0]) := by
      intro S t0 H locs ls hw hl o h ho
      unfold Reader_goOnAtUnit_j69 at h
      cases h
      have ho : X_0 _ := ho
      rw [eX_0] at ho
      exact ho H locs _ ls d_Reader_goOnAtUnit_69 hw
    refine lv_iload_n F.1 F.2.1 d_Reader_goOnAtUnit_0 rfl (lv_at hl 1 rfl) ?_
    rcases Decidable.em (x1 = (2 : Int32)) with c_1 | c_1
    · replace h := ip c_1 h
      refine lv_lookup (off := 91) (tgt := 92) F.1 F.2.1 d_Reader_goOnAtUnit_1 (by decide) (by rw [c_1]; decide) (by decide) ?_
      refine lv_aload_n F.1 F.2.1 d_Reader_goOnAtUnit_92 rfl (lv_at hl 0 rfl) ?_
      refine lv_iconst (v := 2) F.1 F.2.1 d_Reader_goOnAtUnit_93 (by decide) ?_
      obtain ⟨v_3, S_4, hc_2, h⟩ := bd2_ex h
      refine cV_i F hA rfl hK hw (c_Reader_nameInCode l hc_2) trivial rfl (good_V lk_491 lk_493 ls_11 lk_2 lk_494) (cr_1 hK hw) hd_Reader_nameInCode ⟨Nat.le_of_ble_eq_true rfl, Nat.le_of_ble_eq_true rfl⟩ rfl hl.1 rfl (Nat.le_of_ble_eq_true rfl) d_Reader_goOnAtUnit_94 ⟨(Nat.zero_le _), (Nat.zero_le _)⟩ (fun H locs hw => ?_)
      cases h
      have ho : X_0 _ := ho
      rw [eX_0] at ho
      exact ho H locs _ ls d_Reader_goOnAtUnit_97 hw
    replace h := iq c_1 h
    rcases Decidable.em (x1 = (3 : Int32)) with c_5 | c_5
    · replace h := ip c_5 h
      refine lv_lookup (off := 69) (tgt := 70) F.1 F.2.1 d_Reader_goOnAtUnit_1 (by decide) (by rw [c_5]; decide) (by decide) ?_
      refine lv_aload_n F.1 F.2.1 d_Reader_goOnAtUnit_70 rfl (lv_at hl 0 rfl) ?_
      refine cg_1_2 F hK hw lk_121 d_Reader_goOnAtUnit_71 ?_
      refine lv_aload_n F.1 F.2.1 d_Reader_goOnAtUnit_74 rfl (lv_at hl 0 rfl) ?_
      refine cg_1_10 F hK hw lk_131 d_Reader_goOnAtUnit_75 ?_
      refine lv_iconst (v := 3) F.1 F.2.1 d_Reader_goOnAtUnit_78 (by decide) ?_
      refine lv_aload_n F.1 F.2.1 d_Reader_goOnAtUnit_79 rfl (lv_at hl 0 rfl) ?_
      refine cg_1_0 F hK hw lk_119 d_Reader_goOnAtUnit_80 ?_
      refine cg_2_5 F hK hw lk_42 d_Reader_goOnAtUnit_83 ?_
      obtain ⟨S_7, hc_6, h⟩ := bd_ex h
      refine cV_v F hA rfl hK hw (c_Book_emit l hc_6) trivial rfl (good_V lk_496 lk_497 lk_498 lk_4 lk_499) (cr_3 hK hw) hd_Book_emit ⟨Nat.le_of_ble_eq_true rfl, Nat.le_of_ble_eq_true rfl⟩ rfl hl.1 rfl (Nat.le_of_ble_eq_true rfl) d_Reader_goOnAtUnit_86 ⟨(Nat.zero_le _), (Nat.zero_le _)⟩ (fun H locs hw => ?_)
      refine lv_bipush (v := 11) F.1 F.2.1 d_Reader_goOnAtUnit_89 (by decide) ?_
      cases h
      have ho : X_0 _ := ho
      rw [eX_0] at ho
      exact ho H locs _ ls d_Reader_goOnAtUnit_91 hw
    replace h := iq c_5 h
    rcases Decidable.em (x1 = (12 : Int32)) with c_8 | c_8
    · replace h := ip c_8 h
      refine lv_lookup (off := 120) (tgt := 121) F.1 F.2.1 d_Reader_goOnAtUnit_1 (by decide) (by rw [c_8]; decide) (by decide) ?_
      refine lv_aload_n F.1 F.2.1 d_Reader_goOnAtUnit_121 rfl (lv_at hl 0 rfl) ?_
      refine lv_aload_n F.1 F.2.1 d_Reader_goOnAtUnit_122 rfl (lv_at hl 0 rfl) ?_
      refine cg_1_12 F hK hw lk_133 d_Reader_goOnAtUnit_123 ?_
      refine lv_bipush (v := 6) F.1 F.2.1 d_Reader_goOnAtUnit_126 (by decide) ?_
      refine lv_icmp_lt (tgt := 135) F.1 F.2.1 d_Reader_goOnAtUnit_128 (by decide) (fun c_9 => ?_) (fun c_9 => ?_)
      · replace h := ip c_9 h
        refine lv_iconst (v := 0) F.1 F.2.1 d_Reader_goOnAtUnit_135 (by decide) ?_
        exact J_136 S (0 : Int32) H locs ls hw (lv_sub hl [0] rfl) o h ho
      · replace h := iq c_9 h
        refine lv_iconst (v := 1) F.1 F.2.1 d_Reader_goOnAtUnit_131 (by decide) ?_
        refine lv_goto (tgt := 136) F.1 F.2.1 d_Reader_goOnAtUnit_132 (by decide) ?_
        exact J_136 S (1 : Int32) H locs ls hw (lv_sub hl [0] rfl) o h ho
    replace h := iq c_8 h
    rcases Decidable.em (x1 = (25 : Int32)) with c_10 | c_10
    · replace h := ip c_10 h
      refine lv_lookup (off := 51) (tgt := 52) F.1 F.2.1 d_Reader_goOnAtUnit_1 (by decide) (by rw [c_10]; decide) (by decide) ?_
      refine lv_aload_n F.1 F.2.1 d_Reader_goOnAtUnit_52 rfl (lv_at hl 0 rfl) ?_
      refine cg_1_7 F hK hw lk_128 d_Reader_goOnAtUnit_53 ?_
      refine lv_bipush (v := 8) F.1 F.2.1 d_Reader_goOnAtUnit_56 (by decide) ?_
      refine lv_icmp_ne (tgt := 68) F.1 F.2.1 d_Reader_goOnAtUnit_58 (by decide) (fun c_11 => ?_) (fun c_11 => ?_)
      · replace h := iq c_11 h
        refine lv_iconst (v := -1) F.1 F.2.1 d_Reader_goOnAtUnit_68 (by decide) ?_
        exact J_69 S (-1 : Int32) H locs ls hw (lv_sub hl [] rfl) o h ho
      · replace h := ip c_11 h
        refine lv_aload_n F.1 F.2.1 d_Reader_goOnAtUnit_61 rfl (lv_at hl 0 rfl) ?_
        obtain ⟨v_13, S_14, hc_12, h⟩ := bd2_ex h
        refine cV_i F hA rfl hK hw (c_Reader_turnLiteral l hc_12) trivial rfl (good_V lk_539 lk_541 ls_21 lk_2 lk_542) (cr_1 hK hw) hd_Reader_turnLiteral ⟨Nat.le_of_ble_eq_true rfl, Nat.le_of_ble_eq_true rfl⟩ rfl hl.1 rfl (Nat.le_of_ble_eq_true rfl) d_Reader_goOnAtUnit_62 ⟨(Nat.zero_le _), (Nat.zero_le _)⟩ (fun H locs hw => ?_)
        refine lv_goto (tgt := 69) F.1 F.2.1 d_Reader_goOnAtUnit_65 (by decide) ?_
        exact J_69 S_14 v_13 H locs ls hw (lv_sub hl [] rfl) o h ho
    replace h := iq c_10 h
    rcases Decidable.em (x1 = (26 : Int32)) with c_15 | c_15
    · replace h := ip c_15 h
      refine lv_lookup (off := 97) (tgt := 98) F.1 F.2.1 d_Reader_goOnAtUnit_1 (by decide) (by rw [c_15]; decide) (by decide) ?_
      refine lv_aload_n F.1 F.2.1 d_Reader_goOnAtUnit_98 rfl (lv_at hl 0 rfl) ?_
      refine cg_1_9 F hK hw lk_130 d_Reader_goOnAtUnit_99 ?_
      refine lv_iconst (v := 3) F.1 F.2.1 d_Reader_goOnAtUnit_102 (by decide) ?_
      refine lv_icmp_eq (tgt := 118) F.1 F.2.1 d_Reader_goOnAtUnit_103 (by decide) (fun c_16 => ?_) (fun c_16 => ?_)
      · replace h := ip c_16 h
        exact J_118 S H locs ls hw (lv_sub hl [] rfl) o h ho
      · replace h := iq c_16 h
        refine lv_aload_n F.1 F.2.1 d_Reader_goOnAtUnit_106 rfl (lv_at hl 0 rfl) ?_
        refine lv_iconst (v := 5) F.1 F.2.1 d_Reader_goOnAtUnit_107 (by decide) ?_
        refine lv_aload_n F.1 F.2.1 d_Reader_goOnAtUnit_108 rfl (lv_at hl 0 rfl) ?_
        refine cg_1_0 F hK hw lk_119 d_Reader_goOnAtUnit_109 ?_
        refine cg_2_4 F hK hw lk_40 d_Reader_goOnAtUnit_112 ?_
        obtain ⟨S_18, hc_17, h⟩ := bd_ex h
        refine cV_v F hA rfl hK hw (c_Reader_blame l hc_17) trivial rfl (good_V lk_471 lk_473 ls_9 lk_2 lk_474) (cr_1 hK hw) hd_Reader_blame ⟨Nat.le_of_ble_eq_true rfl, Nat.le_of_ble_eq_true rfl⟩ rfl hl.1 rfl (Nat.le_of_ble_eq_true rfl) d_Reader_goOnAtUnit_115 ⟨(Nat.zero_le _), (Nat.zero_le _)⟩ (fun H locs hw => ?_)
        exact J_118 S_18 H locs ls hw (lv_sub hl [] rfl) o h ho
    replace h := iq c_15 h
    refine lv_lookup (off := 157) (tgt := 158) F.1 F.2.1 d_Reader_goOnAtUnit_1 (by decide) ((lv_osw (a := 2) c_1 rfl).trans ((lv_osw (a := 3) c_5 rfl).trans ((lv_osw (a := 12) c_8 rfl).trans ((lv_osw (a := 25) c_10 rfl).trans ((lv_osw (a := 26) c_15 rfl).trans (rfl)))))) (by decide) ?_
    refine lv_iconst (v := -1) F.1 F.2.1 d_Reader_goOnAtUnit_158 (by decide) ?_
    cases h
    have ho : X_0 _ := ho
    rw [eX_0] at ho
    exact ho H locs _ ls d_Reader_goOnAtUnit_159 hw
  exact key _ _ hw _ h (by rw [eX_0]; exact fun H locs pc ls hd hw => hQ H locs pc ls ad rfl hd hw)
theorem d_Reader_goOn_0 : decode b_Reader_goOn 0 = .ok (.aload_n 0, 1) := by decide +kernel
theorem d_Reader_goOn_1 : decode b_Reader_goOn 1 = .ok (.getfield 42, 3) := by decide +kernel
theorem d_Reader_goOn_4 : decode b_Reader_goOn 4 = .ok (.tableswitch 225 0 11 #[64, 70, 103, 115, 137, 149, 163, 174, 225, 225, 188, 204], 64) := by decide +kernel
theorem d_Reader_goOn_68 : decode b_Reader_goOn 68 = .ok (.aload_n 0, 1) := by decide +kernel
theorem d_Reader_goOn_69 : decode b_Reader_goOn 69 = .ok (.iload_n 1, 1) := by decide +kernel
theorem d_Reader_goOn_70 : decode b_Reader_goOn 70 = .ok (.invokevirtual 101, 3) := by decide +kernel
theorem d_Reader_goOn_73 : decode b_Reader_goOn 73 = .ok (.ireturn, 1) := by decide +kernel
theorem d_Reader_goOn_74 : decode b_Reader_goOn 74 = .ok (.aload_n 0, 1) := by decide +kernel
theorem d_Reader_goOn_75 : decode b_Reader_goOn 75 = .ok (.aload_n 0, 1) := by decide +kernel
theorem d_Reader_goOn_76 : decode b_Reader_goOn 76 = .ok (.getfield 12, 3) := by decide +kernel
theorem d_Reader_goOn_79 : decode b_Reader_goOn 79 = .ok (.getfield 104, 3) := by decide +kernel
theorem d_Reader_goOn_82 : decode b_Reader_goOn 82 = .ok (.putfield 64, 3) := by decide +kernel
theorem d_Reader_goOn_85 : decode b_Reader_goOn 85 = .ok (.aload_n 0, 1) := by decide +kernel
theorem d_Reader_goOn_86 : decode b_Reader_goOn 86 = .ok (.aload_n 0, 1) := by decide +kernel
theorem d_Reader_goOn_87 : decode b_Reader_goOn 87 = .ok (.getfield 12, 3) := by decide +kernel
theorem d_Reader_goOn_90 : decode b_Reader_goOn 90 = .ok (.getfield 98, 3) := by decide +kernel
theorem d_Reader_goOn_93 : decode b_Reader_goOn 93 = .ok (.putfield 68, 3) := by decide +kernel
theorem d_Reader_goOn_96 : decode b_Reader_goOn 96 = .ok (.iload_n 1, 1) := by decide +kernel
theorem d_Reader_goOn_97 : decode b_Reader_goOn 97 = .ok (.iconst 2, 1) := by decide +kernel
theorem d_Reader_goOn_98 : decode b_Reader_goOn 98 = .ok (.if_icmp .ne 7, 3) := by decide +kernel
theorem d_Reader_goOn_101 : decode b_Reader_goOn 101 = .ok (.iconst 2, 1) := by decide +kernel
theorem d_Reader_goOn_102 : decode b_Reader_goOn 102 = .ok (.goto 4, 3) := by decide +kernel
theorem d_Reader_goOn_105 : decode b_Reader_goOn 105 = .ok (.iconst (-1), 1) := by decide +kernel
theorem d_Reader_goOn_106 : decode b_Reader_goOn 106 = .ok (.ireturn, 1) := by decide +kernel
theorem d_Reader_goOn_107 : decode b_Reader_goOn 107 = .ok (.iload_n 1, 1) := by decide +kernel
theorem d_Reader_goOn_108 : decode b_Reader_goOn 108 = .ok (.bipush 15, 2) := by decide +kernel
theorem d_Reader_goOn_110 : decode b_Reader_goOn 110 = .ok (.if_icmp .ne 7, 3) := by decide +kernel
theorem d_Reader_goOn_113 : decode b_Reader_goOn 113 = .ok (.iconst 3, 1) := by decide +kernel
theorem d_Reader_goOn_114 : decode b_Reader_goOn 114 = .ok (.goto 4, 3) := by decide +kernel
theorem d_Reader_goOn_117 : decode b_Reader_goOn 117 = .ok (.iconst (-1), 1) := by decide +kernel
theorem d_Reader_goOn_118 : decode b_Reader_goOn 118 = .ok (.ireturn, 1) := by decide +kernel
theorem d_Reader_goOn_119 : decode b_Reader_goOn 119 = .ok (.aload_n 0, 1) := by decide +kernel
theorem d_Reader_goOn_120 : decode b_Reader_goOn 120 = .ok (.aload_n 0, 1) := by decide +kernel
theorem d_Reader_goOn_121 : decode b_Reader_goOn 121 = .ok (.getfield 12, 3) := by decide +kernel
theorem d_Reader_goOn_124 : decode b_Reader_goOn 124 = .ok (.getfield 107, 3) := by decide +kernel
theorem d_Reader_goOn_127 : decode b_Reader_goOn 127 = .ok (.putfield 71, 3) := by decide +kernel
theorem d_Reader_goOn_130 : decode b_Reader_goOn 130 = .ok (.iload_n 1, 1) := by decide +kernel
theorem d_Reader_goOn_131 : decode b_Reader_goOn 131 = .ok (.iconst 3, 1) := by decide +kernel
theorem d_Reader_goOn_132 : decode b_Reader_goOn 132 = .ok (.if_icmp .ne 7, 3) := by decide +kernel
theorem d_Reader_goOn_135 : decode b_Reader_goOn 135 = .ok (.iconst 4, 1) := by decide +kernel
theorem d_Reader_goOn_136 : decode b_Reader_goOn 136 = .ok (.goto 4, 3) := by decide +kernel
theorem d_Reader_goOn_139 : decode b_Reader_goOn 139 = .ok (.iconst (-1), 1) := by decide +kernel
theorem d_Reader_goOn_140 : decode b_Reader_goOn 140 = .ok (.ireturn, 1) := by decide +kernel
theorem d_Reader_goOn_141 : decode b_Reader_goOn 141 = .ok (.iload_n 1, 1) := by decide +kernel
theorem d_Reader_goOn_142 : decode b_Reader_goOn 142 = .ok (.bipush 16, 2) := by decide +kernel
theorem d_Reader_goOn_144 : decode b_Reader_goOn 144 = .ok (.if_icmp .ne 7, 3) := by decide +kernel
theorem d_Reader_goOn_147 : decode b_Reader_goOn 147 = .ok (.iconst 5, 1) := by decide +kernel
theorem d_Reader_goOn_148 : decode b_Reader_goOn 148 = .ok (.goto 4, 3) := by decide +kernel
theorem d_Reader_goOn_151 : decode b_Reader_goOn 151 = .ok (.iconst (-1), 1) := by decide +kernel
theorem d_Reader_goOn_152 : decode b_Reader_goOn 152 = .ok (.ireturn, 1) := by decide +kernel
theorem d_Reader_goOn_153 : decode b_Reader_goOn 153 = .ok (.iload_n 1, 1) := by decide +kernel
theorem d_Reader_goOn_154 : decode b_Reader_goOn 154 = .ok (.iconst 3, 1) := by decide +kernel
theorem d_Reader_goOn_155 : decode b_Reader_goOn 155 = .ok (.if_icmp .ne 10, 3) := by decide +kernel
theorem d_Reader_goOn_158 : decode b_Reader_goOn 158 = .ok (.aload_n 0, 1) := by decide +kernel
theorem d_Reader_goOn_159 : decode b_Reader_goOn 159 = .ok (.invokevirtual 110, 3) := by decide +kernel
theorem d_Reader_goOn_162 : decode b_Reader_goOn 162 = .ok (.goto 4, 3) := by decide +kernel
theorem d_Reader_goOn_165 : decode b_Reader_goOn 165 = .ok (.iconst (-1), 1) := by decide +kernel
theorem d_Reader_goOn_166 : decode b_Reader_goOn 166 = .ok (.ireturn, 1) := by decide +kernel
theorem d_Reader_goOn_167 : decode b_Reader_goOn 167 = .ok (.iload_n 1, 1) := by decide +kernel
theorem d_Reader_goOn_168 : decode b_Reader_goOn 168 = .ok (.iconst 4, 1) := by decide +kernel
theorem d_Reader_goOn_169 : decode b_Reader_goOn 169 = .ok (.if_icmp .ne 7, 3) := by decide +kernel
theorem d_Reader_goOn_172 : decode b_Reader_goOn 172 = .ok (.iconst 0, 1) := by decide +kernel
theorem d_Reader_goOn_173 : decode b_Reader_goOn 173 = .ok (.goto 4, 3) := by decide +kernel
theorem d_Reader_goOn_176 : decode b_Reader_goOn 176 = .ok (.iconst (-1), 1) := by decide +kernel
theorem d_Reader_goOn_177 : decode b_Reader_goOn 177 = .ok (.ireturn, 1) := by decide +kernel
theorem d_Reader_goOn_178 : decode b_Reader_goOn 178 = .ok (.iload_n 1, 1) := by decide +kernel
theorem d_Reader_goOn_179 : decode b_Reader_goOn 179 = .ok (.iconst 3, 1) := by decide +kernel
theorem d_Reader_goOn_180 : decode b_Reader_goOn 180 = .ok (.if_icmp .ne 10, 3) := by decide +kernel
theorem d_Reader_goOn_183 : decode b_Reader_goOn 183 = .ok (.aload_n 0, 1) := by decide +kernel
theorem d_Reader_goOn_184 : decode b_Reader_goOn 184 = .ok (.invokevirtual 114, 3) := by decide +kernel
theorem d_Reader_goOn_187 : decode b_Reader_goOn 187 = .ok (.goto 4, 3) := by decide +kernel
theorem d_Reader_goOn_190 : decode b_Reader_goOn 190 = .ok (.iconst (-1), 1) := by decide +kernel
theorem d_Reader_goOn_191 : decode b_Reader_goOn 191 = .ok (.ireturn, 1) := by decide +kernel
theorem d_Reader_goOn_192 : decode b_Reader_goOn 192 = .ok (.iload_n 1, 1) := by decide +kernel
theorem d_Reader_goOn_193 : decode b_Reader_goOn 193 = .ok (.iconst 2, 1) := by decide +kernel
theorem d_Reader_goOn_194 : decode b_Reader_goOn 194 = .ok (.if_icmp .ne 12, 3) := by decide +kernel
theorem d_Reader_goOn_197 : decode b_Reader_goOn 197 = .ok (.aload_n 0, 1) := by decide +kernel
theorem d_Reader_goOn_198 : decode b_Reader_goOn 198 = .ok (.bipush 26, 2) := by decide +kernel
theorem d_Reader_goOn_200 : decode b_Reader_goOn 200 = .ok (.invokevirtual 117, 3) := by decide +kernel
theorem d_Reader_goOn_203 : decode b_Reader_goOn 203 = .ok (.goto 4, 3) := by decide +kernel
theorem d_Reader_goOn_206 : decode b_Reader_goOn 206 = .ok (.iconst (-1), 1) := by decide +kernel
theorem d_Reader_goOn_207 : decode b_Reader_goOn 207 = .ok (.ireturn, 1) := by decide +kernel
theorem d_Reader_goOn_208 : decode b_Reader_goOn 208 = .ok (.aload_n 0, 1) := by decide +kernel
theorem d_Reader_goOn_209 : decode b_Reader_goOn 209 = .ok (.getfield 57, 3) := by decide +kernel
theorem d_Reader_goOn_212 : decode b_Reader_goOn 212 = .ok (.ifCond .le 11, 3) := by decide +kernel
theorem d_Reader_goOn_215 : decode b_Reader_goOn 215 = .ok (.aload_n 0, 1) := by decide +kernel
theorem d_Reader_goOn_216 : decode b_Reader_goOn 216 = .ok (.iload_n 1, 1) := by decide +kernel
theorem d_Reader_goOn_217 : decode b_Reader_goOn 217 = .ok (.invokevirtual 120, 3) := by decide +kernel
theorem d_Reader_goOn_220 : decode b_Reader_goOn 220 = .ok (.goto 8, 3) := by decide +kernel
theorem d_Reader_goOn_223 : decode b_Reader_goOn 223 = .ok (.aload_n 0, 1) := by decide +kernel
theorem d_Reader_goOn_224 : decode b_Reader_goOn 224 = .ok (.iload_n 1, 1) := by decide +kernel
theorem d_Reader_goOn_225 : decode b_Reader_goOn 225 = .ok (.invokevirtual 123, 3) := by decide +kernel
theorem d_Reader_goOn_228 : decode b_Reader_goOn 228 = .ok (.ireturn, 1) := by decide +kernel
theorem d_Reader_goOn_229 : decode b_Reader_goOn 229 = .ok (.aload_n 0, 1) := by decide +kernel
theorem d_Reader_goOn_230 : decode b_Reader_goOn 230 = .ok (.iload_n 1, 1) := by decide +kernel
theorem d_Reader_goOn_231 : decode b_Reader_goOn 231 = .ok (.invokevirtual 126, 3) := by decide +kernel
theorem d_Reader_goOn_234 : decode b_Reader_goOn 234 = .ok (.ireturn, 1) := by decide +kernel
set_option maxHeartbeats 4000000 in
set_option maxRecDepth 100000 in
theorem c_Reader_goOn (l : Launch) {S : St} {x1 : Int32} {S' : St} {r : Int32} (h : f_Reader_goOn S x1 = some (r, S')) : MI cw l y_Reader_goOn b_Reader_goOn 2 (some .int) 4 89 0 0 (fun ad => [.ref (ad 1 0), .int x1]) aT aE S r S' := by
  refine MI_of "LawfulLots$Reader" rfl (by decide) (fun _ => Nat.le_of_ble_eq_true rfl) ?_
  intro p e s m args below meth c D ar ad A Q ls hP F hK hA hw hl hQ
  have hl : lv_has ls 2 [(0, .ref (ad 1 0)), (1, .int x1)] := hl
  obtain ⟨X_0, eX_0⟩ : ∃ X : (Int32 × St) → Prop, X = (fun q => ∀ (H : Heap) (locs : List Loc) (pc : Nat) (ls : Array Slot), decode b_Reader_goOn pc = .ok (.ireturn, 1) → Bw cw D ar A s.heap H locs ad q.2 → W p l e (RM 4 89) s m args below meth c H locs 0 0 Q (F0 m pc ls [.int q.1])) := ⟨_, rfl⟩
  have key : ∀ (H : Heap) (locs : List Loc), Bw cw D ar A s.heap H locs ad S → ∀ o, f_Reader_goOn S x1 = some o → X_0 o → W p l e (RM 4 89) s m args below meth c H locs 0 0 Q (F0 m 0 ls []) := by
    intro H locs hw o h ho
    unfold f_Reader_goOn at h
    have J_229 : ∀ (S : St) (H : Heap) (locs : List Loc) (ls : Array Slot), Bw cw D ar A s.heap H locs ad S → lv_has ls 2 [(0, .ref (ad 1 0)), (1, .int x1)] → ∀ o, Reader_goOn_j229 S x1 = some o → X_0 o → W p l e (RM 4 89) s m args below meth c H locs 0 0 Q (F0 m 229 ls []) := by
      intro S H locs ls hw hl o h ho
      unfold Reader_goOn_j229 at h
      refine lv_aload_n F.1 F.2.1 d_Reader_goOn_229 rfl (lv_at hl 0 rfl) ?_
      refine lv_iload_n F.1 F.2.1 d_Reader_goOn_230 rfl (lv_at hl 1 rfl) ?_
      obtain ⟨v_45, S_46, hc_44, h⟩ := bd2_ex h
      refine cV_i F hA rfl hK hw (c_Reader_goOnAtUnit l hc_44) trivial rfl (good_V lk_535 lk_537 ls_20 lk_2 lk_538) (cr_1 hK hw) hd_Reader_goOnAtUnit ⟨Nat.le_of_ble_eq_true rfl, Nat.le_of_ble_eq_true rfl⟩ rfl hl.1 rfl (Nat.le_of_ble_eq_true rfl) d_Reader_goOn_231 ⟨(Nat.zero_le _), (Nat.zero_le _)⟩ (fun H locs hw => ?_)
      cases h
      have ho : X_0 _ := ho
      rw [eX_0] at ho
      exact ho H locs _ ls d_Reader_goOn_234 hw
    have J_228 : ∀ (S : St) (t0 : Int32) (H : Heap) (locs : List Loc) (ls : Array Slot), Bw cw D ar A s.heap H locs ad S → lv_has ls 2 [] → ∀ o, Reader_goOn_j228 S t0 = some o → X_0 o → W p l e (RM 4 89) s m args below meth c H locs 0 0 Q (F0 m 228 ls [.int t0]) := by
      intro S t0 H locs ls hw hl o h ho
      unfold Reader_goOn_j228 at h
      cases h
      have ho : X_0 _ := ho
      rw [eX_0] at ho
      exact ho H locs _ ls d_Reader_goOn_228 hw
    have J_207 : ∀ (S : St) (t0 : Int32) (H : Heap) (locs : List Loc) (ls : Array Slot), Bw cw D ar A s.heap H locs ad S → lv_has ls 2 [] → ∀ o, Reader_goOn_j207 S t0 = some o → X_0 o → W p l e (RM 4 89) s m args below meth c H locs 0 0 Q (F0 m 207 ls [.int t0]) := by
      intro S t0 H locs ls hw hl o h ho
      unfold Reader_goOn_j207 at h
      cases h
      have ho : X_0 _ := ho
      rw [eX_0] at ho
      exact ho H locs _ ls d_Reader_goOn_207 hw
    have J_191 : ∀ (S : St) (t0 : Int32) (H : Heap) (locs : List Loc) (ls : Array Slot), Bw cw D ar A s.heap H locs ad S → lv_has ls 2 [] → ∀ o, Reader_goOn_j191 S t0 = some o → X_0 o → W p l e (RM 4 89) s m args below meth c H locs 0 0 Q (F0 m 191 ls [.int t0]) := by
      intro S t0 H locs ls hw hl o h ho
      unfold Reader_goOn_j191 at h
      cases h
      have ho : X_0 _ := ho
      rw [eX_0] at ho
      exact ho H locs _ ls d_Reader_goOn_191 hw
    have J_177 : ∀ (S : St) (t0 : Int32) (H : Heap) (locs : List Loc) (ls : Array Slot), Bw cw D ar A s.heap H locs ad S → lv_has ls 2 [] → ∀ o, Reader_goOn_j177 S t0 = some o → X_0 o → W p l e (RM 4 89) s m args below meth c H locs 0 0 Q (F0 m 177 ls [.int t0]) := by
      intro S t0 H locs ls hw hl o h ho
      unfold Reader_goOn_j177 at h
      cases h
      have ho : X_0 _ := ho
      rw [eX_0] at ho
      exact ho H locs _ ls d_Reader_goOn_177 hw
    have J_166 : ∀ (S : St) (t0 : Int32) (H : Heap) (locs : List Loc) (ls : Array Slot), Bw cw D ar A s.heap H locs ad S → lv_has ls 2 [] → ∀ o, Reader_goOn_j166 S t0 = some o → X_0 o → W p l e (RM 4 89) s m args below meth c H locs 0 0 Q (F0 m 166 ls [.int t0]) := by
      intro S t0 H locs ls hw hl o h ho
      unfold Reader_goOn_j166 at h
      cases h
      have ho : X_0 _ := ho
      rw [eX_0] at ho
      exact ho H locs _ ls d_Reader_goOn_166 hw
    have J_152 : ∀ (S : St) (t0 : Int32) (H : Heap) (locs : List Loc) (ls : Array Slot), Bw cw D ar A s.heap H locs ad S → lv_has ls 2 [] → ∀ o, Reader_goOn_j152 S t0 = some o → X_0 o → W p l e (RM 4 89) s m args below meth c H locs 0 0 Q (F0 m 152 ls [.int t0]) := by
      intro S t0 H locs ls hw hl o h ho
      unfold Reader_goOn_j152 at h
      cases h
      have ho : X_0 _ := ho
      rw [eX_0] at ho
      exact ho H locs _ ls d_Reader_goOn_152 hw
    have J_140 : ∀ (S : St) (t0 : Int32) (H : Heap) (locs : List Loc) (ls : Array Slot), Bw cw D ar A s.heap H locs ad S → lv_has ls 2 [] → ∀ o, Reader_goOn_j140 S t0 = some o → X_0 o → W p l e (RM 4 89) s m args below meth c H locs 0 0 Q (F0 m 140 ls [.int t0]) := by
      intro S t0 H locs ls hw hl o h ho
      unfold Reader_goOn_j140 at h
      cases h
      have ho : X_0 _ := ho
      rw [eX_0] at ho
      exact ho H locs _ ls d_Reader_goOn_140 hw
    have J_118 : ∀ (S : St) (t0 : Int32) (H : Heap) (locs : List Loc) (ls : Array Slot), Bw cw D ar A s.heap H locs ad S → lv_has ls 2 [] → ∀ o, Reader_goOn_j118 S t0 = some o → X_0 o → W p l e (RM 4 89) s m args below meth c H locs 0 0 Q (F0 m 118 ls [.int t0]) := by
      intro S t0 H locs ls hw hl o h ho
      unfold Reader_goOn_j118 at h
      cases h
      have ho : X_0 _ := ho
      rw [eX_0] at ho
      exact ho H locs _ ls d_Reader_goOn_118 hw
    have J_106 : ∀ (S : St) (t0 : Int32) (H : Heap) (locs : List Loc) (ls : Array Slot), Bw cw D ar A s.heap H locs ad S → lv_has ls 2 [] → ∀ o, Reader_goOn_j106 S t0 = some o → X_0 o → W p l e (RM 4 89) s m args below meth c H locs 0 0 Q (F0 m 106 ls [.int t0]) := by
      intro S t0 H locs ls hw hl o h ho
      unfold Reader_goOn_j106 at h
      cases h
      have ho : X_0 _ := ho
      rw [eX_0] at ho
      exact ho H locs _ ls d_Reader_goOn_106 hw
    refine lv_aload_n F.1 F.2.1 d_Reader_goOn_0 rfl (lv_at hl 0 rfl) ?_
    refine cg_1_7 F hK hw lk_128 d_Reader_goOn_1 ?_
    obtain ⟨v_1, ev_1, h⟩ := nm_ex h
    refine lv_nm ev_1 ?_
    rcases Decidable.em (v_1 = (0 : Int32)) with c_2 | c_2
    · replace h := ip c_2 h
      refine lv_tableIn (off := 64) (tgt := 68) F.1 F.2.1 d_Reader_goOn_4 (by rw [c_2]; decide) (by rw [c_2]; decide) (by rw [c_2]; decide) (by decide) ?_
      refine lv_aload_n F.1 F.2.1 d_Reader_goOn_68 rfl (lv_at hl 0 rfl) ?_
      refine lv_iload_n F.1 F.2.1 d_Reader_goOn_69 rfl (lv_at hl 1 rfl) ?_
      obtain ⟨v_4, S_5, hc_3, h⟩ := bd2_ex h
      refine cV_i F hA rfl hK hw (c_Reader_beginTell l hc_3) trivial rfl (good_V lk_443 lk_445 ls_6 lk_2 lk_446) (cr_1 hK hw) hd_Reader_beginTell ⟨Nat.le_of_ble_eq_true rfl, Nat.le_of_ble_eq_true rfl⟩ rfl hl.1 rfl (Nat.le_of_ble_eq_true rfl) d_Reader_goOn_70 ⟨(Nat.zero_le _), (Nat.zero_le _)⟩ (fun H locs hw => ?_)
      cases h
      have ho : X_0 _ := ho
      rw [eX_0] at ho
      exact ho H locs _ ls d_Reader_goOn_73 hw
    replace h := iq c_2 h
    rcases Decidable.em (v_1 = (1 : Int32)) with c_6 | c_6
    · replace h := ip c_6 h
      refine lv_tableIn (off := 70) (tgt := 74) F.1 F.2.1 d_Reader_goOn_4 (by rw [c_6]; decide) (by rw [c_6]; decide) (by rw [c_6]; decide) (by decide) ?_
      refine lv_aload_n F.1 F.2.1 d_Reader_goOn_74 rfl (lv_at hl 0 rfl) ?_
      refine lv_aload_n F.1 F.2.1 d_Reader_goOn_75 rfl (lv_at hl 0 rfl) ?_
      refine cg_1_0 F hK hw lk_119 d_Reader_goOn_76 ?_
      refine cg_2_6 F hK hw lk_44 d_Reader_goOn_79 ?_
      obtain ⟨S_7, eS_7, h⟩ := nm_ex h
      refine cp_1_14 F hK hw lk_135 d_Reader_goOn_82 eS_7 (fun H locs hw => ?_)
      refine lv_aload_n F.1 F.2.1 d_Reader_goOn_85 rfl (lv_at hl 0 rfl) ?_
      refine lv_aload_n F.1 F.2.1 d_Reader_goOn_86 rfl (lv_at hl 0 rfl) ?_
      refine cg_1_0 F hK hw lk_119 d_Reader_goOn_87 ?_
      refine cg_2_4 F hK hw lk_40 d_Reader_goOn_90 ?_
      obtain ⟨S_8, eS_8, h⟩ := nm_ex h
      refine cp_1_15 F hK hw lk_136 d_Reader_goOn_93 eS_8 (fun H locs hw => ?_)
      refine lv_iload_n F.1 F.2.1 d_Reader_goOn_96 rfl (lv_at hl 1 rfl) ?_
      refine lv_iconst (v := 2) F.1 F.2.1 d_Reader_goOn_97 (by decide) ?_
      refine lv_icmp_ne (tgt := 105) F.1 F.2.1 d_Reader_goOn_98 (by decide) (fun c_9 => ?_) (fun c_9 => ?_)
      · replace h := iq c_9 h
        refine lv_iconst (v := -1) F.1 F.2.1 d_Reader_goOn_105 (by decide) ?_
        exact J_106 S_8 (-1 : Int32) H locs ls hw (lv_sub hl [] rfl) o h ho
      · replace h := ip c_9 h
        refine lv_iconst (v := 2) F.1 F.2.1 d_Reader_goOn_101 (by decide) ?_
        refine lv_goto (tgt := 106) F.1 F.2.1 d_Reader_goOn_102 (by decide) ?_
        exact J_106 S_8 (2 : Int32) H locs ls hw (lv_sub hl [] rfl) o h ho
    replace h := iq c_6 h
    rcases Decidable.em (v_1 = (2 : Int32)) with c_10 | c_10
    · replace h := ip c_10 h
      refine lv_tableIn (off := 103) (tgt := 107) F.1 F.2.1 d_Reader_goOn_4 (by rw [c_10]; decide) (by rw [c_10]; decide) (by rw [c_10]; decide) (by decide) ?_
      refine lv_iload_n F.1 F.2.1 d_Reader_goOn_107 rfl (lv_at hl 1 rfl) ?_
      refine lv_bipush (v := 15) F.1 F.2.1 d_Reader_goOn_108 (by decide) ?_
      refine lv_icmp_ne (tgt := 117) F.1 F.2.1 d_Reader_goOn_110 (by decide) (fun c_11 => ?_) (fun c_11 => ?_)
      · replace h := iq c_11 h
        refine lv_iconst (v := -1) F.1 F.2.1 d_Reader_goOn_117 (by decide) ?_
        exact J_118 S (-1 : Int32) H locs ls hw (lv_sub hl [] rfl) o h ho
      · replace h := ip c_11 h
        refine lv_iconst (v := 3) F.1 F.2.1 d_Reader_goOn_113 (by decide) ?_
        refine lv_goto (tgt := 118) F.1 F.2.1 d_Reader_goOn_114 (by decide) ?_
        exact J_118 S (3 : Int32) H locs ls hw (lv_sub hl [] rfl) o h ho
    replace h := iq c_10 h
    rcases Decidable.em (v_1 = (3 : Int32)) with c_12 | c_12
    · replace h := ip c_12 h
      refine lv_tableIn (off := 115) (tgt := 119) F.1 F.2.1 d_Reader_goOn_4 (by rw [c_12]; decide) (by rw [c_12]; decide) (by rw [c_12]; decide) (by decide) ?_
      refine lv_aload_n F.1 F.2.1 d_Reader_goOn_119 rfl (lv_at hl 0 rfl) ?_
      refine lv_aload_n F.1 F.2.1 d_Reader_goOn_120 rfl (lv_at hl 0 rfl) ?_
      refine cg_1_0 F hK hw lk_119 d_Reader_goOn_121 ?_
      refine cg_2_5 F hK hw lk_42 d_Reader_goOn_124 ?_
      obtain ⟨S_13, eS_13, h⟩ := nm_ex h
      refine cp_1_16 F hK hw lk_137 d_Reader_goOn_127 eS_13 (fun H locs hw => ?_)
      refine lv_iload_n F.1 F.2.1 d_Reader_goOn_130 rfl (lv_at hl 1 rfl) ?_
      refine lv_iconst (v := 3) F.1 F.2.1 d_Reader_goOn_131 (by decide) ?_
      refine lv_icmp_ne (tgt := 139) F.1 F.2.1 d_Reader_goOn_132 (by decide) (fun c_14 => ?_) (fun c_14 => ?_)
      · replace h := iq c_14 h
        refine lv_iconst (v := -1) F.1 F.2.1 d_Reader_goOn_139 (by decide) ?_
        exact J_140 S_13 (-1 : Int32) H locs ls hw (lv_sub hl [] rfl) o h ho
      · replace h := ip c_14 h
        refine lv_iconst (v := 4) F.1 F.2.1 d_Reader_goOn_135 (by decide) ?_
        refine lv_goto (tgt := 140) F.1 F.2.1 d_Reader_goOn_136 (by decide) ?_
        exact J_140 S_13 (4 : Int32) H locs ls hw (lv_sub hl [] rfl) o h ho
    replace h := iq c_12 h
    rcases Decidable.em (v_1 = (4 : Int32)) with c_15 | c_15
    · replace h := ip c_15 h
      refine lv_tableIn (off := 137) (tgt := 141) F.1 F.2.1 d_Reader_goOn_4 (by rw [c_15]; decide) (by rw [c_15]; decide) (by rw [c_15]; decide) (by decide) ?_
      refine lv_iload_n F.1 F.2.1 d_Reader_goOn_141 rfl (lv_at hl 1 rfl) ?_
      refine lv_bipush (v := 16) F.1 F.2.1 d_Reader_goOn_142 (by decide) ?_
      refine lv_icmp_ne (tgt := 151) F.1 F.2.1 d_Reader_goOn_144 (by decide) (fun c_16 => ?_) (fun c_16 => ?_)
      · replace h := iq c_16 h
        refine lv_iconst (v := -1) F.1 F.2.1 d_Reader_goOn_151 (by decide) ?_
        exact J_152 S (-1 : Int32) H locs ls hw (lv_sub hl [] rfl) o h ho
      · replace h := ip c_16 h
        refine lv_iconst (v := 5) F.1 F.2.1 d_Reader_goOn_147 (by decide) ?_
        refine lv_goto (tgt := 152) F.1 F.2.1 d_Reader_goOn_148 (by decide) ?_
        exact J_152 S (5 : Int32) H locs ls hw (lv_sub hl [] rfl) o h ho
    replace h := iq c_15 h
    rcases Decidable.em (v_1 = (5 : Int32)) with c_17 | c_17
    · replace h := ip c_17 h
      refine lv_tableIn (off := 149) (tgt := 153) F.1 F.2.1 d_Reader_goOn_4 (by rw [c_17]; decide) (by rw [c_17]; decide) (by rw [c_17]; decide) (by decide) ?_
      refine lv_iload_n F.1 F.2.1 d_Reader_goOn_153 rfl (lv_at hl 1 rfl) ?_
      refine lv_iconst (v := 3) F.1 F.2.1 d_Reader_goOn_154 (by decide) ?_
      refine lv_icmp_ne (tgt := 165) F.1 F.2.1 d_Reader_goOn_155 (by decide) (fun c_18 => ?_) (fun c_18 => ?_)
      · replace h := iq c_18 h
        refine lv_iconst (v := -1) F.1 F.2.1 d_Reader_goOn_165 (by decide) ?_
        exact J_166 S (-1 : Int32) H locs ls hw (lv_sub hl [] rfl) o h ho
      · replace h := ip c_18 h
        refine lv_aload_n F.1 F.2.1 d_Reader_goOn_158 rfl (lv_at hl 0 rfl) ?_
        obtain ⟨v_20, S_21, hc_19, h⟩ := bd2_ex h
        refine cV_i F hA rfl hK hw (c_Reader_endField l hc_19) trivial rfl (good_V lk_463 lk_465 ls_8 lk_2 lk_466) (cr_1 hK hw) hd_Reader_endField ⟨Nat.le_of_ble_eq_true rfl, Nat.le_of_ble_eq_true rfl⟩ rfl hl.1 rfl (Nat.le_of_ble_eq_true rfl) d_Reader_goOn_159 ⟨(Nat.zero_le _), (Nat.zero_le _)⟩ (fun H locs hw => ?_)
        refine lv_goto (tgt := 166) F.1 F.2.1 d_Reader_goOn_162 (by decide) ?_
        exact J_166 S_21 v_20 H locs ls hw (lv_sub hl [] rfl) o h ho
    replace h := iq c_17 h
    rcases Decidable.em (v_1 = (6 : Int32)) with c_22 | c_22
    · replace h := ip c_22 h
      refine lv_tableIn (off := 163) (tgt := 167) F.1 F.2.1 d_Reader_goOn_4 (by rw [c_22]; decide) (by rw [c_22]; decide) (by rw [c_22]; decide) (by decide) ?_
      refine lv_iload_n F.1 F.2.1 d_Reader_goOn_167 rfl (lv_at hl 1 rfl) ?_
      refine lv_iconst (v := 4) F.1 F.2.1 d_Reader_goOn_168 (by decide) ?_
      refine lv_icmp_ne (tgt := 176) F.1 F.2.1 d_Reader_goOn_169 (by decide) (fun c_23 => ?_) (fun c_23 => ?_)
      · replace h := iq c_23 h
        refine lv_iconst (v := -1) F.1 F.2.1 d_Reader_goOn_176 (by decide) ?_
        exact J_177 S (-1 : Int32) H locs ls hw (lv_sub hl [] rfl) o h ho
      · replace h := ip c_23 h
        refine lv_iconst (v := 0) F.1 F.2.1 d_Reader_goOn_172 (by decide) ?_
        refine lv_goto (tgt := 177) F.1 F.2.1 d_Reader_goOn_173 (by decide) ?_
        exact J_177 S (0 : Int32) H locs ls hw (lv_sub hl [] rfl) o h ho
    replace h := iq c_22 h
    rcases Decidable.em (v_1 = (7 : Int32)) with c_24 | c_24
    · replace h := ip c_24 h
      refine lv_tableIn (off := 174) (tgt := 178) F.1 F.2.1 d_Reader_goOn_4 (by rw [c_24]; decide) (by rw [c_24]; decide) (by rw [c_24]; decide) (by decide) ?_
      refine lv_iload_n F.1 F.2.1 d_Reader_goOn_178 rfl (lv_at hl 1 rfl) ?_
      refine lv_iconst (v := 3) F.1 F.2.1 d_Reader_goOn_179 (by decide) ?_
      refine lv_icmp_ne (tgt := 190) F.1 F.2.1 d_Reader_goOn_180 (by decide) (fun c_25 => ?_) (fun c_25 => ?_)
      · replace h := iq c_25 h
        refine lv_iconst (v := -1) F.1 F.2.1 d_Reader_goOn_190 (by decide) ?_
        exact J_191 S (-1 : Int32) H locs ls hw (lv_sub hl [] rfl) o h ho
      · replace h := ip c_25 h
        refine lv_aload_n F.1 F.2.1 d_Reader_goOn_183 rfl (lv_at hl 0 rfl) ?_
        obtain ⟨v_27, S_28, hc_26, h⟩ := bd2_ex h
        refine cV_i F hA rfl hK hw (c_Reader_weigh l hc_26) trivial rfl (good_V lk_483 lk_485 ls_10 lk_2 lk_486) (cr_1 hK hw) hd_Reader_weigh ⟨Nat.le_of_ble_eq_true rfl, Nat.le_of_ble_eq_true rfl⟩ rfl hl.1 rfl (Nat.le_of_ble_eq_true rfl) d_Reader_goOn_184 ⟨(Nat.zero_le _), (Nat.zero_le _)⟩ (fun H locs hw => ?_)
        refine lv_goto (tgt := 191) F.1 F.2.1 d_Reader_goOn_187 (by decide) ?_
        exact J_191 S_28 v_27 H locs ls hw (lv_sub hl [] rfl) o h ho
    replace h := iq c_24 h
    rcases Decidable.em (v_1 = (8 : Int32)) with c_29 | c_29
    · replace h := ip c_29 h
      refine lv_tableIn (off := 225) (tgt := 229) F.1 F.2.1 d_Reader_goOn_4 (by rw [c_29]; decide) (by rw [c_29]; decide) (by rw [c_29]; decide) (by decide) ?_
      exact J_229 S H locs ls hw (lv_sub hl [0, 1] rfl) o h ho
    replace h := iq c_29 h
    rcases Decidable.em (v_1 = (9 : Int32)) with c_30 | c_30
    · replace h := ip c_30 h
      refine lv_tableIn (off := 225) (tgt := 229) F.1 F.2.1 d_Reader_goOn_4 (by rw [c_30]; decide) (by rw [c_30]; decide) (by rw [c_30]; decide) (by decide) ?_
      exact J_229 S H locs ls hw (lv_sub hl [0, 1] rfl) o h ho
    replace h := iq c_30 h
    rcases Decidable.em (v_1 = (10 : Int32)) with c_31 | c_31
    · replace h := ip c_31 h
      refine lv_tableIn (off := 188) (tgt := 192) F.1 F.2.1 d_Reader_goOn_4 (by rw [c_31]; decide) (by rw [c_31]; decide) (by rw [c_31]; decide) (by decide) ?_
      refine lv_iload_n F.1 F.2.1 d_Reader_goOn_192 rfl (lv_at hl 1 rfl) ?_
      refine lv_iconst (v := 2) F.1 F.2.1 d_Reader_goOn_193 (by decide) ?_
      refine lv_icmp_ne (tgt := 206) F.1 F.2.1 d_Reader_goOn_194 (by decide) (fun c_32 => ?_) (fun c_32 => ?_)
      · replace h := iq c_32 h
        refine lv_iconst (v := -1) F.1 F.2.1 d_Reader_goOn_206 (by decide) ?_
        exact J_207 S (-1 : Int32) H locs ls hw (lv_sub hl [] rfl) o h ho
      · replace h := ip c_32 h
        refine lv_aload_n F.1 F.2.1 d_Reader_goOn_197 rfl (lv_at hl 0 rfl) ?_
        refine lv_bipush (v := 26) F.1 F.2.1 d_Reader_goOn_198 (by decide) ?_
        obtain ⟨v_34, S_35, hc_33, h⟩ := bd2_ex h
        refine cV_i F hA rfl hK hw (c_Reader_nameInCode l hc_33) trivial rfl (good_V lk_491 lk_493 ls_11 lk_2 lk_494) (cr_1 hK hw) hd_Reader_nameInCode ⟨Nat.le_of_ble_eq_true rfl, Nat.le_of_ble_eq_true rfl⟩ rfl hl.1 rfl (Nat.le_of_ble_eq_true rfl) d_Reader_goOn_200 ⟨(Nat.zero_le _), (Nat.zero_le _)⟩ (fun H locs hw => ?_)
        refine lv_goto (tgt := 207) F.1 F.2.1 d_Reader_goOn_203 (by decide) ?_
        exact J_207 S_35 v_34 H locs ls hw (lv_sub hl [] rfl) o h ho
    replace h := iq c_31 h
    rcases Decidable.em (v_1 = (11 : Int32)) with c_36 | c_36
    · replace h := ip c_36 h
      refine lv_tableIn (off := 204) (tgt := 208) F.1 F.2.1 d_Reader_goOn_4 (by rw [c_36]; decide) (by rw [c_36]; decide) (by rw [c_36]; decide) (by decide) ?_
      refine lv_aload_n F.1 F.2.1 d_Reader_goOn_208 rfl (lv_at hl 0 rfl) ?_
      refine cg_1_12 F hK hw lk_133 d_Reader_goOn_209 ?_
      refine lv_if_le (tgt := 223) F.1 F.2.1 d_Reader_goOn_212 (by decide) (fun c_37 => ?_) (fun c_37 => ?_)
      · replace h := ip c_37 h
        refine lv_aload_n F.1 F.2.1 d_Reader_goOn_223 rfl (lv_at hl 0 rfl) ?_
        refine lv_iload_n F.1 F.2.1 d_Reader_goOn_224 rfl (lv_at hl 1 rfl) ?_
        obtain ⟨v_39, S_40, hc_38, h⟩ := bd2_ex h
        refine cV_i F hA rfl hK hw (c_Reader_goOnBehindExpression l hc_38) trivial rfl (good_V lk_527 lk_529 ls_18 lk_2 lk_530) (cr_1 hK hw) hd_Reader_goOnBehindExpression ⟨Nat.le_of_ble_eq_true rfl, Nat.le_of_ble_eq_true rfl⟩ rfl hl.1 rfl (Nat.le_of_ble_eq_true rfl) d_Reader_goOn_225 ⟨(Nat.zero_le _), (Nat.zero_le _)⟩ (fun H locs hw => ?_)
        exact J_228 S_40 v_39 H locs ls hw (lv_sub hl [] rfl) o h ho
      · replace h := iq c_37 h
        refine lv_aload_n F.1 F.2.1 d_Reader_goOn_215 rfl (lv_at hl 0 rfl) ?_
        refine lv_iload_n F.1 F.2.1 d_Reader_goOn_216 rfl (lv_at hl 1 rfl) ?_
        obtain ⟨v_42, S_43, hc_41, h⟩ := bd2_ex h
        refine cV_i F hA rfl hK hw (c_Reader_goOnInBrackets l hc_41) trivial rfl (good_V lk_500 lk_502 ls_12 lk_2 lk_503) (cr_1 hK hw) hd_Reader_goOnInBrackets ⟨Nat.le_of_ble_eq_true rfl, Nat.le_of_ble_eq_true rfl⟩ rfl hl.1 rfl (Nat.le_of_ble_eq_true rfl) d_Reader_goOn_217 ⟨(Nat.zero_le _), (Nat.zero_le _)⟩ (fun H locs hw => ?_)
        refine lv_goto (tgt := 228) F.1 F.2.1 d_Reader_goOn_220 (by decide) ?_
        exact J_228 S_43 v_42 H locs ls hw (lv_sub hl [] rfl) o h ho
    replace h := iq c_36 h
    have zc_2 := lv_neT (a := 0) c_2 rfl
    have zc_6 := lv_neT (a := 1) c_6 rfl
    have zc_10 := lv_neT (a := 2) c_10 rfl
    have zc_12 := lv_neT (a := 3) c_12 rfl
    have zc_15 := lv_neT (a := 4) c_15 rfl
    have zc_17 := lv_neT (a := 5) c_17 rfl
    have zc_22 := lv_neT (a := 6) c_22 rfl
    have zc_24 := lv_neT (a := 7) c_24 rfl
    have zc_29 := lv_neT (a := 8) c_29 rfl
    have zc_30 := lv_neT (a := 9) c_30 rfl
    have zc_31 := lv_neT (a := 10) c_31 rfl
    have zc_36 := lv_neT (a := 11) c_36 rfl
    refine lv_tableOut (tgt := 229) F.1 F.2.1 d_Reader_goOn_4 (by omega) (by decide) ?_
    exact J_229 S H locs ls hw (lv_sub hl [0, 1] rfl) o h ho
  exact key _ _ hw _ h (by rw [eX_0]; exact fun H locs pc ls hd hw => hQ H locs pc ls ad rfl hd hw)
theorem d_Scanner_isDigit_0 : decode b_Scanner_isDigit 0 = .ok (.iload_n 0, 1) := by decide +kernel
theorem d_Scanner_isDigit_1 : decode b_Scanner_isDigit 1 = .ok (.bipush 48, 2) := by decide +kernel
theorem d_Scanner_isDigit_3 : decode b_Scanner_isDigit 3 = .ok (.if_icmp .lt 13, 3) := by decide +kernel
theorem d_Scanner_isDigit_6 : decode b_Scanner_isDigit 6 = .ok (.iload_n 0, 1) := by decide +kernel
theorem d_Scanner_isDigit_7 : decode b_Scanner_isDigit 7 = .ok (.bipush 57, 2) := by decide +kernel
theorem d_Scanner_isDigit_9 : decode b_Scanner_isDigit 9 = .ok (.if_icmp .gt 7, 3) := by decide +kernel
theorem d_Scanner_isDigit_12 : decode b_Scanner_isDigit 12 = .ok (.iconst 1, 1) := by decide +kernel
theorem d_Scanner_isDigit_13 : decode b_Scanner_isDigit 13 = .ok (.goto 4, 3) := by decide +kernel
theorem d_Scanner_isDigit_16 : decode b_Scanner_isDigit 16 = .ok (.iconst 0, 1) := by decide +kernel
theorem d_Scanner_isDigit_17 : decode b_Scanner_isDigit 17 = .ok (.ireturn, 1) := by decide +kernel
set_option maxHeartbeats 4000000 in
set_option maxRecDepth 100000 in
theorem c_Scanner_isDigit (l : Launch) (S : St) {x0 : Int32} {r : Int32} (h : f_Scanner_isDigit x0 = some r) : MI cw l y_Scanner_isDigit b_Scanner_isDigit 1 (some .boolean) 0 0 0 0 (fun ad => [.int x0]) aT aE S r S := by
  refine MZ_of "LawfulLots$Scanner" rfl (by decide) (fun _ => Nat.le_of_ble_eq_true rfl) ?_
  intro p e s m args below meth c D ar ad A Q ls hP F hK hA hw hl hQ
  have hl : lv_has ls 1 [(0, .int x0)] := hl
  obtain ⟨X_0, eX_0⟩ : ∃ X : Int32 → Prop, X = (fun q => ∀ (H : Heap) (locs : List Loc) (pc : Nat) (ls : Array Slot), isB q = true → decode b_Scanner_isDigit pc = .ok (.ireturn, 1) → Bw cw D ar A s.heap H locs ad S → W p l e (RM 0 0) s m args below meth c H locs 0 0 Q (F0 m pc ls [.int q])) := ⟨_, rfl⟩
  have key : ∀ (H : Heap) (locs : List Loc), Bw cw D ar A s.heap H locs ad S → ∀ o, f_Scanner_isDigit x0 = some o → X_0 o → W p l e (RM 0 0) s m args below meth c H locs 0 0 Q (F0 m 0 ls []) := by
    intro H locs hw o h ho
    unfold f_Scanner_isDigit at h
    have J_17 : ∀ (t0 : Int32) (H : Heap) (locs : List Loc) (ls : Array Slot), Bw cw D ar A s.heap H locs ad S → lv_has ls 1 [] → ∀ o, Scanner_isDigit_j17 t0 = some o → X_0 o → W p l e (RM 0 0) s m args below meth c H locs 0 0 Q (F0 m 17 ls [.int t0]) := by
      intro t0 H locs ls hw hl o h ho
      unfold Scanner_isDigit_j17 at h
      obtain ⟨hb_3, h⟩ := gd_ex h
      cases h
      have ho : X_0 _ := ho
      rw [eX_0] at ho
      exact ho H locs _ ls hb_3 d_Scanner_isDigit_17 hw
    have J_16 : ∀ (H : Heap) (locs : List Loc) (ls : Array Slot), Bw cw D ar A s.heap H locs ad S → lv_has ls 1 [] → ∀ o, Scanner_isDigit_j16 = some o → X_0 o → W p l e (RM 0 0) s m args below meth c H locs 0 0 Q (F0 m 16 ls []) := by
      intro H locs ls hw hl o h ho
      unfold Scanner_isDigit_j16 at h
      refine lv_iconst (v := 0) F.1 F.2.1 d_Scanner_isDigit_16 (by decide) ?_
      exact J_17 (0 : Int32) H locs ls hw (lv_sub hl [] rfl) o h ho
    refine lv_iload_n F.1 F.2.1 d_Scanner_isDigit_0 rfl (lv_at hl 0 rfl) ?_
    refine lv_bipush (v := 48) F.1 F.2.1 d_Scanner_isDigit_1 (by decide) ?_
    refine lv_icmp_lt (tgt := 16) F.1 F.2.1 d_Scanner_isDigit_3 (by decide) (fun c_1 => ?_) (fun c_1 => ?_)
    · replace h := ip c_1 h
      exact J_16 H locs ls hw (lv_sub hl [] rfl) o h ho
    · replace h := iq c_1 h
      refine lv_iload_n F.1 F.2.1 d_Scanner_isDigit_6 rfl (lv_at hl 0 rfl) ?_
      refine lv_bipush (v := 57) F.1 F.2.1 d_Scanner_isDigit_7 (by decide) ?_
      refine lv_icmp_gt (tgt := 16) F.1 F.2.1 d_Scanner_isDigit_9 (by decide) (fun c_2 => ?_) (fun c_2 => ?_)
      · replace h := ip c_2 h
        exact J_16 H locs ls hw (lv_sub hl [] rfl) o h ho
      · replace h := iq c_2 h
        refine lv_iconst (v := 1) F.1 F.2.1 d_Scanner_isDigit_12 (by decide) ?_
        refine lv_goto (tgt := 17) F.1 F.2.1 d_Scanner_isDigit_13 (by decide) ?_
        exact J_17 (1 : Int32) H locs ls hw (lv_sub hl [] rfl) o h ho
  exact key _ _ hw _ h (by rw [eX_0]; exact fun H locs pc ls hb hd hw => hQ H locs pc ls ad hb rfl hd hw)
theorem d_Scanner_scanInt_0 : decode b_Scanner_scanInt 0 = .ok (.aload_n 0, 1) := by decide +kernel
theorem d_Scanner_scanInt_1 : decode b_Scanner_scanInt 1 = .ok (.iconst 0, 1) := by decide +kernel
theorem d_Scanner_scanInt_2 : decode b_Scanner_scanInt 2 = .ok (.putfield 28, 3) := by decide +kernel
theorem d_Scanner_scanInt_5 : decode b_Scanner_scanInt 5 = .ok (.aload_n 0, 1) := by decide +kernel
theorem d_Scanner_scanInt_6 : decode b_Scanner_scanInt 6 = .ok (.getfield 19, 3) := by decide +kernel
theorem d_Scanner_scanInt_9 : decode b_Scanner_scanInt 9 = .ok (.aload_n 0, 1) := by decide +kernel
theorem d_Scanner_scanInt_10 : decode b_Scanner_scanInt 10 = .ok (.getfield 15, 3) := by decide +kernel
theorem d_Scanner_scanInt_13 : decode b_Scanner_scanInt 13 = .ok (.if_icmp .ge 55, 3) := by decide +kernel
theorem d_Scanner_scanInt_16 : decode b_Scanner_scanInt 16 = .ok (.aload_n 0, 1) := by decide +kernel
theorem d_Scanner_scanInt_17 : decode b_Scanner_scanInt 17 = .ok (.getfield 9, 3) := by decide +kernel
theorem d_Scanner_scanInt_20 : decode b_Scanner_scanInt 20 = .ok (.aload_n 0, 1) := by decide +kernel
theorem d_Scanner_scanInt_21 : decode b_Scanner_scanInt 21 = .ok (.getfield 19, 3) := by decide +kernel
theorem d_Scanner_scanInt_24 : decode b_Scanner_scanInt 24 = .ok (.baload, 1) := by decide +kernel
theorem d_Scanner_scanInt_25 : decode b_Scanner_scanInt 25 = .ok (.invokestatic 57, 3) := by decide +kernel
theorem d_Scanner_scanInt_28 : decode b_Scanner_scanInt 28 = .ok (.ifCond .eq 40, 3) := by decide +kernel
theorem d_Scanner_scanInt_31 : decode b_Scanner_scanInt 31 = .ok (.aload_n 0, 1) := by decide +kernel
theorem d_Scanner_scanInt_32 : decode b_Scanner_scanInt 32 = .ok (.aload_n 0, 1) := by decide +kernel
theorem d_Scanner_scanInt_33 : decode b_Scanner_scanInt 33 = .ok (.getfield 28, 3) := by decide +kernel
theorem d_Scanner_scanInt_36 : decode b_Scanner_scanInt 36 = .ok (.bipush 10, 2) := by decide +kernel
theorem d_Scanner_scanInt_38 : decode b_Scanner_scanInt 38 = .ok (.imul, 1) := by decide +kernel
theorem d_Scanner_scanInt_39 : decode b_Scanner_scanInt 39 = .ok (.aload_n 0, 1) := by decide +kernel
theorem d_Scanner_scanInt_40 : decode b_Scanner_scanInt 40 = .ok (.getfield 9, 3) := by decide +kernel
theorem d_Scanner_scanInt_43 : decode b_Scanner_scanInt 43 = .ok (.aload_n 0, 1) := by decide +kernel
theorem d_Scanner_scanInt_44 : decode b_Scanner_scanInt 44 = .ok (.getfield 19, 3) := by decide +kernel
theorem d_Scanner_scanInt_47 : decode b_Scanner_scanInt 47 = .ok (.baload, 1) := by decide +kernel
theorem d_Scanner_scanInt_48 : decode b_Scanner_scanInt 48 = .ok (.iadd, 1) := by decide +kernel
theorem d_Scanner_scanInt_49 : decode b_Scanner_scanInt 49 = .ok (.bipush 48, 2) := by decide +kernel
theorem d_Scanner_scanInt_51 : decode b_Scanner_scanInt 51 = .ok (.isub, 1) := by decide +kernel
theorem d_Scanner_scanInt_52 : decode b_Scanner_scanInt 52 = .ok (.putfield 28, 3) := by decide +kernel
theorem d_Scanner_scanInt_55 : decode b_Scanner_scanInt 55 = .ok (.aload_n 0, 1) := by decide +kernel
theorem d_Scanner_scanInt_56 : decode b_Scanner_scanInt 56 = .ok (.dup, 1) := by decide +kernel
theorem d_Scanner_scanInt_57 : decode b_Scanner_scanInt 57 = .ok (.getfield 19, 3) := by decide +kernel
theorem d_Scanner_scanInt_60 : decode b_Scanner_scanInt 60 = .ok (.iconst 1, 1) := by decide +kernel
theorem d_Scanner_scanInt_61 : decode b_Scanner_scanInt 61 = .ok (.iadd, 1) := by decide +kernel
theorem d_Scanner_scanInt_62 : decode b_Scanner_scanInt 62 = .ok (.putfield 19, 3) := by decide +kernel
theorem d_Scanner_scanInt_65 : decode b_Scanner_scanInt 65 = .ok (.goto (-60), 3) := by decide +kernel
theorem d_Scanner_scanInt_68 : decode b_Scanner_scanInt 68 = .ok (.aload_n 0, 1) := by decide +kernel
theorem d_Scanner_scanInt_69 : decode b_Scanner_scanInt 69 = .ok (.aload_n 0, 1) := by decide +kernel
theorem d_Scanner_scanInt_70 : decode b_Scanner_scanInt 70 = .ok (.getfield 19, 3) := by decide +kernel
theorem d_Scanner_scanInt_73 : decode b_Scanner_scanInt 73 = .ok (.aload_n 0, 1) := by decide +kernel
theorem d_Scanner_scanInt_74 : decode b_Scanner_scanInt 74 = .ok (.getfield 25, 3) := by decide +kernel
theorem d_Scanner_scanInt_77 : decode b_Scanner_scanInt 77 = .ok (.isub, 1) := by decide +kernel
theorem d_Scanner_scanInt_78 : decode b_Scanner_scanInt 78 = .ok (.iconst 4, 1) := by decide +kernel
theorem d_Scanner_scanInt_79 : decode b_Scanner_scanInt 79 = .ok (.if_icmp .le 7, 3) := by decide +kernel
theorem d_Scanner_scanInt_82 : decode b_Scanner_scanInt 82 = .ok (.iconst 1, 1) := by decide +kernel
theorem d_Scanner_scanInt_83 : decode b_Scanner_scanInt 83 = .ok (.goto 4, 3) := by decide +kernel
theorem d_Scanner_scanInt_86 : decode b_Scanner_scanInt 86 = .ok (.iconst 3, 1) := by decide +kernel
theorem d_Scanner_scanInt_87 : decode b_Scanner_scanInt 87 = .ok (.putfield 22, 3) := by decide +kernel
theorem d_Scanner_scanInt_90 : decode b_Scanner_scanInt 90 = .ok (.return_, 1) := by decide +kernel
set_option maxHeartbeats 4000000 in
set_option maxRecDepth 100000 in
theorem c_Scanner_scanInt (l : Launch) {S : St} {S' : St} (h : f_Scanner_scanInt S = some S') : MV cw l y_Scanner_scanInt b_Scanner_scanInt 1 none 1 20 0 0 (fun ad => [.ref (ad 2 0)]) aX aE S S' := by
  refine MV_of "LawfulLots$Scanner" rfl (by decide) (fun _ => Nat.le_of_ble_eq_true rfl) ?_
  intro p e s m args below meth c D ar ad A Q ls hP F hK hA hw hl hQ
  have hl : lv_has ls 1 [(0, .ref (ad 2 0))] := hl
  obtain ⟨X_0, eX_0⟩ : ∃ X : St → Prop, X = (fun q => ∀ (H : Heap) (locs : List Loc) (pc : Nat) (ls : Array Slot), decode b_Scanner_scanInt pc = .ok (.return_, 1) → Bw cw D ar A s.heap H locs ad q → W p l e (RM 1 20) s m args below meth c H locs 0 0 Q (F0 m pc ls [])) := ⟨_, rfl⟩
  have key : ∀ (H : Heap) (locs : List Loc), Bw cw D ar A s.heap H locs ad S → ∀ o, f_Scanner_scanInt S = some o → X_0 o → W p l e (RM 1 20) s m args below meth c H locs 0 0 Q (F0 m 0 ls []) := by
    intro H locs hw o h ho
    unfold f_Scanner_scanInt at h
    have J_87 : ∀ (S : St) (t1 : Int32) (H : Heap) (locs : List Loc) (ls : Array Slot), Bw cw D ar A s.heap H locs ad S → lv_has ls 1 [] → ∀ o, Scanner_scanInt_j87 S t1 = some o → X_0 o → W p l e (RM 1 20) s m args below meth c H locs 0 0 Q (F0 m 87 ls [.int t1, .ref (ad 2 0)]) := by
      intro S t1 H locs ls hw hl o h ho
      unfold Scanner_scanInt_j87 at h
      obtain ⟨S_13, eS_13, h⟩ := nm_ex h
      refine cp_2_3 F hK hw lk_37 d_Scanner_scanInt_87 eS_13 (fun H locs hw => ?_)
      cases h
      have ho : X_0 _ := ho
      rw [eX_0] at ho
      exact ho H locs _ ls d_Scanner_scanInt_90 hw
    have J_68 : ∀ (S : St) (H : Heap) (locs : List Loc) (ls : Array Slot), Bw cw D ar A s.heap H locs ad S → lv_has ls 1 [(0, .ref (ad 2 0))] → ∀ o, Scanner_scanInt_j68 S = some o → X_0 o → W p l e (RM 1 20) s m args below meth c H locs 0 0 Q (F0 m 68 ls []) := by
      intro S H locs ls hw hl o h ho
      unfold Scanner_scanInt_j68 at h
      refine lv_aload_n F.1 F.2.1 d_Scanner_scanInt_68 rfl (lv_at hl 0 rfl) ?_
      refine lv_aload_n F.1 F.2.1 d_Scanner_scanInt_69 rfl (lv_at hl 0 rfl) ?_
      refine cg_2_2 F hK hw lk_36 d_Scanner_scanInt_70 ?_
      refine lv_aload_n F.1 F.2.1 d_Scanner_scanInt_73 rfl (lv_at hl 0 rfl) ?_
      refine cg_2_4 F hK hw lk_39 d_Scanner_scanInt_74 ?_
      refine lv_isub F.1 F.2.1 d_Scanner_scanInt_77 ?_
      refine lv_iconst (v := 4) F.1 F.2.1 d_Scanner_scanInt_78 (by decide) ?_
      refine lv_icmp_le (tgt := 86) F.1 F.2.1 d_Scanner_scanInt_79 (by decide) (fun c_12 => ?_) (fun c_12 => ?_)
      · replace h := ip c_12 h
        refine lv_iconst (v := 3) F.1 F.2.1 d_Scanner_scanInt_86 (by decide) ?_
        exact J_87 S (3 : Int32) H locs ls hw (lv_sub hl [] rfl) o h ho
      · replace h := iq c_12 h
        refine lv_iconst (v := 1) F.1 F.2.1 d_Scanner_scanInt_82 (by decide) ?_
        refine lv_goto (tgt := 87) F.1 F.2.1 d_Scanner_scanInt_83 (by decide) ?_
        exact J_87 S (1 : Int32) H locs ls hw (lv_sub hl [] rfl) o h ho
    refine lv_aload_n F.1 F.2.1 d_Scanner_scanInt_0 rfl (lv_at hl 0 rfl) ?_
    refine lv_iconst (v := 0) F.1 F.2.1 d_Scanner_scanInt_1 (by decide) ?_
    obtain ⟨S_1, eS_1, h⟩ := nm_ex h
    refine cp_2_5 F hK hw lk_41 d_Scanner_scanInt_2 eS_1 (fun H locs hw => ?_)
    obtain ⟨S_10, hc_11, h⟩ := bd_ex h
    obtain ⟨X_5, eX_5⟩ : ∃ X : St → Prop, X = (fun q => ∀ (H : Heap) (locs : List Loc) (ls : Array Slot), Bw cw D ar A s.heap H locs ad q → lv_has ls 1 [(0, .ref (ad 2 0))] → W p l e (RM 1 20) s m args below meth c H locs 0 0 Q (F0 m 68 ls [])) := ⟨_, rfl⟩
    have hX_5 : X_5 S_10 := by
      rw [eX_5]
      intro H locs ls hw hl
      exact J_68 S_10 H locs ls hw (lv_sub hl [0] rfl) o h ho
    obtain ⟨P_5, eP_5⟩ : ∃ P : St → Prop, P = (fun q => ∀ (H : Heap) (locs : List Loc) (ls : Array Slot), Bw cw D ar A s.heap H locs ad q → lv_has ls 1 [(0, .ref (ad 2 0))] → W p l e (RM 1 20) s m args below meth c H locs 0 0 Q (F0 m 5 ls [])) := ⟨_, rfl⟩
    have hL_5 : P_5 S_1 := by
      refine wh_gp (P := P_5) (X := X_5) hc_11 hX_5 ?_
      clear h
      intro S o h ho
      have h : Scanner_scanInt_l5 S = some o := h
      unfold Scanner_scanInt_l5 at h
      rw [eP_5]
      intro H locs ls hw hl
      refine lv_aload_n F.1 F.2.1 d_Scanner_scanInt_5 rfl (lv_at hl 0 rfl) ?_
      refine cg_2_2 F hK hw lk_36 d_Scanner_scanInt_6 ?_
      refine lv_aload_n F.1 F.2.1 d_Scanner_scanInt_9 rfl (lv_at hl 0 rfl) ?_
      refine cg_2_1 F hK hw lk_35 d_Scanner_scanInt_10 ?_
      refine lv_icmp_ge (tgt := 68) F.1 F.2.1 d_Scanner_scanInt_13 (by decide) (fun c_2 => ?_) (fun c_2 => ?_)
      · replace h := ip c_2 h
        cases h
        have ho : X_5 _ := ho
        rw [eX_5] at ho
        exact ho H locs ls hw (lv_sub hl [0] rfl)
      · replace h := iq c_2 h
        refine lv_aload_n F.1 F.2.1 d_Scanner_scanInt_16 rfl (lv_at hl 0 rfl) ?_
        refine cg_2_0T F hK hw hP lk_34 d_Scanner_scanInt_17 ?_
        refine lv_aload_n F.1 F.2.1 d_Scanner_scanInt_20 rfl (lv_at hl 0 rfl) ?_
        refine cg_2_2 F hK hw lk_36 d_Scanner_scanInt_21 ?_
        obtain ⟨hi_3, h⟩ := gd_ex h
        refine cl_0_0 F hK hw hi_3 d_Scanner_scanInt_24 ?_
        obtain ⟨v_5, hc_4, h⟩ := bd_ex h
        refine cS_i F hA rfl hK hw (c_Scanner_isDigit l S hc_4) trivial rfl (good_S lk_416 lk_417 lk_3 lk_418) hd_Scanner_isDigit ⟨Nat.le_of_ble_eq_true rfl, Nat.le_of_ble_eq_true rfl⟩ rfl hl.1 rfl (Nat.le_of_ble_eq_true rfl) d_Scanner_scanInt_25 ⟨(Nat.zero_le _), (Nat.zero_le _)⟩ (fun H locs hw => ?_)
        refine lv_if_eq (tgt := 68) F.1 F.2.1 d_Scanner_scanInt_28 (by decide) (fun c_6 => ?_) (fun c_6 => ?_)
        · replace h := ip c_6 h
          cases h
          have ho : X_5 _ := ho
          rw [eX_5] at ho
          exact ho H locs ls hw (lv_sub hl [0] rfl)
        · replace h := iq c_6 h
          refine lv_aload_n F.1 F.2.1 d_Scanner_scanInt_31 rfl (lv_at hl 0 rfl) ?_
          refine lv_aload_n F.1 F.2.1 d_Scanner_scanInt_32 rfl (lv_at hl 0 rfl) ?_
          refine cg_2_5 F hK hw lk_41 d_Scanner_scanInt_33 ?_
          refine lv_bipush (v := 10) F.1 F.2.1 d_Scanner_scanInt_36 (by decide) ?_
          refine lv_imul F.1 F.2.1 d_Scanner_scanInt_38 ?_
          refine lv_aload_n F.1 F.2.1 d_Scanner_scanInt_39 rfl (lv_at hl 0 rfl) ?_
          refine cg_2_0T F hK hw hP lk_34 d_Scanner_scanInt_40 ?_
          refine lv_aload_n F.1 F.2.1 d_Scanner_scanInt_43 rfl (lv_at hl 0 rfl) ?_
          refine cg_2_2 F hK hw lk_36 d_Scanner_scanInt_44 ?_
          obtain ⟨hi_7, h⟩ := gd_ex h
          refine cl_0_0 F hK hw hi_7 d_Scanner_scanInt_47 ?_
          refine lv_iadd F.1 F.2.1 d_Scanner_scanInt_48 ?_
          refine lv_bipush (v := 48) F.1 F.2.1 d_Scanner_scanInt_49 (by decide) ?_
          refine lv_isub F.1 F.2.1 d_Scanner_scanInt_51 ?_
          obtain ⟨S_8, eS_8, h⟩ := nm_ex h
          refine cp_2_5 F hK hw lk_41 d_Scanner_scanInt_52 eS_8 (fun H locs hw => ?_)
          refine lv_aload_n F.1 F.2.1 d_Scanner_scanInt_55 rfl (lv_at hl 0 rfl) ?_
          refine lv_dup F.1 F.2.1 d_Scanner_scanInt_56 rfl ?_
          refine cg_2_2 F hK hw lk_36 d_Scanner_scanInt_57 ?_
          refine lv_iconst (v := 1) F.1 F.2.1 d_Scanner_scanInt_60 (by decide) ?_
          refine lv_iadd F.1 F.2.1 d_Scanner_scanInt_61 ?_
          obtain ⟨S_9, eS_9, h⟩ := nm_ex h
          refine cp_2_2 F hK hw lk_36 d_Scanner_scanInt_62 eS_9 (fun H locs hw => ?_)
          refine lv_goto (tgt := 5) F.1 F.2.1 d_Scanner_scanInt_65 (by decide) ?_
          cases h
          have ho : P_5 _ := ho
          rw [eP_5] at ho
          exact ho H locs ls hw (lv_sub hl [0] rfl)
    rw [eP_5] at hL_5
    exact hL_5 H locs ls hw (lv_sub hl [0] rfl)
  exact key _ _ hw _ h (by rw [eX_0]; exact fun H locs pc ls hd hw => hQ H locs pc ls ad rfl hd hw)
theorem d_Scanner_signWithEqual_0 : decode b_Scanner_signWithEqual 0 = .ok (.iload_n 0, 1) := by decide +kernel
theorem d_Scanner_signWithEqual_1 : decode b_Scanner_signWithEqual 1 = .ok (.lookupswitch 44 #[(33, 38), (60, 41), (61, 35)], 35) := by decide +kernel
theorem d_Scanner_signWithEqual_36 : decode b_Scanner_signWithEqual 36 = .ok (.bipush 8, 2) := by decide +kernel
theorem d_Scanner_signWithEqual_38 : decode b_Scanner_signWithEqual 38 = .ok (.ireturn, 1) := by decide +kernel
theorem d_Scanner_signWithEqual_39 : decode b_Scanner_signWithEqual 39 = .ok (.bipush 9, 2) := by decide +kernel
theorem d_Scanner_signWithEqual_41 : decode b_Scanner_signWithEqual 41 = .ok (.ireturn, 1) := by decide +kernel
theorem d_Scanner_signWithEqual_42 : decode b_Scanner_signWithEqual 42 = .ok (.bipush 11, 2) := by decide +kernel
theorem d_Scanner_signWithEqual_44 : decode b_Scanner_signWithEqual 44 = .ok (.ireturn, 1) := by decide +kernel
theorem d_Scanner_signWithEqual_45 : decode b_Scanner_signWithEqual 45 = .ok (.iconst 1, 1) := by decide +kernel
theorem d_Scanner_signWithEqual_46 : decode b_Scanner_signWithEqual 46 = .ok (.ireturn, 1) := by decide +kernel
set_option maxHeartbeats 4000000 in
set_option maxRecDepth 100000 in
theorem c_Scanner_signWithEqual (l : Launch) (S : St) {x0 : Int32} {r : Int32} (h : f_Scanner_signWithEqual x0 = some r) : MI cw l y_Scanner_signWithEqual b_Scanner_signWithEqual 1 (some .int) 0 0 0 0 (fun ad => [.int x0]) aT aE S r S := by
  refine MI_of "LawfulLots$Scanner" rfl (by decide) (fun _ => Nat.le_of_ble_eq_true rfl) ?_
  intro p e s m args below meth c D ar ad A Q ls hP F hK hA hw hl hQ
  have hl : lv_has ls 1 [(0, .int x0)] := hl
  obtain ⟨X_0, eX_0⟩ : ∃ X : Int32 → Prop, X = (fun q => ∀ (H : Heap) (locs : List Loc) (pc : Nat) (ls : Array Slot), decode b_Scanner_signWithEqual pc = .ok (.ireturn, 1) → Bw cw D ar A s.heap H locs ad S → W p l e (RM 0 0) s m args below meth c H locs 0 0 Q (F0 m pc ls [.int q])) := ⟨_, rfl⟩
  have key : ∀ (H : Heap) (locs : List Loc), Bw cw D ar A s.heap H locs ad S → ∀ o, f_Scanner_signWithEqual x0 = some o → X_0 o → W p l e (RM 0 0) s m args below meth c H locs 0 0 Q (F0 m 0 ls []) := by
    intro H locs hw o h ho
    unfold f_Scanner_signWithEqual at h
    refine lv_iload_n F.1 F.2.1 d_Scanner_signWithEqual_0 rfl (lv_at hl 0 rfl) ?_
    rcases Decidable.em (x0 = (33 : Int32)) with c_1 | c_1
    · replace h := ip c_1 h
      refine lv_lookup (off := 38) (tgt := 39) F.1 F.2.1 d_Scanner_signWithEqual_1 (by decide) (by rw [c_1]; decide) (by decide) ?_
      refine lv_bipush (v := 9) F.1 F.2.1 d_Scanner_signWithEqual_39 (by decide) ?_
      cases h
      have ho : X_0 _ := ho
      rw [eX_0] at ho
      exact ho H locs _ ls d_Scanner_signWithEqual_41 hw
    replace h := iq c_1 h
    rcases Decidable.em (x0 = (60 : Int32)) with c_2 | c_2
    · replace h := ip c_2 h
      refine lv_lookup (off := 41) (tgt := 42) F.1 F.2.1 d_Scanner_signWithEqual_1 (by decide) (by rw [c_2]; decide) (by decide) ?_
      refine lv_bipush (v := 11) F.1 F.2.1 d_Scanner_signWithEqual_42 (by decide) ?_
      cases h
      have ho : X_0 _ := ho
      rw [eX_0] at ho
      exact ho H locs _ ls d_Scanner_signWithEqual_44 hw
    replace h := iq c_2 h
    rcases Decidable.em (x0 = (61 : Int32)) with c_3 | c_3
    · replace h := ip c_3 h
      refine lv_lookup (off := 35) (tgt := 36) F.1 F.2.1 d_Scanner_signWithEqual_1 (by decide) (by rw [c_3]; decide) (by decide) ?_
      refine lv_bipush (v := 8) F.1 F.2.1 d_Scanner_signWithEqual_36 (by decide) ?_
      cases h
      have ho : X_0 _ := ho
      rw [eX_0] at ho
      exact ho H locs _ ls d_Scanner_signWithEqual_38 hw
    replace h := iq c_3 h
    refine lv_lookup (off := 44) (tgt := 45) F.1 F.2.1 d_Scanner_signWithEqual_1 (by decide) ((lv_osw (a := 33) c_1 rfl).trans ((lv_osw (a := 60) c_2 rfl).trans ((lv_osw (a := 61) c_3 rfl).trans (rfl)))) (by decide) ?_
    refine lv_iconst (v := 1) F.1 F.2.1 d_Scanner_signWithEqual_45 (by decide) ?_
    cases h
    have ho : X_0 _ := ho
    rw [eX_0] at ho
    exact ho H locs _ ls d_Scanner_signWithEqual_46 hw
  exact key _ _ hw _ h (by rw [eX_0]; exact fun H locs pc ls hd hw => hQ H locs pc ls ad rfl hd hw)
theorem d_Scanner_plainSign_0 : decode b_Scanner_plainSign 0 = .ok (.iload_n 0, 1) := by decide +kernel
theorem d_Scanner_plainSign_1 : decode b_Scanner_plainSign 1 = .ok (.tableswitch 118 40 60 #[112, 115, 106, 101, 118, 103, 118, 118, 118, 118, 118, 118, 118, 118, 118, 118, 118, 118, 118, 99, 109], 99) := by decide +kernel
theorem d_Scanner_plainSign_100 : decode b_Scanner_plainSign 100 = .ok (.iconst 4, 1) := by decide +kernel
theorem d_Scanner_plainSign_101 : decode b_Scanner_plainSign 101 = .ok (.ireturn, 1) := by decide +kernel
theorem d_Scanner_plainSign_102 : decode b_Scanner_plainSign 102 = .ok (.iconst 5, 1) := by decide +kernel
theorem d_Scanner_plainSign_103 : decode b_Scanner_plainSign 103 = .ok (.ireturn, 1) := by decide +kernel
theorem d_Scanner_plainSign_104 : decode b_Scanner_plainSign 104 = .ok (.bipush 6, 2) := by decide +kernel
theorem d_Scanner_plainSign_106 : decode b_Scanner_plainSign 106 = .ok (.ireturn, 1) := by decide +kernel
theorem d_Scanner_plainSign_107 : decode b_Scanner_plainSign 107 = .ok (.bipush 7, 2) := by decide +kernel
theorem d_Scanner_plainSign_109 : decode b_Scanner_plainSign 109 = .ok (.ireturn, 1) := by decide +kernel
theorem d_Scanner_plainSign_110 : decode b_Scanner_plainSign 110 = .ok (.bipush 10, 2) := by decide +kernel
theorem d_Scanner_plainSign_112 : decode b_Scanner_plainSign 112 = .ok (.ireturn, 1) := by decide +kernel
theorem d_Scanner_plainSign_113 : decode b_Scanner_plainSign 113 = .ok (.bipush 12, 2) := by decide +kernel
theorem d_Scanner_plainSign_115 : decode b_Scanner_plainSign 115 = .ok (.ireturn, 1) := by decide +kernel
theorem d_Scanner_plainSign_116 : decode b_Scanner_plainSign 116 = .ok (.bipush 13, 2) := by decide +kernel
theorem d_Scanner_plainSign_118 : decode b_Scanner_plainSign 118 = .ok (.ireturn, 1) := by decide +kernel
theorem d_Scanner_plainSign_119 : decode b_Scanner_plainSign 119 = .ok (.iconst 1, 1) := by decide +kernel
theorem d_Scanner_plainSign_120 : decode b_Scanner_plainSign 120 = .ok (.ireturn, 1) := by decide +kernel
set_option maxHeartbeats 4000000 in
set_option maxRecDepth 100000 in
theorem c_Scanner_plainSign (l : Launch) (S : St) {x0 : Int32} {r : Int32} (h : f_Scanner_plainSign x0 = some r) : MI cw l y_Scanner_plainSign b_Scanner_plainSign 1 (some .int) 0 0 0 0 (fun ad => [.int x0]) aT aE S r S := by
  refine MI_of "LawfulLots$Scanner" rfl (by decide) (fun _ => Nat.le_of_ble_eq_true rfl) ?_
  intro p e s m args below meth c D ar ad A Q ls hP F hK hA hw hl hQ
  have hl : lv_has ls 1 [(0, .int x0)] := hl
  obtain ⟨X_0, eX_0⟩ : ∃ X : Int32 → Prop, X = (fun q => ∀ (H : Heap) (locs : List Loc) (pc : Nat) (ls : Array Slot), decode b_Scanner_plainSign pc = .ok (.ireturn, 1) → Bw cw D ar A s.heap H locs ad S → W p l e (RM 0 0) s m args below meth c H locs 0 0 Q (F0 m pc ls [.int q])) := ⟨_, rfl⟩
  have key : ∀ (H : Heap) (locs : List Loc), Bw cw D ar A s.heap H locs ad S → ∀ o, f_Scanner_plainSign x0 = some o → X_0 o → W p l e (RM 0 0) s m args below meth c H locs 0 0 Q (F0 m 0 ls []) := by
    intro H locs hw o h ho
    unfold f_Scanner_plainSign at h
    have J_119 : ∀ (H : Heap) (locs : List Loc) (ls : Array Slot), Bw cw D ar A s.heap H locs ad S → lv_has ls 1 [] → ∀ o, Scanner_plainSign_j119 = some o → X_0 o → W p l e (RM 0 0) s m args below meth c H locs 0 0 Q (F0 m 119 ls []) := by
      intro H locs ls hw hl o h ho
      unfold Scanner_plainSign_j119 at h
      refine lv_iconst (v := 1) F.1 F.2.1 d_Scanner_plainSign_119 (by decide) ?_
      cases h
      have ho : X_0 _ := ho
      rw [eX_0] at ho
      exact ho H locs _ ls d_Scanner_plainSign_120 hw
    refine lv_iload_n F.1 F.2.1 d_Scanner_plainSign_0 rfl (lv_at hl 0 rfl) ?_
    rcases Decidable.em (x0 = (40 : Int32)) with c_1 | c_1
    · replace h := ip c_1 h
      refine lv_tableIn (off := 112) (tgt := 113) F.1 F.2.1 d_Scanner_plainSign_1 (by rw [c_1]; decide) (by rw [c_1]; decide) (by rw [c_1]; decide) (by decide) ?_
      refine lv_bipush (v := 12) F.1 F.2.1 d_Scanner_plainSign_113 (by decide) ?_
      cases h
      have ho : X_0 _ := ho
      rw [eX_0] at ho
      exact ho H locs _ ls d_Scanner_plainSign_115 hw
    replace h := iq c_1 h
    rcases Decidable.em (x0 = (41 : Int32)) with c_2 | c_2
    · replace h := ip c_2 h
      refine lv_tableIn (off := 115) (tgt := 116) F.1 F.2.1 d_Scanner_plainSign_1 (by rw [c_2]; decide) (by rw [c_2]; decide) (by rw [c_2]; decide) (by decide) ?_
      refine lv_bipush (v := 13) F.1 F.2.1 d_Scanner_plainSign_116 (by decide) ?_
      cases h
      have ho : X_0 _ := ho
      rw [eX_0] at ho
      exact ho H locs _ ls d_Scanner_plainSign_118 hw
    replace h := iq c_2 h
    rcases Decidable.em (x0 = (42 : Int32)) with c_3 | c_3
    · replace h := ip c_3 h
      refine lv_tableIn (off := 106) (tgt := 107) F.1 F.2.1 d_Scanner_plainSign_1 (by rw [c_3]; decide) (by rw [c_3]; decide) (by rw [c_3]; decide) (by decide) ?_
      refine lv_bipush (v := 7) F.1 F.2.1 d_Scanner_plainSign_107 (by decide) ?_
      cases h
      have ho : X_0 _ := ho
      rw [eX_0] at ho
      exact ho H locs _ ls d_Scanner_plainSign_109 hw
    replace h := iq c_3 h
    rcases Decidable.em (x0 = (43 : Int32)) with c_4 | c_4
    · replace h := ip c_4 h
      refine lv_tableIn (off := 101) (tgt := 102) F.1 F.2.1 d_Scanner_plainSign_1 (by rw [c_4]; decide) (by rw [c_4]; decide) (by rw [c_4]; decide) (by decide) ?_
      refine lv_iconst (v := 5) F.1 F.2.1 d_Scanner_plainSign_102 (by decide) ?_
      cases h
      have ho : X_0 _ := ho
      rw [eX_0] at ho
      exact ho H locs _ ls d_Scanner_plainSign_103 hw
    replace h := iq c_4 h
    rcases Decidable.em (x0 = (44 : Int32)) with c_5 | c_5
    · replace h := ip c_5 h
      refine lv_tableIn (off := 118) (tgt := 119) F.1 F.2.1 d_Scanner_plainSign_1 (by rw [c_5]; decide) (by rw [c_5]; decide) (by rw [c_5]; decide) (by decide) ?_
      exact J_119 H locs ls hw (lv_sub hl [] rfl) o h ho
    replace h := iq c_5 h
    rcases Decidable.em (x0 = (45 : Int32)) with c_6 | c_6
    · replace h := ip c_6 h
      refine lv_tableIn (off := 103) (tgt := 104) F.1 F.2.1 d_Scanner_plainSign_1 (by rw [c_6]; decide) (by rw [c_6]; decide) (by rw [c_6]; decide) (by decide) ?_
      refine lv_bipush (v := 6) F.1 F.2.1 d_Scanner_plainSign_104 (by decide) ?_
      cases h
      have ho : X_0 _ := ho
      rw [eX_0] at ho
      exact ho H locs _ ls d_Scanner_plainSign_106 hw
    replace h := iq c_6 h
    rcases Decidable.em (x0 = (46 : Int32)) with c_7 | c_7
    · replace h := ip c_7 h
      refine lv_tableIn (off := 118) (tgt := 119) F.1 F.2.1 d_Scanner_plainSign_1 (by rw [c_7]; decide) (by rw [c_7]; decide) (by rw [c_7]; decide) (by decide) ?_
      exact J_119 H locs ls hw (lv_sub hl [] rfl) o h ho
    replace h := iq c_7 h
    rcases Decidable.em (x0 = (47 : Int32)) with c_8 | c_8
    · replace h := ip c_8 h
      refine lv_tableIn (off := 118) (tgt := 119) F.1 F.2.1 d_Scanner_plainSign_1 (by rw [c_8]; decide) (by rw [c_8]; decide) (by rw [c_8]; decide) (by decide) ?_
      exact J_119 H locs ls hw (lv_sub hl [] rfl) o h ho
    replace h := iq c_8 h
    rcases Decidable.em (x0 = (48 : Int32)) with c_9 | c_9
    · replace h := ip c_9 h
      refine lv_tableIn (off := 118) (tgt := 119) F.1 F.2.1 d_Scanner_plainSign_1 (by rw [c_9]; decide) (by rw [c_9]; decide) (by rw [c_9]; decide) (by decide) ?_
      exact J_119 H locs ls hw (lv_sub hl [] rfl) o h ho
    replace h := iq c_9 h
    rcases Decidable.em (x0 = (49 : Int32)) with c_10 | c_10
    · replace h := ip c_10 h
      refine lv_tableIn (off := 118) (tgt := 119) F.1 F.2.1 d_Scanner_plainSign_1 (by rw [c_10]; decide) (by rw [c_10]; decide) (by rw [c_10]; decide) (by decide) ?_
      exact J_119 H locs ls hw (lv_sub hl [] rfl) o h ho
    replace h := iq c_10 h
    rcases Decidable.em (x0 = (50 : Int32)) with c_11 | c_11
    · replace h := ip c_11 h
      refine lv_tableIn (off := 118) (tgt := 119) F.1 F.2.1 d_Scanner_plainSign_1 (by rw [c_11]; decide) (by rw [c_11]; decide) (by rw [c_11]; decide) (by decide) ?_
      exact J_119 H locs ls hw (lv_sub hl [] rfl) o h ho
    replace h := iq c_11 h
    rcases Decidable.em (x0 = (51 : Int32)) with c_12 | c_12
    · replace h := ip c_12 h
      refine lv_tableIn (off := 118) (tgt := 119) F.1 F.2.1 d_Scanner_plainSign_1 (by rw [c_12]; decide) (by rw [c_12]; decide) (by rw [c_12]; decide) (by decide) ?_
      exact J_119 H locs ls hw (lv_sub hl [] rfl) o h ho
    replace h := iq c_12 h
    rcases Decidable.em (x0 = (52 : Int32)) with c_13 | c_13
    · replace h := ip c_13 h
      refine lv_tableIn (off := 118) (tgt := 119) F.1 F.2.1 d_Scanner_plainSign_1 (by rw [c_13]; decide) (by rw [c_13]; decide) (by rw [c_13]; decide) (by decide) ?_
      exact J_119 H locs ls hw (lv_sub hl [] rfl) o h ho
    replace h := iq c_13 h
    rcases Decidable.em (x0 = (53 : Int32)) with c_14 | c_14
    · replace h := ip c_14 h
      refine lv_tableIn (off := 118) (tgt := 119) F.1 F.2.1 d_Scanner_plainSign_1 (by rw [c_14]; decide) (by rw [c_14]; decide) (by rw [c_14]; decide) (by decide) ?_
      exact J_119 H locs ls hw (lv_sub hl [] rfl) o h ho
    replace h := iq c_14 h
    rcases Decidable.em (x0 = (54 : Int32)) with c_15 | c_15
    · replace h := ip c_15 h
      refine lv_tableIn (off := 118) (tgt := 119) F.1 F.2.1 d_Scanner_plainSign_1 (by rw [c_15]; decide) (by rw [c_15]; decide) (by rw [c_15]; decide) (by decide) ?_
      exact J_119 H locs ls hw (lv_sub hl [] rfl) o h ho
    replace h := iq c_15 h
    rcases Decidable.em (x0 = (55 : Int32)) with c_16 | c_16
    · replace h := ip c_16 h
      refine lv_tableIn (off := 118) (tgt := 119) F.1 F.2.1 d_Scanner_plainSign_1 (by rw [c_16]; decide) (by rw [c_16]; decide) (by rw [c_16]; decide) (by decide) ?_
      exact J_119 H locs ls hw (lv_sub hl [] rfl) o h ho
    replace h := iq c_16 h
    rcases Decidable.em (x0 = (56 : Int32)) with c_17 | c_17
    · replace h := ip c_17 h
      refine lv_tableIn (off := 118) (tgt := 119) F.1 F.2.1 d_Scanner_plainSign_1 (by rw [c_17]; decide) (by rw [c_17]; decide) (by rw [c_17]; decide) (by decide) ?_
      exact J_119 H locs ls hw (lv_sub hl [] rfl) o h ho
    replace h := iq c_17 h
    rcases Decidable.em (x0 = (57 : Int32)) with c_18 | c_18
    · replace h := ip c_18 h
      refine lv_tableIn (off := 118) (tgt := 119) F.1 F.2.1 d_Scanner_plainSign_1 (by rw [c_18]; decide) (by rw [c_18]; decide) (by rw [c_18]; decide) (by decide) ?_
      exact J_119 H locs ls hw (lv_sub hl [] rfl) o h ho
    replace h := iq c_18 h
    rcases Decidable.em (x0 = (58 : Int32)) with c_19 | c_19
    · replace h := ip c_19 h
      refine lv_tableIn (off := 118) (tgt := 119) F.1 F.2.1 d_Scanner_plainSign_1 (by rw [c_19]; decide) (by rw [c_19]; decide) (by rw [c_19]; decide) (by decide) ?_
      exact J_119 H locs ls hw (lv_sub hl [] rfl) o h ho
    replace h := iq c_19 h
    rcases Decidable.em (x0 = (59 : Int32)) with c_20 | c_20
    · replace h := ip c_20 h
      refine lv_tableIn (off := 99) (tgt := 100) F.1 F.2.1 d_Scanner_plainSign_1 (by rw [c_20]; decide) (by rw [c_20]; decide) (by rw [c_20]; decide) (by decide) ?_
      refine lv_iconst (v := 4) F.1 F.2.1 d_Scanner_plainSign_100 (by decide) ?_
      cases h
      have ho : X_0 _ := ho
      rw [eX_0] at ho
      exact ho H locs _ ls d_Scanner_plainSign_101 hw
    replace h := iq c_20 h
    rcases Decidable.em (x0 = (60 : Int32)) with c_21 | c_21
    · replace h := ip c_21 h
      refine lv_tableIn (off := 109) (tgt := 110) F.1 F.2.1 d_Scanner_plainSign_1 (by rw [c_21]; decide) (by rw [c_21]; decide) (by rw [c_21]; decide) (by decide) ?_
      refine lv_bipush (v := 10) F.1 F.2.1 d_Scanner_plainSign_110 (by decide) ?_
      cases h
      have ho : X_0 _ := ho
      rw [eX_0] at ho
      exact ho H locs _ ls d_Scanner_plainSign_112 hw
    replace h := iq c_21 h
    have zc_1 := lv_neT (a := 40) c_1 rfl
    have zc_2 := lv_neT (a := 41) c_2 rfl
    have zc_3 := lv_neT (a := 42) c_3 rfl
    have zc_4 := lv_neT (a := 43) c_4 rfl
    have zc_5 := lv_neT (a := 44) c_5 rfl
    have zc_6 := lv_neT (a := 45) c_6 rfl
    have zc_7 := lv_neT (a := 46) c_7 rfl
    have zc_8 := lv_neT (a := 47) c_8 rfl
    have zc_9 := lv_neT (a := 48) c_9 rfl
    have zc_10 := lv_neT (a := 49) c_10 rfl
    have zc_11 := lv_neT (a := 50) c_11 rfl
    have zc_12 := lv_neT (a := 51) c_12 rfl
    have zc_13 := lv_neT (a := 52) c_13 rfl
    have zc_14 := lv_neT (a := 53) c_14 rfl
    have zc_15 := lv_neT (a := 54) c_15 rfl
    have zc_16 := lv_neT (a := 55) c_16 rfl
    have zc_17 := lv_neT (a := 56) c_17 rfl
    have zc_18 := lv_neT (a := 57) c_18 rfl
    have zc_19 := lv_neT (a := 58) c_19 rfl
    have zc_20 := lv_neT (a := 59) c_20 rfl
    have zc_21 := lv_neT (a := 60) c_21 rfl
    refine lv_tableOut (tgt := 119) F.1 F.2.1 d_Scanner_plainSign_1 (by omega) (by decide) ?_
    exact J_119 H locs ls hw (lv_sub hl [] rfl) o h ho
  exact key _ _ hw _ h (by rw [eX_0]; exact fun H locs pc ls hd hw => hQ H locs pc ls ad rfl hd hw)
theorem d_Scanner_scanSign_0 : decode b_Scanner_scanSign 0 = .ok (.aload_n 0, 1) := by decide +kernel
theorem d_Scanner_scanSign_1 : decode b_Scanner_scanSign 1 = .ok (.getfield 19, 3) := by decide +kernel
theorem d_Scanner_scanSign_4 : decode b_Scanner_scanSign 4 = .ok (.iconst 1, 1) := by decide +kernel
theorem d_Scanner_scanSign_5 : decode b_Scanner_scanSign 5 = .ok (.iadd, 1) := by decide +kernel
theorem d_Scanner_scanSign_6 : decode b_Scanner_scanSign 6 = .ok (.aload_n 0, 1) := by decide +kernel
theorem d_Scanner_scanSign_7 : decode b_Scanner_scanSign 7 = .ok (.getfield 15, 3) := by decide +kernel
theorem d_Scanner_scanSign_10 : decode b_Scanner_scanSign 10 = .ok (.if_icmp .ge 23, 3) := by decide +kernel
theorem d_Scanner_scanSign_13 : decode b_Scanner_scanSign 13 = .ok (.aload_n 0, 1) := by decide +kernel
theorem d_Scanner_scanSign_14 : decode b_Scanner_scanSign 14 = .ok (.getfield 9, 3) := by decide +kernel
theorem d_Scanner_scanSign_17 : decode b_Scanner_scanSign 17 = .ok (.aload_n 0, 1) := by decide +kernel
theorem d_Scanner_scanSign_18 : decode b_Scanner_scanSign 18 = .ok (.getfield 19, 3) := by decide +kernel
theorem d_Scanner_scanSign_21 : decode b_Scanner_scanSign 21 = .ok (.iconst 1, 1) := by decide +kernel
theorem d_Scanner_scanSign_22 : decode b_Scanner_scanSign 22 = .ok (.iadd, 1) := by decide +kernel
theorem d_Scanner_scanSign_23 : decode b_Scanner_scanSign 23 = .ok (.baload, 1) := by decide +kernel
theorem d_Scanner_scanSign_24 : decode b_Scanner_scanSign 24 = .ok (.bipush 61, 2) := by decide +kernel
theorem d_Scanner_scanSign_26 : decode b_Scanner_scanSign 26 = .ok (.if_icmp .ne 7, 3) := by decide +kernel
theorem d_Scanner_scanSign_29 : decode b_Scanner_scanSign 29 = .ok (.iconst 1, 1) := by decide +kernel
theorem d_Scanner_scanSign_30 : decode b_Scanner_scanSign 30 = .ok (.goto 4, 3) := by decide +kernel
theorem d_Scanner_scanSign_33 : decode b_Scanner_scanSign 33 = .ok (.iconst 0, 1) := by decide +kernel
theorem d_Scanner_scanSign_34 : decode b_Scanner_scanSign 34 = .ok (.istore_n 2, 1) := by decide +kernel
theorem d_Scanner_scanSign_35 : decode b_Scanner_scanSign 35 = .ok (.aload_n 0, 1) := by decide +kernel
theorem d_Scanner_scanSign_36 : decode b_Scanner_scanSign 36 = .ok (.iload_n 2, 1) := by decide +kernel
theorem d_Scanner_scanSign_37 : decode b_Scanner_scanSign 37 = .ok (.ifCond .eq 10, 3) := by decide +kernel
theorem d_Scanner_scanSign_40 : decode b_Scanner_scanSign 40 = .ok (.iload_n 1, 1) := by decide +kernel
theorem d_Scanner_scanSign_41 : decode b_Scanner_scanSign 41 = .ok (.invokestatic 75, 3) := by decide +kernel
theorem d_Scanner_scanSign_44 : decode b_Scanner_scanSign 44 = .ok (.goto 4, 3) := by decide +kernel
theorem d_Scanner_scanSign_47 : decode b_Scanner_scanSign 47 = .ok (.iconst 1, 1) := by decide +kernel
theorem d_Scanner_scanSign_48 : decode b_Scanner_scanSign 48 = .ok (.putfield 22, 3) := by decide +kernel
theorem d_Scanner_scanSign_51 : decode b_Scanner_scanSign 51 = .ok (.aload_n 0, 1) := by decide +kernel
theorem d_Scanner_scanSign_52 : decode b_Scanner_scanSign 52 = .ok (.getfield 22, 3) := by decide +kernel
theorem d_Scanner_scanSign_55 : decode b_Scanner_scanSign 55 = .ok (.iconst 1, 1) := by decide +kernel
theorem d_Scanner_scanSign_56 : decode b_Scanner_scanSign 56 = .ok (.if_icmp .eq 16, 3) := by decide +kernel
theorem d_Scanner_scanSign_59 : decode b_Scanner_scanSign 59 = .ok (.aload_n 0, 1) := by decide +kernel
theorem d_Scanner_scanSign_60 : decode b_Scanner_scanSign 60 = .ok (.dup, 1) := by decide +kernel
theorem d_Scanner_scanSign_61 : decode b_Scanner_scanSign 61 = .ok (.getfield 19, 3) := by decide +kernel
theorem d_Scanner_scanSign_64 : decode b_Scanner_scanSign 64 = .ok (.iconst 2, 1) := by decide +kernel
theorem d_Scanner_scanSign_65 : decode b_Scanner_scanSign 65 = .ok (.iadd, 1) := by decide +kernel
theorem d_Scanner_scanSign_66 : decode b_Scanner_scanSign 66 = .ok (.putfield 19, 3) := by decide +kernel
theorem d_Scanner_scanSign_69 : decode b_Scanner_scanSign 69 = .ok (.goto 21, 3) := by decide +kernel
theorem d_Scanner_scanSign_72 : decode b_Scanner_scanSign 72 = .ok (.aload_n 0, 1) := by decide +kernel
theorem d_Scanner_scanSign_73 : decode b_Scanner_scanSign 73 = .ok (.iload_n 1, 1) := by decide +kernel
theorem d_Scanner_scanSign_74 : decode b_Scanner_scanSign 74 = .ok (.invokestatic 79, 3) := by decide +kernel
theorem d_Scanner_scanSign_77 : decode b_Scanner_scanSign 77 = .ok (.putfield 22, 3) := by decide +kernel
theorem d_Scanner_scanSign_80 : decode b_Scanner_scanSign 80 = .ok (.aload_n 0, 1) := by decide +kernel
theorem d_Scanner_scanSign_81 : decode b_Scanner_scanSign 81 = .ok (.dup, 1) := by decide +kernel
theorem d_Scanner_scanSign_82 : decode b_Scanner_scanSign 82 = .ok (.getfield 19, 3) := by decide +kernel
theorem d_Scanner_scanSign_85 : decode b_Scanner_scanSign 85 = .ok (.iconst 1, 1) := by decide +kernel
theorem d_Scanner_scanSign_86 : decode b_Scanner_scanSign 86 = .ok (.iadd, 1) := by decide +kernel
theorem d_Scanner_scanSign_87 : decode b_Scanner_scanSign 87 = .ok (.putfield 19, 3) := by decide +kernel
theorem d_Scanner_scanSign_90 : decode b_Scanner_scanSign 90 = .ok (.return_, 1) := by decide +kernel
set_option maxHeartbeats 4000000 in
set_option maxRecDepth 100000 in
theorem c_Scanner_scanSign (l : Launch) {S : St} {x1 : Int32} {S' : St} (h : f_Scanner_scanSign S x1 = some S') : MV cw l y_Scanner_scanSign b_Scanner_scanSign 3 none 1 20 0 0 (fun ad => [.ref (ad 2 0), .int x1]) aX aE S S' := by
  refine MV_of "LawfulLots$Scanner" rfl (by decide) (fun _ => Nat.le_of_ble_eq_true rfl) ?_
  intro p e s m args below meth c D ar ad A Q ls hP F hK hA hw hl hQ
  have hl : lv_has ls 3 [(0, .ref (ad 2 0)), (1, .int x1)] := hl
  obtain ⟨X_0, eX_0⟩ : ∃ X : St → Prop, X = (fun q => ∀ (H : Heap) (locs : List Loc) (pc : Nat) (ls : Array Slot), decode b_Scanner_scanSign pc = .ok (.return_, 1) → Bw cw D ar A s.heap H locs ad q → W p l e (RM 1 20) s m args below meth c H locs 0 0 Q (F0 m pc ls [])) := ⟨_, rfl⟩
  have key : ∀ (H : Heap) (locs : List Loc), Bw cw D ar A s.heap H locs ad S → ∀ o, f_Scanner_scanSign S x1 = some o → X_0 o → W p l e (RM 1 20) s m args below meth c H locs 0 0 Q (F0 m 0 ls []) := by
    intro H locs hw o h ho
    unfold f_Scanner_scanSign at h
    have J_90 : ∀ (S : St) (H : Heap) (locs : List Loc) (ls : Array Slot), Bw cw D ar A s.heap H locs ad S → lv_has ls 3 [] → ∀ o, Scanner_scanSign_j90 S = some o → X_0 o → W p l e (RM 1 20) s m args below meth c H locs 0 0 Q (F0 m 90 ls []) := by
      intro S H locs ls hw hl o h ho
      unfold Scanner_scanSign_j90 at h
      cases h
      have ho : X_0 _ := ho
      rw [eX_0] at ho
      exact ho H locs _ ls d_Scanner_scanSign_90 hw
    have J_48 : ∀ (S : St) (t1 : Int32) (H : Heap) (locs : List Loc) (ls : Array Slot), Bw cw D ar A s.heap H locs ad S → lv_has ls 3 [(0, .ref (ad 2 0)), (1, .int x1)] → ∀ o, Scanner_scanSign_j48 S x1 t1 = some o → X_0 o → W p l e (RM 1 20) s m args below meth c H locs 0 0 Q (F0 m 48 ls [.int t1, .ref (ad 2 0)]) := by
      intro S t1 H locs ls hw hl o h ho
      unfold Scanner_scanSign_j48 at h
      obtain ⟨S_7, eS_7, h⟩ := nm_ex h
      refine cp_2_3 F hK hw lk_37 d_Scanner_scanSign_48 eS_7 (fun H locs hw => ?_)
      refine lv_aload_n F.1 F.2.1 d_Scanner_scanSign_51 rfl (lv_at hl 0 rfl) ?_
      refine cg_2_3 F hK hw lk_37 d_Scanner_scanSign_52 ?_
      refine lv_iconst (v := 1) F.1 F.2.1 d_Scanner_scanSign_55 (by decide) ?_
      refine lv_icmp_eq (tgt := 72) F.1 F.2.1 d_Scanner_scanSign_56 (by decide) (fun c_8 => ?_) (fun c_8 => ?_)
      · replace h := ip c_8 h
        refine lv_aload_n F.1 F.2.1 d_Scanner_scanSign_72 rfl (lv_at hl 0 rfl) ?_
        refine lv_iload_n F.1 F.2.1 d_Scanner_scanSign_73 rfl (lv_at hl 1 rfl) ?_
        obtain ⟨v_10, hc_9, h⟩ := bd_ex h
        refine cS_i F hA rfl hK hw (c_Scanner_plainSign l S_7 hc_9) trivial rfl (good_S lk_436 lk_437 lk_3 lk_438) hd_Scanner_plainSign ⟨Nat.le_of_ble_eq_true rfl, Nat.le_of_ble_eq_true rfl⟩ rfl hl.1 rfl (Nat.le_of_ble_eq_true rfl) d_Scanner_scanSign_74 ⟨(Nat.zero_le _), (Nat.zero_le _)⟩ (fun H locs hw => ?_)
        obtain ⟨S_11, eS_11, h⟩ := nm_ex h
        refine cp_2_3 F hK hw lk_37 d_Scanner_scanSign_77 eS_11 (fun H locs hw => ?_)
        refine lv_aload_n F.1 F.2.1 d_Scanner_scanSign_80 rfl (lv_at hl 0 rfl) ?_
        refine lv_dup F.1 F.2.1 d_Scanner_scanSign_81 rfl ?_
        refine cg_2_2 F hK hw lk_36 d_Scanner_scanSign_82 ?_
        refine lv_iconst (v := 1) F.1 F.2.1 d_Scanner_scanSign_85 (by decide) ?_
        refine lv_iadd F.1 F.2.1 d_Scanner_scanSign_86 ?_
        obtain ⟨S_12, eS_12, h⟩ := nm_ex h
        refine cp_2_2 F hK hw lk_36 d_Scanner_scanSign_87 eS_12 (fun H locs hw => ?_)
        exact J_90 S_12 H locs ls hw (lv_sub hl [] rfl) o h ho
      · replace h := iq c_8 h
        refine lv_aload_n F.1 F.2.1 d_Scanner_scanSign_59 rfl (lv_at hl 0 rfl) ?_
        refine lv_dup F.1 F.2.1 d_Scanner_scanSign_60 rfl ?_
        refine cg_2_2 F hK hw lk_36 d_Scanner_scanSign_61 ?_
        refine lv_iconst (v := 2) F.1 F.2.1 d_Scanner_scanSign_64 (by decide) ?_
        refine lv_iadd F.1 F.2.1 d_Scanner_scanSign_65 ?_
        obtain ⟨S_13, eS_13, h⟩ := nm_ex h
        refine cp_2_2 F hK hw lk_36 d_Scanner_scanSign_66 eS_13 (fun H locs hw => ?_)
        refine lv_goto (tgt := 90) F.1 F.2.1 d_Scanner_scanSign_69 (by decide) ?_
        exact J_90 S_13 H locs ls hw (lv_sub hl [] rfl) o h ho
    have J_34 : ∀ (S : St) (t0 : Int32) (H : Heap) (locs : List Loc) (ls : Array Slot), Bw cw D ar A s.heap H locs ad S → lv_has ls 3 [(0, .ref (ad 2 0)), (1, .int x1)] → ∀ o, Scanner_scanSign_j34 S x1 t0 = some o → X_0 o → W p l e (RM 1 20) s m args below meth c H locs 0 0 Q (F0 m 34 ls [.int t0]) := by
      intro S t0 H locs ls hw hl o h ho
      unfold Scanner_scanSign_j34 at h
      refine lv_istore_n (lv' := [(2, .int t0), (0, .ref (ad 2 0)), (1, .int x1)]) F.1 F.2.1 d_Scanner_scanSign_34 rfl hl (by decide) rfl (fun ls hl => ?_)
      refine lv_aload_n F.1 F.2.1 d_Scanner_scanSign_35 rfl (lv_at hl 1 rfl) ?_
      refine lv_iload_n F.1 F.2.1 d_Scanner_scanSign_36 rfl (lv_at hl 0 rfl) ?_
      refine lv_if_eq (tgt := 47) F.1 F.2.1 d_Scanner_scanSign_37 (by decide) (fun c_4 => ?_) (fun c_4 => ?_)
      · replace h := ip c_4 h
        refine lv_iconst (v := 1) F.1 F.2.1 d_Scanner_scanSign_47 (by decide) ?_
        exact J_48 S (1 : Int32) H locs ls hw (lv_sub hl [1, 2] rfl) o h ho
      · replace h := iq c_4 h
        refine lv_iload_n F.1 F.2.1 d_Scanner_scanSign_40 rfl (lv_at hl 2 rfl) ?_
        obtain ⟨v_6, hc_5, h⟩ := bd_ex h
        refine cS_i F hA rfl hK hw (c_Scanner_signWithEqual l S hc_5) trivial rfl (good_S lk_433 lk_434 lk_3 lk_435) hd_Scanner_signWithEqual ⟨Nat.le_of_ble_eq_true rfl, Nat.le_of_ble_eq_true rfl⟩ rfl hl.1 rfl (Nat.le_of_ble_eq_true rfl) d_Scanner_scanSign_41 ⟨(Nat.zero_le _), (Nat.zero_le _)⟩ (fun H locs hw => ?_)
        refine lv_goto (tgt := 48) F.1 F.2.1 d_Scanner_scanSign_44 (by decide) ?_
        exact J_48 S v_6 H locs ls hw (lv_sub hl [1, 2] rfl) o h ho
    have J_33 : ∀ (S : St) (H : Heap) (locs : List Loc) (ls : Array Slot), Bw cw D ar A s.heap H locs ad S → lv_has ls 3 [(0, .ref (ad 2 0)), (1, .int x1)] → ∀ o, Scanner_scanSign_j33 S x1 = some o → X_0 o → W p l e (RM 1 20) s m args below meth c H locs 0 0 Q (F0 m 33 ls []) := by
      intro S H locs ls hw hl o h ho
      unfold Scanner_scanSign_j33 at h
      refine lv_iconst (v := 0) F.1 F.2.1 d_Scanner_scanSign_33 (by decide) ?_
      exact J_34 S (0 : Int32) H locs ls hw (lv_sub hl [0, 1] rfl) o h ho
    refine lv_aload_n F.1 F.2.1 d_Scanner_scanSign_0 rfl (lv_at hl 0 rfl) ?_
    refine cg_2_2 F hK hw lk_36 d_Scanner_scanSign_1 ?_
    refine lv_iconst (v := 1) F.1 F.2.1 d_Scanner_scanSign_4 (by decide) ?_
    refine lv_iadd F.1 F.2.1 d_Scanner_scanSign_5 ?_
    refine lv_aload_n F.1 F.2.1 d_Scanner_scanSign_6 rfl (lv_at hl 0 rfl) ?_
    refine cg_2_1 F hK hw lk_35 d_Scanner_scanSign_7 ?_
    refine lv_icmp_ge (tgt := 33) F.1 F.2.1 d_Scanner_scanSign_10 (by decide) (fun c_1 => ?_) (fun c_1 => ?_)
    · replace h := ip c_1 h
      exact J_33 S H locs ls hw (lv_sub hl [0, 1] rfl) o h ho
    · replace h := iq c_1 h
      refine lv_aload_n F.1 F.2.1 d_Scanner_scanSign_13 rfl (lv_at hl 0 rfl) ?_
      refine cg_2_0T F hK hw hP lk_34 d_Scanner_scanSign_14 ?_
      refine lv_aload_n F.1 F.2.1 d_Scanner_scanSign_17 rfl (lv_at hl 0 rfl) ?_
      refine cg_2_2 F hK hw lk_36 d_Scanner_scanSign_18 ?_
      refine lv_iconst (v := 1) F.1 F.2.1 d_Scanner_scanSign_21 (by decide) ?_
      refine lv_iadd F.1 F.2.1 d_Scanner_scanSign_22 ?_
      obtain ⟨hi_2, h⟩ := gd_ex h
      refine cl_0_0 F hK hw hi_2 d_Scanner_scanSign_23 ?_
      refine lv_bipush (v := 61) F.1 F.2.1 d_Scanner_scanSign_24 (by decide) ?_
      refine lv_icmp_ne (tgt := 33) F.1 F.2.1 d_Scanner_scanSign_26 (by decide) (fun c_3 => ?_) (fun c_3 => ?_)
      · replace h := iq c_3 h
        exact J_33 S H locs ls hw (lv_sub hl [0, 1] rfl) o h ho
      · replace h := ip c_3 h
        refine lv_iconst (v := 1) F.1 F.2.1 d_Scanner_scanSign_29 (by decide) ?_
        refine lv_goto (tgt := 34) F.1 F.2.1 d_Scanner_scanSign_30 (by decide) ?_
        exact J_34 S (1 : Int32) H locs ls hw (lv_sub hl [0, 1] rfl) o h ho
  exact key _ _ hw _ h (by rw [eX_0]; exact fun H locs pc ls hd hw => hQ H locs pc ls ad rfl hd hw)
theorem d_Scanner_isBlank_0 : decode b_Scanner_isBlank 0 = .ok (.iload_n 0, 1) := by decide +kernel
theorem d_Scanner_isBlank_1 : decode b_Scanner_isBlank 1 = .ok (.bipush 9, 2) := by decide +kernel
theorem d_Scanner_isBlank_3 : decode b_Scanner_isBlank 3 = .ok (.if_icmp .eq 21, 3) := by decide +kernel
theorem d_Scanner_isBlank_6 : decode b_Scanner_isBlank 6 = .ok (.iload_n 0, 1) := by decide +kernel
theorem d_Scanner_isBlank_7 : decode b_Scanner_isBlank 7 = .ok (.bipush 10, 2) := by decide +kernel
theorem d_Scanner_isBlank_9 : decode b_Scanner_isBlank 9 = .ok (.if_icmp .eq 15, 3) := by decide +kernel
theorem d_Scanner_isBlank_12 : decode b_Scanner_isBlank 12 = .ok (.iload_n 0, 1) := by decide +kernel
theorem d_Scanner_isBlank_13 : decode b_Scanner_isBlank 13 = .ok (.bipush 13, 2) := by decide +kernel
theorem d_Scanner_isBlank_15 : decode b_Scanner_isBlank 15 = .ok (.if_icmp .eq 9, 3) := by decide +kernel
theorem d_Scanner_isBlank_18 : decode b_Scanner_isBlank 18 = .ok (.iload_n 0, 1) := by decide +kernel
theorem d_Scanner_isBlank_19 : decode b_Scanner_isBlank 19 = .ok (.bipush 32, 2) := by decide +kernel
theorem d_Scanner_isBlank_21 : decode b_Scanner_isBlank 21 = .ok (.if_icmp .ne 7, 3) := by decide +kernel
theorem d_Scanner_isBlank_24 : decode b_Scanner_isBlank 24 = .ok (.iconst 1, 1) := by decide +kernel
theorem d_Scanner_isBlank_25 : decode b_Scanner_isBlank 25 = .ok (.goto 4, 3) := by decide +kernel
theorem d_Scanner_isBlank_28 : decode b_Scanner_isBlank 28 = .ok (.iconst 0, 1) := by decide +kernel
theorem d_Scanner_isBlank_29 : decode b_Scanner_isBlank 29 = .ok (.ireturn, 1) := by decide +kernel
set_option maxHeartbeats 4000000 in
set_option maxRecDepth 100000 in
theorem c_Scanner_isBlank (l : Launch) (S : St) {x0 : Int32} {r : Int32} (h : f_Scanner_isBlank x0 = some r) : MI cw l y_Scanner_isBlank b_Scanner_isBlank 1 (some .boolean) 0 0 0 0 (fun ad => [.int x0]) aT aE S r S := by
  refine MZ_of "LawfulLots$Scanner" rfl (by decide) (fun _ => Nat.le_of_ble_eq_true rfl) ?_
  intro p e s m args below meth c D ar ad A Q ls hP F hK hA hw hl hQ
  have hl : lv_has ls 1 [(0, .int x0)] := hl
  obtain ⟨X_0, eX_0⟩ : ∃ X : Int32 → Prop, X = (fun q => ∀ (H : Heap) (locs : List Loc) (pc : Nat) (ls : Array Slot), isB q = true → decode b_Scanner_isBlank pc = .ok (.ireturn, 1) → Bw cw D ar A s.heap H locs ad S → W p l e (RM 0 0) s m args below meth c H locs 0 0 Q (F0 m pc ls [.int q])) := ⟨_, rfl⟩
  have key : ∀ (H : Heap) (locs : List Loc), Bw cw D ar A s.heap H locs ad S → ∀ o, f_Scanner_isBlank x0 = some o → X_0 o → W p l e (RM 0 0) s m args below meth c H locs 0 0 Q (F0 m 0 ls []) := by
    intro H locs hw o h ho
    unfold f_Scanner_isBlank at h
    have J_29 : ∀ (t0 : Int32) (H : Heap) (locs : List Loc) (ls : Array Slot), Bw cw D ar A s.heap H locs ad S → lv_has ls 1 [] → ∀ o, Scanner_isBlank_j29 t0 = some o → X_0 o → W p l e (RM 0 0) s m args below meth c H locs 0 0 Q (F0 m 29 ls [.int t0]) := by
      intro t0 H locs ls hw hl o h ho
      unfold Scanner_isBlank_j29 at h
      obtain ⟨hb_5, h⟩ := gd_ex h
      cases h
      have ho : X_0 _ := ho
      rw [eX_0] at ho
      exact ho H locs _ ls hb_5 d_Scanner_isBlank_29 hw
    have J_24 : ∀ (H : Heap) (locs : List Loc) (ls : Array Slot), Bw cw D ar A s.heap H locs ad S → lv_has ls 1 [] → ∀ o, Scanner_isBlank_j24 = some o → X_0 o → W p l e (RM 0 0) s m args below meth c H locs 0 0 Q (F0 m 24 ls []) := by
      intro H locs ls hw hl o h ho
      unfold Scanner_isBlank_j24 at h
      refine lv_iconst (v := 1) F.1 F.2.1 d_Scanner_isBlank_24 (by decide) ?_
      refine lv_goto (tgt := 29) F.1 F.2.1 d_Scanner_isBlank_25 (by decide) ?_
      exact J_29 (1 : Int32) H locs ls hw (lv_sub hl [] rfl) o h ho
    refine lv_iload_n F.1 F.2.1 d_Scanner_isBlank_0 rfl (lv_at hl 0 rfl) ?_
    refine lv_bipush (v := 9) F.1 F.2.1 d_Scanner_isBlank_1 (by decide) ?_
    refine lv_icmp_eq (tgt := 24) F.1 F.2.1 d_Scanner_isBlank_3 (by decide) (fun c_1 => ?_) (fun c_1 => ?_)
    · replace h := ip c_1 h
      exact J_24 H locs ls hw (lv_sub hl [] rfl) o h ho
    · replace h := iq c_1 h
      refine lv_iload_n F.1 F.2.1 d_Scanner_isBlank_6 rfl (lv_at hl 0 rfl) ?_
      refine lv_bipush (v := 10) F.1 F.2.1 d_Scanner_isBlank_7 (by decide) ?_
      refine lv_icmp_eq (tgt := 24) F.1 F.2.1 d_Scanner_isBlank_9 (by decide) (fun c_2 => ?_) (fun c_2 => ?_)
      · replace h := ip c_2 h
        exact J_24 H locs ls hw (lv_sub hl [] rfl) o h ho
      · replace h := iq c_2 h
        refine lv_iload_n F.1 F.2.1 d_Scanner_isBlank_12 rfl (lv_at hl 0 rfl) ?_
        refine lv_bipush (v := 13) F.1 F.2.1 d_Scanner_isBlank_13 (by decide) ?_
        refine lv_icmp_eq (tgt := 24) F.1 F.2.1 d_Scanner_isBlank_15 (by decide) (fun c_3 => ?_) (fun c_3 => ?_)
        · replace h := ip c_3 h
          exact J_24 H locs ls hw (lv_sub hl [] rfl) o h ho
        · replace h := iq c_3 h
          refine lv_iload_n F.1 F.2.1 d_Scanner_isBlank_18 rfl (lv_at hl 0 rfl) ?_
          refine lv_bipush (v := 32) F.1 F.2.1 d_Scanner_isBlank_19 (by decide) ?_
          refine lv_icmp_ne (tgt := 28) F.1 F.2.1 d_Scanner_isBlank_21 (by decide) (fun c_4 => ?_) (fun c_4 => ?_)
          · replace h := iq c_4 h
            refine lv_iconst (v := 0) F.1 F.2.1 d_Scanner_isBlank_28 (by decide) ?_
            exact J_29 (0 : Int32) H locs ls hw (lv_sub hl [] rfl) o h ho
          · replace h := ip c_4 h
            exact J_24 H locs ls hw (lv_sub hl [] rfl) o h ho
  exact key _ _ hw _ h (by rw [eX_0]; exact fun H locs pc ls hb hd hw => hQ H locs pc ls ad hb rfl hd hw)
theorem d_Scanner_isLetter_0 : decode b_Scanner_isLetter 0 = .ok (.iload_n 0, 1) := by decide +kernel
theorem d_Scanner_isLetter_1 : decode b_Scanner_isLetter 1 = .ok (.bipush 97, 2) := by decide +kernel
theorem d_Scanner_isLetter_3 : decode b_Scanner_isLetter 3 = .ok (.if_icmp .lt 13, 3) := by decide +kernel
theorem d_Scanner_isLetter_6 : decode b_Scanner_isLetter 6 = .ok (.iload_n 0, 1) := by decide +kernel
theorem d_Scanner_isLetter_7 : decode b_Scanner_isLetter 7 = .ok (.bipush 122, 2) := by decide +kernel
theorem d_Scanner_isLetter_9 : decode b_Scanner_isLetter 9 = .ok (.if_icmp .gt 7, 3) := by decide +kernel
theorem d_Scanner_isLetter_12 : decode b_Scanner_isLetter 12 = .ok (.iconst 1, 1) := by decide +kernel
theorem d_Scanner_isLetter_13 : decode b_Scanner_isLetter 13 = .ok (.goto 4, 3) := by decide +kernel
theorem d_Scanner_isLetter_16 : decode b_Scanner_isLetter 16 = .ok (.iconst 0, 1) := by decide +kernel
theorem d_Scanner_isLetter_17 : decode b_Scanner_isLetter 17 = .ok (.ireturn, 1) := by decide +kernel
set_option maxHeartbeats 4000000 in
set_option maxRecDepth 100000 in
theorem c_Scanner_isLetter (l : Launch) (S : St) {x0 : Int32} {r : Int32} (h : f_Scanner_isLetter x0 = some r) : MI cw l y_Scanner_isLetter b_Scanner_isLetter 1 (some .boolean) 0 0 0 0 (fun ad => [.int x0]) aT aE S r S := by
  refine MZ_of "LawfulLots$Scanner" rfl (by decide) (fun _ => Nat.le_of_ble_eq_true rfl) ?_
  intro p e s m args below meth c D ar ad A Q ls hP F hK hA hw hl hQ
  have hl : lv_has ls 1 [(0, .int x0)] := hl
  obtain ⟨X_0, eX_0⟩ : ∃ X : Int32 → Prop, X = (fun q => ∀ (H : Heap) (locs : List Loc) (pc : Nat) (ls : Array Slot), isB q = true → decode b_Scanner_isLetter pc = .ok (.ireturn, 1) → Bw cw D ar A s.heap H locs ad S → W p l e (RM 0 0) s m args below meth c H locs 0 0 Q (F0 m pc ls [.int q])) := ⟨_, rfl⟩
  have key : ∀ (H : Heap) (locs : List Loc), Bw cw D ar A s.heap H locs ad S → ∀ o, f_Scanner_isLetter x0 = some o → X_0 o → W p l e (RM 0 0) s m args below meth c H locs 0 0 Q (F0 m 0 ls []) := by
    intro H locs hw o h ho
    unfold f_Scanner_isLetter at h
    have J_17 : ∀ (t0 : Int32) (H : Heap) (locs : List Loc) (ls : Array Slot), Bw cw D ar A s.heap H locs ad S → lv_has ls 1 [] → ∀ o, Scanner_isLetter_j17 t0 = some o → X_0 o → W p l e (RM 0 0) s m args below meth c H locs 0 0 Q (F0 m 17 ls [.int t0]) := by
      intro t0 H locs ls hw hl o h ho
      unfold Scanner_isLetter_j17 at h
      obtain ⟨hb_3, h⟩ := gd_ex h
      cases h
      have ho : X_0 _ := ho
      rw [eX_0] at ho
      exact ho H locs _ ls hb_3 d_Scanner_isLetter_17 hw
    have J_16 : ∀ (H : Heap) (locs : List Loc) (ls : Array Slot), Bw cw D ar A s.heap H locs ad S → lv_has ls 1 [] → ∀ o, Scanner_isLetter_j16 = some o → X_0 o → W p l e (RM 0 0) s m args below meth c H locs 0 0 Q (F0 m 16 ls []) := by
      intro H locs ls hw hl o h ho
      unfold Scanner_isLetter_j16 at h
      refine lv_iconst (v := 0) F.1 F.2.1 d_Scanner_isLetter_16 (by decide) ?_
      exact J_17 (0 : Int32) H locs ls hw (lv_sub hl [] rfl) o h ho
    refine lv_iload_n F.1 F.2.1 d_Scanner_isLetter_0 rfl (lv_at hl 0 rfl) ?_
    refine lv_bipush (v := 97) F.1 F.2.1 d_Scanner_isLetter_1 (by decide) ?_
    refine lv_icmp_lt (tgt := 16) F.1 F.2.1 d_Scanner_isLetter_3 (by decide) (fun c_1 => ?_) (fun c_1 => ?_)
    · replace h := ip c_1 h
      exact J_16 H locs ls hw (lv_sub hl [] rfl) o h ho
    · replace h := iq c_1 h
      refine lv_iload_n F.1 F.2.1 d_Scanner_isLetter_6 rfl (lv_at hl 0 rfl) ?_
      refine lv_bipush (v := 122) F.1 F.2.1 d_Scanner_isLetter_7 (by decide) ?_
      refine lv_icmp_gt (tgt := 16) F.1 F.2.1 d_Scanner_isLetter_9 (by decide) (fun c_2 => ?_) (fun c_2 => ?_)
      · replace h := ip c_2 h
        exact J_16 H locs ls hw (lv_sub hl [] rfl) o h ho
      · replace h := iq c_2 h
        refine lv_iconst (v := 1) F.1 F.2.1 d_Scanner_isLetter_12 (by decide) ?_
        refine lv_goto (tgt := 17) F.1 F.2.1 d_Scanner_isLetter_13 (by decide) ?_
        exact J_17 (1 : Int32) H locs ls hw (lv_sub hl [] rfl) o h ho
  exact key _ _ hw _ h (by rw [eX_0]; exact fun H locs pc ls hb hd hw => hQ H locs pc ls ad hb rfl hd hw)
set_option maxHeartbeats 4000000 in
set_option maxRecDepth 100000 in
theorem c_Arrays_fill_3_4 (l : Launch) {S : St} {x1 : Int32} {S' : St} (h : f_Arrays_fill 3 4 S x1 = some S') : MV cw l y_Arrays_fill b_Arrays_fill 4 none 0 0 0 0 (fun ad => [.ref (ad 3 5), .int x1]) aT aE S S' := by
  refine MV_of "java/util/Arrays" rfl (by decide) (fun _ => Nat.le_of_ble_eq_true rfl) ?_
  intro p e s m args below meth c D ar ad A Q ls hP F hK hA hw hl hQ
  have hl : lv_has ls 4 [(0, .ref (ad 3 5)), (1, .int x1)] := hl
  obtain ⟨X_0, eX_0⟩ : ∃ X : St → Prop, X = (fun q => ∀ (H : Heap) (locs : List Loc) (pc : Nat) (ls : Array Slot), decode b_Arrays_fill pc = .ok (.return_, 1) → Bw cw D ar A s.heap H locs ad q → W p l e (RM 0 0) s m args below meth c H locs 0 0 Q (F0 m pc ls [])) := ⟨_, rfl⟩
  have key : ∀ (H : Heap) (locs : List Loc), Bw cw D ar A s.heap H locs ad S → ∀ o, f_Arrays_fill 3 4 S x1 = some o → X_0 o → W p l e (RM 0 0) s m args below meth c H locs 0 0 Q (F0 m 0 ls []) := by
    intro H locs hw o h ho
    unfold f_Arrays_fill at h
    refine lv_iconst (v := 0) F.1 F.2.1 d_Arrays_fill_0 (by decide) ?_
    refine lv_istore_n (lv' := [(2, .int (0 : Int32)), (0, .ref (ad 3 5)), (1, .int x1)]) F.1 F.2.1 d_Arrays_fill_1 rfl hl (by decide) rfl (fun ls hl => ?_)
    refine lv_aload_n F.1 F.2.1 d_Arrays_fill_2 rfl (lv_at hl 1 rfl) ?_
    refine cn_3_4 F hK hw d_Arrays_fill_3 ?_
    obtain ⟨x3_1, ex3_1, h⟩ := nm_ex h
    refine lv_nm ex3_1 ?_
    refine lv_istore_n (lv' := [(3, .int x3_1), (2, .int (0 : Int32)), (0, .ref (ad 3 5)), (1, .int x1)]) F.1 F.2.1 d_Arrays_fill_4 rfl hl (by decide) rfl (fun ls hl => ?_)
    obtain ⟨S_6, hc_7, h⟩ := bd_ex h
    obtain ⟨X_5, eX_5⟩ : ∃ X : St → Prop, X = (fun q => ∀ (H : Heap) (locs : List Loc) (ls : Array Slot), Bw cw D ar A s.heap H locs ad q → lv_has ls 4 [] → W p l e (RM 0 0) s m args below meth c H locs 0 0 Q (F0 m 20 ls [])) := ⟨_, rfl⟩
    have hX_5 : X_5 S_6 := by
      rw [eX_5]
      intro H locs ls hw hl
      cases h
      have ho : X_0 _ := ho
      rw [eX_0] at ho
      exact ho H locs _ ls d_Arrays_fill_20 hw
    obtain ⟨P_5, eP_5⟩ : ∃ P : (St × Int32) → Prop, P = (fun q => ∀ (H : Heap) (locs : List Loc) (ls : Array Slot), Bw cw D ar A s.heap H locs ad q.1 → lv_has ls 4 [(0, .ref (ad 3 5)), (1, .int x1), (2, .int q.2), (3, .int x3_1)] → W p l e (RM 0 0) s m args below meth c H locs 0 0 Q (F0 m 5 ls [])) := ⟨_, rfl⟩
    have hL_5 : P_5 (S, (0 : Int32)) := by
      refine wh_gp (P := P_5) (X := X_5) hc_7 hX_5 ?_
      clear h
      intro q o h ho
      obtain ⟨S, x2⟩ := q
      have h : Arrays_fill_l5 3 4 x1 x3_1 S x2 = some o := h
      unfold Arrays_fill_l5 at h
      rw [eP_5]
      intro H locs ls hw hl
      refine lv_iload_n F.1 F.2.1 d_Arrays_fill_5 rfl (lv_at hl 2 rfl) ?_
      refine lv_iload_n F.1 F.2.1 d_Arrays_fill_6 rfl (lv_at hl 3 rfl) ?_
      refine lv_icmp_ge (tgt := 20) F.1 F.2.1 d_Arrays_fill_7 (by decide) (fun c_2 => ?_) (fun c_2 => ?_)
      · replace h := ip c_2 h
        cases h
        have ho : X_5 _ := ho
        rw [eX_5] at ho
        exact ho H locs ls hw (lv_sub hl [] rfl)
      · replace h := iq c_2 h
        refine lv_aload_n F.1 F.2.1 d_Arrays_fill_10 rfl (lv_at hl 0 rfl) ?_
        refine lv_iload_n F.1 F.2.1 d_Arrays_fill_11 rfl (lv_at hl 2 rfl) ?_
        refine lv_iload_n F.1 F.2.1 d_Arrays_fill_12 rfl (lv_at hl 1 rfl) ?_
        obtain ⟨hi_3, h⟩ := gd_ex h
        obtain ⟨S_4, eS_4, h⟩ := nm_ex h
        refine cs_3_4 F hK hw hi_3 d_Arrays_fill_13 eS_4 (fun H locs hw => ?_)
        obtain ⟨x2_5, ex2_5, h⟩ := nm_ex h
        refine lv_iinc (v := x2_5) (lv' := [(2, .int x2_5), (0, .ref (ad 3 5)), (1, .int x1), (3, .int x3_1)]) F.1 F.2.1 d_Arrays_fill_14 hl (k := 2) rfl (by rw [ex2_5]; rfl) (by decide) rfl (fun ls hl => ?_)
        refine lv_goto (tgt := 5) F.1 F.2.1 d_Arrays_fill_17 (by decide) ?_
        cases h
        have ho : P_5 _ := ho
        rw [eP_5] at ho
        exact ho H locs ls hw (lv_sub hl [1, 2, 0, 3] rfl)
    rw [eP_5] at hL_5
    exact hL_5 H locs ls hw (lv_sub hl [2, 3, 1, 0] rfl)
  exact key _ _ hw _ h (by rw [eX_0]; exact fun H locs pc ls hd hw => hQ H locs pc ls ad rfl hd hw)
set_option maxHeartbeats 4000000 in
set_option maxRecDepth 100000 in
theorem c_Arrays_fill_3_7 (l : Launch) {S : St} {x1 : Int32} {S' : St} (h : f_Arrays_fill 3 7 S x1 = some S') : MV cw l y_Arrays_fill b_Arrays_fill 4 none 0 0 0 0 (fun ad => [.ref (ad 3 8), .int x1]) aT aE S S' := by
  refine MV_of "java/util/Arrays" rfl (by decide) (fun _ => Nat.le_of_ble_eq_true rfl) ?_
  intro p e s m args below meth c D ar ad A Q ls hP F hK hA hw hl hQ
  have hl : lv_has ls 4 [(0, .ref (ad 3 8)), (1, .int x1)] := hl
  obtain ⟨X_0, eX_0⟩ : ∃ X : St → Prop, X = (fun q => ∀ (H : Heap) (locs : List Loc) (pc : Nat) (ls : Array Slot), decode b_Arrays_fill pc = .ok (.return_, 1) → Bw cw D ar A s.heap H locs ad q → W p l e (RM 0 0) s m args below meth c H locs 0 0 Q (F0 m pc ls [])) := ⟨_, rfl⟩
  have key : ∀ (H : Heap) (locs : List Loc), Bw cw D ar A s.heap H locs ad S → ∀ o, f_Arrays_fill 3 7 S x1 = some o → X_0 o → W p l e (RM 0 0) s m args below meth c H locs 0 0 Q (F0 m 0 ls []) := by
    intro H locs hw o h ho
    unfold f_Arrays_fill at h
    refine lv_iconst (v := 0) F.1 F.2.1 d_Arrays_fill_0 (by decide) ?_
    refine lv_istore_n (lv' := [(2, .int (0 : Int32)), (0, .ref (ad 3 8)), (1, .int x1)]) F.1 F.2.1 d_Arrays_fill_1 rfl hl (by decide) rfl (fun ls hl => ?_)
    refine lv_aload_n F.1 F.2.1 d_Arrays_fill_2 rfl (lv_at hl 1 rfl) ?_
    refine cn_3_7 F hK hw d_Arrays_fill_3 ?_
    obtain ⟨x3_1, ex3_1, h⟩ := nm_ex h
    refine lv_nm ex3_1 ?_
    refine lv_istore_n (lv' := [(3, .int x3_1), (2, .int (0 : Int32)), (0, .ref (ad 3 8)), (1, .int x1)]) F.1 F.2.1 d_Arrays_fill_4 rfl hl (by decide) rfl (fun ls hl => ?_)
    obtain ⟨S_6, hc_7, h⟩ := bd_ex h
    obtain ⟨X_5, eX_5⟩ : ∃ X : St → Prop, X = (fun q => ∀ (H : Heap) (locs : List Loc) (ls : Array Slot), Bw cw D ar A s.heap H locs ad q → lv_has ls 4 [] → W p l e (RM 0 0) s m args below meth c H locs 0 0 Q (F0 m 20 ls [])) := ⟨_, rfl⟩
    have hX_5 : X_5 S_6 := by
      rw [eX_5]
      intro H locs ls hw hl
      cases h
      have ho : X_0 _ := ho
      rw [eX_0] at ho
      exact ho H locs _ ls d_Arrays_fill_20 hw
    obtain ⟨P_5, eP_5⟩ : ∃ P : (St × Int32) → Prop, P = (fun q => ∀ (H : Heap) (locs : List Loc) (ls : Array Slot), Bw cw D ar A s.heap H locs ad q.1 → lv_has ls 4 [(0, .ref (ad 3 8)), (1, .int x1), (2, .int q.2), (3, .int x3_1)] → W p l e (RM 0 0) s m args below meth c H locs 0 0 Q (F0 m 5 ls [])) := ⟨_, rfl⟩
    have hL_5 : P_5 (S, (0 : Int32)) := by
      refine wh_gp (P := P_5) (X := X_5) hc_7 hX_5 ?_
      clear h
      intro q o h ho
      obtain ⟨S, x2⟩ := q
      have h : Arrays_fill_l5 3 7 x1 x3_1 S x2 = some o := h
      unfold Arrays_fill_l5 at h
      rw [eP_5]
      intro H locs ls hw hl
      refine lv_iload_n F.1 F.2.1 d_Arrays_fill_5 rfl (lv_at hl 2 rfl) ?_
      refine lv_iload_n F.1 F.2.1 d_Arrays_fill_6 rfl (lv_at hl 3 rfl) ?_
      refine lv_icmp_ge (tgt := 20) F.1 F.2.1 d_Arrays_fill_7 (by decide) (fun c_2 => ?_) (fun c_2 => ?_)
      · replace h := ip c_2 h
        cases h
        have ho : X_5 _ := ho
        rw [eX_5] at ho
        exact ho H locs ls hw (lv_sub hl [] rfl)
      · replace h := iq c_2 h
        refine lv_aload_n F.1 F.2.1 d_Arrays_fill_10 rfl (lv_at hl 0 rfl) ?_
        refine lv_iload_n F.1 F.2.1 d_Arrays_fill_11 rfl (lv_at hl 2 rfl) ?_
        refine lv_iload_n F.1 F.2.1 d_Arrays_fill_12 rfl (lv_at hl 1 rfl) ?_
        obtain ⟨hi_3, h⟩ := gd_ex h
        obtain ⟨S_4, eS_4, h⟩ := nm_ex h
        refine cs_3_7 F hK hw hi_3 d_Arrays_fill_13 eS_4 (fun H locs hw => ?_)
        obtain ⟨x2_5, ex2_5, h⟩ := nm_ex h
        refine lv_iinc (v := x2_5) (lv' := [(2, .int x2_5), (0, .ref (ad 3 8)), (1, .int x1), (3, .int x3_1)]) F.1 F.2.1 d_Arrays_fill_14 hl (k := 2) rfl (by rw [ex2_5]; rfl) (by decide) rfl (fun ls hl => ?_)
        refine lv_goto (tgt := 5) F.1 F.2.1 d_Arrays_fill_17 (by decide) ?_
        cases h
        have ho : P_5 _ := ho
        rw [eP_5] at ho
        exact ho H locs ls hw (lv_sub hl [1, 2, 0, 3] rfl)
    rw [eP_5] at hL_5
    exact hL_5 H locs ls hw (lv_sub hl [2, 3, 1, 0] rfl)
  exact key _ _ hw _ h (by rw [eX_0]; exact fun H locs pc ls hd hw => hQ H locs pc ls ad rfl hd hw)
