set_option maxHeartbeats 4000000 in
set_option maxRecDepth 100000 in
theorem c_Arrays_fill_3_8 (l : Launch) {S : St} {x1 : Int32} {S' : St} (h : f_Arrays_fill 3 8 S x1 = some S') : MV cw l y_Arrays_fill b_Arrays_fill 4 none 0 0 0 0 (fun ad => [.ref (ad 3 9), .int x1]) aT aE S S' := by
  refine MV_of "java/util/Arrays" rfl (by decide) (fun _ => Nat.le_of_ble_eq_true rfl) ?_
  intro p e s m args below meth c D ar ad A Q ls hP F hK hA hw hl hQ
  have hl : lv_has ls 4 [(0, .ref (ad 3 9)), (1, .int x1)] := hl
  obtain ⟨X_0, eX_0⟩ : ∃ X : St → Prop, X = (fun q => ∀ (H : Heap) (locs : List Loc) (pc : Nat) (ls : Array Slot), decode b_Arrays_fill pc = .ok (.return_, 1) → Bw cw D ar A s.heap H locs ad q → W p l e (RM 0 0) s m args below meth c H locs 0 0 Q (F0 m pc ls [])) := ⟨_, rfl⟩
  have key : ∀ (H : Heap) (locs : List Loc), Bw cw D ar A s.heap H locs ad S → ∀ o, f_Arrays_fill 3 8 S x1 = some o → X_0 o → W p l e (RM 0 0) s m args below meth c H locs 0 0 Q (F0 m 0 ls []) := by
    intro H locs hw o h ho
    unfold f_Arrays_fill at h
    refine lv_iconst (v := 0) F.1 F.2.1 d_Arrays_fill_0 (by decide) ?_
    refine lv_istore_n (lv' := [(2, .int (0 : Int32)), (0, .ref (ad 3 9)), (1, .int x1)]) F.1 F.2.1 d_Arrays_fill_1 rfl hl (by decide) rfl (fun ls hl => ?_)
    refine lv_aload_n F.1 F.2.1 d_Arrays_fill_2 rfl (lv_at hl 1 rfl) ?_
    refine cn_3_8 F hK hw d_Arrays_fill_3 ?_
    obtain ⟨x3_1, ex3_1, h⟩ := nm_ex h
    refine lv_nm ex3_1 ?_
    refine lv_istore_n (lv' := [(3, .int x3_1), (2, .int (0 : Int32)), (0, .ref (ad 3 9)), (1, .int x1)]) F.1 F.2.1 d_Arrays_fill_4 rfl hl (by decide) rfl (fun ls hl => ?_)
    obtain ⟨S_6, hc_7, h⟩ := bd_ex h
    obtain ⟨X_5, eX_5⟩ : ∃ X : St → Prop, X = (fun q => ∀ (H : Heap) (locs : List Loc) (ls : Array Slot), Bw cw D ar A s.heap H locs ad q → lv_has ls 4 [] → W p l e (RM 0 0) s m args below meth c H locs 0 0 Q (F0 m 20 ls [])) := ⟨_, rfl⟩
    have hX_5 : X_5 S_6 := by
      rw [eX_5]
      intro H locs ls hw hl
      cases h
      have ho : X_0 _ := ho
      rw [eX_0] at ho
      exact ho H locs _ ls d_Arrays_fill_20 hw
    obtain ⟨P_5, eP_5⟩ : ∃ P : (St × Int32) → Prop, P = (fun q => ∀ (H : Heap) (locs : List Loc) (ls : Array Slot), Bw cw D ar A s.heap H locs ad q.1 → lv_has ls 4 [(0, .ref (ad 3 9)), (1, .int x1), (2, .int q.2), (3, .int x3_1)] → W p l e (RM 0 0) s m args below meth c H locs 0 0 Q (F0 m 5 ls [])) := ⟨_, rfl⟩
    have hL_5 : P_5 (S, (0 : Int32)) := by
      refine wh_gp (P := P_5) (X := X_5) hc_7 hX_5 ?_
      clear h
      intro q o h ho
      obtain ⟨S, x2⟩ := q
      have h : Arrays_fill_l5 3 8 x1 x3_1 S x2 = some o := h
      unfold Arrays_fill_l5 at h
      rw [eP_5]
      intro H locs ls hw hl
      refine lv_iload_n F.1 F.2.1 d_Arrays_fill_5 rfl (lv_at hl 2 rfl) ?_
      refine lv_iload_n F.1 F.2.1 d_Arrays_fill_6 rfl (lv_at hl 3 rfl) ?_
      refine lv_icmp_ge (tgt := 20) F.1 F.2.1 d_Arrays_fill_7 (by decide) (fun c_2 => ?_) (fun c_2 => ?_)
      · replace h := ip c_2 h
        cases h
        have ho : X_5 _ := ho
        rw [eX_5] at ho
        exact ho H locs ls hw (lv_sub hl [] rfl)
      · replace h := iq c_2 h
        refine lv_aload_n F.1 F.2.1 d_Arrays_fill_10 rfl (lv_at hl 0 rfl) ?_
        refine lv_iload_n F.1 F.2.1 d_Arrays_fill_11 rfl (lv_at hl 2 rfl) ?_
        refine lv_iload_n F.1 F.2.1 d_Arrays_fill_12 rfl (lv_at hl 1 rfl) ?_
        obtain ⟨hi_3, h⟩ := gd_ex h
        obtain ⟨S_4, eS_4, h⟩ := nm_ex h
        refine cs_3_8 F hK hw hi_3 d_Arrays_fill_13 eS_4 (fun H locs hw => ?_)
        obtain ⟨x2_5, ex2_5, h⟩ := nm_ex h
        refine lv_iinc (v := x2_5) (lv' := [(2, .int x2_5), (0, .ref (ad 3 9)), (1, .int x1), (3, .int x3_1)]) F.1 F.2.1 d_Arrays_fill_14 hl (k := 2) rfl (by rw [ex2_5]; rfl) (by decide) rfl (fun ls hl => ?_)
        refine lv_goto (tgt := 5) F.1 F.2.1 d_Arrays_fill_17 (by decide) ?_
        cases h
        have ho : P_5 _ := ho
        rw [eP_5] at ho
        exact ho H locs ls hw (lv_sub hl [1, 2, 0, 3] rfl)
    rw [eP_5] at hL_5
    exact hL_5 H locs ls hw (lv_sub hl [2, 3, 1, 0] rfl)
  exact key _ _ hw _ h (by rw [eX_0]; exact fun H locs pc ls hd hw => hQ H locs pc ls ad rfl hd hw)
set_option maxHeartbeats 4000000 in
set_option maxRecDepth 100000 in
theorem c_Arrays_fill_3_9 (l : Launch) {S : St} {x1 : Int32} {S' : St} (h : f_Arrays_fill 3 9 S x1 = some S') : MV cw l y_Arrays_fill b_Arrays_fill 4 none 0 0 0 0 (fun ad => [.ref (ad 3 10), .int x1]) aT aE S S' := by
  refine MV_of "java/util/Arrays" rfl (by decide) (fun _ => Nat.le_of_ble_eq_true rfl) ?_
  intro p e s m args below meth c D ar ad A Q ls hP F hK hA hw hl hQ
  have hl : lv_has ls 4 [(0, .ref (ad 3 10)), (1, .int x1)] := hl
  obtain ⟨X_0, eX_0⟩ : ∃ X : St → Prop, X = (fun q => ∀ (H : Heap) (locs : List Loc) (pc : Nat) (ls : Array Slot), decode b_Arrays_fill pc = .ok (.return_, 1) → Bw cw D ar A s.heap H locs ad q → W p l e (RM 0 0) s m args below meth c H locs 0 0 Q (F0 m pc ls [])) := ⟨_, rfl⟩
  have key : ∀ (H : Heap) (locs : List Loc), Bw cw D ar A s.heap H locs ad S → ∀ o, f_Arrays_fill 3 9 S x1 = some o → X_0 o → W p l e (RM 0 0) s m args below meth c H locs 0 0 Q (F0 m 0 ls []) := by
    intro H locs hw o h ho
    unfold f_Arrays_fill at h
    refine lv_iconst (v := 0) F.1 F.2.1 d_Arrays_fill_0 (by decide) ?_
    refine lv_istore_n (lv' := [(2, .int (0 : Int32)), (0, .ref (ad 3 10)), (1, .int x1)]) F.1 F.2.1 d_Arrays_fill_1 rfl hl (by decide) rfl (fun ls hl => ?_)
    refine lv_aload_n F.1 F.2.1 d_Arrays_fill_2 rfl (lv_at hl 1 rfl) ?_
    refine cn_3_9 F hK hw d_Arrays_fill_3 ?_
    obtain ⟨x3_1, ex3_1, h⟩ := nm_ex h
    refine lv_nm ex3_1 ?_
    refine lv_istore_n (lv' := [(3, .int x3_1), (2, .int (0 : Int32)), (0, .ref (ad 3 10)), (1, .int x1)]) F.1 F.2.1 d_Arrays_fill_4 rfl hl (by decide) rfl (fun ls hl => ?_)
    obtain ⟨S_6, hc_7, h⟩ := bd_ex h
    obtain ⟨X_5, eX_5⟩ : ∃ X : St → Prop, X = (fun q => ∀ (H : Heap) (locs : List Loc) (ls : Array Slot), Bw cw D ar A s.heap H locs ad q → lv_has ls 4 [] → W p l e (RM 0 0) s m args below meth c H locs 0 0 Q (F0 m 20 ls [])) := ⟨_, rfl⟩
    have hX_5 : X_5 S_6 := by
      rw [eX_5]
      intro H locs ls hw hl
      cases h
      have ho : X_0 _ := ho
      rw [eX_0] at ho
      exact ho H locs _ ls d_Arrays_fill_20 hw
    obtain ⟨P_5, eP_5⟩ : ∃ P : (St × Int32) → Prop, P = (fun q => ∀ (H : Heap) (locs : List Loc) (ls : Array Slot), Bw cw D ar A s.heap H locs ad q.1 → lv_has ls 4 [(0, .ref (ad 3 10)), (1, .int x1), (2, .int q.2), (3, .int x3_1)] → W p l e (RM 0 0) s m args below meth c H locs 0 0 Q (F0 m 5 ls [])) := ⟨_, rfl⟩
    have hL_5 : P_5 (S, (0 : Int32)) := by
      refine wh_gp (P := P_5) (X := X_5) hc_7 hX_5 ?_
      clear h
      intro q o h ho
      obtain ⟨S, x2⟩ := q
      have h : Arrays_fill_l5 3 9 x1 x3_1 S x2 = some o := h
      unfold Arrays_fill_l5 at h
      rw [eP_5]
      intro H locs ls hw hl
      refine lv_iload_n F.1 F.2.1 d_Arrays_fill_5 rfl (lv_at hl 2 rfl) ?_
      refine lv_iload_n F.1 F.2.1 d_Arrays_fill_6 rfl (lv_at hl 3 rfl) ?_
      refine lv_icmp_ge (tgt := 20) F.1 F.2.1 d_Arrays_fill_7 (by decide) (fun c_2 => ?_) (fun c_2 => ?_)
      · replace h := ip c_2 h
        cases h
        have ho : X_5 _ := ho
        rw [eX_5] at ho
        exact ho H locs ls hw (lv_sub hl [] rfl)
      · replace h := iq c_2 h
        refine lv_aload_n F.1 F.2.1 d_Arrays_fill_10 rfl (lv_at hl 0 rfl) ?_
        refine lv_iload_n F.1 F.2.1 d_Arrays_fill_11 rfl (lv_at hl 2 rfl) ?_
        refine lv_iload_n F.1 F.2.1 d_Arrays_fill_12 rfl (lv_at hl 1 rfl) ?_
        obtain ⟨hi_3, h⟩ := gd_ex h
        obtain ⟨S_4, eS_4, h⟩ := nm_ex h
        refine cs_3_9 F hK hw hi_3 d_Arrays_fill_13 eS_4 (fun H locs hw => ?_)
        obtain ⟨x2_5, ex2_5, h⟩ := nm_ex h
        refine lv_iinc (v := x2_5) (lv' := [(2, .int x2_5), (0, .ref (ad 3 10)), (1, .int x1), (3, .int x3_1)]) F.1 F.2.1 d_Arrays_fill_14 hl (k := 2) rfl (by rw [ex2_5]; rfl) (by decide) rfl (fun ls hl => ?_)
        refine lv_goto (tgt := 5) F.1 F.2.1 d_Arrays_fill_17 (by decide) ?_
        cases h
        have ho : P_5 _ := ho
        rw [eP_5] at ho
        exact ho H locs ls hw (lv_sub hl [1, 2, 0, 3] rfl)
    rw [eP_5] at hL_5
    exact hL_5 H locs ls hw (lv_sub hl [2, 3, 1, 0] rfl)
  exact key _ _ hw _ h (by rw [eX_0]; exact fun H locs pc ls hd hw => hQ H locs pc ls ad rfl hd hw)
theorem d_Book_clear_0 : decode b_Book_clear 0 = .ok (.aload_n 0, 1) := by decide +kernel
theorem d_Book_clear_1 : decode b_Book_clear 1 = .ok (.iconst 0, 1) := by decide +kernel
theorem d_Book_clear_2 : decode b_Book_clear 2 = .ok (.putfield 43, 3) := by decide +kernel
theorem d_Book_clear_5 : decode b_Book_clear 5 = .ok (.aload_n 0, 1) := by decide +kernel
theorem d_Book_clear_6 : decode b_Book_clear 6 = .ok (.iconst 1, 1) := by decide +kernel
theorem d_Book_clear_7 : decode b_Book_clear 7 = .ok (.putfield 47, 3) := by decide +kernel
theorem d_Book_clear_10 : decode b_Book_clear 10 = .ok (.aload_n 0, 1) := by decide +kernel
theorem d_Book_clear_11 : decode b_Book_clear 11 = .ok (.iconst 0, 1) := by decide +kernel
theorem d_Book_clear_12 : decode b_Book_clear 12 = .ok (.putfield 50, 3) := by decide +kernel
theorem d_Book_clear_15 : decode b_Book_clear 15 = .ok (.aload_n 0, 1) := by decide +kernel
theorem d_Book_clear_16 : decode b_Book_clear 16 = .ok (.getfield 25, 3) := by decide +kernel
theorem d_Book_clear_19 : decode b_Book_clear 19 = .ok (.iconst 0, 1) := by decide +kernel
theorem d_Book_clear_20 : decode b_Book_clear 20 = .ok (.invokestatic 53, 3) := by decide +kernel
theorem d_Book_clear_23 : decode b_Book_clear 23 = .ok (.aload_n 0, 1) := by decide +kernel
theorem d_Book_clear_24 : decode b_Book_clear 24 = .ok (.getfield 34, 3) := by decide +kernel
theorem d_Book_clear_27 : decode b_Book_clear 27 = .ok (.iconst 0, 1) := by decide +kernel
theorem d_Book_clear_28 : decode b_Book_clear 28 = .ok (.invokestatic 53, 3) := by decide +kernel
theorem d_Book_clear_31 : decode b_Book_clear 31 = .ok (.aload_n 0, 1) := by decide +kernel
theorem d_Book_clear_32 : decode b_Book_clear 32 = .ok (.getfield 37, 3) := by decide +kernel
theorem d_Book_clear_35 : decode b_Book_clear 35 = .ok (.iconst 0, 1) := by decide +kernel
theorem d_Book_clear_36 : decode b_Book_clear 36 = .ok (.invokestatic 53, 3) := by decide +kernel
theorem d_Book_clear_39 : decode b_Book_clear 39 = .ok (.aload_n 0, 1) := by decide +kernel
theorem d_Book_clear_40 : decode b_Book_clear 40 = .ok (.getfield 40, 3) := by decide +kernel
theorem d_Book_clear_43 : decode b_Book_clear 43 = .ok (.iconst (-1), 1) := by decide +kernel
theorem d_Book_clear_44 : decode b_Book_clear 44 = .ok (.invokestatic 53, 3) := by decide +kernel
theorem d_Book_clear_47 : decode b_Book_clear 47 = .ok (.return_, 1) := by decide +kernel
set_option maxHeartbeats 4000000 in
set_option maxRecDepth 100000 in
theorem c_Book_clear (l : Launch) {S : St} {S' : St} (h : f_Book_clear S = some S') : MV cw l y_Book_clear b_Book_clear 1 none 1 23 0 0 (fun ad => [.ref (ad 3 0)]) aT aE S S' := by
  refine MV_of "LawfulLots$Book" rfl (by decide) (fun _ => Nat.le_of_ble_eq_true rfl) ?_
  intro p e s m args below meth c D ar ad A Q ls hP F hK hA hw hl hQ
  have hl : lv_has ls 1 [(0, .ref (ad 3 0))] := hl
  obtain ⟨X_0, eX_0⟩ : ∃ X : St → Prop, X = (fun q => ∀ (H : Heap) (locs : List Loc) (pc : Nat) (ls : Array Slot), decode b_Book_clear pc = .ok (.return_, 1) → Bw cw D ar A s.heap H locs ad q → W p l e (RM 1 23) s m args below meth c H locs 0 0 Q (F0 m pc ls [])) := ⟨_, rfl⟩
  have key : ∀ (H : Heap) (locs : List Loc), Bw cw D ar A s.heap H locs ad S → ∀ o, f_Book_clear S = some o → X_0 o → W p l e (RM 1 23) s m args below meth c H locs 0 0 Q (F0 m 0 ls []) := by
    intro H locs hw o h ho
    unfold f_Book_clear at h
    refine lv_aload_n F.1 F.2.1 d_Book_clear_0 rfl (lv_at hl 0 rfl) ?_
    refine lv_iconst (v := 0) F.1 F.2.1 d_Book_clear_1 (by decide) ?_
    obtain ⟨S_1, eS_1, h⟩ := nm_ex h
    refine cp_3_10 F hK hw lk_82 d_Book_clear_2 eS_1 (fun H locs hw => ?_)
    refine lv_aload_n F.1 F.2.1 d_Book_clear_5 rfl (lv_at hl 0 rfl) ?_
    refine lv_iconst (v := 1) F.1 F.2.1 d_Book_clear_6 (by decide) ?_
    obtain ⟨S_2, eS_2, h⟩ := nm_ex h
    refine cp_3_11 F hK hw lk_85 d_Book_clear_7 eS_2 (fun H locs hw => ?_)
    refine lv_aload_n F.1 F.2.1 d_Book_clear_10 rfl (lv_at hl 0 rfl) ?_
    refine lv_iconst (v := 0) F.1 F.2.1 d_Book_clear_11 (by decide) ?_
    obtain ⟨S_3, eS_3, h⟩ := nm_ex h
    refine cp_3_12 F hK hw lk_89 d_Book_clear_12 eS_3 (fun H locs hw => ?_)
    refine lv_aload_n F.1 F.2.1 d_Book_clear_15 rfl (lv_at hl 0 rfl) ?_
    refine cg_3_4 F hK hw lk_71 d_Book_clear_16 ?_
    refine lv_iconst (v := 0) F.1 F.2.1 d_Book_clear_19 (by decide) ?_
    obtain ⟨S_5, hc_4, h⟩ := bd_ex h
    refine cS_v F hA rfl hK hw (c_Arrays_fill_3_4 l hc_4) trivial rfl (good_S lk_389 lk_390 lk_11 lk_391) hd_Arrays_fill ⟨Nat.le_of_ble_eq_true rfl, Nat.le_of_ble_eq_true rfl⟩ rfl hl.1 rfl (Nat.le_of_ble_eq_true rfl) d_Book_clear_20 ⟨(Nat.zero_le _), (Nat.zero_le _)⟩ (fun H locs hw => ?_)
    refine lv_aload_n F.1 F.2.1 d_Book_clear_23 rfl (lv_at hl 0 rfl) ?_
    refine cg_3_7 F hK hw lk_76 d_Book_clear_24 ?_
    refine lv_iconst (v := 0) F.1 F.2.1 d_Book_clear_27 (by decide) ?_
    obtain ⟨S_7, hc_6, h⟩ := bd_ex h
    refine cS_v F hA rfl hK hw (c_Arrays_fill_3_7 l hc_6) trivial rfl (good_S lk_389 lk_390 lk_11 lk_391) hd_Arrays_fill ⟨Nat.le_of_ble_eq_true rfl, Nat.le_of_ble_eq_true rfl⟩ rfl hl.1 rfl (Nat.le_of_ble_eq_true rfl) d_Book_clear_28 ⟨(Nat.zero_le _), (Nat.zero_le _)⟩ (fun H locs hw => ?_)
    refine lv_aload_n F.1 F.2.1 d_Book_clear_31 rfl (lv_at hl 0 rfl) ?_
    refine cg_3_8 F hK hw lk_78 d_Book_clear_32 ?_
    refine lv_iconst (v := 0) F.1 F.2.1 d_Book_clear_35 (by decide) ?_
    obtain ⟨S_9, hc_8, h⟩ := bd_ex h
    refine cS_v F hA rfl hK hw (c_Arrays_fill_3_8 l hc_8) trivial rfl (good_S lk_389 lk_390 lk_11 lk_391) hd_Arrays_fill ⟨Nat.le_of_ble_eq_true rfl, Nat.le_of_ble_eq_true rfl⟩ rfl hl.1 rfl (Nat.le_of_ble_eq_true rfl) d_Book_clear_36 ⟨(Nat.zero_le _), (Nat.zero_le _)⟩ (fun H locs hw => ?_)
    refine lv_aload_n F.1 F.2.1 d_Book_clear_39 rfl (lv_at hl 0 rfl) ?_
    refine cg_3_9 F hK hw lk_80 d_Book_clear_40 ?_
    refine lv_iconst (v := -1) F.1 F.2.1 d_Book_clear_43 (by decide) ?_
    obtain ⟨S_11, hc_10, h⟩ := bd_ex h
    refine cS_v F hA rfl hK hw (c_Arrays_fill_3_9 l hc_10) trivial rfl (good_S lk_389 lk_390 lk_11 lk_391) hd_Arrays_fill ⟨Nat.le_of_ble_eq_true rfl, Nat.le_of_ble_eq_true rfl⟩ rfl hl.1 rfl (Nat.le_of_ble_eq_true rfl) d_Book_clear_44 ⟨(Nat.zero_le _), (Nat.zero_le _)⟩ (fun H locs hw => ?_)
    cases h
    have ho : X_0 _ := ho
    rw [eX_0] at ho
    exact ho H locs _ ls d_Book_clear_47 hw
  exact key _ _ hw _ h (by rw [eX_0]; exact fun H locs pc ls hd hw => hQ H locs pc ls ad rfl hd hw)
theorem d_Book_setStrides_0 : decode b_Book_setStrides 0 = .ok (.iconst 1, 1) := by decide +kernel
theorem d_Book_setStrides_1 : decode b_Book_setStrides 1 = .ok (.istore_n 1, 1) := by decide +kernel
theorem d_Book_setStrides_2 : decode b_Book_setStrides 2 = .ok (.aload_n 0, 1) := by decide +kernel
theorem d_Book_setStrides_3 : decode b_Book_setStrides 3 = .ok (.getfield 43, 3) := by decide +kernel
theorem d_Book_setStrides_6 : decode b_Book_setStrides 6 = .ok (.bipush 6, 2) := by decide +kernel
theorem d_Book_setStrides_8 : decode b_Book_setStrides 8 = .ok (.invokestatic 66, 3) := by decide +kernel
theorem d_Book_setStrides_11 : decode b_Book_setStrides 11 = .ok (.iconst 1, 1) := by decide +kernel
theorem d_Book_setStrides_12 : decode b_Book_setStrides 12 = .ok (.isub, 1) := by decide +kernel
theorem d_Book_setStrides_13 : decode b_Book_setStrides 13 = .ok (.istore_n 2, 1) := by decide +kernel
theorem d_Book_setStrides_14 : decode b_Book_setStrides 14 = .ok (.iload_n 2, 1) := by decide +kernel
theorem d_Book_setStrides_15 : decode b_Book_setStrides 15 = .ok (.ifCond .lt 34, 3) := by decide +kernel
theorem d_Book_setStrides_18 : decode b_Book_setStrides 18 = .ok (.aload_n 0, 1) := by decide +kernel
theorem d_Book_setStrides_19 : decode b_Book_setStrides 19 = .ok (.getfield 22, 3) := by decide +kernel
theorem d_Book_setStrides_22 : decode b_Book_setStrides 22 = .ok (.iload_n 2, 1) := by decide +kernel
theorem d_Book_setStrides_23 : decode b_Book_setStrides 23 = .ok (.iload_n 1, 1) := by decide +kernel
theorem d_Book_setStrides_24 : decode b_Book_setStrides 24 = .ok (.iastore, 1) := by decide +kernel
theorem d_Book_setStrides_25 : decode b_Book_setStrides 25 = .ok (.iload_n 1, 1) := by decide +kernel
theorem d_Book_setStrides_26 : decode b_Book_setStrides 26 = .ok (.aload_n 0, 1) := by decide +kernel
theorem d_Book_setStrides_27 : decode b_Book_setStrides 27 = .ok (.getfield 19, 3) := by decide +kernel
theorem d_Book_setStrides_30 : decode b_Book_setStrides 30 = .ok (.iload_n 2, 1) := by decide +kernel
theorem d_Book_setStrides_31 : decode b_Book_setStrides 31 = .ok (.iaload, 1) := by decide +kernel
theorem d_Book_setStrides_32 : decode b_Book_setStrides 32 = .ok (.aload_n 0, 1) := by decide +kernel
theorem d_Book_setStrides_33 : decode b_Book_setStrides 33 = .ok (.getfield 15, 3) := by decide +kernel
theorem d_Book_setStrides_36 : decode b_Book_setStrides 36 = .ok (.iload_n 2, 1) := by decide +kernel
theorem d_Book_setStrides_37 : decode b_Book_setStrides 37 = .ok (.iaload, 1) := by decide +kernel
theorem d_Book_setStrides_38 : decode b_Book_setStrides 38 = .ok (.isub, 1) := by decide +kernel
theorem d_Book_setStrides_39 : decode b_Book_setStrides 39 = .ok (.iconst 1, 1) := by decide +kernel
theorem d_Book_setStrides_40 : decode b_Book_setStrides 40 = .ok (.iadd, 1) := by decide +kernel
theorem d_Book_setStrides_41 : decode b_Book_setStrides 41 = .ok (.imul, 1) := by decide +kernel
theorem d_Book_setStrides_42 : decode b_Book_setStrides 42 = .ok (.istore_n 1, 1) := by decide +kernel
theorem d_Book_setStrides_43 : decode b_Book_setStrides 43 = .ok (.iinc 2 (-1), 3) := by decide +kernel
theorem d_Book_setStrides_46 : decode b_Book_setStrides 46 = .ok (.goto (-32), 3) := by decide +kernel
theorem d_Book_setStrides_49 : decode b_Book_setStrides 49 = .ok (.return_, 1) := by decide +kernel
set_option maxHeartbeats 4000000 in
set_option maxRecDepth 100000 in
theorem c_Book_setStrides (l : Launch) {S : St} {S' : St} (h : f_Book_setStrides S = some S') : MV cw l y_Book_setStrides b_Book_setStrides 3 none 1 21 0 0 (fun ad => [.ref (ad 3 0)]) aT aE S S' := by
  refine MV_of "LawfulLots$Book" rfl (by decide) (fun _ => Nat.le_of_ble_eq_true rfl) ?_
  intro p e s m args below meth c D ar ad A Q ls hP F hK hA hw hl hQ
  have hl : lv_has ls 3 [(0, .ref (ad 3 0))] := hl
  obtain ⟨X_0, eX_0⟩ : ∃ X : St → Prop, X = (fun q => ∀ (H : Heap) (locs : List Loc) (pc : Nat) (ls : Array Slot), decode b_Book_setStrides pc = .ok (.return_, 1) → Bw cw D ar A s.heap H locs ad q → W p l e (RM 1 21) s m args below meth c H locs 0 0 Q (F0 m pc ls [])) := ⟨_, rfl⟩
  have key : ∀ (H : Heap) (locs : List Loc), Bw cw D ar A s.heap H locs ad S → ∀ o, f_Book_setStrides S = some o → X_0 o → W p l e (RM 1 21) s m args below meth c H locs 0 0 Q (F0 m 0 ls []) := by
    intro H locs hw o h ho
    unfold f_Book_setStrides at h
    refine lv_iconst (v := 1) F.1 F.2.1 d_Book_setStrides_0 (by decide) ?_
    refine lv_istore_n (lv' := [(1, .int (1 : Int32)), (0, .ref (ad 3 0))]) F.1 F.2.1 d_Book_setStrides_1 rfl hl (by decide) rfl (fun ls hl => ?_)
    refine lv_aload_n F.1 F.2.1 d_Book_setStrides_2 rfl (lv_at hl 1 rfl) ?_
    refine cg_3_10 F hK hw lk_82 d_Book_setStrides_3 ?_
    refine lv_bipush (v := 6) F.1 F.2.1 d_Book_setStrides_6 (by decide) ?_
    refine va_mmin F.1 F.2.1 (F.2.2.1.trans hl.1.symm) F.2.2.2.1 (F.2.2.2.2 _ lk_481) (F.2.2.2.2 _ lk_397) (F.2.2.2.2 _ lk_12) (F.2.2.2.2 _ lk_398) (Nat.le_of_ble_eq_true rfl) (Nat.le_of_ble_eq_true rfl) (Nat.zero_le _) (Nat.zero_le _) d_Book_setStrides_8 ?_
    refine lv_iconst (v := 1) F.1 F.2.1 d_Book_setStrides_11 (by decide) ?_
    refine lv_isub F.1 F.2.1 d_Book_setStrides_12 ?_
    obtain ⟨x2_1, ex2_1, h⟩ := nm_ex h
    refine lv_nm ex2_1 ?_
    refine lv_istore_n (lv' := [(2, .int x2_1), (1, .int (1 : Int32)), (0, .ref (ad 3 0))]) F.1 F.2.1 d_Book_setStrides_13 rfl hl (by decide) rfl (fun ls hl => ?_)
    obtain ⟨S_9, hc_10, h⟩ := bd_ex h
    obtain ⟨X_14, eX_14⟩ : ∃ X : St → Prop, X = (fun q => ∀ (H : Heap) (locs : List Loc) (ls : Array Slot), Bw cw D ar A s.heap H locs ad q → lv_has ls 3 [] → W p l e (RM 1 21) s m args below meth c H locs 0 0 Q (F0 m 49 ls [])) := ⟨_, rfl⟩
    have hX_14 : X_14 S_9 := by
      rw [eX_14]
      intro H locs ls hw hl
      cases h
      have ho : X_0 _ := ho
      rw [eX_0] at ho
      exact ho H locs _ ls d_Book_setStrides_49 hw
    obtain ⟨P_14, eP_14⟩ : ∃ P : (St × Int32 × Int32) → Prop, P = (fun q => ∀ (H : Heap) (locs : List Loc) (ls : Array Slot), Bw cw D ar A s.heap H locs ad q.1 → lv_has ls 3 [(0, .ref (ad 3 0)), (1, .int q.2.1), (2, .int q.2.2)] → W p l e (RM 1 21) s m args below meth c H locs 0 0 Q (F0 m 14 ls [])) := ⟨_, rfl⟩
    have hL_14 : P_14 (S, (1 : Int32), x2_1) := by
      refine wh_gp (P := P_14) (X := X_14) hc_10 hX_14 ?_
      clear h
      intro q o h ho
      obtain ⟨S, x1, x2⟩ := q
      have h : Book_setStrides_l14 S x1 x2 = some o := h
      unfold Book_setStrides_l14 at h
      rw [eP_14]
      intro H locs ls hw hl
      refine lv_iload_n F.1 F.2.1 d_Book_setStrides_14 rfl (lv_at hl 2 rfl) ?_
      refine lv_if_lt (tgt := 49) F.1 F.2.1 d_Book_setStrides_15 (by decide) (fun c_2 => ?_) (fun c_2 => ?_)
      · replace h := ip c_2 h
        cases h
        have ho : X_14 _ := ho
        rw [eX_14] at ho
        exact ho H locs ls hw (lv_sub hl [] rfl)
      · replace h := iq c_2 h
        refine lv_aload_n F.1 F.2.1 d_Book_setStrides_18 rfl (lv_at hl 0 rfl) ?_
        refine cg_3_3 F hK hw lk_70 d_Book_setStrides_19 ?_
        refine lv_iload_n F.1 F.2.1 d_Book_setStrides_22 rfl (lv_at hl 2 rfl) ?_
        refine lv_iload_n F.1 F.2.1 d_Book_setStrides_23 rfl (lv_at hl 1 rfl) ?_
        obtain ⟨hi_3, h⟩ := gd_ex h
        obtain ⟨S_4, eS_4, h⟩ := nm_ex h
        refine cs_3_3 F hK hw hi_3 d_Book_setStrides_24 eS_4 (fun H locs hw => ?_)
        refine lv_iload_n F.1 F.2.1 d_Book_setStrides_25 rfl (lv_at hl 1 rfl) ?_
        refine lv_aload_n F.1 F.2.1 d_Book_setStrides_26 rfl (lv_at hl 0 rfl) ?_
        refine cg_3_2 F hK hw lk_69 d_Book_setStrides_27 ?_
        refine lv_iload_n F.1 F.2.1 d_Book_setStrides_30 rfl (lv_at hl 2 rfl) ?_
        obtain ⟨hi_5, h⟩ := gd_ex h
        refine cl_3_2 F hK hw hi_5 d_Book_setStrides_31 ?_
        refine lv_aload_n F.1 F.2.1 d_Book_setStrides_32 rfl (lv_at hl 0 rfl) ?_
        refine cg_3_1 F hK hw lk_68 d_Book_setStrides_33 ?_
        refine lv_iload_n F.1 F.2.1 d_Book_setStrides_36 rfl (lv_at hl 2 rfl) ?_
        obtain ⟨hi_6, h⟩ := gd_ex h
        refine cl_3_1 F hK hw hi_6 d_Book_setStrides_37 ?_
        refine lv_isub F.1 F.2.1 d_Book_setStrides_38 ?_
        refine lv_iconst (v := 1) F.1 F.2.1 d_Book_setStrides_39 (by decide) ?_
        refine lv_iadd F.1 F.2.1 d_Book_setStrides_40 ?_
        refine lv_imul F.1 F.2.1 d_Book_setStrides_41 ?_
        obtain ⟨x1_7, ex1_7, h⟩ := nm_ex h
        refine lv_nm ex1_7 ?_
        refine lv_istore_n (lv' := [(1, .int x1_7), (0, .ref (ad 3 0)), (2, .int x2)]) F.1 F.2.1 d_Book_setStrides_42 rfl hl (by decide) rfl (fun ls hl => ?_)
        obtain ⟨x2_8, ex2_8, h⟩ := nm_ex h
        refine lv_iinc (v := x2_8) (lv' := [(2, .int x2_8), (1, .int x1_7), (0, .ref (ad 3 0))]) F.1 F.2.1 d_Book_setStrides_43 hl (k := 2) rfl (by rw [ex2_8]; rfl) (by decide) rfl (fun ls hl => ?_)
        refine lv_goto (tgt := 14) F.1 F.2.1 d_Book_setStrides_46 (by decide) ?_
        cases h
        have ho : P_14 _ := ho
        rw [eP_14] at ho
        exact ho H locs ls hw (lv_sub hl [2, 1, 0] rfl)
    rw [eP_14] at hL_14
    exact hL_14 H locs ls hw (lv_sub hl [2, 1, 0] rfl)
  exact key _ _ hw _ h (by rw [eX_0]; exact fun H locs pc ls hd hw => hQ H locs pc ls ad rfl hd hw)
set_option maxHeartbeats 4000000 in
set_option maxRecDepth 100000 in
theorem c_Arrays_fill_4_5 (l : Launch) {S : St} {x1 : Int32} {S' : St} (h : f_Arrays_fill 4 5 S x1 = some S') : MV cw l y_Arrays_fill b_Arrays_fill 4 none 0 0 0 0 (fun ad => [.ref (ad 4 6), .int x1]) aT aE S S' := by
  refine MV_of "java/util/Arrays" rfl (by decide) (fun _ => Nat.le_of_ble_eq_true rfl) ?_
  intro p e s m args below meth c D ar ad A Q ls hP F hK hA hw hl hQ
  have hl : lv_has ls 4 [(0, .ref (ad 4 6)), (1, .int x1)] := hl
  obtain ⟨X_0, eX_0⟩ : ∃ X : St → Prop, X = (fun q => ∀ (H : Heap) (locs : List Loc) (pc : Nat) (ls : Array Slot), decode b_Arrays_fill pc = .ok (.return_, 1) → Bw cw D ar A s.heap H locs ad q → W p l e (RM 0 0) s m args below meth c H locs 0 0 Q (F0 m pc ls [])) := ⟨_, rfl⟩
  have key : ∀ (H : Heap) (locs : List Loc), Bw cw D ar A s.heap H locs ad S → ∀ o, f_Arrays_fill 4 5 S x1 = some o → X_0 o → W p l e (RM 0 0) s m args below meth c H locs 0 0 Q (F0 m 0 ls []) := by
    intro H locs hw o h ho
    unfold f_Arrays_fill at h
    refine lv_iconst (v := 0) F.1 F.2.1 d_Arrays_fill_0 (by decide) ?_
    refine lv_istore_n (lv' := [(2, .int (0 : Int32)), (0, .ref (ad 4 6)), (1, .int x1)]) F.1 F.2.1 d_Arrays_fill_1 rfl hl (by decide) rfl (fun ls hl => ?_)
    refine lv_aload_n F.1 F.2.1 d_Arrays_fill_2 rfl (lv_at hl 1 rfl) ?_
    refine cn_4_5 F hK hw d_Arrays_fill_3 ?_
    obtain ⟨x3_1, ex3_1, h⟩ := nm_ex h
    refine lv_nm ex3_1 ?_
    refine lv_istore_n (lv' := [(3, .int x3_1), (2, .int (0 : Int32)), (0, .ref (ad 4 6)), (1, .int x1)]) F.1 F.2.1 d_Arrays_fill_4 rfl hl (by decide) rfl (fun ls hl => ?_)
    obtain ⟨S_6, hc_7, h⟩ := bd_ex h
    obtain ⟨X_5, eX_5⟩ : ∃ X : St → Prop, X = (fun q => ∀ (H : Heap) (locs : List Loc) (ls : Array Slot), Bw cw D ar A s.heap H locs ad q → lv_has ls 4 [] → W p l e (RM 0 0) s m args below meth c H locs 0 0 Q (F0 m 20 ls [])) := ⟨_, rfl⟩
    have hX_5 : X_5 S_6 := by
      rw [eX_5]
      intro H locs ls hw hl
      cases h
      have ho : X_0 _ := ho
      rw [eX_0] at ho
      exact ho H locs _ ls d_Arrays_fill_20 hw
    obtain ⟨P_5, eP_5⟩ : ∃ P : (St × Int32) → Prop, P = (fun q => ∀ (H : Heap) (locs : List Loc) (ls : Array Slot), Bw cw D ar A s.heap H locs ad q.1 → lv_has ls 4 [(0, .ref (ad 4 6)), (1, .int x1), (2, .int q.2), (3, .int x3_1)] → W p l e (RM 0 0) s m args below meth c H locs 0 0 Q (F0 m 5 ls [])) := ⟨_, rfl⟩
    have hL_5 : P_5 (S, (0 : Int32)) := by
      refine wh_gp (P := P_5) (X := X_5) hc_7 hX_5 ?_
      clear h
      intro q o h ho
      obtain ⟨S, x2⟩ := q
      have h : Arrays_fill_l5 4 5 x1 x3_1 S x2 = some o := h
      unfold Arrays_fill_l5 at h
      rw [eP_5]
      intro H locs ls hw hl
      refine lv_iload_n F.1 F.2.1 d_Arrays_fill_5 rfl (lv_at hl 2 rfl) ?_
      refine lv_iload_n F.1 F.2.1 d_Arrays_fill_6 rfl (lv_at hl 3 rfl) ?_
      refine lv_icmp_ge (tgt := 20) F.1 F.2.1 d_Arrays_fill_7 (by decide) (fun c_2 => ?_) (fun c_2 => ?_)
      · replace h := ip c_2 h
        cases h
        have ho : X_5 _ := ho
        rw [eX_5] at ho
        exact ho H locs ls hw (lv_sub hl [] rfl)
      · replace h := iq c_2 h
        refine lv_aload_n F.1 F.2.1 d_Arrays_fill_10 rfl (lv_at hl 0 rfl) ?_
        refine lv_iload_n F.1 F.2.1 d_Arrays_fill_11 rfl (lv_at hl 2 rfl) ?_
        refine lv_iload_n F.1 F.2.1 d_Arrays_fill_12 rfl (lv_at hl 1 rfl) ?_
        obtain ⟨hi_3, h⟩ := gd_ex h
        obtain ⟨S_4, eS_4, h⟩ := nm_ex h
        refine cs_4_5 F hK hw hi_3 d_Arrays_fill_13 eS_4 (fun H locs hw => ?_)
        obtain ⟨x2_5, ex2_5, h⟩ := nm_ex h
        refine lv_iinc (v := x2_5) (lv' := [(2, .int x2_5), (0, .ref (ad 4 6)), (1, .int x1), (3, .int x3_1)]) F.1 F.2.1 d_Arrays_fill_14 hl (k := 2) rfl (by rw [ex2_5]; rfl) (by decide) rfl (fun ls hl => ?_)
        refine lv_goto (tgt := 5) F.1 F.2.1 d_Arrays_fill_17 (by decide) ?_
        cases h
        have ho : P_5 _ := ho
        rw [eP_5] at ho
        exact ho H locs ls hw (lv_sub hl [1, 2, 0, 3] rfl)
    rw [eP_5] at hL_5
    exact hL_5 H locs ls hw (lv_sub hl [2, 3, 1, 0] rfl)
  exact key _ _ hw _ h (by rw [eX_0]; exact fun H locs pc ls hd hw => hQ H locs pc ls ad rfl hd hw)
