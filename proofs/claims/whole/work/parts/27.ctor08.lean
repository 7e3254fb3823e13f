theorem d_Bins_init_0 : decode b_Bins_init 0 = .ok (.aload_n 0, 1) := by decide +kernel
theorem d_Bins_init_1 : decode b_Bins_init 1 = .ok (.invokespecial 3, 3) := by decide +kernel
theorem d_Bins_init_4 : decode b_Bins_init 4 = .ok (.aload_n 0, 1) := by decide +kernel
theorem d_Bins_init_5 : decode b_Bins_init 5 = .ok (.sipush 256, 3) := by decide +kernel
theorem d_Bins_init_8 : decode b_Bins_init 8 = .ok (.newarray .int, 2) := by decide +kernel
theorem d_Bins_init_10 : decode b_Bins_init 10 = .ok (.putfield 9, 3) := by decide +kernel
theorem d_Bins_init_13 : decode b_Bins_init 13 = .ok (.aload_n 0, 1) := by decide +kernel
theorem d_Bins_init_14 : decode b_Bins_init 14 = .ok (.sipush 256, 3) := by decide +kernel
theorem d_Bins_init_17 : decode b_Bins_init 17 = .ok (.newarray .int, 2) := by decide +kernel
theorem d_Bins_init_19 : decode b_Bins_init 19 = .ok (.putfield 15, 3) := by decide +kernel
theorem d_Bins_init_22 : decode b_Bins_init 22 = .ok (.aload_n 0, 1) := by decide +kernel
theorem d_Bins_init_23 : decode b_Bins_init 23 = .ok (.sipush 256, 3) := by decide +kernel
theorem d_Bins_init_26 : decode b_Bins_init 26 = .ok (.newarray .int, 2) := by decide +kernel
theorem d_Bins_init_28 : decode b_Bins_init 28 = .ok (.putfield 18, 3) := by decide +kernel
theorem d_Bins_init_31 : decode b_Bins_init 31 = .ok (.aload_n 0, 1) := by decide +kernel
theorem d_Bins_init_32 : decode b_Bins_init 32 = .ok (.bipush 8, 2) := by decide +kernel
theorem d_Bins_init_34 : decode b_Bins_init 34 = .ok (.newarray .int, 2) := by decide +kernel
theorem d_Bins_init_36 : decode b_Bins_init 36 = .ok (.putfield 21, 3) := by decide +kernel
theorem d_Bins_init_39 : decode b_Bins_init 39 = .ok (.aload_n 0, 1) := by decide +kernel
theorem d_Bins_init_40 : decode b_Bins_init 40 = .ok (.bipush 8, 2) := by decide +kernel
theorem d_Bins_init_42 : decode b_Bins_init 42 = .ok (.newarray .int, 2) := by decide +kernel
theorem d_Bins_init_44 : decode b_Bins_init 44 = .ok (.putfield 24, 3) := by decide +kernel
theorem d_Bins_init_47 : decode b_Bins_init 47 = .ok (.aload_n 0, 1) := by decide +kernel
theorem d_Bins_init_48 : decode b_Bins_init 48 = .ok (.sipush 256, 3) := by decide +kernel
theorem d_Bins_init_51 : decode b_Bins_init 51 = .ok (.newarray .int, 2) := by decide +kernel
theorem d_Bins_init_53 : decode b_Bins_init 53 = .ok (.putfield 27, 3) := by decide +kernel
theorem d_Bins_init_56 : decode b_Bins_init 56 = .ok (.aload_n 0, 1) := by decide +kernel
theorem d_Bins_init_57 : decode b_Bins_init 57 = .ok (.iconst 0, 1) := by decide +kernel
theorem d_Bins_init_58 : decode b_Bins_init 58 = .ok (.putfield 30, 3) := by decide +kernel
theorem d_Bins_init_61 : decode b_Bins_init 61 = .ok (.aload_n 0, 1) := by decide +kernel
theorem d_Bins_init_62 : decode b_Bins_init 62 = .ok (.iconst 0, 1) := by decide +kernel
theorem d_Bins_init_63 : decode b_Bins_init 63 = .ok (.putfield 34, 3) := by decide +kernel
theorem d_Bins_init_66 : decode b_Bins_init 66 = .ok (.aload_n 0, 1) := by decide +kernel
theorem d_Bins_init_67 : decode b_Bins_init 67 = .ok (.iconst 0, 1) := by decide +kernel
theorem d_Bins_init_68 : decode b_Bins_init 68 = .ok (.putfield 37, 3) := by decide +kernel
theorem d_Bins_init_71 : decode b_Bins_init 71 = .ok (.aload_n 0, 1) := by decide +kernel
theorem d_Bins_init_72 : decode b_Bins_init 72 = .ok (.iconst 0, 1) := by decide +kernel
theorem d_Bins_init_73 : decode b_Bins_init 73 = .ok (.putfield 41, 3) := by decide +kernel
theorem d_Bins_init_76 : decode b_Bins_init 76 = .ok (.aload_n 0, 1) := by decide +kernel
theorem d_Bins_init_77 : decode b_Bins_init 77 = .ok (.iconst 0, 1) := by decide +kernel
theorem d_Bins_init_78 : decode b_Bins_init 78 = .ok (.putfield 44, 3) := by decide +kernel
theorem d_Bins_init_81 : decode b_Bins_init 81 = .ok (.return_, 1) := by decide +kernel
set_option maxHeartbeats 8000000 in
set_option maxRecDepth 100000 in
theorem ct_Bins_8 (l : Launch) : MC l y_Bins_init b_Bins_init 1 1 20 6 1040 7 8 [.null, .null, .null, .null, .null, .null, .int 0, .int 0, .int 0, .int 0, .int 0] sg_8 cS0 cS0 := by
  refine MC_of "LawfulLots$BinTable" rfl (by decide) (Nat.le_of_ble_eq_true rfl) ?_
  intro p e s m args below meth c D ar h0 A Q ls F hin hK hA hP hD hS hl hQ
  refine lv_aload_n F.1 F.2.1 d_Bins_init_0 rfl (lv_at hl 0 rfl) ?_
  refine W.objInit F.1 F.2.1 F.2.2.2.1 (F.2.2.2.2 _ lk_273) (F.2.2.2.2 _ lk_20) (F.2.2.2.2 _ lk_21) rfl (by rw [F.2.2.1]; exact hl.1) rfl d_Bins_init_1 (Nat.le_of_ble_eq_true rfl) (Nat.le_of_ble_eq_true rfl) ?_
  refine W.eq (g2 := F0 m 4 ls []) rfl ?_
  refine lv_aload_n F.1 F.2.1 d_Bins_init_4 rfl (lv_at hl 0 rfl) ?_
  refine lv_sipush (v := 256) F.1 F.2.1 d_Bins_init_5 (by decide) ?_
  refine mk_arr (atype := .int) (ty := .int) (t := 0) (n := 256) (v := 256) (a0 := (256, .inl (fun _ => 0))) F hA hK hP hD hS lk_117 rfl rfl (fun _ h1 h2 => ra_i h1 h2) (fun _ => rfl) (by decide) (by decide) (by decide) (Nat.le_of_ble_eq_true rfl) (Nat.le_of_ble_eq_true rfl) d_Bins_init_8 (fun q_1 H hP hD hS => ?_)
  have hP : va_P D classes [(h0, .inr (7, [.null, .null, .null, .null, .null, .null, .int 0, .int 0, .int 0, .int 0, .int 0])), (q_1, .inl (ar 0, (256, .inl (fun _ => 0))))] H := hP
  have hD : va_D A [(h0, .inr (7, [.null, .null, .null, .null, .null, .null, .int 0, .int 0, .int 0, .int 0, .int 0])), (q_1, .inl (ar 0, (256, .inl (fun _ => 0))))] := hD
  refine va_putF (v := .ref q_1) (ty := (.array .int)) F.1 F.2.1 F.2.2.2.2 ig_Bins ty_Bins tk_Bins nm_Bins F.2.2.2.1 hK.1 hP hD hS 0 rfl (rfl : classes[7]? = some (R_Bins, T_Bins, 11)) 0 (by decide) (F.2.2.2.2 _ lk_274) (fun _ h => h) rfl hin rfl (tk_Bins 0 (by decide)) rfl rfl (Nat.le_of_ble_eq_true rfl) d_Bins_init_10 (fun H locs hP hD hS => ?_)
  have hP : va_P D classes [(h0, .inr (7, [.ref q_1, .null, .null, .null, .null, .null, .int 0, .int 0, .int 0, .int 0, .int 0])), (q_1, .inl (ar 0, (256, .inl (fun _ => 0))))] H := hP
  have hD : va_D A [(h0, .inr (7, [.ref q_1, .null, .null, .null, .null, .null, .int 0, .int 0, .int 0, .int 0, .int 0])), (q_1, .inl (ar 0, (256, .inl (fun _ => 0))))] := hD
  refine lv_aload_n F.1 F.2.1 d_Bins_init_13 rfl (lv_at hl 0 rfl) ?_
  refine lv_sipush (v := 256) F.1 F.2.1 d_Bins_init_14 (by decide) ?_
  refine mk_arr (atype := .int) (ty := .int) (t := 0) (n := 256) (v := 256) (a0 := (256, .inl (fun _ => 0))) F hA hK hP hD hS lk_117 rfl rfl (fun _ h1 h2 => ra_i h1 h2) (fun _ => rfl) (by decide) (by decide) (by decide) (Nat.le_of_ble_eq_true rfl) (Nat.le_of_ble_eq_true rfl) d_Bins_init_17 (fun q_2 H hP hD hS => ?_)
  have hP : va_P D classes [(h0, .inr (7, [.ref q_1, .null, .null, .null, .null, .null, .int 0, .int 0, .int 0, .int 0, .int 0])), (q_1, .inl (ar 0, (256, .inl (fun _ => 0)))), (q_2, .inl (ar 0, (256, .inl (fun _ => 0))))] H := hP
  have hD : va_D A [(h0, .inr (7, [.ref q_1, .null, .null, .null, .null, .null, .int 0, .int 0, .int 0, .int 0, .int 0])), (q_1, .inl (ar 0, (256, .inl (fun _ => 0)))), (q_2, .inl (ar 0, (256, .inl (fun _ => 0))))] := hD
  refine va_putF (v := .ref q_2) (ty := (.array .int)) F.1 F.2.1 F.2.2.2.2 ig_Bins ty_Bins tk_Bins nm_Bins F.2.2.2.1 hK.1 hP hD hS 0 rfl (rfl : classes[7]? = some (R_Bins, T_Bins, 11)) 1 (by decide) (F.2.2.2.2 _ lk_275) (fun _ h => h) rfl hin rfl (tk_Bins 1 (by decide)) rfl rfl (Nat.le_of_ble_eq_true rfl) d_Bins_init_19 (fun H locs hP hD hS => ?_)
  have hP : va_P D classes [(h0, .inr (7, [.ref q_1, .ref q_2, .null, .null, .null, .null, .int 0, .int 0, .int 0, .int 0, .int 0])), (q_1, .inl (ar 0, (256, .inl (fun _ => 0)))), (q_2, .inl (ar 0, (256, .inl (fun _ => 0))))] H := hP
  have hD : va_D A [(h0, .inr (7, [.ref q_1, .ref q_2, .null, .null, .null, .null, .int 0, .int 0, .int 0, .int 0, .int 0])), (q_1, .inl (ar 0, (256, .inl (fun _ => 0)))), (q_2, .inl (ar 0, (256, .inl (fun _ => 0))))] := hD
  refine lv_aload_n F.1 F.2.1 d_Bins_init_22 rfl (lv_at hl 0 rfl) ?_
  refine lv_sipush (v := 256) F.1 F.2.1 d_Bins_init_23 (by decide) ?_
  refine mk_arr (atype := .int) (ty := .int) (t := 0) (n := 256) (v := 256) (a0 := (256, .inl (fun _ => 0))) F hA hK hP hD hS lk_117 rfl rfl (fun _ h1 h2 => ra_i h1 h2) (fun _ => rfl) (by decide) (by decide) (by decide) (Nat.le_of_ble_eq_true rfl) (Nat.le_of_ble_eq_true rfl) d_Bins_init_26 (fun q_3 H hP hD hS => ?_)
  have hP : va_P D classes [(h0, .inr (7, [.ref q_1, .ref q_2, .null, .null, .null, .null, .int 0, .int 0, .int 0, .int 0, .int 0])), (q_1, .inl (ar 0, (256, .inl (fun _ => 0)))), (q_2, .inl (ar 0, (256, .inl (fun _ => 0)))), (q_3, .inl (ar 0, (256, .inl (fun _ => 0))))] H := hP
  have hD : va_D A [(h0, .inr (7, [.ref q_1, .ref q_2, .null, .null, .null, .null, .int 0, .int 0, .int 0, .int 0, .int 0])), (q_1, .inl (ar 0, (256, .inl (fun _ => 0)))), (q_2, .inl (ar 0, (256, .inl (fun _ => 0)))), (q_3, .inl (ar 0, (256, .inl (fun _ => 0))))] := hD
  refine va_putF (v := .ref q_3) (ty := (.array .int)) F.1 F.2.1 F.2.2.2.2 ig_Bins ty_Bins tk_Bins nm_Bins F.2.2.2.1 hK.1 hP hD hS 0 rfl (rfl : classes[7]? = some (R_Bins, T_Bins, 11)) 2 (by decide) (F.2.2.2.2 _ lk_276) (fun _ h => h) rfl hin rfl (tk_Bins 2 (by decide)) rfl rfl (Nat.le_of_ble_eq_true rfl) d_Bins_init_28 (fun H locs hP hD hS => ?_)
  have hP : va_P D classes [(h0, .inr (7, [.ref q_1, .ref q_2, .ref q_3, .null, .null, .null, .int 0, .int 0, .int 0, .int 0, .int 0])), (q_1, .inl (ar 0, (256, .inl (fun _ => 0)))), (q_2, .inl (ar 0, (256, .inl (fun _ => 0)))), (q_3, .inl (ar 0, (256, .inl (fun _ => 0))))] H := hP
  have hD : va_D A [(h0, .inr (7, [.ref q_1, .ref q_2, .ref q_3, .null, .null, .null, .int 0, .int 0, .int 0, .int 0, .int 0])), (q_1, .inl (ar 0, (256, .inl (fun _ => 0)))), (q_2, .inl (ar 0, (256, .inl (fun _ => 0)))), (q_3, .inl (ar 0, (256, .inl (fun _ => 0))))] := hD
  refine lv_aload_n F.1 F.2.1 d_Bins_init_31 rfl (lv_at hl 0 rfl) ?_
  refine lv_bipush (v := 8) F.1 F.2.1 d_Bins_init_32 (by decide) ?_
  refine mk_arr (atype := .int) (ty := .int) (t := 0) (n := 8) (v := 8) (a0 := (8, .inl (fun _ => 0))) F hA hK hP hD hS lk_117 rfl rfl (fun _ h1 h2 => ra_i h1 h2) (fun _ => rfl) (by decide) (by decide) (by decide) (Nat.le_of_ble_eq_true rfl) (Nat.le_of_ble_eq_true rfl) d_Bins_init_34 (fun q_4 H hP hD hS => ?_)
  have hP : va_P D classes [(h0, .inr (7, [.ref q_1, .ref q_2, .ref q_3, .null, .null, .null, .int 0, .int 0, .int 0, .int 0, .int 0])), (q_1, .inl (ar 0, (256, .inl (fun _ => 0)))), (q_2, .inl (ar 0, (256, .inl (fun _ => 0)))), (q_3, .inl (ar 0, (256, .inl (fun _ => 0)))), (q_4, .inl (ar 0, (8, .inl (fun _ => 0))))] H := hP
  have hD : va_D A [(h0, .inr (7, [.ref q_1, .ref q_2, .ref q_3, .null, .null, .null, .int 0, .int 0, .int 0, .int 0, .int 0])), (q_1, .inl (ar 0, (256, .inl (fun _ => 0)))), (q_2, .inl (ar 0, (256, .inl (fun _ => 0)))), (q_3, .inl (ar 0, (256, .inl (fun _ => 0)))), (q_4, .inl (ar 0, (8, .inl (fun _ => 0))))] := hD
  refine va_putF (v := .ref q_4) (ty := (.array .int)) F.1 F.2.1 F.2.2.2.2 ig_Bins ty_Bins tk_Bins nm_Bins F.2.2.2.1 hK.1 hP hD hS 0 rfl (rfl : classes[7]? = some (R_Bins, T_Bins, 11)) 3 (by decide) (F.2.2.2.2 _ lk_277) (fun _ h => h) rfl hin rfl (tk_Bins 3 (by decide)) rfl rfl (Nat.le_of_ble_eq_true rfl) d_Bins_init_36 (fun H locs hP hD hS => ?_)
  have hP : va_P D classes [(h0, .inr (7, [.ref q_1, .ref q_2, .ref q_3, .ref q_4, .null, .null, .int 0, .int 0, .int 0, .int 0, .int 0])), (q_1, .inl (ar 0, (256, .inl (fun _ => 0)))), (q_2, .inl (ar 0, (256, .inl (fun _ => 0)))), (q_3, .inl (ar 0, (256, .inl (fun _ => 0)))), (q_4, .inl (ar 0, (8, .inl (fun _ => 0))))] H := hP
  have hD : va_D A [(h0, .inr (7, [.ref q_1, .ref q_2, .ref q_3, .ref q_4, .null, .null, .int 0, .int 0, .int 0, .int 0, .int 0])), (q_1, .inl (ar 0, (256, .inl (fun _ => 0)))), (q_2, .inl (ar 0, (256, .inl (fun _ => 0)))), (q_3, .inl (ar 0, (256, .inl (fun _ => 0)))), (q_4, .inl (ar 0, (8, .inl (fun _ => 0))))] := hD
  refine lv_aload_n F.1 F.2.1 d_Bins_init_39 rfl (lv_at hl 0 rfl) ?_
  refine lv_bipush (v := 8) F.1 F.2.1 d_Bins_init_40 (by decide) ?_
  refine mk_arr (atype := .int) (ty := .int) (t := 0) (n := 8) (v := 8) (a0 := (8, .inl (fun _ => 0))) F hA hK hP hD hS lk_117 rfl rfl (fun _ h1 h2 => ra_i h1 h2) (fun _ => rfl) (by decide) (by decide) (by decide) (Nat.le_of_ble_eq_true rfl) (Nat.le_of_ble_eq_true rfl) d_Bins_init_42 (fun q_5 H hP hD hS => ?_)
  have hP : va_P D classes [(h0, .inr (7, [.ref q_1, .ref q_2, .ref q_3, .ref q_4, .null, .null, .int 0, .int 0, .int 0, .int 0, .int 0])), (q_1, .inl (ar 0, (256, .inl (fun _ => 0)))), (q_2, .inl (ar 0, (256, .inl (fun _ => 0)))), (q_3, .inl (ar 0, (256, .inl (fun _ => 0)))), (q_4, .inl (ar 0, (8, .inl (fun _ => 0)))), (q_5, .inl (ar 0, (8, .inl (fun _ => 0))))] H := hP
  have hD : va_D A [(h0, .inr (7, [.ref q_1, .ref q_2, .ref q_3, .ref q_4, .null, .null, .int 0, .int 0, .int 0, .int 0, .int 0])), (q_1, .inl (ar 0, (256, .inl (fun _ => 0)))), (q_2, .inl (ar 0, (256, .inl (fun _ => 0)))), (q_3, .inl (ar 0, (256, .inl (fun _ => 0)))), (q_4, .inl (ar 0, (8, .inl (fun _ => 0)))), (q_5, .inl (ar 0, (8, .inl (fun _ => 0))))] := hD
  refine va_putF (v := .ref q_5) (ty := (.array .int)) F.1 F.2.1 F.2.2.2.2 ig_Bins ty_Bins tk_Bins nm_Bins F.2.2.2.1 hK.1 hP hD hS 0 rfl (rfl : classes[7]? = some (R_Bins, T_Bins, 11)) 4 (by decide) (F.2.2.2.2 _ lk_278) (fun _ h => h) rfl hin rfl (tk_Bins 4 (by decide)) rfl rfl (Nat.le_of_ble_eq_true rfl) d_Bins_init_44 (fun H locs hP hD hS => ?_)
  have hP : va_P D classes [(h0, .inr (7, [.ref q_1, .ref q_2, .ref q_3, .ref q_4, .ref q_5, .null, .int 0, .int 0, .int 0, .int 0, .int 0])), (q_1, .inl (ar 0, (256, .inl (fun _ => 0)))), (q_2, .inl (ar 0, (256, .inl (fun _ => 0)))), (q_3, .inl (ar 0, (256, .inl (fun _ => 0)))), (q_4, .inl (ar 0, (8, .inl (fun _ => 0)))), (q_5, .inl (ar 0, (8, .inl (fun _ => 0))))] H := hP
  have hD : va_D A [(h0, .inr (7, [.ref q_1, .ref q_2, .ref q_3, .ref q_4, .ref q_5, .null, .int 0, .int 0, .int 0, .int 0, .int 0])), (q_1, .inl (ar 0, (256, .inl (fun _ => 0)))), (q_2, .inl (ar 0, (256, .inl (fun _ => 0)))), (q_3, .inl (ar 0, (256, .inl (fun _ => 0)))), (q_4, .inl (ar 0, (8, .inl (fun _ => 0)))), (q_5, .inl (ar 0, (8, .inl (fun _ => 0))))] := hD
  refine lv_aload_n F.1 F.2.1 d_Bins_init_47 rfl (lv_at hl 0 rfl) ?_
  refine lv_sipush (v := 256) F.1 F.2.1 d_Bins_init_48 (by decide) ?_
  refine mk_arr (atype := .int) (ty := .int) (t := 0) (n := 256) (v := 256) (a0 := (256, .inl (fun _ => 0))) F hA hK hP hD hS lk_117 rfl rfl (fun _ h1 h2 => ra_i h1 h2) (fun _ => rfl) (by decide) (by decide) (by decide) (Nat.le_of_ble_eq_true rfl) (Nat.le_of_ble_eq_true rfl) d_Bins_init_51 (fun q_6 H hP hD hS => ?_)
  have hP : va_P D classes [(h0, .inr (7, [.ref q_1, .ref q_2, .ref q_3, .ref q_4, .ref q_5, .null, .int 0, .int 0, .int 0, .int 0, .int 0])), (q_1, .inl (ar 0, (256, .inl (fun _ => 0)))), (q_2, .inl (ar 0, (256, .inl (fun _ => 0)))), (q_3, .inl (ar 0, (256, .inl (fun _ => 0)))), (q_4, .inl (ar 0, (8, .inl (fun _ => 0)))), (q_5, .inl (ar 0, (8, .inl (fun _ => 0)))), (q_6, .inl (ar 0, (256, .inl (fun _ => 0))))] H := hP
  have hD : va_D A [(h0, .inr (7, [.ref q_1, .ref q_2, .ref q_3, .ref q_4, .ref q_5, .null, .int 0, .int 0, .int 0, .int 0, .int 0])), (q_1, .inl (ar 0, (256, .inl (fun _ => 0)))), (q_2, .inl (ar 0, (256, .inl (fun _ => 0)))), (q_3, .inl (ar 0, (256, .inl (fun _ => 0)))), (q_4, .inl (ar 0, (8, .inl (fun _ => 0)))), (q_5, .inl (ar 0, (8, .inl (fun _ => 0)))), (q_6, .inl (ar 0, (256, .inl (fun _ => 0))))] := hD
  refine va_putF (v := .ref q_6) (ty := (.array .int)) F.1 F.2.1 F.2.2.2.2 ig_Bins ty_Bins tk_Bins nm_Bins F.2.2.2.1 hK.1 hP hD hS 0 rfl (rfl : classes[7]? = some (R_Bins, T_Bins, 11)) 5 (by decide) (F.2.2.2.2 _ lk_279) (fun _ h => h) rfl hin rfl (tk_Bins 5 (by decide)) rfl rfl (Nat.le_of_ble_eq_true rfl) d_Bins_init_53 (fun H locs hP hD hS => ?_)
  have hP : va_P D classes [(h0, .inr (7, [.ref q_1, .ref q_2, .ref q_3, .ref q_4, .ref q_5, .ref q_6, .int 0, .int 0, .int 0, .int 0, .int 0])), (q_1, .inl (ar 0, (256, .inl (fun _ => 0)))), (q_2, .inl (ar 0, (256, .inl (fun _ => 0)))), (q_3, .inl (ar 0, (256, .inl (fun _ => 0)))), (q_4, .inl (ar 0, (8, .inl (fun _ => 0)))), (q_5, .inl (ar 0, (8, .inl (fun _ => 0)))), (q_6, .inl (ar 0, (256, .inl (fun _ => 0))))] H := hP
  have hD : va_D A [(h0, .inr (7, [.ref q_1, .ref q_2, .ref q_3, .ref q_4, .ref q_5, .ref q_6, .int 0, .int 0, .int 0, .int 0, .int 0])), (q_1, .inl (ar 0, (256, .inl (fun _ => 0)))), (q_2, .inl (ar 0, (256, .inl (fun _ => 0)))), (q_3, .inl (ar 0, (256, .inl (fun _ => 0)))), (q_4, .inl (ar 0, (8, .inl (fun _ => 0)))), (q_5, .inl (ar 0, (8, .inl (fun _ => 0)))), (q_6, .inl (ar 0, (256, .inl (fun _ => 0))))] := hD
  refine lv_aload_n F.1 F.2.1 d_Bins_init_56 rfl (lv_at hl 0 rfl) ?_
  refine lv_iconst (v := 0) F.1 F.2.1 d_Bins_init_57 (by decide) ?_
  refine va_put (v := .int 0) (ty := .int) F.1 F.2.1 F.2.2.2.2 ig_Bins ty_Bins tk_Bins nm_Bins F.2.2.2.1 hK.1 hP hD hS 0 rfl (rfl : classes[7]? = some (R_Bins, T_Bins, 11)) 6 (by decide) (F.2.2.2.2 _ lk_280) (fun _ h => h) rfl (tk_Bins 6 (by decide)) rfl rfl (Nat.le_of_ble_eq_true rfl) d_Bins_init_58 (fun H locs hP hD hS => ?_)
  have hP : va_P D classes [(h0, .inr (7, [.ref q_1, .ref q_2, .ref q_3, .ref q_4, .ref q_5, .ref q_6, .int 0, .int 0, .int 0, .int 0, .int 0])), (q_1, .inl (ar 0, (256, .inl (fun _ => 0)))), (q_2, .inl (ar 0, (256, .inl (fun _ => 0)))), (q_3, .inl (ar 0, (256, .inl (fun _ => 0)))), (q_4, .inl (ar 0, (8, .inl (fun _ => 0)))), (q_5, .inl (ar 0, (8, .inl (fun _ => 0)))), (q_6, .inl (ar 0, (256, .inl (fun _ => 0))))] H := hP
  have hD : va_D A [(h0, .inr (7, [.ref q_1, .ref q_2, .ref q_3, .ref q_4, .ref q_5, .ref q_6, .int 0, .int 0, .int 0, .int 0, .int 0])), (q_1, .inl (ar 0, (256, .inl (fun _ => 0)))), (q_2, .inl (ar 0, (256, .inl (fun _ => 0)))), (q_3, .inl (ar 0, (256, .inl (fun _ => 0)))), (q_4, .inl (ar 0, (8, .inl (fun _ => 0)))), (q_5, .inl (ar 0, (8, .inl (fun _ => 0)))), (q_6, .inl (ar 0, (256, .inl (fun _ => 0))))] := hD
  refine lv_aload_n F.1 F.2.1 d_Bins_init_61 rfl (lv_at hl 0 rfl) ?_
  refine lv_iconst (v := 0) F.1 F.2.1 d_Bins_init_62 (by decide) ?_
  refine va_put (v := .int 0) (ty := .int) F.1 F.2.1 F.2.2.2.2 ig_Bins ty_Bins tk_Bins nm_Bins F.2.2.2.1 hK.1 hP hD hS 0 rfl (rfl : classes[7]? = some (R_Bins, T_Bins, 11)) 7 (by decide) (F.2.2.2.2 _ lk_281) (fun _ h => h) rfl (tk_Bins 7 (by decide)) rfl rfl (Nat.le_of_ble_eq_true rfl) d_Bins_init_63 (fun H locs hP hD hS => ?_)
  have hP : va_P D classes [(h0, .inr (7, [.ref q_1, .ref q_2, .ref q_3, .ref q_4, .ref q_5, .ref q_6, .int 0, .int 0, .int 0, .int 0, .int 0])), (q_1, .inl (ar 0, (256, .inl (fun _ => 0)))), (q_2, .inl (ar 0, (256, .inl (fun _ => 0)))), (q_3, .inl (ar 0, (256, .inl (fun _ => 0)))), (q_4, .inl (ar 0, (8, .inl (fun _ => 0)))), (q_5, .inl (ar 0, (8, .inl (fun _ => 0)))), (q_6, .inl (ar 0, (256, .inl (fun _ => 0))))] H := hP
  have hD : va_D A [(h0, .inr (7, [.ref q_1, .ref q_2, .ref q_3, .ref q_4, .ref q_5, .ref q_6, .int 0, .int 0, .int 0, .int 0, .int 0])), (q_1, .inl (ar 0, (256, .inl (fun _ => 0)))), (q_2, .inl (ar 0, (256, .inl (fun _ => 0)))), (q_3, .inl (ar 0, (256, .inl (fun _ => 0)))), (q_4, .inl (ar 0, (8, .inl (fun _ => 0)))), (q_5, .inl (ar 0, (8, .inl (fun _ => 0)))), (q_6, .inl (ar 0, (256, .inl (fun _ => 0))))] := hD
  refine lv_aload_n F.1 F.2.1 d_Bins_init_66 rfl (lv_at hl 0 rfl) ?_
  refine lv_iconst (v := 0) F.1 F.2.1 d_Bins_init_67 (by decide) ?_
  refine va_put (v := .int 0) (ty := .boolean) F.1 F.2.1 F.2.2.2.2 ig_Bins ty_Bins tk_Bins nm_Bins F.2.2.2.1 hK.1 hP hD hS 0 rfl (rfl : classes[7]? = some (R_Bins, T_Bins, 11)) 8 (by decide) (F.2.2.2.2 _ lk_282) (fun _ h => h) rfl (tk_Bins 8 (by decide)) rfl rfl (Nat.le_of_ble_eq_true rfl) d_Bins_init_68 (fun H locs hP hD hS => ?_)
  have hP : va_P D classes [(h0, .inr (7, [.ref q_1, .ref q_2, .ref q_3, .ref q_4, .ref q_5, .ref q_6, .int 0, .int 0, .int 0, .int 0, .int 0])), (q_1, .inl (ar 0, (256, .inl (fun _ => 0)))), (q_2, .inl (ar 0, (256, .inl (fun _ => 0)))), (q_3, .inl (ar 0, (256, .inl (fun _ => 0)))), (q_4, .inl (ar 0, (8, .inl (fun _ => 0)))), (q_5, .inl (ar 0, (8, .inl (fun _ => 0)))), (q_6, .inl (ar 0, (256, .inl (fun _ => 0))))] H := hP
  have hD : va_D A [(h0, .inr (7, [.ref q_1, .ref q_2, .ref q_3, .ref q_4, .ref q_5, .ref q_6, .int 0, .int 0, .int 0, .int 0, .int 0])), (q_1, .inl (ar 0, (256, .inl (fun _ => 0)))), (q_2, .inl (ar 0, (256, .inl (fun _ => 0)))), (q_3, .inl (ar 0, (256, .inl (fun _ => 0)))), (q_4, .inl (ar 0, (8, .inl (fun _ => 0)))), (q_5, .inl (ar 0, (8, .inl (fun _ => 0)))), (q_6, .inl (ar 0, (256, .inl (fun _ => 0))))] := hD
  refine lv_aload_n F.1 F.2.1 d_Bins_init_71 rfl (lv_at hl 0 rfl) ?_
  refine lv_iconst (v := 0) F.1 F.2.1 d_Bins_init_72 (by decide) ?_
  refine va_put (v := .int 0) (ty := .boolean) F.1 F.2.1 F.2.2.2.2 ig_Bins ty_Bins tk_Bins nm_Bins F.2.2.2.1 hK.1 hP hD hS 0 rfl (rfl : classes[7]? = some (R_Bins, T_Bins, 11)) 9 (by decide) (F.2.2.2.2 _ lk_283) (fun _ h => h) rfl (tk_Bins 9 (by decide)) rfl rfl (Nat.le_of_ble_eq_true rfl) d_Bins_init_73 (fun H locs hP hD hS => ?_)
  have hP : va_P D classes [(h0, .inr (7, [.ref q_1, .ref q_2, .ref q_3, .ref q_4, .ref q_5, .ref q_6, .int 0, .int 0, .int 0, .int 0, .int 0])), (q_1, .inl (ar 0, (256, .inl (fun _ => 0)))), (q_2, .inl (ar 0, (256, .inl (fun _ => 0)))), (q_3, .inl (ar 0, (256, .inl (fun _ => 0)))), (q_4, .inl (ar 0, (8, .inl (fun _ => 0)))), (q_5, .inl (ar 0, (8, .inl (fun _ => 0)))), (q_6, .inl (ar 0, (256, .inl (fun _ => 0))))] H := hP
  have hD : va_D A [(h0, .inr (7, [.ref q_1, .ref q_2, .ref q_3, .ref q_4, .ref q_5, .ref q_6, .int 0, .int 0, .int 0, .int 0, .int 0])), (q_1, .inl (ar 0, (256, .inl (fun _ => 0)))), (q_2, .inl (ar 0, (256, .inl (fun _ => 0)))), (q_3, .inl (ar 0, (256, .inl (fun _ => 0)))), (q_4, .inl (ar 0, (8, .inl (fun _ => 0)))), (q_5, .inl (ar 0, (8, .inl (fun _ => 0)))), (q_6, .inl (ar 0, (256, .inl (fun _ => 0))))] := hD
  refine lv_aload_n F.1 F.2.1 d_Bins_init_76 rfl (lv_at hl 0 rfl) ?_
  refine lv_iconst (v := 0) F.1 F.2.1 d_Bins_init_77 (by decide) ?_
  refine va_put (v := .int 0) (ty := .boolean) F.1 F.2.1 F.2.2.2.2 ig_Bins ty_Bins tk_Bins nm_Bins F.2.2.2.1 hK.1 hP hD hS 0 rfl (rfl : classes[7]? = some (R_Bins, T_Bins, 11)) 10 (by decide) (F.2.2.2.2 _ lk_284) (fun _ h => h) rfl (tk_Bins 10 (by decide)) rfl rfl (Nat.le_of_ble_eq_true rfl) d_Bins_init_78 (fun H locs hP hD hS => ?_)
  have hP : va_P D classes [(h0, .inr (7, [.ref q_1, .ref q_2, .ref q_3, .ref q_4, .ref q_5, .ref q_6, .int 0, .int 0, .int 0, .int 0, .int 0])), (q_1, .inl (ar 0, (256, .inl (fun _ => 0)))), (q_2, .inl (ar 0, (256, .inl (fun _ => 0)))), (q_3, .inl (ar 0, (256, .inl (fun _ => 0)))), (q_4, .inl (ar 0, (8, .inl (fun _ => 0)))), (q_5, .inl (ar 0, (8, .inl (fun _ => 0)))), (q_6, .inl (ar 0, (256, .inl (fun _ => 0))))] H := hP
  have hD : va_D A [(h0, .inr (7, [.ref q_1, .ref q_2, .ref q_3, .ref q_4, .ref q_5, .ref q_6, .int 0, .int 0, .int 0, .int 0, .int 0])), (q_1, .inl (ar 0, (256, .inl (fun _ => 0)))), (q_2, .inl (ar 0, (256, .inl (fun _ => 0)))), (q_3, .inl (ar 0, (256, .inl (fun _ => 0)))), (q_4, .inl (ar 0, (8, .inl (fun _ => 0)))), (q_5, .inl (ar 0, (8, .inl (fun _ => 0)))), (q_6, .inl (ar 0, (256, .inl (fun _ => 0))))] := hD
  refine W.widen (k := 6) (n := 1040) (Nat.le_of_ble_eq_true rfl) (Nat.le_of_ble_eq_true rfl) ?_
  exact hQ (fun a b : Nat => cond (Nat.beq a 8) (cond (Nat.beq b 0) h0 (cond (Nat.beq b 1) q_1 (cond (Nat.beq b 2) q_2 (cond (Nat.beq b 3) q_3 (cond (Nat.beq b 4) q_4 (cond (Nat.beq b 5) q_5 (cond (Nat.beq b 6) q_6 0))))))) 0) H locs _ ls rfl d_Bins_init_81 (hP.sub [0, 1, 2, 3, 4, 5, 6] rfl) (hD.sub [0, 1, 2, 3, 4, 5, 6] (by decide) rfl) hS
