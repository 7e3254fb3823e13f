theorem d_Scanner_init_0 : decode b_Scanner_init 0 = .ok (.aload_n 0, 1) := by decide +kernel
theorem d_Scanner_init_1 : decode b_Scanner_init 1 = .ok (.invokespecial 3, 3) := by decide +kernel
theorem d_Scanner_init_4 : decode b_Scanner_init 4 = .ok (.aload_n 0, 1) := by decide +kernel
theorem d_Scanner_init_5 : decode b_Scanner_init 5 = .ok (.iconst 0, 1) := by decide +kernel
theorem d_Scanner_init_6 : decode b_Scanner_init 6 = .ok (.newarray .byte, 2) := by decide +kernel
theorem d_Scanner_init_8 : decode b_Scanner_init 8 = .ok (.putfield 9, 3) := by decide +kernel
theorem d_Scanner_init_11 : decode b_Scanner_init 11 = .ok (.aload_n 0, 1) := by decide +kernel
theorem d_Scanner_init_12 : decode b_Scanner_init 12 = .ok (.iconst 0, 1) := by decide +kernel
theorem d_Scanner_init_13 : decode b_Scanner_init 13 = .ok (.putfield 15, 3) := by decide +kernel
theorem d_Scanner_init_16 : decode b_Scanner_init 16 = .ok (.aload_n 0, 1) := by decide +kernel
theorem d_Scanner_init_17 : decode b_Scanner_init 17 = .ok (.iconst 0, 1) := by decide +kernel
theorem d_Scanner_init_18 : decode b_Scanner_init 18 = .ok (.putfield 19, 3) := by decide +kernel
theorem d_Scanner_init_21 : decode b_Scanner_init 21 = .ok (.aload_n 0, 1) := by decide +kernel
theorem d_Scanner_init_22 : decode b_Scanner_init 22 = .ok (.iconst 0, 1) := by decide +kernel
theorem d_Scanner_init_23 : decode b_Scanner_init 23 = .ok (.putfield 22, 3) := by decide +kernel
theorem d_Scanner_init_26 : decode b_Scanner_init 26 = .ok (.aload_n 0, 1) := by decide +kernel
theorem d_Scanner_init_27 : decode b_Scanner_init 27 = .ok (.iconst 0, 1) := by decide +kernel
theorem d_Scanner_init_28 : decode b_Scanner_init 28 = .ok (.putfield 25, 3) := by decide +kernel
theorem d_Scanner_init_31 : decode b_Scanner_init 31 = .ok (.aload_n 0, 1) := by decide +kernel
theorem d_Scanner_init_32 : decode b_Scanner_init 32 = .ok (.iconst 0, 1) := by decide +kernel
theorem d_Scanner_init_33 : decode b_Scanner_init 33 = .ok (.putfield 28, 3) := by decide +kernel
theorem d_Scanner_init_36 : decode b_Scanner_init 36 = .ok (.aload_n 0, 1) := by decide +kernel
theorem d_Scanner_init_37 : decode b_Scanner_init 37 = .ok (.lconst 0, 1) := by decide +kernel
theorem d_Scanner_init_38 : decode b_Scanner_init 38 = .ok (.putfield 31, 3) := by decide +kernel
theorem d_Scanner_init_41 : decode b_Scanner_init 41 = .ok (.return_, 1) := by decide +kernel
set_option maxHeartbeats 8000000 in
set_option maxRecDepth 100000 in
theorem ct_Scanner_2 (l : Launch) : MC l y_Scanner_init b_Scanner_init 1 1 20 1 0 2 2 [.null, .int 0, .int 0, .int 0, .int 0, .int 0, .long 0] sg_2 cS0 cS0 := by
  refine MC_of "LawfulLots$Scanner" rfl (by decide) (Nat.le_of_ble_eq_true rfl) ?_
  intro p e s m args below meth c D ar h0 A Q ls F hin hK hA hP hD hS hl hQ
  refine lv_aload_n F.1 F.2.1 d_Scanner_init_0 rfl (lv_at hl 0 rfl) ?_
  refine W.objInit F.1 F.2.1 F.2.2.2.1 (F.2.2.2.2 _ lk_33) (F.2.2.2.2 _ lk_20) (F.2.2.2.2 _ lk_21) rfl (by rw [F.2.2.1]; exact hl.1) rfl d_Scanner_init_1 (Nat.le_of_ble_eq_true rfl) (Nat.le_of_ble_eq_true rfl) ?_
  refine W.eq (g2 := F0 m 4 ls []) rfl ?_
  refine lv_aload_n F.1 F.2.1 d_Scanner_init_4 rfl (lv_at hl 0 rfl) ?_
  refine lv_iconst (v := 0) F.1 F.2.1 d_Scanner_init_5 (by decide) ?_
  refine mk_arr (atype := .byte) (ty := .byte) (t := 2) (n := 0) (v := 0) (a0 := (0, .inl (fun _ => 0))) F hA hK hP hD hS lk_60 rfl rfl (fun _ h1 h2 => ra_b h1 h2) (fun _ => rfl) (by decide) (by decide) (by decide) (Nat.le_of_ble_eq_true rfl) (Nat.le_of_ble_eq_true rfl) d_Scanner_init_6 (fun q_1 H hP hD hS => ?_)
  have hP : va_P D classes [(h0, .inr (2, [.null, .int 0, .int 0, .int 0, .int 0, .int 0, .long 0])), (q_1, .inl (ar 2, (0, .inl (fun _ => 0))))] H := hP
  have hD : va_D A [(h0, .inr (2, [.null, .int 0, .int 0, .int 0, .int 0, .int 0, .long 0])), (q_1, .inl (ar 2, (0, .inl (fun _ => 0))))] := hD
  refine va_put (v := .ref q_1) (ty := (.array .byte)) F.1 F.2.1 F.2.2.2.2 ig_Scanner ty_Scanner tk_Scanner nm_Scanner F.2.2.2.1 hK.1 hP hD hS 0 rfl (rfl : classes[2]? = some (R_Scanner, T_Scanner, 7)) 0 (by decide) (F.2.2.2.2 _ lk_34) (fun _ h => h) rfl (tk_Scanner 0 (by decide)) rfl rfl (Nat.le_of_ble_eq_true rfl) d_Scanner_init_8 (fun H locs hP hD hS => ?_)
  have hP : va_P D classes [(h0, .inr (2, [.ref q_1, .int 0, .int 0, .int 0, .int 0, .int 0, .long 0])), (q_1, .inl (ar 2, (0, .inl (fun _ => 0))))] H := hP
  have hD : va_D A [(h0, .inr (2, [.ref q_1, .int 0, .int 0, .int 0, .int 0, .int 0, .long 0])), (q_1, .inl (ar 2, (0, .inl (fun _ => 0))))] := hD
  refine lv_aload_n F.1 F.2.1 d_Scanner_init_11 rfl (lv_at hl 0 rfl) ?_
  refine lv_iconst (v := 0) F.1 F.2.1 d_Scanner_init_12 (by decide) ?_
  refine va_put (v := .int 0) (ty := .int) F.1 F.2.1 F.2.2.2.2 ig_Scanner ty_Scanner tk_Scanner nm_Scanner F.2.2.2.1 hK.1 hP hD hS 0 rfl (rfl : classes[2]? = some (R_Scanner, T_Scanner, 7)) 1 (by decide) (F.2.2.2.2 _ lk_35) (fun _ h => h) rfl (tk_Scanner 1 (by decide)) rfl rfl (Nat.le_of_ble_eq_true rfl) d_Scanner_init_13 (fun H locs hP hD hS => ?_)
  have hP : va_P D classes [(h0, .inr (2, [.ref q_1, .int 0, .int 0, .int 0, .int 0, .int 0, .long 0])), (q_1, .inl (ar 2, (0, .inl (fun _ => 0))))] H := hP
  have hD : va_D A [(h0, .inr (2, [.ref q_1, .int 0, .int 0, .int 0, .int 0, .int 0, .long 0])), (q_1, .inl (ar 2, (0, .inl (fun _ => 0))))] := hD
  refine lv_aload_n F.1 F.2.1 d_Scanner_init_16 rfl (lv_at hl 0 rfl) ?_
  refine lv_iconst (v := 0) F.1 F.2.1 d_Scanner_init_17 (by decide) ?_
  refine va_put (v := .int 0) (ty := .int) F.1 F.2.1 F.2.2.2.2 ig_Scanner ty_Scanner tk_Scanner nm_Scanner F.2.2.2.1 hK.1 hP hD hS 0 rfl (rfl : classes[2]? = some (R_Scanner, T_Scanner, 7)) 2 (by decide) (F.2.2.2.2 _ lk_36) (fun _ h => h) rfl (tk_Scanner 2 (by decide)) rfl rfl (Nat.le_of_ble_eq_true rfl) d_Scanner_init_18 (fun H locs hP hD hS => ?_)
  have hP : va_P D classes [(h0, .inr (2, [.ref q_1, .int 0, .int 0, .int 0, .int 0, .int 0, .long 0])), (q_1, .inl (ar 2, (0, .inl (fun _ => 0))))] H := hP
  have hD : va_D A [(h0, .inr (2, [.ref q_1, .int 0, .int 0, .int 0, .int 0, .int 0, .long 0])), (q_1, .inl (ar 2, (0, .inl (fun _ => 0))))] := hD
  refine lv_aload_n F.1 F.2.1 d_Scanner_init_21 rfl (lv_at hl 0 rfl) ?_
  refine lv_iconst (v := 0) F.1 F.2.1 d_Scanner_init_22 (by decide) ?_
  refine va_put (v := .int 0) (ty := .int) F.1 F.2.1 F.2.2.2.2 ig_Scanner ty_Scanner tk_Scanner nm_Scanner F.2.2.2.1 hK.1 hP hD hS 0 rfl (rfl : classes[2]? = some (R_Scanner, T_Scanner, 7)) 3 (by decide) (F.2.2.2.2 _ lk_37) (fun _ h => h) rfl (tk_Scanner 3 (by decide)) rfl rfl (Nat.le_of_ble_eq_true rfl) d_Scanner_init_23 (fun H locs hP hD hS => ?_)
  have hP : va_P D classes [(h0, .inr (2, [.ref q_1, .int 0, .int 0, .int 0, .int 0, .int 0, .long 0])), (q_1, .inl (ar 2, (0, .inl (fun _ => 0))))] H := hP
  have hD : va_D A [(h0, .inr (2, [.ref q_1, .int 0, .int 0, .int 0, .int 0, .int 0, .long 0])), (q_1, .inl (ar 2, (0, .inl (fun _ => 0))))] := hD
  refine lv_aload_n F.1 F.2.1 d_Scanner_init_26 rfl (lv_at hl 0 rfl) ?_
  refine lv_iconst (v := 0) F.1 F.2.1 d_Scanner_init_27 (by decide) ?_
  refine va_put (v := .int 0) (ty := .int) F.1 F.2.1 F.2.2.2.2 ig_Scanner ty_Scanner tk_Scanner nm_Scanner F.2.2.2.1 hK.1 hP hD hS 0 rfl (rfl : classes[2]? = some (R_Scanner, T_Scanner, 7)) 4 (by decide) (F.2.2.2.2 _ lk_39) (fun _ h => h) rfl (tk_Scanner 4 (by decide)) rfl rfl (Nat.le_of_ble_eq_true rfl) d_Scanner_init_28 (fun H locs hP hD hS => ?_)
  have hP : va_P D classes [(h0, .inr (2, [.ref q_1, .int 0, .int 0, .int 0, .int 0, .int 0, .long 0])), (q_1, .inl (ar 2, (0, .inl (fun _ => 0))))] H := hP
  have hD : va_D A [(h0, .inr (2, [.ref q_1, .int 0, .int 0, .int 0, .int 0, .int 0, .long 0])), (q_1, .inl (ar 2, (0, .inl (fun _ => 0))))] := hD
  refine lv_aload_n F.1 F.2.1 d_Scanner_init_31 rfl (lv_at hl 0 rfl) ?_
  refine lv_iconst (v := 0) F.1 F.2.1 d_Scanner_init_32 (by decide) ?_
  refine va_put (v := .int 0) (ty := .int) F.1 F.2.1 F.2.2.2.2 ig_Scanner ty_Scanner tk_Scanner nm_Scanner F.2.2.2.1 hK.1 hP hD hS 0 rfl (rfl : classes[2]? = some (R_Scanner, T_Scanner, 7)) 5 (by decide) (F.2.2.2.2 _ lk_41) (fun _ h => h) rfl (tk_Scanner 5 (by decide)) rfl rfl (Nat.le_of_ble_eq_true rfl) d_Scanner_init_33 (fun H locs hP hD hS => ?_)
  have hP : va_P D classes [(h0, .inr (2, [.ref q_1, .int 0, .int 0, .int 0, .int 0, .int 0, .long 0])), (q_1, .inl (ar 2, (0, .inl (fun _ => 0))))] H := hP
  have hD : va_D A [(h0, .inr (2, [.ref q_1, .int 0, .int 0, .int 0, .int 0, .int 0, .long 0])), (q_1, .inl (ar 2, (0, .inl (fun _ => 0))))] := hD
  refine lv_aload_n F.1 F.2.1 d_Scanner_init_36 rfl (lv_at hl 0 rfl) ?_
  refine lv_lconst (v := 0) F.1 F.2.1 d_Scanner_init_37 (by decide) ?_
  refine va_put (v := .long 0) (ty := .long) F.1 F.2.1 F.2.2.2.2 ig_Scanner ty_Scanner tk_Scanner nm_Scanner F.2.2.2.1 hK.1 hP hD hS 0 rfl (rfl : classes[2]? = some (R_Scanner, T_Scanner, 7)) 6 (by decide) (F.2.2.2.2 _ lk_43) (fun _ h => h) rfl (tk_Scanner 6 (by decide)) rfl rfl (Nat.le_of_ble_eq_true rfl) d_Scanner_init_38 (fun H locs hP hD hS => ?_)
  have hP : va_P D classes [(h0, .inr (2, [.ref q_1, .int 0, .int 0, .int 0, .int 0, .int 0, .long 0])), (q_1, .inl (ar 2, (0, .inl (fun _ => 0))))] H := hP
  have hD : va_D A [(h0, .inr (2, [.ref q_1, .int 0, .int 0, .int 0, .int 0, .int 0, .long 0])), (q_1, .inl (ar 2, (0, .inl (fun _ => 0))))] := hD
  refine W.widen (k := 1) (n := 0) (Nat.le_of_ble_eq_true rfl) (Nat.le_of_ble_eq_true rfl) ?_
  exact hQ (fun a b : Nat => cond (Nat.beq a 2) (cond (Nat.beq b 0) h0 (cond (Nat.beq b 1) q_1 0)) 0) H locs _ ls rfl d_Scanner_init_41 (hP.sub [0] rfl) (hD.sub [0] (by decide) rfl) hS
