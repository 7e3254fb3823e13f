theorem d_Log_init_0 : decode b_Log_init 0 = .ok (.aload_n 0, 1) := by decide +kernel
theorem d_Log_init_1 : decode b_Log_init 1 = .ok (.invokespecial 3, 3) := by decide +kernel
theorem d_Log_init_4 : decode b_Log_init 4 = .ok (.aload_n 0, 1) := by decide +kernel
theorem d_Log_init_5 : decode b_Log_init 5 = .ok (.sipush 200, 3) := by decide +kernel
theorem d_Log_init_8 : decode b_Log_init 8 = .ok (.newarray .int, 2) := by decide +kernel
theorem d_Log_init_10 : decode b_Log_init 10 = .ok (.putfield 9, 3) := by decide +kernel
theorem d_Log_init_13 : decode b_Log_init 13 = .ok (.aload_n 0, 1) := by decide +kernel
theorem d_Log_init_14 : decode b_Log_init 14 = .ok (.iconst 0, 1) := by decide +kernel
theorem d_Log_init_15 : decode b_Log_init 15 = .ok (.putfield 15, 3) := by decide +kernel
theorem d_Log_init_18 : decode b_Log_init 18 = .ok (.return_, 1) := by decide +kernel
set_option maxHeartbeats 8000000 in
set_option maxRecDepth 100000 in
theorem ct_Log_7 (l : Launch) : MC l y_Log_init b_Log_init 1 1 20 1 200 6 7 [.null, .int 0] sg_7 cS0 cS0 := by
  refine MC_of "LawfulLots$Log" rfl (by decide) (Nat.le_of_ble_eq_true rfl) ?_
  intro p e s m args below meth c D ar h0 A Q ls F hin hK hA hP hD hS hl hQ
  refine lv_aload_n F.1 F.2.1 d_Log_init_0 rfl (lv_at hl 0 rfl) ?_
  refine W.objInit F.1 F.2.1 F.2.2.2.1 (F.2.2.2.2 _ lk_259) (F.2.2.2.2 _ lk_20) (F.2.2.2.2 _ lk_21) rfl (by rw [F.2.2.1]; exact hl.1) rfl d_Log_init_1 (Nat.le_of_ble_eq_true rfl) (Nat.le_of_ble_eq_true rfl) ?_
  refine W.eq (g2 := F0 m 4 ls []) rfl ?_
  refine lv_aload_n F.1 F.2.1 d_Log_init_4 rfl (lv_at hl 0 rfl) ?_
  refine lv_sipush (v := 200) F.1 F.2.1 d_Log_init_5 (by decide) ?_
  refine mk_arr (atype := .int) (ty := .int) (t := 0) (n := 200) (v := 200) (a0 := (200, .inl (fun _ => 0))) F hA hK hP hD hS lk_117 rfl rfl (fun _ h1 h2 => ra_i h1 h2) (fun _ => rfl) (by decide) (by decide) (by decide) (Nat.le_of_ble_eq_true rfl) (Nat.le_of_ble_eq_true rfl) d_Log_init_8 (fun q_1 H hP hD hS => ?_)
  have hP : va_P D classes [(h0, .inr (6, [.null, .int 0])), (q_1, .inl (ar 0, (200, .inl (fun _ => 0))))] H := hP
  have hD : va_D A [(h0, .inr (6, [.null, .int 0])), (q_1, .inl (ar 0, (200, .inl (fun _ => 0))))] := hD
  refine va_putF (v := .ref q_1) (ty := (.array .int)) F.1 F.2.1 F.2.2.2.2 ig_Log ty_Log tk_Log nm_Log F.2.2.2.1 hK.1 hP hD hS 0 rfl (rfl : classes[6]? = some (R_Log, T_Log, 2)) 0 (by decide) (F.2.2.2.2 _ lk_260) (fun _ h => h) rfl hin rfl (tk_Log 0 (by decide)) rfl rfl (Nat.le_of_ble_eq_true rfl) d_Log_init_10 (fun H locs hP hD hS => ?_)
  have hP : va_P D classes [(h0, .inr (6, [.ref q_1, .int 0])), (q_1, .inl (ar 0, (200, .inl (fun _ => 0))))] H := hP
  have hD : va_D A [(h0, .inr (6, [.ref q_1, .int 0])), (q_1, .inl (ar 0, (200, .inl (fun _ => 0))))] := hD
  refine lv_aload_n F.1 F.2.1 d_Log_init_13 rfl (lv_at hl 0 rfl) ?_
  refine lv_iconst (v := 0) F.1 F.2.1 d_Log_init_14 (by decide) ?_
  refine va_put (v := .int 0) (ty := .int) F.1 F.2.1 F.2.2.2.2 ig_Log ty_Log tk_Log nm_Log F.2.2.2.1 hK.1 hP hD hS 0 rfl (rfl : classes[6]? = some (R_Log, T_Log, 2)) 1 (by decide) (F.2.2.2.2 _ lk_261) (fun _ h => h) rfl (tk_Log 1 (by decide)) rfl rfl (Nat.le_of_ble_eq_true rfl) d_Log_init_15 (fun H locs hP hD hS => ?_)
  have hP : va_P D classes [(h0, .inr (6, [.ref q_1, .int 0])), (q_1, .inl (ar 0, (200, .inl (fun _ => 0))))] H := hP
  have hD : va_D A [(h0, .inr (6, [.ref q_1, .int 0])), (q_1, .inl (ar 0, (200, .inl (fun _ => 0))))] := hD
  refine W.widen (k := 1) (n := 200) (Nat.le_of_ble_eq_true rfl) (Nat.le_of_ble_eq_true rfl) ?_
  exact hQ (fun a b : Nat => cond (Nat.beq a 7) (cond (Nat.beq b 0) h0 (cond (Nat.beq b 1) q_1 0)) 0) H locs _ ls rfl d_Log_init_18 (hP.sub [0, 1] rfl) (hD.sub [0, 1] (by decide) rfl) hS
