theorem d_Lots_init_0 : decode b_Lots_init 0 = .ok (.aload_n 0, 1) := by decide +kernel
theorem d_Lots_init_1 : decode b_Lots_init 1 = .ok (.invokespecial 1, 3) := by decide +kernel
theorem d_Lots_init_4 : decode b_Lots_init 4 = .ok (.aload_n 0, 1) := by decide +kernel
theorem d_Lots_init_5 : decode b_Lots_init 5 = .ok (.sipush 2000, 3) := by decide +kernel
theorem d_Lots_init_8 : decode b_Lots_init 8 = .ok (.newarray .byte, 2) := by decide +kernel
theorem d_Lots_init_10 : decode b_Lots_init 10 = .ok (.putfield 9, 3) := by decide +kernel
theorem d_Lots_init_13 : decode b_Lots_init 13 = .ok (.aload_n 0, 1) := by decide +kernel
theorem d_Lots_init_14 : decode b_Lots_init 14 = .ok (.new 13, 3) := by decide +kernel
theorem d_Lots_init_17 : decode b_Lots_init 17 = .ok (.dup, 1) := by decide +kernel
theorem d_Lots_init_18 : decode b_Lots_init 18 = .ok (.invokespecial 15, 3) := by decide +kernel
theorem d_Lots_init_21 : decode b_Lots_init 21 = .ok (.putfield 16, 3) := by decide +kernel
theorem d_Lots_init_24 : decode b_Lots_init 24 = .ok (.aload_n 0, 1) := by decide +kernel
theorem d_Lots_init_25 : decode b_Lots_init 25 = .ok (.new 20, 3) := by decide +kernel
theorem d_Lots_init_28 : decode b_Lots_init 28 = .ok (.dup, 1) := by decide +kernel
theorem d_Lots_init_29 : decode b_Lots_init 29 = .ok (.invokespecial 22, 3) := by decide +kernel
theorem d_Lots_init_32 : decode b_Lots_init 32 = .ok (.putfield 23, 3) := by decide +kernel
theorem d_Lots_init_35 : decode b_Lots_init 35 = .ok (.aload_n 0, 1) := by decide +kernel
theorem d_Lots_init_36 : decode b_Lots_init 36 = .ok (.new 27, 3) := by decide +kernel
theorem d_Lots_init_39 : decode b_Lots_init 39 = .ok (.dup, 1) := by decide +kernel
theorem d_Lots_init_40 : decode b_Lots_init 40 = .ok (.invokespecial 29, 3) := by decide +kernel
theorem d_Lots_init_43 : decode b_Lots_init 43 = .ok (.putfield 30, 3) := by decide +kernel
theorem d_Lots_init_46 : decode b_Lots_init 46 = .ok (.aload_n 0, 1) := by decide +kernel
theorem d_Lots_init_47 : decode b_Lots_init 47 = .ok (.new 34, 3) := by decide +kernel
theorem d_Lots_init_50 : decode b_Lots_init 50 = .ok (.dup, 1) := by decide +kernel
theorem d_Lots_init_51 : decode b_Lots_init 51 = .ok (.invokespecial 36, 3) := by decide +kernel
theorem d_Lots_init_54 : decode b_Lots_init 54 = .ok (.putfield 37, 3) := by decide +kernel
theorem d_Lots_init_57 : decode b_Lots_init 57 = .ok (.aload_n 0, 1) := by decide +kernel
theorem d_Lots_init_58 : decode b_Lots_init 58 = .ok (.new 41, 3) := by decide +kernel
theorem d_Lots_init_61 : decode b_Lots_init 61 = .ok (.dup, 1) := by decide +kernel
theorem d_Lots_init_62 : decode b_Lots_init 62 = .ok (.invokespecial 43, 3) := by decide +kernel
theorem d_Lots_init_65 : decode b_Lots_init 65 = .ok (.putfield 44, 3) := by decide +kernel
theorem d_Lots_init_68 : decode b_Lots_init 68 = .ok (.aload_n 0, 1) := by decide +kernel
theorem d_Lots_init_69 : decode b_Lots_init 69 = .ok (.iconst 0, 1) := by decide +kernel
theorem d_Lots_init_70 : decode b_Lots_init 70 = .ok (.putfield 48, 3) := by decide +kernel
theorem d_Lots_init_73 : decode b_Lots_init 73 = .ok (.aload_n 0, 1) := by decide +kernel
theorem d_Lots_init_74 : decode b_Lots_init 74 = .ok (.iconst (-1), 1) := by decide +kernel
theorem d_Lots_init_75 : decode b_Lots_init 75 = .ok (.putfield 52, 3) := by decide +kernel
theorem d_Lots_init_78 : decode b_Lots_init 78 = .ok (.return_, 1) := by decide +kernel
set_option maxHeartbeats 8000000 in
set_option maxRecDepth 100000 in
theorem ct_Lots_0 (l : Launch) : MC l y_Lots_init b_Lots_init 1 3 60 53 6454 0 0 [.null, .null, .null, .null, .null, .null, .int 0, .int 0] cw cS0 cS0 := by
  refine MC_of "LawfulLots" rfl (by decide) (Nat.le_of_ble_eq_true rfl) ?_
  intro p e s m args below meth c D ar h0 A Q ls F hin hK hA hP hD hS hl hQ
  refine lv_aload_n F.1 F.2.1 d_Lots_init_0 rfl (lv_at hl 0 rfl) ?_
  refine W.objInit F.1 F.2.1 F.2.2.2.1 (F.2.2.2.2 _ lk_19) (F.2.2.2.2 _ lk_20) (F.2.2.2.2 _ lk_21) rfl (by rw [F.2.2.1]; exact hl.1) rfl d_Lots_init_1 (Nat.le_of_ble_eq_true rfl) (Nat.le_of_ble_eq_true rfl) ?_
  refine W.eq (g2 := F0 m 4 ls []) rfl ?_
  refine lv_aload_n F.1 F.2.1 d_Lots_init_4 rfl (lv_at hl 0 rfl) ?_
  refine lv_sipush (v := 2000) F.1 F.2.1 d_Lots_init_5 (by decide) ?_
  refine mk_arr (atype := .byte) (ty := .byte) (t := 2) (n := 2000) (v := 2000) (a0 := (2000, .inl (fun _ => 0))) F hA hK hP hD hS lk_60 rfl rfl (fun _ h1 h2 => ra_b h1 h2) (fun _ => rfl) (by decide) (by decide) (by decide) (Nat.le_of_ble_eq_true rfl) (Nat.le_of_ble_eq_true rfl) d_Lots_init_8 (fun q_1 H hP hD hS => ?_)
  have hP : va_P D classes [(h0, .inr (0, [.null, .null, .null, .null, .null, .null, .int 0, .int 0])), (q_1, .inl (ar 2, (2000, .inl (fun _ => 0))))] H := hP
  have hD : va_D A [(h0, .inr (0, [.null, .null, .null, .null, .null, .null, .int 0, .int 0])), (q_1, .inl (ar 2, (2000, .inl (fun _ => 0))))] := hD
  refine va_putF (v := .ref q_1) (ty := (.array .byte)) F.1 F.2.1 F.2.2.2.2 ig_Lots ty_Lots tk_Lots nm_Lots F.2.2.2.1 hK.1 hP hD hS 0 rfl (rfl : classes[0]? = some (R_Lots, T_Lots, 8)) 0 (by decide) (F.2.2.2.2 _ lk_340) (fun _ h => h) rfl hin rfl (tk_Lots 0 (by decide)) rfl rfl (Nat.le_of_ble_eq_true rfl) d_Lots_init_10 (fun H locs hP hD hS => ?_)
  have hP : va_P D classes [(h0, .inr (0, [.ref q_1, .null, .null, .null, .null, .null, .int 0, .int 0])), (q_1, .inl (ar 2, (2000, .inl (fun _ => 0))))] H := hP
  have hD : va_D A [(h0, .inr (0, [.ref q_1, .null, .null, .null, .null, .null, .int 0, .int 0])), (q_1, .inl (ar 2, (2000, .inl (fun _ => 0))))] := hD
  refine lv_aload_n F.1 F.2.1 d_Lots_init_13 rfl (lv_at hl 0 rfl) ?_
  refine mk_obj (C := R_Reader) (T := T_Reader) (N := 17) (ci := 1) (o := 1) F hA hK hP hD hS ty_Reader ig_Reader tk_Reader lk_22 lk_23 lk_2 rfl (fs := [.null, .null, .null, .int 0, .int 0, .int 0, .int 0, .int 0, .int 0, .int 0, .int 0, .int 0, .int 0, .int 0, .long 0, .int 0, .int 0]) (by decide +kernel) (ct_Reader_1 l) lk_26 rfl (Or.inr ⟨_, lk_24⟩) lk_25 rfl (by decide +kernel) ⟨Nat.le_of_ble_eq_true rfl, Nat.le_of_ble_eq_true rfl⟩ hl.1 (Nat.le_of_ble_eq_true rfl) d_Lots_init_14 d_Lots_init_17 d_Lots_init_18 (Nat.le_of_ble_eq_true rfl) (Nat.le_of_ble_eq_true rfl) (fun u_2 H locs hP hD hS => ?_)
  refine va_putF (v := .ref (u_2 1 0)) (ty := (.object "LawfulLots$Reader")) F.1 F.2.1 F.2.2.2.2 ig_Lots ty_Lots tk_Lots nm_Lots F.2.2.2.1 hK.1 hP hD hS 0 rfl (rfl : classes[0]? = some (R_Lots, T_Lots, 8)) 1 (by decide) (F.2.2.2.2 _ lk_341) (fun _ h => h) rfl hin rfl (tk_Lots 1 (by decide)) rfl rfl (Nat.le_of_ble_eq_true rfl) d_Lots_init_21 (fun H locs hP hD hS => ?_)
  have hP : va_P D classes (([(h0, .inr (0, [.ref q_1, .ref (u_2 1 0), .null, .null, .null, .null, .int 0, .int 0]))] ++ [(q_1, .inl (ar 2, (2000, .inl (fun _ => 0))))]) ++ sg_1 ar u_2 cS0) H := hP
  have hD : va_D A (([(h0, .inr (0, [.ref q_1, .ref (u_2 1 0), .null, .null, .null, .null, .int 0, .int 0]))] ++ [(q_1, .inl (ar 2, (2000, .inl (fun _ => 0))))]) ++ sg_1 ar u_2 cS0) := hD
  refine lv_aload_n F.1 F.2.1 d_Lots_init_24 rfl (lv_at hl 0 rfl) ?_
  refine mk_obj (C := R_Chart) (T := T_Chart) (N := 18) (ci := 4) (o := 4) F hA hK hP hD hS ty_Chart ig_Chart tk_Chart lk_173 lk_174 lk_5 rfl (fs := [.null, .null, .null, .null, .null, .null, .null, .null, .null, .int 0, .int 0, .int 0, .int 0, .int 0, .int 0, .int 0, .int 0, .int 0]) (by decide +kernel) (ct_Chart_4 l) lk_177 rfl (Or.inr ⟨_, lk_175⟩) lk_176 rfl (by decide +kernel) ⟨Nat.le_of_ble_eq_true rfl, Nat.le_of_ble_eq_true rfl⟩ hl.1 (Nat.le_of_ble_eq_true rfl) d_Lots_init_25 d_Lots_init_28 d_Lots_init_29 (Nat.le_of_ble_eq_true rfl) (Nat.le_of_ble_eq_true rfl) (fun u_3 H locs hP hD hS => ?_)
  refine va_putF (v := .ref (u_3 4 0)) (ty := (.object "LawfulLots$Chart")) F.1 F.2.1 F.2.2.2.2 ig_Lots ty_Lots tk_Lots nm_Lots F.2.2.2.1 hK.1 hP hD hS 0 rfl (rfl : classes[0]? = some (R_Lots, T_Lots, 8)) 2 (by decide) (F.2.2.2.2 _ lk_342) (fun _ h => h) rfl hin rfl (tk_Lots 2 (by decide)) rfl rfl (Nat.le_of_ble_eq_true rfl) d_Lots_init_32 (fun H locs hP hD hS => ?_)
  have hP : va_P D classes ((([(h0, .inr (0, [.ref q_1, .ref (u_2 1 0), .ref (u_3 4 0), .null, .null, .null, .int 0, .int 0]))] ++ [(q_1, .inl (ar 2, (2000, .inl (fun _ => 0))))]) ++ sg_1 ar u_2 cS0) ++ sg_4 ar u_3 cS0) H := hP
  have hD : va_D A ((([(h0, .inr (0, [.ref q_1, .ref (u_2 1 0), .ref (u_3 4 0), .null, .null, .null, .int 0, .int 0]))] ++ [(q_1, .inl (ar 2, (2000, .inl (fun _ => 0))))]) ++ sg_1 ar u_2 cS0) ++ sg_4 ar u_3 cS0) := hD
  refine lv_aload_n F.1 F.2.1 d_Lots_init_35 rfl (lv_at hl 0 rfl) ?_
  refine mk_obj (C := R_Log) (T := T_Log) (N := 2) (ci := 6) (o := 7) F hA hK hP hD hS ty_Log ig_Log tk_Log lk_254 lk_255 lk_7 rfl (fs := [.null, .int 0]) (by decide +kernel) (ct_Log_7 l) lk_258 rfl (Or.inr ⟨_, lk_256⟩) lk_257 rfl (by decide +kernel) ⟨Nat.le_of_ble_eq_true rfl, Nat.le_of_ble_eq_true rfl⟩ hl.1 (Nat.le_of_ble_eq_true rfl) d_Lots_init_36 d_Lots_init_39 d_Lots_init_40 (Nat.le_of_ble_eq_true rfl) (Nat.le_of_ble_eq_true rfl) (fun u_4 H locs hP hD hS => ?_)
  refine va_putF (v := .ref (u_4 7 0)) (ty := (.object "LawfulLots$Log")) F.1 F.2.1 F.2.2.2.2 ig_Lots ty_Lots tk_Lots nm_Lots F.2.2.2.1 hK.1 hP hD hS 0 rfl (rfl : classes[0]? = some (R_Lots, T_Lots, 8)) 3 (by decide) (F.2.2.2.2 _ lk_343) (fun _ h => h) rfl hin rfl (tk_Lots 3 (by decide)) rfl rfl (Nat.le_of_ble_eq_true rfl) d_Lots_init_43 (fun H locs hP hD hS => ?_)
  have hP : va_P D classes (((([(h0, .inr (0, [.ref q_1, .ref (u_2 1 0), .ref (u_3 4 0), .ref (u_4 7 0), .null, .null, .int 0, .int 0]))] ++ [(q_1, .inl (ar 2, (2000, .inl (fun _ => 0))))]) ++ sg_1 ar u_2 cS0) ++ sg_4 ar u_3 cS0) ++ sg_7 ar u_4 cS0) H := hP
  have hD : va_D A (((([(h0, .inr (0, [.ref q_1, .ref (u_2 1 0), .ref (u_3 4 0), .ref (u_4 7 0), .null, .null, .int 0, .int 0]))] ++ [(q_1, .inl (ar 2, (2000, .inl (fun _ => 0))))]) ++ sg_1 ar u_2 cS0) ++ sg_4 ar u_3 cS0) ++ sg_7 ar u_4 cS0) := hD
  refine lv_aload_n F.1 F.2.1 d_Lots_init_46 rfl (lv_at hl 0 rfl) ?_
  refine mk_obj (C := R_Bins) (T := T_Bins) (N := 11) (ci := 7) (o := 8) F hA hK hP hD hS ty_Bins ig_Bins tk_Bins lk_268 lk_269 lk_8 rfl (fs := [.null, .null, .null, .null, .null, .null, .int 0, .int 0, .int 0, .int 0, .int 0]) (by decide +kernel) (ct_Bins_8 l) lk_272 rfl (Or.inr ⟨_, lk_270⟩) lk_271 rfl (by decide +kernel) ⟨Nat.le_of_ble_eq_true rfl, Nat.le_of_ble_eq_true rfl⟩ hl.1 (Nat.le_of_ble_eq_true rfl) d_Lots_init_47 d_Lots_init_50 d_Lots_init_51 (Nat.le_of_ble_eq_true rfl) (Nat.le_of_ble_eq_true rfl) (fun u_5 H locs hP hD hS => ?_)
  refine va_putF (v := .ref (u_5 8 0)) (ty := (.object "LawfulLots$BinTable")) F.1 F.2.1 F.2.2.2.2 ig_Lots ty_Lots tk_Lots nm_Lots F.2.2.2.1 hK.1 hP hD hS 0 rfl (rfl : classes[0]? = some (R_Lots, T_Lots, 8)) 4 (by decide) (F.2.2.2.2 _ lk_344) (fun _ h => h) rfl hin rfl (tk_Lots 4 (by decide)) rfl rfl (Nat.le_of_ble_eq_true rfl) d_Lots_init_54 (fun H locs hP hD hS => ?_)
  have hP : va_P D classes ((((([(h0, .inr (0, [.ref q_1, .ref (u_2 1 0), .ref (u_3 4 0), .ref (u_4 7 0), .ref (u_5 8 0), .null, .int 0, .int 0]))] ++ [(q_1, .inl (ar 2, (2000, .inl (fun _ => 0))))]) ++ sg_1 ar u_2 cS0) ++ sg_4 ar u_3 cS0) ++ sg_7 ar u_4 cS0) ++ sg_8 ar u_5 cS0) H := hP
  have hD : va_D A ((((([(h0, .inr (0, [.ref q_1, .ref (u_2 1 0), .ref (u_3 4 0), .ref (u_4 7 0), .ref (u_5 8 0), .null, .int 0, .int 0]))] ++ [(q_1, .inl (ar 2, (2000, .inl (fun _ => 0))))]) ++ sg_1 ar u_2 cS0) ++ sg_4 ar u_3 cS0) ++ sg_7 ar u_4 cS0) ++ sg_8 ar u_5 cS0) := hD
  refine lv_aload_n F.1 F.2.1 d_Lots_init_57 rfl (lv_at hl 0 rfl) ?_
  refine mk_obj (C := R_Chains) (T := T_Chains) (N := 7) (ci := 8) (o := 9) F hA hK hP hD hS ty_Chains ig_Chains tk_Chains lk_309 lk_310 lk_9 rfl (fs := [.null, .null, .null, .null, .null, .int 0, .int 0]) (by decide +kernel) (ct_Chains_9 l) lk_313 rfl (Or.inr ⟨_, lk_311⟩) lk_312 rfl (by decide +kernel) ⟨Nat.le_of_ble_eq_true rfl, Nat.le_of_ble_eq_true rfl⟩ hl.1 (Nat.le_of_ble_eq_true rfl) d_Lots_init_58 d_Lots_init_61 d_Lots_init_62 (Nat.le_of_ble_eq_true rfl) (Nat.le_of_ble_eq_true rfl) (fun u_6 H locs hP hD hS => ?_)
  refine va_putF (v := .ref (u_6 9 0)) (ty := (.object "LawfulLots$Chains")) F.1 F.2.1 F.2.2.2.2 ig_Lots ty_Lots tk_Lots nm_Lots F.2.2.2.1 hK.1 hP hD hS 0 rfl (rfl : classes[0]? = some (R_Lots, T_Lots, 8)) 5 (by decide) (F.2.2.2.2 _ lk_345) (fun _ h => h) rfl hin rfl (tk_Lots 5 (by decide)) rfl rfl (Nat.le_of_ble_eq_true rfl) d_Lots_init_65 (fun H locs hP hD hS => ?_)
  have hP : va_P D classes (((((([(h0, .inr (0, [.ref q_1, .ref (u_2 1 0), .ref (u_3 4 0), .ref (u_4 7 0), .ref (u_5 8 0), .ref (u_6 9 0), .int 0, .int 0]))] ++ [(q_1, .inl (ar 2, (2000, .inl (fun _ => 0))))]) ++ sg_1 ar u_2 cS0) ++ sg_4 ar u_3 cS0) ++ sg_7 ar u_4 cS0) ++ sg_8 ar u_5 cS0) ++ sg_9 ar u_6 cS0) H := hP
  have hD : va_D A (((((([(h0, .inr (0, [.ref q_1, .ref (u_2 1 0), .ref (u_3 4 0), .ref (u_4 7 0), .ref (u_5 8 0), .ref (u_6 9 0), .int 0, .int 0]))] ++ [(q_1, .inl (ar 2, (2000, .inl (fun _ => 0))))]) ++ sg_1 ar u_2 cS0) ++ sg_4 ar u_3 cS0) ++ sg_7 ar u_4 cS0) ++ sg_8 ar u_5 cS0) ++ sg_9 ar u_6 cS0) := hD
  refine lv_aload_n F.1 F.2.1 d_Lots_init_68 rfl (lv_at hl 0 rfl) ?_
  refine lv_iconst (v := 0) F.1 F.2.1 d_Lots_init_69 (by decide) ?_
  refine va_put (v := .int 0) (ty := .int) F.1 F.2.1 F.2.2.2.2 ig_Lots ty_Lots tk_Lots nm_Lots F.2.2.2.1 hK.1 hP hD hS 0 rfl (rfl : classes[0]? = some (R_Lots, T_Lots, 8)) 6 (by decide) (F.2.2.2.2 _ lk_346) (fun _ h => h) rfl (tk_Lots 6 (by decide)) rfl rfl (Nat.le_of_ble_eq_true rfl) d_Lots_init_70 (fun H locs hP hD hS => ?_)
  have hP : va_P D classes (((((([(h0, .inr (0, [.ref q_1, .ref (u_2 1 0), .ref (u_3 4 0), .ref (u_4 7 0), .ref (u_5 8 0), .ref (u_6 9 0), .int 0, .int 0]))] ++ [(q_1, .inl (ar 2, (2000, .inl (fun _ => 0))))]) ++ sg_1 ar u_2 cS0) ++ sg_4 ar u_3 cS0) ++ sg_7 ar u_4 cS0) ++ sg_8 ar u_5 cS0) ++ sg_9 ar u_6 cS0) H := hP
  have hD : va_D A (((((([(h0, .inr (0, [.ref q_1, .ref (u_2 1 0), .ref (u_3 4 0), .ref (u_4 7 0), .ref (u_5 8 0), .ref (u_6 9 0), .int 0, .int 0]))] ++ [(q_1, .inl (ar 2, (2000, .inl (fun _ => 0))))]) ++ sg_1 ar u_2 cS0) ++ sg_4 ar u_3 cS0) ++ sg_7 ar u_4 cS0) ++ sg_8 ar u_5 cS0) ++ sg_9 ar u_6 cS0) := hD
  refine lv_aload_n F.1 F.2.1 d_Lots_init_73 rfl (lv_at hl 0 rfl) ?_
  refine lv_iconst (v := -1) F.1 F.2.1 d_Lots_init_74 (by decide) ?_
  refine va_put (v := .int (-1)) (ty := .int) F.1 F.2.1 F.2.2.2.2 ig_Lots ty_Lots tk_Lots nm_Lots F.2.2.2.1 hK.1 hP hD hS 0 rfl (rfl : classes[0]? = some (R_Lots, T_Lots, 8)) 7 (by decide) (F.2.2.2.2 _ lk_347) (fun _ h => h) rfl (tk_Lots 7 (by decide)) rfl rfl (Nat.le_of_ble_eq_true rfl) d_Lots_init_75 (fun H locs hP hD hS => ?_)
  have hP : va_P D classes (((((([(h0, .inr (0, [.ref q_1, .ref (u_2 1 0), .ref (u_3 4 0), .ref (u_4 7 0), .ref (u_5 8 0), .ref (u_6 9 0), .int 0, .int (-1)]))] ++ [(q_1, .inl (ar 2, (2000, .inl (fun _ => 0))))]) ++ sg_1 ar u_2 cS0) ++ sg_4 ar u_3 cS0) ++ sg_7 ar u_4 cS0) ++ sg_8 ar u_5 cS0) ++ sg_9 ar u_6 cS0) H := hP
  have hD : va_D A (((((([(h0, .inr (0, [.ref q_1, .ref (u_2 1 0), .ref (u_3 4 0), .ref (u_4 7 0), .ref (u_5 8 0), .ref (u_6 9 0), .int 0, .int (-1)]))] ++ [(q_1, .inl (ar 2, (2000, .inl (fun _ => 0))))]) ++ sg_1 ar u_2 cS0) ++ sg_4 ar u_3 cS0) ++ sg_7 ar u_4 cS0) ++ sg_8 ar u_5 cS0) ++ sg_9 ar u_6 cS0) := hD
  refine W.widen (k := 53) (n := 6454) (Nat.le_of_ble_eq_true rfl) (Nat.le_of_ble_eq_true rfl) ?_
  exact hQ (fun a b : Nat => cond (Nat.beq a 0) (cond (Nat.beq b 0) h0 (cond (Nat.beq b 1) q_1 0)) (cond (Nat.beq a 1) (u_2 a b) (cond (Nat.beq a 2) (u_2 a b) (cond (Nat.beq a 3) (u_2 a b) (cond (Nat.beq a 4) (u_3 a b) (cond (Nat.beq a 5) (u_3 a b) (cond (Nat.beq a 6) (u_3 a b) (cond (Nat.beq a 7) (u_4 a b) (cond (Nat.beq a 8) (u_5 a b) (cond (Nat.beq a 9) (u_6 a b) (cond (Nat.beq a 10) (u_6 a b) 0))))))))))) H locs _ ls rfl d_Lots_init_78 (hP.sub [0, 1, 2, 3, 4, 5, 6, 7, 8, 9, 10, 11, 12, 13, 14, 15, 16, 17, 18, 19, 20, 21, 22, 23, 24, 25, 26, 27, 28, 29, 30, 31, 32, 33, 34, 35, 36, 37, 38, 39, 40, 41, 42, 43, 44, 45, 46, 47, 48, 49, 50, 51, 52] rfl) (hD.sub [0, 1, 2, 3, 4, 5, 6, 7, 8, 9, 10, 11, 12, 13, 14, 15, 16, 17, 18, 19, 20, 21, 22, 23, 24, 25, 26, 27, 28, 29, 30, 31, 32, 33, 34, 35, 36, 37, 38, 39, 40, 41, 42, 43, 44, 45, 46, 47, 48, 49, 50, 51, 52] (by decide) rfl) hS
