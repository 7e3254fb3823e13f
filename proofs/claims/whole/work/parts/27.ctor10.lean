theorem d_Chains_init_0 : decode b_Chains_init 0 = .ok (.aload_n 0, 1) := by decide +kernel
theorem d_Chains_init_1 : decode b_Chains_init 1 = .ok (.invokespecial 3, 3) := by decide +kernel
theorem d_Chains_init_4 : decode b_Chains_init 4 = .ok (.aload_n 0, 1) := by decide +kernel
theorem d_Chains_init_5 : decode b_Chains_init 5 = .ok (.new 9, 3) := by decide +kernel
theorem d_Chains_init_8 : decode b_Chains_init 8 = .ok (.dup, 1) := by decide +kernel
theorem d_Chains_init_9 : decode b_Chains_init 9 = .ok (.invokespecial 11, 3) := by decide +kernel
theorem d_Chains_init_12 : decode b_Chains_init 12 = .ok (.putfield 12, 3) := by decide +kernel
theorem d_Chains_init_15 : decode b_Chains_init 15 = .ok (.aload_n 0, 1) := by decide +kernel
theorem d_Chains_init_16 : decode b_Chains_init 16 = .ok (.bipush 8, 2) := by decide +kernel
theorem d_Chains_init_18 : decode b_Chains_init 18 = .ok (.newarray .int, 2) := by decide +kernel
theorem d_Chains_init_20 : decode b_Chains_init 20 = .ok (.putfield 18, 3) := by decide +kernel
theorem d_Chains_init_23 : decode b_Chains_init 23 = .ok (.aload_n 0, 1) := by decide +kernel
theorem d_Chains_init_24 : decode b_Chains_init 24 = .ok (.bipush 8, 2) := by decide +kernel
theorem d_Chains_init_26 : decode b_Chains_init 26 = .ok (.newarray .int, 2) := by decide +kernel
theorem d_Chains_init_28 : decode b_Chains_init 28 = .ok (.putfield 22, 3) := by decide +kernel
theorem d_Chains_init_31 : decode b_Chains_init 31 = .ok (.aload_n 0, 1) := by decide +kernel
theorem d_Chains_init_32 : decode b_Chains_init 32 = .ok (.bipush 64, 2) := by decide +kernel
theorem d_Chains_init_34 : decode b_Chains_init 34 = .ok (.newarray .long, 2) := by decide +kernel
theorem d_Chains_init_36 : decode b_Chains_init 36 = .ok (.putfield 25, 3) := by decide +kernel
theorem d_Chains_init_39 : decode b_Chains_init 39 = .ok (.aload_n 0, 1) := by decide +kernel
theorem d_Chains_init_40 : decode b_Chains_init 40 = .ok (.sipush 640, 3) := by decide +kernel
theorem d_Chains_init_43 : decode b_Chains_init 43 = .ok (.newarray .long, 2) := by decide +kernel
theorem d_Chains_init_45 : decode b_Chains_init 45 = .ok (.putfield 29, 3) := by decide +kernel
theorem d_Chains_init_48 : decode b_Chains_init 48 = .ok (.aload_n 0, 1) := by decide +kernel
theorem d_Chains_init_49 : decode b_Chains_init 49 = .ok (.iconst 0, 1) := by decide +kernel
theorem d_Chains_init_50 : decode b_Chains_init 50 = .ok (.putfield 32, 3) := by decide +kernel
theorem d_Chains_init_53 : decode b_Chains_init 53 = .ok (.aload_n 0, 1) := by decide +kernel
theorem d_Chains_init_54 : decode b_Chains_init 54 = .ok (.iconst 0, 1) := by decide +kernel
theorem d_Chains_init_55 : decode b_Chains_init 55 = .ok (.putfield 36, 3) := by decide +kernel
theorem d_Chains_init_58 : decode b_Chains_init 58 = .ok (.return_, 1) := by decide +kernel
set_option maxHeartbeats 8000000 in
set_option maxRecDepth 100000 in
theorem ct_Chains_9 (l : Launch) : MC l y_Chains_init b_Chains_init 1 2 40 6 785 8 9 [.null, .null, .null, .null, .null, .int 0, .int 0] sg_9 cS0 cS0 := by
  refine MC_of "LawfulLots$Chains" rfl (by decide) (Nat.le_of_ble_eq_true rfl) ?_
  intro p e s m args below meth c D ar h0 A Q ls F hin hK hA hP hD hS hl hQ
  refine lv_aload_n F.1 F.2.1 d_Chains_init_0 rfl (lv_at hl 0 rfl) ?_
  refine W.objInit F.1 F.2.1 F.2.2.2.1 (F.2.2.2.2 _ lk_314) (F.2.2.2.2 _ lk_20) (F.2.2.2.2 _ lk_21) rfl (by rw [F.2.2.1]; exact hl.1) rfl d_Chains_init_1 (Nat.le_of_ble_eq_true rfl) (Nat.le_of_ble_eq_true rfl) ?_
  refine W.eq (g2 := F0 m 4 ls []) rfl ?_
  refine lv_aload_n F.1 F.2.1 d_Chains_init_4 rfl (lv_at hl 0 rfl) ?_
  refine mk_obj (C := R_Machine) (T := T_Machine) (N := 1) (ci := 5) (o := 10) F hA hK hP hD hS ty_Machine ig_Machine tk_Machine lk_315 lk_180 lk_6 rfl (fs := [.null]) (by decide +kernel) (ct_Machine_10 l) lk_183 rfl (Or.inr ⟨_, lk_316⟩) lk_182 rfl (by decide +kernel) ⟨Nat.le_of_ble_eq_true rfl, Nat.le_of_ble_eq_true rfl⟩ hl.1 (Nat.le_of_ble_eq_true rfl) d_Chains_init_5 d_Chains_init_8 d_Chains_init_9 (Nat.le_of_ble_eq_true rfl) (Nat.le_of_ble_eq_true rfl) (fun u_1 H locs hP hD hS => ?_)
  refine va_putF (v := .ref (u_1 10 0)) (ty := (.object "LawfulLots$Machine")) F.1 F.2.1 F.2.2.2.2 ig_Chains ty_Chains tk_Chains nm_Chains F.2.2.2.1 hK.1 hP hD hS 0 rfl (rfl : classes[8]? = some (R_Chains, T_Chains, 7)) 0 (by decide) (F.2.2.2.2 _ lk_317) (fun _ h => h) rfl hin rfl (tk_Chains 0 (by decide)) rfl rfl (Nat.le_of_ble_eq_true rfl) d_Chains_init_12 (fun H locs hP hD hS => ?_)
  have hP : va_P D classes ([(h0, .inr (8, [.ref (u_1 10 0), .null, .null, .null, .null, .int 0, .int 0]))] ++ sg_10 ar u_1 cS0) H := hP
  have hD : va_D A ([(h0, .inr (8, [.ref (u_1 10 0), .null, .null, .null, .null, .int 0, .int 0]))] ++ sg_10 ar u_1 cS0) := hD
  refine lv_aload_n F.1 F.2.1 d_Chains_init_15 rfl (lv_at hl 0 rfl) ?_
  refine lv_bipush (v := 8) F.1 F.2.1 d_Chains_init_16 (by decide) ?_
  refine mk_arr (atype := .int) (ty := .int) (t := 0) (n := 8) (v := 8) (a0 := (8, .inl (fun _ => 0))) F hA hK hP hD hS lk_117 rfl rfl (fun _ h1 h2 => ra_i h1 h2) (fun _ => rfl) (by decide) (by decide) (by decide) (Nat.le_of_ble_eq_true rfl) (Nat.le_of_ble_eq_true rfl) d_Chains_init_18 (fun q_2 H hP hD hS => ?_)
  have hP : va_P D classes (([(h0, .inr (8, [.ref (u_1 10 0), .null, .null, .null, .null, .int 0, .int 0]))] ++ sg_10 ar u_1 cS0) ++ [(q_2, .inl (ar 0, (8, .inl (fun _ => 0))))]) H := hP
  have hD : va_D A (([(h0, .inr (8, [.ref (u_1 10 0), .null, .null, .null, .null, .int 0, .int 0]))] ++ sg_10 ar u_1 cS0) ++ [(q_2, .inl (ar 0, (8, .inl (fun _ => 0))))]) := hD
  refine va_putF (v := .ref q_2) (ty := (.array .int)) F.1 F.2.1 F.2.2.2.2 ig_Chains ty_Chains tk_Chains nm_Chains F.2.2.2.1 hK.1 hP hD hS 0 rfl (rfl : classes[8]? = some (R_Chains, T_Chains, 7)) 1 (by decide) (F.2.2.2.2 _ lk_318) (fun _ h => h) rfl hin rfl (tk_Chains 1 (by decide)) rfl rfl (Nat.le_of_ble_eq_true rfl) d_Chains_init_20 (fun H locs hP hD hS => ?_)
  have hP : va_P D classes (([(h0, .inr (8, [.ref (u_1 10 0), .ref q_2, .null, .null, .null, .int 0, .int 0]))] ++ sg_10 ar u_1 cS0) ++ [(q_2, .inl (ar 0, (8, .inl (fun _ => 0))))]) H := hP
  have hD : va_D A (([(h0, .inr (8, [.ref (u_1 10 0), .ref q_2, .null, .null, .null, .int 0, .int 0]))] ++ sg_10 ar u_1 cS0) ++ [(q_2, .inl (ar 0, (8, .inl (fun _ => 0))))]) := hD
  refine lv_aload_n F.1 F.2.1 d_Chains_init_23 rfl (lv_at hl 0 rfl) ?_
  refine lv_bipush (v := 8) F.1 F.2.1 d_Chains_init_24 (by decide) ?_
  refine mk_arr (atype := .int) (ty := .int) (t := 0) (n := 8) (v := 8) (a0 := (8, .inl (fun _ => 0))) F hA hK hP hD hS lk_117 rfl rfl (fun _ h1 h2 => ra_i h1 h2) (fun _ => rfl) (by decide) (by decide) (by decide) (Nat.le_of_ble_eq_true rfl) (Nat.le_of_ble_eq_true rfl) d_Chains_init_26 (fun q_3 H hP hD hS => ?_)
  have hP : va_P D classes ((([(h0, .inr (8, [.ref (u_1 10 0), .ref q_2, .null, .null, .null, .int 0, .int 0]))] ++ sg_10 ar u_1 cS0) ++ [(q_2, .inl (ar 0, (8, .inl (fun _ => 0))))]) ++ [(q_3, .inl (ar 0, (8, .inl (fun _ => 0))))]) H := hP
  have hD : va_D A ((([(h0, .inr (8, [.ref (u_1 10 0), .ref q_2, .null, .null, .null, .int 0, .int 0]))] ++ sg_10 ar u_1 cS0) ++ [(q_2, .inl (ar 0, (8, .inl (fun _ => 0))))]) ++ [(q_3, .inl (ar 0, (8, .inl (fun _ => 0))))]) := hD
  refine va_putF (v := .ref q_3) (ty := (.array .int)) F.1 F.2.1 F.2.2.2.2 ig_Chains ty_Chains tk_Chains nm_Chains F.2.2.2.1 hK.1 hP hD hS 0 rfl (rfl : classes[8]? = some (R_Chains, T_Chains, 7)) 2 (by decide) (F.2.2.2.2 _ lk_319) (fun _ h => h) rfl hin rfl (tk_Chains 2 (by decide)) rfl rfl (Nat.le_of_ble_eq_true rfl) d_Chains_init_28 (fun H locs hP hD hS => ?_)
  have hP : va_P D classes ((([(h0, .inr (8, [.ref (u_1 10 0), .ref q_2, .ref q_3, .null, .null, .int 0, .int 0]))] ++ sg_10 ar u_1 cS0) ++ [(q_2, .inl (ar 0, (8, .inl (fun _ => 0))))]) ++ [(q_3, .inl (ar 0, (8, .inl (fun _ => 0))))]) H := hP
  have hD : va_D A ((([(h0, .inr (8, [.ref (u_1 10 0), .ref q_2, .ref q_3, .null, .null, .int 0, .int 0]))] ++ sg_10 ar u_1 cS0) ++ [(q_2, .inl (ar 0, (8, .inl (fun _ => 0))))]) ++ [(q_3, .inl (ar 0, (8, .inl (fun _ => 0))))]) := hD
  refine lv_aload_n F.1 F.2.1 d_Chains_init_31 rfl (lv_at hl 0 rfl) ?_
  refine lv_bipush (v := 64) F.1 F.2.1 d_Chains_init_32 (by decide) ?_
  refine mk_arr (atype := .long) (ty := .long) (t := 1) (n := 64) (v := 64) (a0 := (64, .inr (.inl (fun _ => 0)))) F hA hK hP hD hS lk_118 rfl rfl (fun _ h1 h2 => ra_l h1 h2) (fun _ => rfl) (by decide) (by decide) (by decide) (Nat.le_of_ble_eq_true rfl) (Nat.le_of_ble_eq_true rfl) d_Chains_init_34 (fun q_4 H hP hD hS => ?_)
  have hP : va_P D classes (((([(h0, .inr (8, [.ref (u_1 10 0), .ref q_2, .ref q_3, .null, .null, .int 0, .int 0]))] ++ sg_10 ar u_1 cS0) ++ [(q_2, .inl (ar 0, (8, .inl (fun _ => 0))))]) ++ [(q_3, .inl (ar 0, (8, .inl (fun _ => 0))))]) ++ [(q_4, .inl (ar 1, (64, .inr (.inl (fun _ => 0)))))]) H := hP
  have hD : va_D A (((([(h0, .inr (8, [.ref (u_1 10 0), .ref q_2, .ref q_3, .null, .null, .int 0, .int 0]))] ++ sg_10 ar u_1 cS0) ++ [(q_2, .inl (ar 0, (8, .inl (fun _ => 0))))]) ++ [(q_3, .inl (ar 0, (8, .inl (fun _ => 0))))]) ++ [(q_4, .inl (ar 1, (64, .inr (.inl (fun _ => 0)))))]) := hD
  refine va_putF (v := .ref q_4) (ty := (.array .long)) F.1 F.2.1 F.2.2.2.2 ig_Chains ty_Chains tk_Chains nm_Chains F.2.2.2.1 hK.1 hP hD hS 0 rfl (rfl : classes[8]? = some (R_Chains, T_Chains, 7)) 3 (by decide) (F.2.2.2.2 _ lk_320) (fun _ h => h) rfl hin rfl (tk_Chains 3 (by decide)) rfl rfl (Nat.le_of_ble_eq_true rfl) d_Chains_init_36 (fun H locs hP hD hS => ?_)
  have hP : va_P D classes (((([(h0, .inr (8, [.ref (u_1 10 0), .ref q_2, .ref q_3, .ref q_4, .null, .int 0, .int 0]))] ++ sg_10 ar u_1 cS0) ++ [(q_2, .inl (ar 0, (8, .inl (fun _ => 0))))]) ++ [(q_3, .inl (ar 0, (8, .inl (fun _ => 0))))]) ++ [(q_4, .inl (ar 1, (64, .inr (.inl (fun _ => 0)))))]) H := hP
  have hD : va_D A (((([(h0, .inr (8, [.ref (u_1 10 0), .ref q_2, .ref q_3, .ref q_4, .null, .int 0, .int 0]))] ++ sg_10 ar u_1 cS0) ++ [(q_2, .inl (ar 0, (8, .inl (fun _ => 0))))]) ++ [(q_3, .inl (ar 0, (8, .inl (fun _ => 0))))]) ++ [(q_4, .inl (ar 1, (64, .inr (.inl (fun _ => 0)))))]) := hD
  refine lv_aload_n F.1 F.2.1 d_Chains_init_39 rfl (lv_at hl 0 rfl) ?_
  refine lv_sipush (v := 640) F.1 F.2.1 d_Chains_init_40 (by decide) ?_
  refine mk_arr (atype := .long) (ty := .long) (t := 1) (n := 640) (v := 640) (a0 := (640, .inr (.inl (fun _ => 0)))) F hA hK hP hD hS lk_118 rfl rfl (fun _ h1 h2 => ra_l h1 h2) (fun _ => rfl) (by decide) (by decide) (by decide) (Nat.le_of_ble_eq_true rfl) (Nat.le_of_ble_eq_true rfl) d_Chains_init_43 (fun q_5 H hP hD hS => ?_)
  have hP : va_P D classes ((((([(h0, .inr (8, [.ref (u_1 10 0), .ref q_2, .ref q_3, .ref q_4, .null, .int 0, .int 0]))] ++ sg_10 ar u_1 cS0) ++ [(q_2, .inl (ar 0, (8, .inl (fun _ => 0))))]) ++ [(q_3, .inl (ar 0, (8, .inl (fun _ => 0))))]) ++ [(q_4, .inl (ar 1, (64, .inr (.inl (fun _ => 0)))))]) ++ [(q_5, .inl (ar 1, (640, .inr (.inl (fun _ => 0)))))]) H := hP
  have hD : va_D A ((((([(h0, .inr (8, [.ref (u_1 10 0), .ref q_2, .ref q_3, .ref q_4, .null, .int 0, .int 0]))] ++ sg_10 ar u_1 cS0) ++ [(q_2, .inl (ar 0, (8, .inl (fun _ => 0))))]) ++ [(q_3, .inl (ar 0, (8, .inl (fun _ => 0))))]) ++ [(q_4, .inl (ar 1, (64, .inr (.inl (fun _ => 0)))))]) ++ [(q_5, .inl (ar 1, (640, .inr (.inl (fun _ => 0)))))]) := hD
  refine va_putF (v := .ref q_5) (ty := (.array .long)) F.1 F.2.1 F.2.2.2.2 ig_Chains ty_Chains tk_Chains nm_Chains F.2.2.2.1 hK.1 hP hD hS 0 rfl (rfl : classes[8]? = some (R_Chains, T_Chains, 7)) 4 (by decide) (F.2.2.2.2 _ lk_321) (fun _ h => h) rfl hin rfl (tk_Chains 4 (by decide)) rfl rfl (Nat.le_of_ble_eq_true rfl) d_Chains_init_45 (fun H locs hP hD hS => ?_)
  have hP : va_P D classes ((((([(h0, .inr (8, [.ref (u_1 10 0), .ref q_2, .ref q_3, .ref q_4, .ref q_5, .int 0, .int 0]))] ++ sg_10 ar u_1 cS0) ++ [(q_2, .inl (ar 0, (8, .inl (fun _ => 0))))]) ++ [(q_3, .inl (ar 0, (8, .inl (fun _ => 0))))]) ++ [(q_4, .inl (ar 1, (64, .inr (.inl (fun _ => 0)))))]) ++ [(q_5, .inl (ar 1, (640, .inr (.inl (fun _ => 0)))))]) H := hP
  have hD : va_D A ((((([(h0, .inr (8, [.ref (u_1 10 0), .ref q_2, .ref q_3, .ref q_4, .ref q_5, .int 0, .int 0]))] ++ sg_10 ar u_1 cS0) ++ [(q_2, .inl (ar 0, (8, .inl (fun _ => 0))))]) ++ [(q_3, .inl (ar 0, (8, .inl (fun _ => 0))))]) ++ [(q_4, .inl (ar 1, (64, .inr (.inl (fun _ => 0)))))]) ++ [(q_5, .inl (ar 1, (640, .inr (.inl (fun _ => 0)))))]) := hD
  refine lv_aload_n F.1 F.2.1 d_Chains_init_48 rfl (lv_at hl 0 rfl) ?_
  refine lv_iconst (v := 0) F.1 F.2.1 d_Chains_init_49 (by decide) ?_
  refine va_put (v := .int 0) (ty := .int) F.1 F.2.1 F.2.2.2.2 ig_Chains ty_Chains tk_Chains nm_Chains F.2.2.2.1 hK.1 hP hD hS 0 rfl (rfl : classes[8]? = some (R_Chains, T_Chains, 7)) 5 (by decide) (F.2.2.2.2 _ lk_322) (fun _ h => h) rfl (tk_Chains 5 (by decide)) rfl rfl (Nat.le_of_ble_eq_true rfl) d_Chains_init_50 (fun H locs hP hD hS => ?_)
  have hP : va_P D classes ((((([(h0, .inr (8, [.ref (u_1 10 0), .ref q_2, .ref q_3, .ref q_4, .ref q_5, .int 0, .int 0]))] ++ sg_10 ar u_1 cS0) ++ [(q_2, .inl (ar 0, (8, .inl (fun _ => 0))))]) ++ [(q_3, .inl (ar 0, (8, .inl (fun _ => 0))))]) ++ [(q_4, .inl (ar 1, (64, .inr (.inl (fun _ => 0)))))]) ++ [(q_5, .inl (ar 1, (640, .inr (.inl (fun _ => 0)))))]) H := hP
  have hD : va_D A ((((([(h0, .inr (8, [.ref (u_1 10 0), .ref q_2, .ref q_3, .ref q_4, .ref q_5, .int 0, .int 0]))] ++ sg_10 ar u_1 cS0) ++ [(q_2, .inl (ar 0, (8, .inl (fun _ => 0))))]) ++ [(q_3, .inl (ar 0, (8, .inl (fun _ => 0))))]) ++ [(q_4, .inl (ar 1, (64, .inr (.inl (fun _ => 0)))))]) ++ [(q_5, .inl (ar 1, (640, .inr (.inl (fun _ => 0)))))]) := hD
  refine lv_aload_n F.1 F.2.1 d_Chains_init_53 rfl (lv_at hl 0 rfl) ?_
  refine lv_iconst (v := 0) F.1 F.2.1 d_Chains_init_54 (by decide) ?_
  refine va_put (v := .int 0) (ty := .boolean) F.1 F.2.1 F.2.2.2.2 ig_Chains ty_Chains tk_Chains nm_Chains F.2.2.2.1 hK.1 hP hD hS 0 rfl (rfl : classes[8]? = some (R_Chains, T_Chains, 7)) 6 (by decide) (F.2.2.2.2 _ lk_323) (fun _ h => h) rfl (tk_Chains 6 (by decide)) rfl rfl (Nat.le_of_ble_eq_true rfl) d_Chains_init_55 (fun H locs hP hD hS => ?_)
  have hP : va_P D classes ((((([(h0, .inr (8, [.ref (u_1 10 0), .ref q_2, .ref q_3, .ref q_4, .ref q_5, .int 0, .int 0]))] ++ sg_10 ar u_1 cS0) ++ [(q_2, .inl (ar 0, (8, .inl (fun _ => 0))))]) ++ [(q_3, .inl (ar 0, (8, .inl (fun _ => 0))))]) ++ [(q_4, .inl (ar 1, (64, .inr (.inl (fun _ => 0)))))]) ++ [(q_5, .inl (ar 1, (640, .inr (.inl (fun _ => 0)))))]) H := hP
  have hD : va_D A ((((([(h0, .inr (8, [.ref (u_1 10 0), .ref q_2, .ref q_3, .ref q_4, .ref q_5, .int 0, .int 0]))] ++ sg_10 ar u_1 cS0) ++ [(q_2, .inl (ar 0, (8, .inl (fun _ => 0))))]) ++ [(q_3, .inl (ar 0, (8, .inl (fun _ => 0))))]) ++ [(q_4, .inl (ar 1, (64, .inr (.inl (fun _ => 0)))))]) ++ [(q_5, .inl (ar 1, (640, .inr (.inl (fun _ => 0)))))]) := hD
  refine W.widen (k := 6) (n := 785) (Nat.le_of_ble_eq_true rfl) (Nat.le_of_ble_eq_true rfl) ?_
  exact hQ (fun a b : Nat => cond (Nat.beq a 9) (cond (Nat.beq b 0) h0 (cond (Nat.beq b 2) q_2 (cond (Nat.beq b 3) q_3 (cond (Nat.beq b 4) q_4 (cond (Nat.beq b 5) q_5 0))))) (cond (Nat.beq a 10) (u_1 a b) 0)) H locs _ ls rfl d_Chains_init_58 (hP.sub [0, 3, 4, 5, 6, 1, 2] rfl) (hD.sub [0, 3, 4, 5, 6, 1, 2] (by decide) rfl) hS
