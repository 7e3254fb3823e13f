set_option maxHeartbeats 8000000 in
set_option maxRecDepth 100000 in
theorem ct_Machine_10 (l : Launch) : MC l y_Machine_init b_Machine_init 1 1 20 1 64 5 10 [.null] sg_10 cS0 cS0 := by
  refine MC_of "LawfulLots$Machine" rfl (by decide) (Nat.le_of_ble_eq_true rfl) ?_
  intro p e s m args below meth c D ar h0 A Q ls F hin hK hA hP hD hS hl hQ
  refine lv_aload_n F.1 F.2.1 d_Machine_init_0 rfl (lv_at hl 0 rfl) ?_
  refine W.objInit F.1 F.2.1 F.2.2.2.1 (F.2.2.2.2 _ lk_184) (F.2.2.2.2 _ lk_20) (F.2.2.2.2 _ lk_21) rfl (by rw [F.2.2.1]; exact hl.1) rfl d_Machine_init_1 (Nat.le_of_ble_eq_true rfl) (Nat.le_of_ble_eq_true rfl) ?_
  refine W.eq (g2 := F0 m 4 ls []) rfl ?_
  refine lv_aload_n F.1 F.2.1 d_Machine_init_4 rfl (lv_at hl 0 rfl) ?_
  refine lv_bipush (v := 64) F.1 F.2.1 d_Machine_init_5 (by decide) ?_
  refine mk_arr (atype := .int) (ty := .int) (t := 0) (n := 64) (v := 64) (a0 := (64, .inl (fun _ => 0))) F hA hK hP hD hS lk_117 rfl rfl (fun _ h1 h2 => ra_i h1 h2) (fun _ => rfl) (by decide) (by decide) (by decide) (Nat.le_of_ble_eq_true rfl) (Nat.le_of_ble_eq_true rfl) d_Machine_init_7 (fun q_1 H hP hD hS => ?_)
  have hP : va_P D classes [(h0, .inr (5, [.null])), (q_1, .inl (ar 0, (64, .inl (fun _ => 0))))] H := hP
  have hD : va_D A [(h0, .inr (5, [.null])), (q_1, .inl (ar 0, (64, .inl (fun _ => 0))))] := hD
  refine va_putF (v := .ref q_1) (ty := (.array .int)) F.1 F.2.1 F.2.2.2.2 ig_Machine ty_Machine tk_Machine nm_Machine F.2.2.2.1 hK.1 hP hD hS 0 rfl (rfl : classes[5]? = some (R_Machine, T_Machine, 1)) 0 (by decide) (F.2.2.2.2 _ lk_185) (fun _ h => h) rfl hin rfl (tk_Machine 0 (by decide)) rfl rfl (Nat.le_of_ble_eq_true rfl) d_Machine_init_9 (fun H locs hP hD hS => ?_)
  have hP : va_P D classes [(h0, .inr (5, [.ref q_1])), (q_1, .inl (ar 0, (64, .inl (fun _ => 0))))] H := hP
  have hD : va_D A [(h0, .inr (5, [.ref q_1])), (q_1, .inl (ar 0, (64, .inl (fun _ => 0))))] := hD
  refine W.widen (k := 1) (n := 64) (Nat.le_of_ble_eq_true rfl) (Nat.le_of_ble_eq_true rfl) ?_
  exact hQ (fun a b : Nat => cond (Nat.beq a 10) (cond (Nat.beq b 0) h0 (cond (Nat.beq b 1) q_1 0)) 0) H locs _ ls rfl d_Machine_init_12 (hP.sub [0, 1] rfl) (hD.sub [0, 1] (by decide) rfl) hS
