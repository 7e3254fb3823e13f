theorem d_Reader_init_0 : decode b_Reader_init 0 = .ok (.aload_n 0, 1) := by decide +kernel
theorem d_Reader_init_1 : decode b_Reader_init 1 = .ok (.invokespecial 3, 3) := by decide +kernel
theorem d_Reader_init_4 : decode b_Reader_init 4 = .ok (.aload_n 0, 1) := by decide +kernel
theorem d_Reader_init_5 : decode b_Reader_init 5 = .ok (.new 9, 3) := by decide +kernel
theorem d_Reader_init_8 : decode b_Reader_init 8 = .ok (.dup, 1) := by decide +kernel
theorem d_Reader_init_9 : decode b_Reader_init 9 = .ok (.invokespecial 11, 3) := by decide +kernel
theorem d_Reader_init_12 : decode b_Reader_init 12 = .ok (.putfield 12, 3) := by decide +kernel
theorem d_Reader_init_15 : decode b_Reader_init 15 = .ok (.aload_n 0, 1) := by decide +kernel
theorem d_Reader_init_16 : decode b_Reader_init 16 = .ok (.bipush 64, 2) := by decide +kernel
theorem d_Reader_init_18 : decode b_Reader_init 18 = .ok (.newarray .int, 2) := by decide +kernel
theorem d_Reader_init_20 : decode b_Reader_init 20 = .ok (.putfield 18, 3) := by decide +kernel
theorem d_Reader_init_23 : decode b_Reader_init 23 = .ok (.aload_n 0, 1) := by decide +kernel
theorem d_Reader_init_24 : decode b_Reader_init 24 = .ok (.new 22, 3) := by decide +kernel
theorem d_Reader_init_27 : decode b_Reader_init 27 = .ok (.dup, 1) := by decide +kernel
theorem d_Reader_init_28 : decode b_Reader_init 28 = .ok (.invokespecial 24, 3) := by decide +kernel
theorem d_Reader_init_31 : decode b_Reader_init 31 = .ok (.putfield 25, 3) := by decide +kernel
theorem d_Reader_init_34 : decode b_Reader_init 34 = .ok (.aload_n 0, 1) := by decide +kernel
theorem d_Reader_init_35 : decode b_Reader_init 35 = .ok (.iconst (-1), 1) := by decide +kernel
theorem d_Reader_init_36 : decode b_Reader_init 36 = .ok (.putfield 29, 3) := by decide +kernel
theorem d_Reader_init_39 : decode b_Reader_init 39 = .ok (.aload_n 0, 1) := by decide +kernel
theorem d_Reader_init_40 : decode b_Reader_init 40 = .ok (.iconst 0, 1) := by decide +kernel
theorem d_Reader_init_41 : decode b_Reader_init 41 = .ok (.putfield 33, 3) := by decide +kernel
theorem d_Reader_init_44 : decode b_Reader_init 44 = .ok (.aload_n 0, 1) := by decide +kernel
theorem d_Reader_init_45 : decode b_Reader_init 45 = .ok (.iconst 0, 1) := by decide +kernel
theorem d_Reader_init_46 : decode b_Reader_init 46 = .ok (.putfield 36, 3) := by decide +kernel
theorem d_Reader_init_49 : decode b_Reader_init 49 = .ok (.aload_n 0, 1) := by decide +kernel
theorem d_Reader_init_50 : decode b_Reader_init 50 = .ok (.iconst 0, 1) := by decide +kernel
theorem d_Reader_init_51 : decode b_Reader_init 51 = .ok (.putfield 39, 3) := by decide +kernel
theorem d_Reader_init_54 : decode b_Reader_init 54 = .ok (.aload_n 0, 1) := by decide +kernel
theorem d_Reader_init_55 : decode b_Reader_init 55 = .ok (.iconst 0, 1) := by decide +kernel
theorem d_Reader_init_56 : decode b_Reader_init 56 = .ok (.putfield 42, 3) := by decide +kernel
theorem d_Reader_init_59 : decode b_Reader_init 59 = .ok (.aload_n 0, 1) := by decide +kernel
theorem d_Reader_init_60 : decode b_Reader_init 60 = .ok (.iconst 0, 1) := by decide +kernel
theorem d_Reader_init_61 : decode b_Reader_init 61 = .ok (.putfield 45, 3) := by decide +kernel
theorem d_Reader_init_64 : decode b_Reader_init 64 = .ok (.aload_n 0, 1) := by decide +kernel
theorem d_Reader_init_65 : decode b_Reader_init 65 = .ok (.iconst 0, 1) := by decide +kernel
theorem d_Reader_init_66 : decode b_Reader_init 66 = .ok (.putfield 48, 3) := by decide +kernel
theorem d_Reader_init_69 : decode b_Reader_init 69 = .ok (.aload_n 0, 1) := by decide +kernel
theorem d_Reader_init_70 : decode b_Reader_init 70 = .ok (.iconst 0, 1) := by decide +kernel
theorem d_Reader_init_71 : decode b_Reader_init 71 = .ok (.putfield 51, 3) := by decide +kernel
theorem d_Reader_init_74 : decode b_Reader_init 74 = .ok (.aload_n 0, 1) := by decide +kernel
theorem d_Reader_init_75 : decode b_Reader_init 75 = .ok (.iconst 0, 1) := by decide +kernel
theorem d_Reader_init_76 : decode b_Reader_init 76 = .ok (.putfield 54, 3) := by decide +kernel
theorem d_Reader_init_79 : decode b_Reader_init 79 = .ok (.aload_n 0, 1) := by decide +kernel
theorem d_Reader_init_80 : decode b_Reader_init 80 = .ok (.iconst 0, 1) := by decide +kernel
theorem d_Reader_init_81 : decode b_Reader_init 81 = .ok (.putfield 57, 3) := by decide +kernel
theorem d_Reader_init_84 : decode b_Reader_init 84 = .ok (.aload_n 0, 1) := by decide +kernel
theorem d_Reader_init_85 : decode b_Reader_init 85 = .ok (.iconst 0, 1) := by decide +kernel
theorem d_Reader_init_86 : decode b_Reader_init 86 = .ok (.putfield 60, 3) := by decide +kernel
theorem d_Reader_init_89 : decode b_Reader_init 89 = .ok (.aload_n 0, 1) := by decide +kernel
theorem d_Reader_init_90 : decode b_Reader_init 90 = .ok (.lconst 0, 1) := by decide +kernel
theorem d_Reader_init_91 : decode b_Reader_init 91 = .ok (.putfield 64, 3) := by decide +kernel
theorem d_Reader_init_94 : decode b_Reader_init 94 = .ok (.aload_n 0, 1) := by decide +kernel
theorem d_Reader_init_95 : decode b_Reader_init 95 = .ok (.iconst 0, 1) := by decide +kernel
theorem d_Reader_init_96 : decode b_Reader_init 96 = .ok (.putfield 68, 3) := by decide +kernel
theorem d_Reader_init_99 : decode b_Reader_init 99 = .ok (.aload_n 0, 1) := by decide +kernel
theorem d_Reader_init_100 : decode b_Reader_init 100 = .ok (.iconst 0, 1) := by decide +kernel
theorem d_Reader_init_101 : decode b_Reader_init 101 = .ok (.putfield 71, 3) := by decide +kernel
theorem d_Reader_init_104 : decode b_Reader_init 104 = .ok (.return_, 1) := by decide +kernel
set_option maxHeartbeats 8000000 in
set_option maxRecDepth 100000 in
theorem ct_Reader_1 (l : Launch) : MC l y_Reader_init b_Reader_init 1 2 40 14 674 1 1 [.null, .null, .null, .int 0, .int 0, .int 0, .int 0, .int 0, .int 0, .int 0, .int 0, .int 0, .int 0, .int 0, .long 0, .int 0, .int 0] sg_1 cS0 cS0 := by
  refine MC_of "LawfulLots$Reader" rfl (by decide) (Nat.le_of_ble_eq_true rfl) ?_
  intro p e s m args below meth c D ar h0 A Q ls F hin hK hA hP hD hS hl hQ
  refine lv_aload_n F.1 F.2.1 d_Reader_init_0 rfl (lv_at hl 0 rfl) ?_
  refine W.objInit F.1 F.2.1 F.2.2.2.1 (F.2.2.2.2 _ lk_27) (F.2.2.2.2 _ lk_20) (F.2.2.2.2 _ lk_21) rfl (by rw [F.2.2.1]; exact hl.1) rfl d_Reader_init_1 (Nat.le_of_ble_eq_true rfl) (Nat.le_of_ble_eq_true rfl) ?_
  refine W.eq (g2 := F0 m 4 ls []) rfl ?_
  refine lv_aload_n F.1 F.2.1 d_Reader_init_4 rfl (lv_at hl 0 rfl) ?_
  refine mk_obj (C := R_Scanner) (T := T_Scanner) (N := 7) (ci := 2) (o := 2) F hA hK hP hD hS ty_Scanner ig_Scanner tk_Scanner lk_28 lk_29 lk_3 rfl (fs := [.null, .int 0, .int 0, .int 0, .int 0, .int 0, .long 0]) (by decide +kernel) (ct_Scanner_2 l) lk_32 rfl (Or.inr ⟨_, lk_30⟩) lk_31 rfl (by decide +kernel) ⟨Nat.le_of_ble_eq_true rfl, Nat.le_of_ble_eq_true rfl⟩ hl.1 (Nat.le_of_ble_eq_true rfl) d_Reader_init_5 d_Reader_init_8 d_Reader_init_9 (Nat.le_of_ble_eq_true rfl) (Nat.le_of_ble_eq_true rfl) (fun u_1 H locs hP hD hS => ?_)
  refine va_putF (v := .ref (u_1 2 0)) (ty := (.object "LawfulLots$Scanner")) F.1 F.2.1 F.2.2.2.2 ig_Reader ty_Reader tk_Reader nm_Reader F.2.2.2.1 hK.1 hP hD hS 0 rfl (rfl : classes[1]? = some (R_Reader, T_Reader, 17)) 0 (by decide) (F.2.2.2.2 _ lk_119) (fun _ h => h) rfl hin rfl (tk_Reader 0 (by decide)) rfl rfl (Nat.le_of_ble_eq_true rfl) d_Reader_init_12 (fun H locs hP hD hS => ?_)
  have hP : va_P D classes ([(h0, .inr (1, [.ref (u_1 2 0), .null, .null, .int 0, .int 0, .int 0, .int 0, .int 0, .int 0, .int 0, .int 0, .int 0, .int 0, .int 0, .long 0, .int 0, .int 0]))] ++ sg_2 ar u_1 cS0) H := hP
  have hD : va_D A ([(h0, .inr (1, [.ref (u_1 2 0), .null, .null, .int 0, .int 0, .int 0, .int 0, .int 0, .int 0, .int 0, .int 0, .int 0, .int 0, .int 0, .long 0, .int 0, .int 0]))] ++ sg_2 ar u_1 cS0) := hD
  refine lv_aload_n F.1 F.2.1 d_Reader_init_15 rfl (lv_at hl 0 rfl) ?_
  refine lv_bipush (v := 64) F.1 F.2.1 d_Reader_init_16 (by decide) ?_
  refine mk_arr (atype := .int) (ty := .int) (t := 0) (n := 64) (v := 64) (a0 := (64, .inl (fun _ => 0))) F hA hK hP hD hS lk_117 rfl rfl (fun _ h1 h2 => ra_i h1 h2) (fun _ => rfl) (by decide) (by decide) (by decide) (Nat.le_of_ble_eq_true rfl) (Nat.le_of_ble_eq_true rfl) d_Reader_init_18 (fun q_2 H hP hD hS => ?_)
  have hP : va_P D classes (([(h0, .inr (1, [.ref (u_1 2 0), .null, .null, .int 0, .int 0, .int 0, .int 0, .int 0, .int 0, .int 0, .int 0, .int 0, .int 0, .int 0, .long 0, .int 0, .int 0]))] ++ sg_2 ar u_1 cS0) ++ [(q_2, .inl (ar 0, (64, .inl (fun _ => 0))))]) H := hP
  have hD : va_D A (([(h0, .inr (1, [.ref (u_1 2 0), .null, .null, .int 0, .int 0, .int 0, .int 0, .int 0, .int 0, .int 0, .int 0, .int 0, .int 0, .int 0, .long 0, .int 0, .int 0]))] ++ sg_2 ar u_1 cS0) ++ [(q_2, .inl (ar 0, (64, .inl (fun _ => 0))))]) := hD
  refine va_putF (v := .ref q_2) (ty := (.array .int)) F.1 F.2.1 F.2.2.2.2 ig_Reader ty_Reader tk_Reader nm_Reader F.2.2.2.1 hK.1 hP hD hS 0 rfl (rfl : classes[1]? = some (R_Reader, T_Reader, 17)) 1 (by decide) (F.2.2.2.2 _ lk_120) (fun _ h => h) rfl hin rfl (tk_Reader 1 (by decide)) rfl rfl (Nat.le_of_ble_eq_true rfl) d_Reader_init_20 (fun H locs hP hD hS => ?_)
  have hP : va_P D classes (([(h0, .inr (1, [.ref (u_1 2 0), .ref q_2, .null, .int 0, .int 0, .int 0, .int 0, .int 0, .int 0, .int 0, .int 0, .int 0, .int 0, .int 0, .long 0, .int 0, .int 0]))] ++ sg_2 ar u_1 cS0) ++ [(q_2, .inl (ar 0, (64, .inl (fun _ => 0))))]) H := hP
  have hD : va_D A (([(h0, .inr (1, [.ref (u_1 2 0), .ref q_2, .null, .int 0, .int 0, .int 0, .int 0, .int 0, .int 0, .int 0, .int 0, .int 0, .int 0, .int 0, .long 0, .int 0, .int 0]))] ++ sg_2 ar u_1 cS0) ++ [(q_2, .inl (ar 0, (64, .inl (fun _ => 0))))]) := hD
  refine lv_aload_n F.1 F.2.1 d_Reader_init_23 rfl (lv_at hl 0 rfl) ?_
  refine mk_obj (C := R_Book) (T := T_Book) (N := 13) (ci := 3) (o := 3) F hA hK hP hD hS ty_Book ig_Book tk_Book lk_61 lk_62 lk_4 rfl (fs := [.null, .null, .null, .null, .null, .null, .null, .null, .null, .null, .int 0, .int 0, .int 0]) (by decide +kernel) (ct_Book_3 l) lk_65 rfl (Or.inr ⟨_, lk_63⟩) lk_64 rfl (by decide +kernel) ⟨Nat.le_of_ble_eq_true rfl, Nat.le_of_ble_eq_true rfl⟩ hl.1 (Nat.le_of_ble_eq_true rfl) d_Reader_init_24 d_Reader_init_27 d_Reader_init_28 (Nat.le_of_ble_eq_true rfl) (Nat.le_of_ble_eq_true rfl) (fun u_3 H locs hP hD hS => ?_)
  refine va_put (v := .ref (u_3 3 0)) (ty := (.object "LawfulLots$Book")) F.1 F.2.1 F.2.2.2.2 ig_Reader ty_Reader tk_Reader nm_Reader F.2.2.2.1 hK.1 hP hD hS 0 rfl (rfl : classes[1]? = some (R_Reader, T_Reader, 17)) 2 (by decide) (F.2.2.2.2 _ lk_121) (fun _ h => h) rfl (tk_Reader 2 (by decide)) rfl rfl (Nat.le_of_ble_eq_true rfl) d_Reader_init_31 (fun H locs hP hD hS => ?_)
  have hP : va_P D classes ((([(h0, .inr (1, [.ref (u_1 2 0), .ref q_2, .ref (u_3 3 0), .int 0, .int 0, .int 0, .int 0, .int 0, .int 0, .int 0, .int 0, .int 0, .int 0, .int 0, .long 0, .int 0, .int 0]))] ++ sg_2 ar u_1 cS0) ++ [(q_2, .inl (ar 0, (64, .inl (fun _ => 0))))]) ++ sg_3 ar u_3 cS0) H := hP
  have hD : va_D A ((([(h0, .inr (1, [.ref (u_1 2 0), .ref q_2, .ref (u_3 3 0), .int 0, .int 0, .int 0, .int 0, .int 0, .int 0, .int 0, .int 0, .int 0, .int 0, .int 0, .long 0, .int 0, .int 0]))] ++ sg_2 ar u_1 cS0) ++ [(q_2, .inl (ar 0, (64, .inl (fun _ => 0))))]) ++ sg_3 ar u_3 cS0) := hD
  refine lv_aload_n F.1 F.2.1 d_Reader_init_34 rfl (lv_at hl 0 rfl) ?_
  refine lv_iconst (v := -1) F.1 F.2.1 d_Reader_init_35 (by decide) ?_
  refine va_put (v := .int (-1)) (ty := .int) F.1 F.2.1 F.2.2.2.2 ig_Reader ty_Reader tk_Reader nm_Reader F.2.2.2.1 hK.1 hP hD hS 0 rfl (rfl : classes[1]? = some (R_Reader, T_Reader, 17)) 3 (by decide) (F.2.2.2.2 _ lk_123) (fun _ h => h) rfl (tk_Reader 3 (by decide)) rfl rfl (Nat.le_of_ble_eq_true rfl) d_Reader_init_36 (fun H locs hP hD hS => ?_)
  have hP : va_P D classes ((([(h0, .inr (1, [.ref (u_1 2 0), .ref q_2, .ref (u_3 3 0), .int (-1), .int 0, .int 0, .int 0, .int 0, .int 0, .int 0, .int 0, .int 0, .int 0, .int 0, .long 0, .int 0, .int 0]))] ++ sg_2 ar u_1 cS0) ++ [(q_2, .inl (ar 0, (64, .inl (fun _ => 0))))]) ++ sg_3 ar u_3 cS0) H := hP
  have hD : va_D A ((([(h0, .inr (1, [.ref (u_1 2 0), .ref q_2, .ref (u_3 3 0), .int (-1), .int 0, .int 0, .int 0, .int 0, .int 0, .int 0, .int 0, .int 0, .int 0, .int 0, .long 0, .int 0, .int 0]))] ++ sg_2 ar u_1 cS0) ++ [(q_2, .inl (ar 0, (64, .inl (fun _ => 0))))]) ++ sg_3 ar u_3 cS0) := hD
  refine lv_aload_n F.1 F.2.1 d_Reader_init_39 rfl (lv_at hl 0 rfl) ?_
  refine lv_iconst (v := 0) F.1 F.2.1 d_Reader_init_40 (by decide) ?_
  refine va_put (v := .int 0) (ty := .int) F.1 F.2.1 F.2.2.2.2 ig_Reader ty_Reader tk_Reader nm_Reader F.2.2.2.1 hK.1 hP hD hS 0 rfl (rfl : classes[1]? = some (R_Reader, T_Reader, 17)) 4 (by decide) (F.2.2.2.2 _ lk_125) (fun _ h => h) rfl (tk_Reader 4 (by decide)) rfl rfl (Nat.le_of_ble_eq_true rfl) d_Reader_init_41 (fun H locs hP hD hS => ?_)
  have hP : va_P D classes ((([(h0, .inr (1, [.ref (u_1 2 0), .ref q_2, .ref (u_3 3 0), .int (-1), .int 0, .int 0, .int 0, .int 0, .int 0, .int 0, .int 0, .int 0, .int 0, .int 0, .long 0, .int 0, .int 0]))] ++ sg_2 ar u_1 cS0) ++ [(q_2, .inl (ar 0, (64, .inl (fun _ => 0))))]) ++ sg_3 ar u_3 cS0) H := hP
  have hD : va_D A ((([(h0, .inr (1, [.ref (u_1 2 0), .ref q_2, .ref (u_3 3 0), .int (-1), .int 0, .int 0, .int 0, .int 0, .int 0, .int 0, .int 0, .int 0, .int 0, .int 0, .long 0, .int 0, .int 0]))] ++ sg_2 ar u_1 cS0) ++ [(q_2, .inl (ar 0, (64, .inl (fun _ => 0))))]) ++ sg_3 ar u_3 cS0) := hD
  refine lv_aload_n F.1 F.2.1 d_Reader_init_44 rfl (lv_at hl 0 rfl) ?_
  refine lv_iconst (v := 0) F.1 F.2.1 d_Reader_init_45 (by decide) ?_
  refine va_put (v := .int 0) (ty := .int) F.1 F.2.1 F.2.2.2.2 ig_Reader ty_Reader tk_Reader nm_Reader F.2.2.2.1 hK.1 hP hD hS 0 rfl (rfl : classes[1]? = some (R_Reader, T_Reader, 17)) 5 (by decide) (F.2.2.2.2 _ lk_126) (fun _ h => h) rfl (tk_Reader 5 (by decide)) rfl rfl (Nat.le_of_ble_eq_true rfl) d_Reader_init_46 (fun H locs hP hD hS => ?_)
  have hP : va_P D classes ((([(h0, .inr (1, [.ref (u_1 2 0), .ref q_2, .ref (u_3 3 0), .int (-1), .int 0, .int 0, .int 0, .int 0, .int 0, .int 0, .int 0, .int 0, .int 0, .int 0, .long 0, .int 0, .int 0]))] ++ sg_2 ar u_1 cS0) ++ [(q_2, .inl (ar 0, (64, .inl (fun _ => 0))))]) ++ sg_3 ar u_3 cS0) H := hP
  have hD : va_D A ((([(h0, .inr (1, [.ref (u_1 2 0), .ref q_2, .ref (u_3 3 0), .int (-1), .int 0, .int 0, .int 0, .int 0, .int 0, .int 0, .int 0, .int 0, .int 0, .int 0, .long 0, .int 0, .int 0]))] ++ sg_2 ar u_1 cS0) ++ [(q_2, .inl (ar 0, (64, .inl (fun _ => 0))))]) ++ sg_3 ar u_3 cS0) := hD
  refine lv_aload_n F.1 F.2.1 d_Reader_init_49 rfl (lv_at hl 0 rfl) ?_
  refine lv_iconst (v := 0) F.1 F.2.1 d_Reader_init_50 (by decide) ?_
  refine va_put (v := .int 0) (ty := .int) F.1 F.2.1 F.2.2.2.2 ig_Reader ty_Reader tk_Reader nm_Reader F.2.2.2.1 hK.1 hP hD hS 0 rfl (rfl : classes[1]? = some (R_Reader, T_Reader, 17)) 6 (by decide) (F.2.2.2.2 _ lk_127) (fun _ h => h) rfl (tk_Reader 6 (by decide)) rfl rfl (Nat.le_of_ble_eq_true rfl) d_Reader_init_51 (fun H locs hP hD hS => ?_)
  have hP : va_P D classes ((([(h0, .inr (1, [.ref (u_1 2 0), .ref q_2, .ref (u_3 3 0), .int (-1), .int 0, .int 0, .int 0, .int 0, .int 0, .int 0, .int 0, .int 0, .int 0, .int 0, .long 0, .int 0, .int 0]))] ++ sg_2 ar u_1 cS0) ++ [(q_2, .inl (ar 0, (64, .inl (fun _ => 0))))]) ++ sg_3 ar u_3 cS0) H := hP
  have hD : va_D A ((([(h0, .inr (1, [.ref (u_1 2 0), .ref q_2, .ref (u_3 3 0), .int (-1), .int 0, .int 0, .int 0, .int 0, .int 0, .int 0, .int 0, .int 0, .int 0, .int 0, .long 0, .int 0, .int 0]))] ++ sg_2 ar u_1 cS0) ++ [(q_2, .inl (ar 0, (64, .inl (fun _ => 0))))]) ++ sg_3 ar u_3 cS0) := hD
  refine lv_aload_n F.1 F.2.1 d_Reader_init_54 rfl (lv_at hl 0 rfl) ?_
  refine lv_iconst (v := 0) F.1 F.2.1 d_Reader_init_55 (by decide) ?_
  refine va_put (v := .int 0) (ty := .int) F.1 F.2.1 F.2.2.2.2 ig_Reader ty_Reader tk_Reader nm_Reader F.2.2.2.1 hK.1 hP hD hS 0 rfl (rfl : classes[1]? = some (R_Reader, T_Reader, 17)) 7 (by decide) (F.2.2.2.2 _ lk_128) (fun _ h => h) rfl (tk_Reader 7 (by decide)) rfl rfl (Nat.le_of_ble_eq_true rfl) d_Reader_init_56 (fun H locs hP hD hS => ?_)
  have hP : va_P D classes ((([(h0, .inr (1, [.ref (u_1 2 0), .ref q_2, .ref (u_3 3 0), .int (-1), .int 0, .int 0, .int 0, .int 0, .int 0, .int 0, .int 0, .int 0, .int 0, .int 0, .long 0, .int 0, .int 0]))] ++ sg_2 ar u_1 cS0) ++ [(q_2, .inl (ar 0, (64, .inl (fun _ => 0))))]) ++ sg_3 ar u_3 cS0) H := hP
  have hD : va_D A ((([(h0, .inr (1, [.ref (u_1 2 0), .ref q_2, .ref (u_3 3 0), .int (-1), .int 0, .int 0, .int 0, .int 0, .int 0, .int 0, .int 0, .int 0, .int 0, .int 0, .long 0, .int 0, .int 0]))] ++ sg_2 ar u_1 cS0) ++ [(q_2, .inl (ar 0, (64, .inl (fun _ => 0))))]) ++ sg_3 ar u_3 cS0) := hD
  refine lv_aload_n F.1 F.2.1 d_Reader_init_59 rfl (lv_at hl 0 rfl) ?_
  refine lv_iconst (v := 0) F.1 F.2.1 d_Reader_init_60 (by decide) ?_
  refine va_put (v := .int 0) (ty := .int) F.1 F.2.1 F.2.2.2.2 ig_Reader ty_Reader tk_Reader nm_Reader F.2.2.2.1 hK.1 hP hD hS 0 rfl (rfl : classes[1]? = some (R_Reader, T_Reader, 17)) 8 (by decide) (F.2.2.2.2 _ lk_129) (fun _ h => h) rfl (tk_Reader 8 (by decide)) rfl rfl (Nat.le_of_ble_eq_true rfl) d_Reader_init_61 (fun H locs hP hD hS => ?_)
  have hP : va_P D classes ((([(h0, .inr (1, [.ref (u_1 2 0), .ref q_2, .ref (u_3 3 0), .int (-1), .int 0, .int 0, .int 0, .int 0, .int 0, .int 0, .int 0, .int 0, .int 0, .int 0, .long 0, .int 0, .int 0]))] ++ sg_2 ar u_1 cS0) ++ [(q_2, .inl (ar 0, (64, .inl (fun _ => 0))))]) ++ sg_3 ar u_3 cS0) H := hP
  have hD : va_D A ((([(h0, .inr (1, [.ref (u_1 2 0), .ref q_2, .ref (u_3 3 0), .int (-1), .int 0, .int 0, .int 0, .int 0, .int 0, .int 0, .int 0, .int 0, .int 0, .int 0, .long 0, .int 0, .int 0]))] ++ sg_2 ar u_1 cS0) ++ [(q_2, .inl (ar 0, (64, .inl (fun _ => 0))))]) ++ sg_3 ar u_3 cS0) := hD
  refine lv_aload_n F.1 F.2.1 d_Reader_init_64 rfl (lv_at hl 0 rfl) ?_
  refine lv_iconst (v := 0) F.1 F.2.1 d_Reader_init_65 (by decide) ?_
  refine va_put (v := .int 0) (ty := .int) F.1 F.2.1 F.2.2.2.2 ig_Reader ty_Reader tk_Reader nm_Reader F.2.2.2.1 hK.1 hP hD hS 0 rfl (rfl : classes[1]? = some (R_Reader, T_Reader, 17)) 9 (by decide) (F.2.2.2.2 _ lk_130) (fun _ h => h) rfl (tk_Reader 9 (by decide)) rfl rfl (Nat.le_of_ble_eq_true rfl) d_Reader_init_66 (fun H locs hP hD hS => ?_)
  have hP : va_P D classes ((([(h0, .inr (1, [.ref (u_1 2 0), .ref q_2, .ref (u_3 3 0), .int (-1), .int 0, .int 0, .int 0, .int 0, .int 0, .int 0, .int 0, .int 0, .int 0, .int 0, .long 0, .int 0, .int 0]))] ++ sg_2 ar u_1 cS0) ++ [(q_2, .inl (ar 0, (64, .inl (fun _ => 0))))]) ++ sg_3 ar u_3 cS0) H := hP
  have hD : va_D A ((([(h0, .inr (1, [.ref (u_1 2 0), .ref q_2, .ref (u_3 3 0), .int (-1), .int 0, .int 0, .int 0, .int 0, .int 0, .int 0, .int 0, .int 0, .int 0, .int 0, .long 0, .int 0, .int 0]))] ++ sg_2 ar u_1 cS0) ++ [(q_2, .inl (ar 0, (64, .inl (fun _ => 0))))]) ++ sg_3 ar u_3 cS0) := hD
  refine lv_aload_n F.1 F.2.1 d_Reader_init_69 rfl (lv_at hl 0 rfl) ?_
  refine lv_iconst (v := 0) F.1 F.2.1 d_Reader_init_70 (by decide) ?_
  refine va_put (v := .int 0) (ty := .int) F.1 F.2.1 F.2.2.2.2 ig_Reader ty_Reader tk_Reader nm_Reader F.2.2.2.1 hK.1 hP hD hS 0 rfl (rfl : classes[1]? = some (R_Reader, T_Reader, 17)) 10 (by decide) (F.2.2.2.2 _ lk_131) (fun _ h => h) rfl (tk_Reader 10 (by decide)) rfl rfl (Nat.le_of_ble_eq_true rfl) d_Reader_init_71 (fun H locs hP hD hS => ?_)
  have hP : va_P D classes ((([(h0, .inr (1, [.ref (u_1 2 0), .ref q_2, .ref (u_3 3 0), .int (-1), .int 0, .int 0, .int 0, .int 0, .int 0, .int 0, .int 0, .int 0, .int 0, .int 0, .long 0, .int 0, .int 0]))] ++ sg_2 ar u_1 cS0) ++ [(q_2, .inl (ar 0, (64, .inl (fun _ => 0))))]) ++ sg_3 ar u_3 cS0) H := hP
  have hD : va_D A ((([(h0, .inr (1, [.ref (u_1 2 0), .ref q_2, .ref (u_3 3 0), .int (-1), .int 0, .int 0, .int 0, .int 0, .int 0, .int 0, .int 0, .int 0, .int 0, .int 0, .long 0, .int 0, .int 0]))] ++ sg_2 ar u_1 cS0) ++ [(q_2, .inl (ar 0, (64, .inl (fun _ => 0))))]) ++ sg_3 ar u_3 cS0) := hD
  refine lv_aload_n F.1 F.2.1 d_Reader_init_74 rfl (lv_at hl 0 rfl) ?_
  refine lv_iconst (v := 0) F.1 F.2.1 d_Reader_init_75 (by decide) ?_
  refine va_put (v := .int 0) (ty := .int) F.1 F.2.1 F.2.2.2.2 ig_Reader ty_Reader tk_Reader nm_Reader F.2.2.2.1 hK.1 hP hD hS 0 rfl (rfl : classes[1]? = some (R_Reader, T_Reader, 17)) 11 (by decide) (F.2.2.2.2 _ lk_132) (fun _ h => h) rfl (tk_Reader 11 (by decide)) rfl rfl (Nat.le_of_ble_eq_true rfl) d_Reader_init_76 (fun H locs hP hD hS => ?_)
  have hP : va_P D classes ((([(h0, .inr (1, [.ref (u_1 2 0), .ref q_2, .ref (u_3 3 0), .int (-1), .int 0, .int 0, .int 0, .int 0, .int 0, .int 0, .int 0, .int 0, .int 0, .int 0, .long 0, .int 0, .int 0]))] ++ sg_2 ar u_1 cS0) ++ [(q_2, .inl (ar 0, (64, .inl (fun _ => 0))))]) ++ sg_3 ar u_3 cS0) H := hP
  have hD : va_D A ((([(h0, .inr (1, [.ref (u_1 2 0), .ref q_2, .ref (u_3 3 0), .int (-1), .int 0, .int 0, .int 0, .int 0, .int 0, .int 0, .int 0, .int 0, .int 0, .int 0, .long 0, .int 0, .int 0]))] ++ sg_2 ar u_1 cS0) ++ [(q_2, .inl (ar 0, (64, .inl (fun _ => 0))))]) ++ sg_3 ar u_3 cS0) := hD
  refine lv_aload_n F.1 F.2.1 d_Reader_init_79 rfl (lv_at hl 0 rfl) ?_
  refine lv_iconst (v := 0) F.1 F.2.1 d_Reader_init_80 (by decide) ?_
  refine va_put (v := .int 0) (ty := .int) F.1 F.2.1 F.2.2.2.2 ig_Reader ty_Reader tk_Reader nm_Reader F.2.2.2.1 hK.1 hP hD hS 0 rfl (rfl : classes[1]? = some (R_Reader, T_Reader, 17)) 12 (by decide) (F.2.2.2.2 _ lk_133) (fun _ h => h) rfl (tk_Reader 12 (by decide)) rfl rfl (Nat.le_of_ble_eq_true rfl) d_Reader_init_81 (fun H locs hP hD hS => ?_)
  have hP : va_P D classes ((([(h0, .inr (1, [.ref (u_1 2 0), .ref q_2, .ref (u_3 3 0), .int (-1), .int 0, .int 0, .int 0, .int 0, .int 0, .int 0, .int 0, .int 0, .int 0, .int 0, .long 0, .int 0, .int 0]))] ++ sg_2 ar u_1 cS0) ++ [(q_2, .inl (ar 0, (64, .inl (fun _ => 0))))]) ++ sg_3 ar u_3 cS0) H := hP
  have hD : va_D A ((([(h0, .inr (1, [.ref (u_1 2 0), .ref q_2, .ref (u_3 3 0), .int (-1), .int 0, .int 0, .int 0, .int 0, .int 0, .int 0, .int 0, .int 0, .int 0, .int 0, .long 0, .int 0, .int 0]))] ++ sg_2 ar u_1 cS0) ++ [(q_2, .inl (ar 0, (64, .inl (fun _ => 0))))]) ++ sg_3 ar u_3 cS0) := hD
  refine lv_aload_n F.1 F.2.1 d_Reader_init_84 rfl (lv_at hl 0 rfl) ?_
  refine lv_iconst (v := 0) F.1 F.2.1 d_Reader_init_85 (by decide) ?_
  refine va_put (v := .int 0) (ty := .boolean) F.1 F.2.1 F.2.2.2.2 ig_Reader ty_Reader tk_Reader nm_Reader F.2.2.2.1 hK.1 hP hD hS 0 rfl (rfl : classes[1]? = some (R_Reader, T_Reader, 17)) 13 (by decide) (F.2.2.2.2 _ lk_134) (fun _ h => h) rfl (tk_Reader 13 (by decide)) rfl rfl (Nat.le_of_ble_eq_true rfl) d_Reader_init_86 (fun H locs hP hD hS => ?_)
  have hP : va_P D classes ((([(h0, .inr (1, [.ref (u_1 2 0), .ref q_2, .ref (u_3 3 0), .int (-1), .int 0, .int 0, .int 0, .int 0, .int 0, .int 0, .int 0, .int 0, .int 0, .int 0, .long 0, .int 0, .int 0]))] ++ sg_2 ar u_1 cS0) ++ [(q_2, .inl (ar 0, (64, .inl (fun _ => 0))))]) ++ sg_3 ar u_3 cS0) H := hP
  have hD : va_D A ((([(h0, .inr (1, [.ref (u_1 2 0), .ref q_2, .ref (u_3 3 0), .int (-1), .int 0, .int 0, .int 0, .int 0, .int 0, .int 0, .int 0, .int 0, .int 0, .int 0, .long 0, .int 0, .int 0]))] ++ sg_2 ar u_1 cS0) ++ [(q_2, .inl (ar 0, (64, .inl (fun _ => 0))))]) ++ sg_3 ar u_3 cS0) := hD
  refine lv_aload_n F.1 F.2.1 d_Reader_init_89 rfl (lv_at hl 0 rfl) ?_
  refine lv_lconst (v := 0) F.1 F.2.1 d_Reader_init_90 (by decide) ?_
  refine va_put (v := .long 0) (ty := .long) F.1 F.2.1 F.2.2.2.2 ig_Reader ty_Reader tk_Reader nm_Reader F.2.2.2.1 hK.1 hP hD hS 0 rfl (rfl : classes[1]? = some (R_Reader, T_Reader, 17)) 14 (by decide) (F.2.2.2.2 _ lk_135) (fun _ h => h) rfl (tk_Reader 14 (by decide)) rfl rfl (Nat.le_of_ble_eq_true rfl) d_Reader_init_91 (fun H locs hP hD hS => ?_)
  have hP : va_P D classes ((([(h0, .inr (1, [.ref (u_1 2 0), .ref q_2, .ref (u_3 3 0), .int (-1), .int 0, .int 0, .int 0, .int 0, .int 0, .int 0, .int 0, .int 0, .int 0, .int 0, .long 0, .int 0, .int 0]))] ++ sg_2 ar u_1 cS0) ++ [(q_2, .inl (ar 0, (64, .inl (fun _ => 0))))]) ++ sg_3 ar u_3 cS0) H := hP
  have hD : va_D A ((([(h0, .inr (1, [.ref (u_1 2 0), .ref q_2, .ref (u_3 3 0), .int (-1), .int 0, .int 0, .int 0, .int 0, .int 0, .int 0, .int 0, .int 0, .int 0, .int 0, .long 0, .int 0, .int 0]))] ++ sg_2 ar u_1 cS0) ++ [(q_2, .inl (ar 0, (64, .inl (fun _ => 0))))]) ++ sg_3 ar u_3 cS0) := hD
  refine lv_aload_n F.1 F.2.1 d_Reader_init_94 rfl (lv_at hl 0 rfl) ?_
  refine lv_iconst (v := 0) F.1 F.2.1 d_Reader_init_95 (by decide) ?_
  refine va_put (v := .int 0) (ty := .int) F.1 F.2.1 F.2.2.2.2 ig_Reader ty_Reader tk_Reader nm_Reader F.2.2.2.1 hK.1 hP hD hS 0 rfl (rfl : classes[1]? = some (R_Reader, T_Reader, 17)) 15 (by decide) (F.2.2.2.2 _ lk_136) (fun _ h => h) rfl (tk_Reader 15 (by decide)) rfl rfl (Nat.le_of_ble_eq_true rfl) d_Reader_init_96 (fun H locs hP hD hS => ?_)
  have hP : va_P D classes ((([(h0, .inr (1, [.ref (u_1 2 0), .ref q_2, .ref (u_3 3 0), .int (-1), .int 0, .int 0, .int 0, .int 0, .int 0, .int 0, .int 0, .int 0, .int 0, .int 0, .long 0, .int 0, .int 0]))] ++ sg_2 ar u_1 cS0) ++ [(q_2, .inl (ar 0, (64, .inl (fun _ => 0))))]) ++ sg_3 ar u_3 cS0) H := hP
  have hD : va_D A ((([(h0, .inr (1, [.ref (u_1 2 0), .ref q_2, .ref (u_3 3 0), .int (-1), .int 0, .int 0, .int 0, .int 0, .int 0, .int 0, .int 0, .int 0, .int 0, .int 0, .long 0, .int 0, .int 0]))] ++ sg_2 ar u_1 cS0) ++ [(q_2, .inl (ar 0, (64, .inl (fun _ => 0))))]) ++ sg_3 ar u_3 cS0) := hD
  refine lv_aload_n F.1 F.2.1 d_Reader_init_99 rfl (lv_at hl 0 rfl) ?_
  refine lv_iconst (v := 0) F.1 F.2.1 d_Reader_init_100 (by decide) ?_
  refine va_put (v := .int 0) (ty := .int) F.1 F.2.1 F.2.2.2.2 ig_Reader ty_Reader tk_Reader nm_Reader F.2.2.2.1 hK.1 hP hD hS 0 rfl (rfl : classes[1]? = some (R_Reader, T_Reader, 17)) 16 (by decide) (F.2.2.2.2 _ lk_137) (fun _ h => h) rfl (tk_Reader 16 (by decide)) rfl rfl (Nat.le_of_ble_eq_true rfl) d_Reader_init_101 (fun H locs hP hD hS => ?_)
  have hP : va_P D classes ((([(h0, .inr (1, [.ref (u_1 2 0), .ref q_2, .ref (u_3 3 0), .int (-1), .int 0, .int 0, .int 0, .int 0, .int 0, .int 0, .int 0, .int 0, .int 0, .int 0, .long 0, .int 0, .int 0]))] ++ sg_2 ar u_1 cS0) ++ [(q_2, .inl (ar 0, (64, .inl (fun _ => 0))))]) ++ sg_3 ar u_3 cS0) H := hP
  have hD : va_D A ((([(h0, .inr (1, [.ref (u_1 2 0), .ref q_2, .ref (u_3 3 0), .int (-1), .int 0, .int 0, .int 0, .int 0, .int 0, .int 0, .int 0, .int 0, .int 0, .int 0, .long 0, .int 0, .int 0]))] ++ sg_2 ar u_1 cS0) ++ [(q_2, .inl (ar 0, (64, .inl (fun _ => 0))))]) ++ sg_3 ar u_3 cS0) := hD
  refine W.widen (k := 14) (n := 674) (Nat.le_of_ble_eq_true rfl) (Nat.le_of_ble_eq_true rfl) ?_
  exact hQ (fun a b : Nat => cond (Nat.beq a 1) (cond (Nat.beq b 0) h0 (cond (Nat.beq b 2) q_2 0)) (cond (Nat.beq a 2) (u_1 a b) (cond (Nat.beq a 3) (u_3 a b) 0))) H locs _ ls rfl d_Reader_init_104 (hP.sub [0, 2, 1, 3, 4, 5, 6, 7, 8, 9, 10, 11, 12, 13] rfl) (hD.sub [0, 2, 1, 3, 4, 5, 6, 7, 8, 9, 10, 11, 12, 13] (by decide) rfl) hS
