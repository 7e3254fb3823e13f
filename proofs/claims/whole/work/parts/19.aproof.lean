theorem d_Scanner_wordOrName_0 : decode b_Scanner_wordOrName 0 = .ok (.iconst 0, 1) := by decide +kernel
theorem d_Scanner_wordOrName_1 : decode b_Scanner_wordOrName 1 = .ok (.istore_n 1, 1) := by decide +kernel
theorem d_Scanner_wordOrName_2 : decode b_Scanner_wordOrName 2 = .ok (.iload_n 1, 1) := by decide +kernel
theorem d_Scanner_wordOrName_3 : decode b_Scanner_wordOrName 3 = .ok (.getstatic 71, 3) := by decide +kernel
theorem d_Scanner_wordOrName_6 : decode b_Scanner_wordOrName 6 = .ok (.arraylength, 1) := by decide +kernel
theorem d_Scanner_wordOrName_7 : decode b_Scanner_wordOrName 7 = .ok (.if_icmp .ge 27, 3) := by decide +kernel
theorem d_Scanner_wordOrName_10 : decode b_Scanner_wordOrName 10 = .ok (.getstatic 71, 3) := by decide +kernel
theorem d_Scanner_wordOrName_13 : decode b_Scanner_wordOrName 13 = .ok (.iload_n 1, 1) := by decide +kernel
theorem d_Scanner_wordOrName_14 : decode b_Scanner_wordOrName 14 = .ok (.laload, 1) := by decide +kernel
theorem d_Scanner_wordOrName_15 : decode b_Scanner_wordOrName 15 = .ok (.aload_n 0, 1) := by decide +kernel
theorem d_Scanner_wordOrName_16 : decode b_Scanner_wordOrName 16 = .ok (.getfield 31, 3) := by decide +kernel
theorem d_Scanner_wordOrName_19 : decode b_Scanner_wordOrName 19 = .ok (.lcmp, 1) := by decide +kernel
theorem d_Scanner_wordOrName_20 : decode b_Scanner_wordOrName 20 = .ok (.ifCond .ne 8, 3) := by decide +kernel
theorem d_Scanner_wordOrName_23 : decode b_Scanner_wordOrName 23 = .ok (.bipush 14, 2) := by decide +kernel
theorem d_Scanner_wordOrName_25 : decode b_Scanner_wordOrName 25 = .ok (.iload_n 1, 1) := by decide +kernel
theorem d_Scanner_wordOrName_26 : decode b_Scanner_wordOrName 26 = .ok (.iadd, 1) := by decide +kernel
theorem d_Scanner_wordOrName_27 : decode b_Scanner_wordOrName 27 = .ok (.ireturn, 1) := by decide +kernel
theorem d_Scanner_wordOrName_28 : decode b_Scanner_wordOrName 28 = .ok (.iinc 1 1, 3) := by decide +kernel
theorem d_Scanner_wordOrName_31 : decode b_Scanner_wordOrName 31 = .ok (.goto (-29), 3) := by decide +kernel
theorem d_Scanner_wordOrName_34 : decode b_Scanner_wordOrName 34 = .ok (.iconst 2, 1) := by decide +kernel
theorem d_Scanner_wordOrName_35 : decode b_Scanner_wordOrName 35 = .ok (.ireturn, 1) := by decide +kernel
set_option maxHeartbeats 4000000 in
set_option maxRecDepth 100000 in
theorem c_Scanner_wordOrName (l : Launch) {S : St} {r : Int32} (h : f_Scanner_wordOrName S = some r) : MI cw l y_Scanner_wordOrName b_Scanner_wordOrName 2 (some .int) 0 0 0 0 (fun ad => [.ref (ad 2 0)]) aT aE S r S := by
  refine MI_of "LawfulLots$Scanner" rfl (by decide) (fun _ => Nat.le_of_ble_eq_true rfl) ?_
  intro p e s m args below meth c D ar ad A Q ls hP F hK hA hw hl hQ
  have hl : lv_has ls 2 [(0, .ref (ad 2 0))] := hl
  obtain ⟨X_0, eX_0⟩ : ∃ X : Int32 → Prop, X = (fun q => ∀ (H : Heap) (locs : List Loc) (pc : Nat) (ls : Array Slot), decode b_Scanner_wordOrName pc = .ok (.ireturn, 1) → Bw cw D ar A s.heap H locs ad S → W p l e (RM 0 0) s m args below meth c H locs 0 0 Q (F0 m pc ls [.int q])) := ⟨_, rfl⟩
  have key : ∀ (H : Heap) (locs : List Loc), Bw cw D ar A s.heap H locs ad S → ∀ o, f_Scanner_wordOrName S = some o → X_0 o → W p l e (RM 0 0) s m args below meth c H locs 0 0 Q (F0 m 0 ls []) := by
    intro H locs hw o h ho
    obtain ⟨tW, hZW, hTW⟩ := hK.2.2
    unfold f_Scanner_wordOrName at h
    refine lv_iconst (v := 0) F.1 F.2.1 d_Scanner_wordOrName_0 (by decide) ?_
    refine lv_istore_n (lv' := [(1, .int (0 : Int32)), (0, .ref (ad 2 0))]) F.1 F.2.1 d_Scanner_wordOrName_1 rfl hl (by decide) rfl (fun ls hl => ?_)
    obtain ⟨P_2, eP_2⟩ : ∃ P : Int32 → Prop, P = (fun q => ∀ (H : Heap) (locs : List Loc) (ls : Array Slot), Bw cw D ar A s.heap H locs ad S → lv_has ls 2 [(0, .ref (ad 2 0)), (1, .int q)] → W p l e (RM 0 0) s m args below meth c H locs 0 0 Q (F0 m 2 ls [])) := ⟨_, rfl⟩
    have hL_2 : P_2 (0 : Int32) := by
      refine wh_gp (P := P_2) (X := X_0) h ho ?_
      clear h ho
      intro x1 o h ho
      have h : Scanner_wordOrName_l2 S x1 = some o := h
      unfold Scanner_wordOrName_l2 at h
      rw [eP_2]
      intro H locs ls hw hl
      refine lv_iload_n F.1 F.2.1 d_Scanner_wordOrName_2 rfl (lv_at hl 1 rfl) ?_
      refine va_getsN F.1 F.2.1 hZW hw.2.2 F.2.2.2.1 (va_Nw.use rfl (hK.2.1 _ lk_423)) (fun _ h => h) d_Scanner_wordOrName_3 ?_
      refine va_tlen F.1 F.2.1 hTW hw.2.2 rfl d_Scanner_wordOrName_6 ?_
      refine lv_icmp_ge (tgt := 34) F.1 F.2.1 d_Scanner_wordOrName_7 (by decide) (fun c_1 => ?_) (fun c_1 => ?_)
      · replace h := ip c_1 h
        refine lv_iconst (v := 2) F.1 F.2.1 d_Scanner_wordOrName_34 (by decide) ?_
        cases h
        have ho : X_0 _ := ho
        rw [eX_0] at ho
        exact ho H locs _ ls d_Scanner_wordOrName_35 hw
      · replace h := iq c_1 h
        refine va_getsN F.1 F.2.1 hZW hw.2.2 F.2.2.2.1 (va_Nw.use rfl (hK.2.1 _ lk_423)) (fun _ h => h) d_Scanner_wordOrName_10 ?_
        refine lv_iload_n F.1 F.2.1 d_Scanner_wordOrName_13 rfl (lv_at hl 1 rfl) ?_
        obtain ⟨hi_2, h⟩ := gd_ex h
        refine va_tl F.1 F.2.1 hTW hw.2.2 (inb_in hi_2) (v := .long (wdF x1.toNatClampNeg)) rfl d_Scanner_wordOrName_14 ?_
        refine lv_aload_n F.1 F.2.1 d_Scanner_wordOrName_15 rfl (lv_at hl 0 rfl) ?_
        refine cg_2_6 F hK hw lk_43 d_Scanner_wordOrName_16 ?_
        refine W.lcmp F.1 F.2.1 d_Scanner_wordOrName_19 ?_
        refine lv_if_ne (tgt := 28) F.1 F.2.1 d_Scanner_wordOrName_20 (by decide) (fun c_3 => ?_) (fun c_3 => ?_)
        · replace h := iq c_3 h
          obtain ⟨x1_4, ex1_4, h⟩ := nm_ex h
          refine lv_iinc (v := x1_4) (lv' := [(1, .int x1_4), (0, .ref (ad 2 0))]) F.1 F.2.1 d_Scanner_wordOrName_28 hl (k := 1) rfl (by rw [ex1_4]; rfl) (by decide) rfl (fun ls hl => ?_)
          refine lv_goto (tgt := 2) F.1 F.2.1 d_Scanner_wordOrName_31 (by decide) ?_
          cases h
          have ho : P_2 _ := ho
          rw [eP_2] at ho
          exact ho H locs ls hw (lv_sub hl [1, 0] rfl)
        · replace h := ip c_3 h
          refine lv_bipush (v := 14) F.1 F.2.1 d_Scanner_wordOrName_23 (by decide) ?_
          refine lv_iload_n F.1 F.2.1 d_Scanner_wordOrName_25 rfl (lv_at hl 1 rfl) ?_
          refine lv_iadd F.1 F.2.1 d_Scanner_wordOrName_26 ?_
          cases h
          have ho : X_0 _ := ho
          rw [eX_0] at ho
          exact ho H locs _ ls d_Scanner_wordOrName_27 hw
    rw [eP_2] at hL_2
    exact hL_2 H locs ls hw (lv_sub hl [1, 0] rfl)
  exact key _ _ hw _ h (by rw [eX_0]; exact fun H locs pc ls hd hw => hQ H locs pc ls ad rfl hd hw)
theorem d_Scanner_scanName_0 : decode b_Scanner_scanName 0 = .ok (.aload_n 0, 1) := by decide +kernel
theorem d_Scanner_scanName_1 : decode b_Scanner_scanName 1 = .ok (.lconst 0, 1) := by decide +kernel
theorem d_Scanner_scanName_2 : decode b_Scanner_scanName 2 = .ok (.putfield 31, 3) := by decide +kernel
theorem d_Scanner_scanName_5 : decode b_Scanner_scanName 5 = .ok (.aload_n 0, 1) := by decide +kernel
theorem d_Scanner_scanName_6 : decode b_Scanner_scanName 6 = .ok (.getfield 19, 3) := by decide +kernel
theorem d_Scanner_scanName_9 : decode b_Scanner_scanName 9 = .ok (.aload_n 0, 1) := by decide +kernel
theorem d_Scanner_scanName_10 : decode b_Scanner_scanName 10 = .ok (.getfield 15, 3) := by decide +kernel
theorem d_Scanner_scanName_13 : decode b_Scanner_scanName 13 = .ok (.if_icmp .ge 68, 3) := by decide +kernel
theorem d_Scanner_scanName_16 : decode b_Scanner_scanName 16 = .ok (.aload_n 0, 1) := by decide +kernel
theorem d_Scanner_scanName_17 : decode b_Scanner_scanName 17 = .ok (.getfield 9, 3) := by decide +kernel
theorem d_Scanner_scanName_20 : decode b_Scanner_scanName 20 = .ok (.aload_n 0, 1) := by decide +kernel
theorem d_Scanner_scanName_21 : decode b_Scanner_scanName 21 = .ok (.getfield 19, 3) := by decide +kernel
theorem d_Scanner_scanName_24 : decode b_Scanner_scanName 24 = .ok (.baload, 1) := by decide +kernel
theorem d_Scanner_scanName_25 : decode b_Scanner_scanName 25 = .ok (.invokestatic 51, 3) := by decide +kernel
theorem d_Scanner_scanName_28 : decode b_Scanner_scanName 28 = .ok (.ifCond .ne 18, 3) := by decide +kernel
theorem d_Scanner_scanName_31 : decode b_Scanner_scanName 31 = .ok (.aload_n 0, 1) := by decide +kernel
theorem d_Scanner_scanName_32 : decode b_Scanner_scanName 32 = .ok (.getfield 9, 3) := by decide +kernel
theorem d_Scanner_scanName_35 : decode b_Scanner_scanName 35 = .ok (.aload_n 0, 1) := by decide +kernel
theorem d_Scanner_scanName_36 : decode b_Scanner_scanName 36 = .ok (.getfield 19, 3) := by decide +kernel
theorem d_Scanner_scanName_39 : decode b_Scanner_scanName 39 = .ok (.baload, 1) := by decide +kernel
theorem d_Scanner_scanName_40 : decode b_Scanner_scanName 40 = .ok (.invokestatic 57, 3) := by decide +kernel
theorem d_Scanner_scanName_43 : decode b_Scanner_scanName 43 = .ok (.ifCond .eq 38, 3) := by decide +kernel
theorem d_Scanner_scanName_46 : decode b_Scanner_scanName 46 = .ok (.aload_n 0, 1) := by decide +kernel
theorem d_Scanner_scanName_47 : decode b_Scanner_scanName 47 = .ok (.aload_n 0, 1) := by decide +kernel
theorem d_Scanner_scanName_48 : decode b_Scanner_scanName 48 = .ok (.getfield 31, 3) := by decide +kernel
theorem d_Scanner_scanName_51 : decode b_Scanner_scanName 51 = .ok (.bipush 8, 2) := by decide +kernel
theorem d_Scanner_scanName_53 : decode b_Scanner_scanName 53 = .ok (.lshl, 1) := by decide +kernel
theorem d_Scanner_scanName_54 : decode b_Scanner_scanName 54 = .ok (.aload_n 0, 1) := by decide +kernel
theorem d_Scanner_scanName_55 : decode b_Scanner_scanName 55 = .ok (.getfield 9, 3) := by decide +kernel
theorem d_Scanner_scanName_58 : decode b_Scanner_scanName 58 = .ok (.aload_n 0, 1) := by decide +kernel
theorem d_Scanner_scanName_59 : decode b_Scanner_scanName 59 = .ok (.getfield 19, 3) := by decide +kernel
theorem d_Scanner_scanName_62 : decode b_Scanner_scanName 62 = .ok (.baload, 1) := by decide +kernel
theorem d_Scanner_scanName_63 : decode b_Scanner_scanName 63 = .ok (.i2l, 1) := by decide +kernel
theorem d_Scanner_scanName_64 : decode b_Scanner_scanName 64 = .ok (.lor, 1) := by decide +kernel
theorem d_Scanner_scanName_65 : decode b_Scanner_scanName 65 = .ok (.putfield 31, 3) := by decide +kernel
theorem d_Scanner_scanName_68 : decode b_Scanner_scanName 68 = .ok (.aload_n 0, 1) := by decide +kernel
theorem d_Scanner_scanName_69 : decode b_Scanner_scanName 69 = .ok (.dup, 1) := by decide +kernel
theorem d_Scanner_scanName_70 : decode b_Scanner_scanName 70 = .ok (.getfield 19, 3) := by decide +kernel
theorem d_Scanner_scanName_73 : decode b_Scanner_scanName 73 = .ok (.iconst 1, 1) := by decide +kernel
theorem d_Scanner_scanName_74 : decode b_Scanner_scanName 74 = .ok (.iadd, 1) := by decide +kernel
theorem d_Scanner_scanName_75 : decode b_Scanner_scanName 75 = .ok (.putfield 19, 3) := by decide +kernel
theorem d_Scanner_scanName_78 : decode b_Scanner_scanName 78 = .ok (.goto (-73), 3) := by decide +kernel
theorem d_Scanner_scanName_81 : decode b_Scanner_scanName 81 = .ok (.aload_n 0, 1) := by decide +kernel
theorem d_Scanner_scanName_82 : decode b_Scanner_scanName 82 = .ok (.aload_n 0, 1) := by decide +kernel
theorem d_Scanner_scanName_83 : decode b_Scanner_scanName 83 = .ok (.getfield 19, 3) := by decide +kernel
theorem d_Scanner_scanName_86 : decode b_Scanner_scanName 86 = .ok (.aload_n 0, 1) := by decide +kernel
theorem d_Scanner_scanName_87 : decode b_Scanner_scanName 87 = .ok (.getfield 25, 3) := by decide +kernel
theorem d_Scanner_scanName_90 : decode b_Scanner_scanName 90 = .ok (.isub, 1) := by decide +kernel
theorem d_Scanner_scanName_91 : decode b_Scanner_scanName 91 = .ok (.bipush 8, 2) := by decide +kernel
theorem d_Scanner_scanName_93 : decode b_Scanner_scanName 93 = .ok (.if_icmp .le 7, 3) := by decide +kernel
theorem d_Scanner_scanName_96 : decode b_Scanner_scanName 96 = .ok (.iconst 1, 1) := by decide +kernel
theorem d_Scanner_scanName_97 : decode b_Scanner_scanName 97 = .ok (.goto 7, 3) := by decide +kernel
theorem d_Scanner_scanName_100 : decode b_Scanner_scanName 100 = .ok (.aload_n 0, 1) := by decide +kernel
theorem d_Scanner_scanName_101 : decode b_Scanner_scanName 101 = .ok (.invokevirtual 67, 3) := by decide +kernel
theorem d_Scanner_scanName_104 : decode b_Scanner_scanName 104 = .ok (.putfield 22, 3) := by decide +kernel
theorem d_Scanner_scanName_107 : decode b_Scanner_scanName 107 = .ok (.return_, 1) := by decide +kernel
set_option maxHeartbeats 4000000 in
set_option maxRecDepth 100000 in
theorem c_Scanner_scanName (l : Launch) {S : St} {S' : St} (h : f_Scanner_scanName S = some S') : MV cw l y_Scanner_scanName b_Scanner_scanName 1 none 1 21 0 0 (fun ad => [.ref (ad 2 0)]) aX aE S S' := by
  refine MV_of "LawfulLots$Scanner" rfl (by decide) (fun _ => Nat.le_of_ble_eq_true rfl) ?_
  intro p e s m args below meth c D ar ad A Q ls hP F hK hA hw hl hQ
  have hl : lv_has ls 1 [(0, .ref (ad 2 0))] := hl
  obtain ⟨X_0, eX_0⟩ : ∃ X : St → Prop, X = (fun q => ∀ (H : Heap) (locs : List Loc) (pc : Nat) (ls : Array Slot), decode b_Scanner_scanName pc = .ok (.return_, 1) → Bw cw D ar A s.heap H locs ad q → W p l e (RM 1 21) s m args below meth c H locs 0 0 Q (F0 m pc ls [])) := ⟨_, rfl⟩
  have key : ∀ (H : Heap) (locs : List Loc), Bw cw D ar A s.heap H locs ad S → ∀ o, f_Scanner_scanName S = some o → X_0 o → W p l e (RM 1 21) s m args below meth c H locs 0 0 Q (F0 m 0 ls []) := by
    intro H locs hw o h ho
    unfold f_Scanner_scanName at h
    have J_104 : ∀ (S : St) (t1 : Int32) (H : Heap) (locs : List Loc) (ls : Array Slot), Bw cw D ar A s.heap H locs ad S → lv_has ls 1 [] → ∀ o, Scanner_scanName_j104 S t1 = some o → X_0 o → W p l e (RM 1 21) s m args below meth c H locs 0 0 Q (F0 m 104 ls [.int t1, .ref (ad 2 0)]) := by
      intro S t1 H locs ls hw hl o h ho
      unfold Scanner_scanName_j104 at h
      obtain ⟨S_19, eS_19, h⟩ := nm_ex h
      refine cp_2_3 F hK hw lk_37 d_Scanner_scanName_104 eS_19 (fun H locs hw => ?_)
      cases h
      have ho : X_0 _ := ho
      rw [eX_0] at ho
      exact ho H locs _ ls d_Scanner_scanName_107 hw
    have J_81 : ∀ (S : St) (H : Heap) (locs : List Loc) (ls : Array Slot), Bw cw D ar A s.heap H locs ad S → lv_has ls 1 [(0, .ref (ad 2 0))] → ∀ o, Scanner_scanName_j81 S = some o → X_0 o → W p l e (RM 1 21) s m args below meth c H locs 0 0 Q (F0 m 81 ls []) := by
      intro S H locs ls hw hl o h ho
      unfold Scanner_scanName_j81 at h
      refine lv_aload_n F.1 F.2.1 d_Scanner_scanName_81 rfl (lv_at hl 0 rfl) ?_
      refine lv_aload_n F.1 F.2.1 d_Scanner_scanName_82 rfl (lv_at hl 0 rfl) ?_
      refine cg_2_2 F hK hw lk_36 d_Scanner_scanName_83 ?_
      refine lv_aload_n F.1 F.2.1 d_Scanner_scanName_86 rfl (lv_at hl 0 rfl) ?_
      refine cg_2_4 F hK hw lk_39 d_Scanner_scanName_87 ?_
      refine lv_isub F.1 F.2.1 d_Scanner_scanName_90 ?_
      refine lv_bipush (v := 8) F.1 F.2.1 d_Scanner_scanName_91 (by decide) ?_
      refine lv_icmp_le (tgt := 100) F.1 F.2.1 d_Scanner_scanName_93 (by decide) (fun c_16 => ?_) (fun c_16 => ?_)
      · replace h := ip c_16 h
        refine lv_aload_n F.1 F.2.1 d_Scanner_scanName_100 rfl (lv_at hl 0 rfl) ?_
        obtain ⟨v_18, hc_17, h⟩ := bd_ex h
        refine cV_i F hA rfl hK hw (c_Scanner_wordOrName l hc_17) trivial rfl (good_V lk_419 lk_421 ls_2 lk_3 lk_422) (cr_2 hK hw) hd_Scanner_wordOrName ⟨Nat.le_of_ble_eq_true rfl, Nat.le_of_ble_eq_true rfl⟩ rfl hl.1 rfl (Nat.le_of_ble_eq_true rfl) d_Scanner_scanName_101 ⟨(Nat.zero_le _), (Nat.zero_le _)⟩ (fun H locs hw => ?_)
        exact J_104 S v_18 H locs ls hw (lv_sub hl [] rfl) o h ho
      · replace h := iq c_16 h
        refine lv_iconst (v := 1) F.1 F.2.1 d_Scanner_scanName_96 (by decide) ?_
        refine lv_goto (tgt := 104) F.1 F.2.1 d_Scanner_scanName_97 (by decide) ?_
        exact J_104 S (1 : Int32) H locs ls hw (lv_sub hl [] rfl) o h ho
    refine lv_aload_n F.1 F.2.1 d_Scanner_scanName_0 rfl (lv_at hl 0 rfl) ?_
    refine lv_lconst (v := 0) F.1 F.2.1 d_Scanner_scanName_1 (by decide) ?_
    obtain ⟨S_1, eS_1, h⟩ := nm_ex h
    refine cp_2_6 F hK hw lk_43 d_Scanner_scanName_2 eS_1 (fun H locs hw => ?_)
    obtain ⟨S_14, hc_15, h⟩ := bd_ex h
    obtain ⟨X_5, eX_5⟩ : ∃ X : St → Prop, X = (fun q => ∀ (H : Heap) (locs : List Loc) (ls : Array Slot), Bw cw D ar A s.heap H locs ad q → lv_has ls 1 [(0, .ref (ad 2 0))] → W p l e (RM 1 21) s m args below meth c H locs 0 0 Q (F0 m 81 ls [])) := ⟨_, rfl⟩
    have hX_5 : X_5 S_14 := by
      rw [eX_5]
      intro H locs ls hw hl
      exact J_81 S_14 H locs ls hw (lv_sub hl [0] rfl) o h ho
    obtain ⟨P_5, eP_5⟩ : ∃ P : St → Prop, P = (fun q => ∀ (H : Heap) (locs : List Loc) (ls : Array Slot), Bw cw D ar A s.heap H locs ad q → lv_has ls 1 [(0, .ref (ad 2 0))] → W p l e (RM 1 21) s m args below meth c H locs 0 0 Q (F0 m 5 ls [])) := ⟨_, rfl⟩
    have hL_5 : P_5 S_1 := by
      refine wh_gp (P := P_5) (X := X_5) hc_15 hX_5 ?_
      clear h
      intro S o h ho
      have h : Scanner_scanName_l5 S = some o := h
      unfold Scanner_scanName_l5 at h
      rw [eP_5]
      intro H locs ls hw hl
      have J_46_l5 : ∀ (S : St) (H : Heap) (locs : List Loc) (ls : Array Slot), Bw cw D ar A s.heap H locs ad S → lv_has ls 1 [(0, .ref (ad 2 0))] → ∀ o, Scanner_scanName_j46_l5 S = some o → (Sum.elim P_5 X_5) o → W p l e (RM 1 21) s m args below meth c H locs 0 0 Q (F0 m 46 ls []) := by
        intro S H locs ls hw hl o h ho
        unfold Scanner_scanName_j46_l5 at h
        refine lv_aload_n F.1 F.2.1 d_Scanner_scanName_46 rfl (lv_at hl 0 rfl) ?_
        refine lv_aload_n F.1 F.2.1 d_Scanner_scanName_47 rfl (lv_at hl 0 rfl) ?_
        refine cg_2_6 F hK hw lk_43 d_Scanner_scanName_48 ?_
        refine lv_bipush (v := 8) F.1 F.2.1 d_Scanner_scanName_51 (by decide) ?_
        refine lv_lshl F.1 F.2.1 d_Scanner_scanName_53 rfl ?_
        refine lv_aload_n F.1 F.2.1 d_Scanner_scanName_54 rfl (lv_at hl 0 rfl) ?_
        refine cg_2_0T F hK hw hP lk_34 d_Scanner_scanName_55 ?_
        refine lv_aload_n F.1 F.2.1 d_Scanner_scanName_58 rfl (lv_at hl 0 rfl) ?_
        refine cg_2_2 F hK hw lk_36 d_Scanner_scanName_59 ?_
        obtain ⟨hi_11, h⟩ := gd_ex h
        refine cl_0_0 F hK hw hi_11 d_Scanner_scanName_62 ?_
        refine lv_i2l F.1 F.2.1 d_Scanner_scanName_63 rfl ?_
        refine lv_lor F.1 F.2.1 d_Scanner_scanName_64 ?_
        obtain ⟨S_12, eS_12, h⟩ := nm_ex h
        refine cp_2_6 F hK hw lk_43 d_Scanner_scanName_65 eS_12 (fun H locs hw => ?_)
        refine lv_aload_n F.1 F.2.1 d_Scanner_scanName_68 rfl (lv_at hl 0 rfl) ?_
        refine lv_dup F.1 F.2.1 d_Scanner_scanName_69 rfl ?_
        refine cg_2_2 F hK hw lk_36 d_Scanner_scanName_70 ?_
        refine lv_iconst (v := 1) F.1 F.2.1 d_Scanner_scanName_73 (by decide) ?_
        refine lv_iadd F.1 F.2.1 d_Scanner_scanName_74 ?_
        obtain ⟨S_13, eS_13, h⟩ := nm_ex h
        refine cp_2_2 F hK hw lk_36 d_Scanner_scanName_75 eS_13 (fun H locs hw => ?_)
        refine lv_goto (tgt := 5) F.1 F.2.1 d_Scanner_scanName_78 (by decide) ?_
        cases h
        have ho : P_5 _ := ho
        rw [eP_5] at ho
        exact ho H locs ls hw (lv_sub hl [0] rfl)
      refine lv_aload_n F.1 F.2.1 d_Scanner_scanName_5 rfl (lv_at hl 0 rfl) ?_
      refine cg_2_2 F hK hw lk_36 d_Scanner_scanName_6 ?_
      refine lv_aload_n F.1 F.2.1 d_Scanner_scanName_9 rfl (lv_at hl 0 rfl) ?_
      refine cg_2_1 F hK hw lk_35 d_Scanner_scanName_10 ?_
      refine lv_icmp_ge (tgt := 81) F.1 F.2.1 d_Scanner_scanName_13 (by decide) (fun c_2 => ?_) (fun c_2 => ?_)
      · replace h := ip c_2 h
        cases h
        have ho : X_5 _ := ho
        rw [eX_5] at ho
        exact ho H locs ls hw (lv_sub hl [0] rfl)
      · replace h := iq c_2 h
        refine lv_aload_n F.1 F.2.1 d_Scanner_scanName_16 rfl (lv_at hl 0 rfl) ?_
        refine cg_2_0T F hK hw hP lk_34 d_Scanner_scanName_17 ?_
        refine lv_aload_n F.1 F.2.1 d_Scanner_scanName_20 rfl (lv_at hl 0 rfl) ?_
        refine cg_2_2 F hK hw lk_36 d_Scanner_scanName_21 ?_
        obtain ⟨hi_3, h⟩ := gd_ex h
        refine cl_0_0 F hK hw hi_3 d_Scanner_scanName_24 ?_
        obtain ⟨v_5, hc_4, h⟩ := bd_ex h
        refine cS_i F hA rfl hK hw (c_Scanner_isLetter l S hc_4) trivial rfl (good_S lk_409 lk_410 lk_3 lk_411) hd_Scanner_isLetter ⟨Nat.le_of_ble_eq_true rfl, Nat.le_of_ble_eq_true rfl⟩ rfl hl.1 rfl (Nat.le_of_ble_eq_true rfl) d_Scanner_scanName_25 ⟨(Nat.zero_le _), (Nat.zero_le _)⟩ (fun H locs hw => ?_)
        refine lv_if_ne (tgt := 46) F.1 F.2.1 d_Scanner_scanName_28 (by decide) (fun c_6 => ?_) (fun c_6 => ?_)
        · replace h := iq c_6 h
          exact J_46_l5 S H locs ls hw (lv_sub hl [0] rfl) o h ho
        · replace h := ip c_6 h
          refine lv_aload_n F.1 F.2.1 d_Scanner_scanName_31 rfl (lv_at hl 0 rfl) ?_
          refine cg_2_0T F hK hw hP lk_34 d_Scanner_scanName_32 ?_
          refine lv_aload_n F.1 F.2.1 d_Scanner_scanName_35 rfl (lv_at hl 0 rfl) ?_
          refine cg_2_2 F hK hw lk_36 d_Scanner_scanName_36 ?_
          obtain ⟨hi_7, h⟩ := gd_ex h
          refine cl_0_0 F hK hw hi_7 d_Scanner_scanName_39 ?_
          obtain ⟨v_9, hc_8, h⟩ := bd_ex h
          refine cS_i F hA rfl hK hw (c_Scanner_isDigit l S hc_8) trivial rfl (good_S lk_416 lk_417 lk_3 lk_418) hd_Scanner_isDigit ⟨Nat.le_of_ble_eq_true rfl, Nat.le_of_ble_eq_true rfl⟩ rfl hl.1 rfl (Nat.le_of_ble_eq_true rfl) d_Scanner_scanName_40 ⟨(Nat.zero_le _), (Nat.zero_le _)⟩ (fun H locs hw => ?_)
          refine lv_if_eq (tgt := 81) F.1 F.2.1 d_Scanner_scanName_43 (by decide) (fun c_10 => ?_) (fun c_10 => ?_)
          · replace h := ip c_10 h
            cases h
            have ho : X_5 _ := ho
            rw [eX_5] at ho
            exact ho H locs ls hw (lv_sub hl [0] rfl)
          · replace h := iq c_10 h
            exact J_46_l5 S H locs ls hw (lv_sub hl [0] rfl) o h ho
    rw [eP_5] at hL_5
    exact hL_5 H locs ls hw (lv_sub hl [0] rfl)
  exact key _ _ hw _ h (by rw [eX_0]; exact fun H locs pc ls hd hw => hQ H locs pc ls ad rfl hd hw)
theorem d_Scanner_advance_0 : decode b_Scanner_advance 0 = .ok (.aload_n 0, 1) := by decide +kernel
theorem d_Scanner_advance_1 : decode b_Scanner_advance 1 = .ok (.getfield 19, 3) := by decide +kernel
theorem d_Scanner_advance_4 : decode b_Scanner_advance 4 = .ok (.aload_n 0, 1) := by decide +kernel
theorem d_Scanner_advance_5 : decode b_Scanner_advance 5 = .ok (.getfield 15, 3) := by decide +kernel
theorem d_Scanner_advance_8 : decode b_Scanner_advance 8 = .ok (.if_icmp .ge 31, 3) := by decide +kernel
theorem d_Scanner_advance_11 : decode b_Scanner_advance 11 = .ok (.aload_n 0, 1) := by decide +kernel
theorem d_Scanner_advance_12 : decode b_Scanner_advance 12 = .ok (.getfield 9, 3) := by decide +kernel
theorem d_Scanner_advance_15 : decode b_Scanner_advance 15 = .ok (.aload_n 0, 1) := by decide +kernel
theorem d_Scanner_advance_16 : decode b_Scanner_advance 16 = .ok (.getfield 19, 3) := by decide +kernel
theorem d_Scanner_advance_19 : decode b_Scanner_advance 19 = .ok (.baload, 1) := by decide +kernel
theorem d_Scanner_advance_20 : decode b_Scanner_advance 20 = .ok (.invokestatic 47, 3) := by decide +kernel
theorem d_Scanner_advance_23 : decode b_Scanner_advance 23 = .ok (.ifCond .eq 16, 3) := by decide +kernel
theorem d_Scanner_advance_26 : decode b_Scanner_advance 26 = .ok (.aload_n 0, 1) := by decide +kernel
theorem d_Scanner_advance_27 : decode b_Scanner_advance 27 = .ok (.dup, 1) := by decide +kernel
theorem d_Scanner_advance_28 : decode b_Scanner_advance 28 = .ok (.getfield 19, 3) := by decide +kernel
theorem d_Scanner_advance_31 : decode b_Scanner_advance 31 = .ok (.iconst 1, 1) := by decide +kernel
theorem d_Scanner_advance_32 : decode b_Scanner_advance 32 = .ok (.iadd, 1) := by decide +kernel
theorem d_Scanner_advance_33 : decode b_Scanner_advance 33 = .ok (.putfield 19, 3) := by decide +kernel
theorem d_Scanner_advance_36 : decode b_Scanner_advance 36 = .ok (.goto (-36), 3) := by decide +kernel
theorem d_Scanner_advance_39 : decode b_Scanner_advance 39 = .ok (.aload_n 0, 1) := by decide +kernel
theorem d_Scanner_advance_40 : decode b_Scanner_advance 40 = .ok (.aload_n 0, 1) := by decide +kernel
theorem d_Scanner_advance_41 : decode b_Scanner_advance 41 = .ok (.getfield 19, 3) := by decide +kernel
theorem d_Scanner_advance_44 : decode b_Scanner_advance 44 = .ok (.putfield 25, 3) := by decide +kernel
theorem d_Scanner_advance_47 : decode b_Scanner_advance 47 = .ok (.aload_n 0, 1) := by decide +kernel
theorem d_Scanner_advance_48 : decode b_Scanner_advance 48 = .ok (.getfield 19, 3) := by decide +kernel
theorem d_Scanner_advance_51 : decode b_Scanner_advance 51 = .ok (.aload_n 0, 1) := by decide +kernel
theorem d_Scanner_advance_52 : decode b_Scanner_advance 52 = .ok (.getfield 15, 3) := by decide +kernel
theorem d_Scanner_advance_55 : decode b_Scanner_advance 55 = .ok (.if_icmp .lt 11, 3) := by decide +kernel
theorem d_Scanner_advance_58 : decode b_Scanner_advance 58 = .ok (.aload_n 0, 1) := by decide +kernel
theorem d_Scanner_advance_59 : decode b_Scanner_advance 59 = .ok (.iconst 0, 1) := by decide +kernel
theorem d_Scanner_advance_60 : decode b_Scanner_advance 60 = .ok (.putfield 22, 3) := by decide +kernel
theorem d_Scanner_advance_63 : decode b_Scanner_advance 63 = .ok (.goto 60, 3) := by decide +kernel
theorem d_Scanner_advance_66 : decode b_Scanner_advance 66 = .ok (.aload_n 0, 1) := by decide +kernel
theorem d_Scanner_advance_67 : decode b_Scanner_advance 67 = .ok (.getfield 9, 3) := by decide +kernel
theorem d_Scanner_advance_70 : decode b_Scanner_advance 70 = .ok (.aload_n 0, 1) := by decide +kernel
theorem d_Scanner_advance_71 : decode b_Scanner_advance 71 = .ok (.getfield 19, 3) := by decide +kernel
theorem d_Scanner_advance_74 : decode b_Scanner_advance 74 = .ok (.baload, 1) := by decide +kernel
theorem d_Scanner_advance_75 : decode b_Scanner_advance 75 = .ok (.invokestatic 51, 3) := by decide +kernel
theorem d_Scanner_advance_78 : decode b_Scanner_advance 78 = .ok (.ifCond .eq 10, 3) := by decide +kernel
theorem d_Scanner_advance_81 : decode b_Scanner_advance 81 = .ok (.aload_n 0, 1) := by decide +kernel
theorem d_Scanner_advance_82 : decode b_Scanner_advance 82 = .ok (.invokevirtual 54, 3) := by decide +kernel
theorem d_Scanner_advance_85 : decode b_Scanner_advance 85 = .ok (.goto 38, 3) := by decide +kernel
theorem d_Scanner_advance_88 : decode b_Scanner_advance 88 = .ok (.aload_n 0, 1) := by decide +kernel
theorem d_Scanner_advance_89 : decode b_Scanner_advance 89 = .ok (.getfield 9, 3) := by decide +kernel
theorem d_Scanner_advance_92 : decode b_Scanner_advance 92 = .ok (.aload_n 0, 1) := by decide +kernel
theorem d_Scanner_advance_93 : decode b_Scanner_advance 93 = .ok (.getfield 19, 3) := by decide +kernel
theorem d_Scanner_advance_96 : decode b_Scanner_advance 96 = .ok (.baload, 1) := by decide +kernel
theorem d_Scanner_advance_97 : decode b_Scanner_advance 97 = .ok (.invokestatic 57, 3) := by decide +kernel
theorem d_Scanner_advance_100 : decode b_Scanner_advance 100 = .ok (.ifCond .eq 10, 3) := by decide +kernel
theorem d_Scanner_advance_103 : decode b_Scanner_advance 103 = .ok (.aload_n 0, 1) := by decide +kernel
theorem d_Scanner_advance_104 : decode b_Scanner_advance 104 = .ok (.invokevirtual 60, 3) := by decide +kernel
theorem d_Scanner_advance_107 : decode b_Scanner_advance 107 = .ok (.goto 16, 3) := by decide +kernel
theorem d_Scanner_advance_110 : decode b_Scanner_advance 110 = .ok (.aload_n 0, 1) := by decide +kernel
theorem d_Scanner_advance_111 : decode b_Scanner_advance 111 = .ok (.aload_n 0, 1) := by decide +kernel
theorem d_Scanner_advance_112 : decode b_Scanner_advance 112 = .ok (.getfield 9, 3) := by decide +kernel
theorem d_Scanner_advance_115 : decode b_Scanner_advance 115 = .ok (.aload_n 0, 1) := by decide +kernel
theorem d_Scanner_advance_116 : decode b_Scanner_advance 116 = .ok (.getfield 19, 3) := by decide +kernel
theorem d_Scanner_advance_119 : decode b_Scanner_advance 119 = .ok (.baload, 1) := by decide +kernel
theorem d_Scanner_advance_120 : decode b_Scanner_advance 120 = .ok (.invokevirtual 63, 3) := by decide +kernel
theorem d_Scanner_advance_123 : decode b_Scanner_advance 123 = .ok (.return_, 1) := by decide +kernel
set_option maxHeartbeats 4000000 in
set_option maxRecDepth 100000 in
theorem c_Scanner_advance (l : Launch) {S : St} {S' : St} (h : f_Scanner_advance S = some S') : MV cw l y_Scanner_advance b_Scanner_advance 1 none 2 42 0 0 (fun ad => [.ref (ad 2 0)]) aX aE S S' := by
  refine MV_of "LawfulLots$Scanner" rfl (by decide) (fun _ => Nat.le_of_ble_eq_true rfl) ?_
  intro p e s m args below meth c D ar ad A Q ls hP F hK hA hw hl hQ
  have hl : lv_has ls 1 [(0, .ref (ad 2 0))] := hl
  obtain ⟨X_0, eX_0⟩ : ∃ X : St → Prop, X = (fun q => ∀ (H : Heap) (locs : List Loc) (pc : Nat) (ls : Array Slot), decode b_Scanner_advance pc = .ok (.return_, 1) → Bw cw D ar A s.heap H locs ad q → W p l e (RM 2 42) s m args below meth c H locs 0 0 Q (F0 m pc ls [])) := ⟨_, rfl⟩
  have key : ∀ (H : Heap) (locs : List Loc), Bw cw D ar A s.heap H locs ad S → ∀ o, f_Scanner_advance S = some o → X_0 o → W p l e (RM 2 42) s m args below meth c H locs 0 0 Q (F0 m 0 ls []) := by
    intro H locs hw o h ho
    unfold f_Scanner_advance at h
    have J_123 : ∀ (S : St) (H : Heap) (locs : List Loc) (ls : Array Slot), Bw cw D ar A s.heap H locs ad S → lv_has ls 1 [] → ∀ o, Scanner_advance_j123 S = some o → X_0 o → W p l e (RM 2 42) s m args below meth c H locs 0 0 Q (F0 m 123 ls []) := by
      intro S H locs ls hw hl o h ho
      unfold Scanner_advance_j123 at h
      cases h
      have ho : X_0 _ := ho
      rw [eX_0] at ho
      exact ho H locs _ ls d_Scanner_advance_123 hw
    have J_39 : ∀ (S : St) (H : Heap) (locs : List Loc) (ls : Array Slot), Bw cw D ar A s.heap H locs ad S → lv_has ls 1 [(0, .ref (ad 2 0))] → ∀ o, Scanner_advance_j39 S = some o → X_0 o → W p l e (RM 2 42) s m args below meth c H locs 0 0 Q (F0 m 39 ls []) := by
      intro S H locs ls hw hl o h ho
      unfold Scanner_advance_j39 at h
      refine lv_aload_n F.1 F.2.1 d_Scanner_advance_39 rfl (lv_at hl 0 rfl) ?_
      refine lv_aload_n F.1 F.2.1 d_Scanner_advance_40 rfl (lv_at hl 0 rfl) ?_
      refine cg_2_2 F hK hw lk_36 d_Scanner_advance_41 ?_
      obtain ⟨S_9, eS_9, h⟩ := nm_ex h
      refine cp_2_4 F hK hw lk_39 d_Scanner_advance_44 eS_9 (fun H locs hw => ?_)
      refine lv_aload_n F.1 F.2.1 d_Scanner_advance_47 rfl (lv_at hl 0 rfl) ?_
      refine cg_2_2 F hK hw lk_36 d_Scanner_advance_48 ?_
      refine lv_aload_n F.1 F.2.1 d_Scanner_advance_51 rfl (lv_at hl 0 rfl) ?_
      refine cg_2_1 F hK hw lk_35 d_Scanner_advance_52 ?_
      refine lv_icmp_lt (tgt := 66) F.1 F.2.1 d_Scanner_advance_55 (by decide) (fun c_10 => ?_) (fun c_10 => ?_)
      · replace h := ip c_10 h
        refine lv_aload_n F.1 F.2.1 d_Scanner_advance_66 rfl (lv_at hl 0 rfl) ?_
        refine cg_2_0T F hK hw hP lk_34 d_Scanner_advance_67 ?_
        refine lv_aload_n F.1 F.2.1 d_Scanner_advance_70 rfl (lv_at hl 0 rfl) ?_
        refine cg_2_2 F hK hw lk_36 d_Scanner_advance_71 ?_
        obtain ⟨hi_11, h⟩ := gd_ex h
        refine cl_0_0 F hK hw hi_11 d_Scanner_advance_74 ?_
        obtain ⟨v_13, hc_12, h⟩ := bd_ex h
        refine cS_i F hA rfl hK hw (c_Scanner_isLetter l S_9 hc_12) trivial rfl (good_S lk_409 lk_410 lk_3 lk_411) hd_Scanner_isLetter ⟨Nat.le_of_ble_eq_true rfl, Nat.le_of_ble_eq_true rfl⟩ rfl hl.1 rfl (Nat.le_of_ble_eq_true rfl) d_Scanner_advance_75 ⟨(Nat.zero_le _), (Nat.zero_le _)⟩ (fun H locs hw => ?_)
        refine lv_if_eq (tgt := 88) F.1 F.2.1 d_Scanner_advance_78 (by decide) (fun c_14 => ?_) (fun c_14 => ?_)
        · replace h := ip c_14 h
          refine lv_aload_n F.1 F.2.1 d_Scanner_advance_88 rfl (lv_at hl 0 rfl) ?_
          refine cg_2_0T F hK hw hP lk_34 d_Scanner_advance_89 ?_
          refine lv_aload_n F.1 F.2.1 d_Scanner_advance_92 rfl (lv_at hl 0 rfl) ?_
          refine cg_2_2 F hK hw lk_36 d_Scanner_advance_93 ?_
          obtain ⟨hi_15, h⟩ := gd_ex h
          refine cl_0_0 F hK hw hi_15 d_Scanner_advance_96 ?_
          obtain ⟨v_17, hc_16, h⟩ := bd_ex h
          refine cS_i F hA rfl hK hw (c_Scanner_isDigit l S_9 hc_16) trivial rfl (good_S lk_416 lk_417 lk_3 lk_418) hd_Scanner_isDigit ⟨Nat.le_of_ble_eq_true rfl, Nat.le_of_ble_eq_true rfl⟩ rfl hl.1 rfl (Nat.le_of_ble_eq_true rfl) d_Scanner_advance_97 ⟨(Nat.zero_le _), (Nat.zero_le _)⟩ (fun H locs hw => ?_)
          refine lv_if_eq (tgt := 110) F.1 F.2.1 d_Scanner_advance_100 (by decide) (fun c_18 => ?_) (fun c_18 => ?_)
          · replace h := ip c_18 h
            refine lv_aload_n F.1 F.2.1 d_Scanner_advance_110 rfl (lv_at hl 0 rfl) ?_
            refine lv_aload_n F.1 F.2.1 d_Scanner_advance_111 rfl (lv_at hl 0 rfl) ?_
            refine cg_2_0T F hK hw hP lk_34 d_Scanner_advance_112 ?_
            refine lv_aload_n F.1 F.2.1 d_Scanner_advance_115 rfl (lv_at hl 0 rfl) ?_
            refine cg_2_2 F hK hw lk_36 d_Scanner_advance_116 ?_
            obtain ⟨hi_19, h⟩ := gd_ex h
            refine cl_0_0 F hK hw hi_19 d_Scanner_advance_119 ?_
            obtain ⟨S_21, hc_20, h⟩ := bd_ex h
            refine cV_v F hA rfl hK hw (c_Scanner_scanSign l hc_20) hP rfl (good_V lk_429 lk_431 ls_4 lk_3 lk_432) (cr_2 hK hw) hd_Scanner_scanSign ⟨Nat.le_of_ble_eq_true rfl, Nat.le_of_ble_eq_true rfl⟩ rfl hl.1 rfl (Nat.le_of_ble_eq_true rfl) d_Scanner_advance_120 ⟨(Nat.zero_le _), (Nat.zero_le _)⟩ (fun H locs hw => ?_)
            exact J_123 S_21 H locs ls hw (lv_sub hl [] rfl) o h ho
          · replace h := iq c_18 h
            refine lv_aload_n F.1 F.2.1 d_Scanner_advance_103 rfl (lv_at hl 0 rfl) ?_
            obtain ⟨S_23, hc_22, h⟩ := bd_ex h
            refine cV_v F hA rfl hK hw (c_Scanner_scanInt l hc_22) hP rfl (good_V lk_425 lk_427 ls_3 lk_3 lk_428) (cr_2 hK hw) hd_Scanner_scanInt ⟨Nat.le_of_ble_eq_true rfl, Nat.le_of_ble_eq_true rfl⟩ rfl hl.1 rfl (Nat.le_of_ble_eq_true rfl) d_Scanner_advance_104 ⟨(Nat.zero_le _), (Nat.zero_le _)⟩ (fun H locs hw => ?_)
            refine lv_goto (tgt := 123) F.1 F.2.1 d_Scanner_advance_107 (by decide) ?_
            exact J_123 S_23 H locs ls hw (lv_sub hl [] rfl) o h ho
        · replace h := iq c_14 h
          refine lv_aload_n F.1 F.2.1 d_Scanner_advance_81 rfl (lv_at hl 0 rfl) ?_
          obtain ⟨S_25, hc_24, h⟩ := bd_ex h
          refine cV_v F hA rfl hK hw (c_Scanner_scanName l hc_24) hP rfl (good_V lk_412 lk_414 ls_1 lk_3 lk_415) (cr_2 hK hw) hd_Scanner_scanName ⟨Nat.le_of_ble_eq_true rfl, Nat.le_of_ble_eq_true rfl⟩ rfl hl.1 rfl (Nat.le_of_ble_eq_true rfl) d_Scanner_advance_82 ⟨(Nat.zero_le _), (Nat.zero_le _)⟩ (fun H locs hw => ?_)
          refine lv_goto (tgt := 123) F.1 F.2.1 d_Scanner_advance_85 (by decide) ?_
          exact J_123 S_25 H locs ls hw (lv_sub hl [] rfl) o h ho
      · replace h := iq c_10 h
        refine lv_aload_n F.1 F.2.1 d_Scanner_advance_58 rfl (lv_at hl 0 rfl) ?_
        refine lv_iconst (v := 0) F.1 F.2.1 d_Scanner_advance_59 (by decide) ?_
        obtain ⟨S_26, eS_26, h⟩ := nm_ex h
        refine cp_2_3 F hK hw lk_37 d_Scanner_advance_60 eS_26 (fun H locs hw => ?_)
        refine lv_goto (tgt := 123) F.1 F.2.1 d_Scanner_advance_63 (by decide) ?_
        exact J_123 S_26 H locs ls hw (lv_sub hl [] rfl) o h ho
    obtain ⟨S_7, hc_8, h⟩ := bd_ex h
    obtain ⟨X_0, eX_0⟩ : ∃ X : St → Prop, X = (fun q => ∀ (H : Heap) (locs : List Loc) (ls : Array Slot), Bw cw D ar A s.heap H locs ad q → lv_has ls 1 [(0, .ref (ad 2 0))] → W p l e (RM 2 42) s m args below meth c H locs 0 0 Q (F0 m 39 ls [])) := ⟨_, rfl⟩
    have hX_0 : X_0 S_7 := by
      rw [eX_0]
      intro H locs ls hw hl
      exact J_39 S_7 H locs ls hw (lv_sub hl [0] rfl) o h ho
    obtain ⟨P_0, eP_0⟩ : ∃ P : St → Prop, P = (fun q => ∀ (H : Heap) (locs : List Loc) (ls : Array Slot), Bw cw D ar A s.heap H locs ad q → lv_has ls 1 [(0, .ref (ad 2 0))] → W p l e (RM 2 42) s m args below meth c H locs 0 0 Q (F0 m 0 ls [])) := ⟨_, rfl⟩
    have hL_0 : P_0 S := by
      refine wh_gp (P := P_0) (X := X_0) hc_8 hX_0 ?_
      clear h
      intro S o h ho
      have h : Scanner_advance_l0 S = some o := h
      unfold Scanner_advance_l0 at h
      rw [eP_0]
      intro H locs ls hw hl
      refine lv_aload_n F.1 F.2.1 d_Scanner_advance_0 rfl (lv_at hl 0 rfl) ?_
      refine cg_2_2 F hK hw lk_36 d_Scanner_advance_1 ?_
      refine lv_aload_n F.1 F.2.1 d_Scanner_advance_4 rfl (lv_at hl 0 rfl) ?_
      refine cg_2_1 F hK hw lk_35 d_Scanner_advance_5 ?_
      refine lv_icmp_ge (tgt := 39) F.1 F.2.1 d_Scanner_advance_8 (by decide) (fun c_1 => ?_) (fun c_1 => ?_)
      · replace h := ip c_1 h
        cases h
        have ho : X_0 _ := ho
        rw [eX_0] at ho
        exact ho H locs ls hw (lv_sub hl [0] rfl)
      · replace h := iq c_1 h
        refine lv_aload_n F.1 F.2.1 d_Scanner_advance_11 rfl (lv_at hl 0 rfl) ?_
        refine cg_2_0T F hK hw hP lk_34 d_Scanner_advance_12 ?_
        refine lv_aload_n F.1 F.2.1 d_Scanner_advance_15 rfl (lv_at hl 0 rfl) ?_
        refine cg_2_2 F hK hw lk_36 d_Scanner_advance_16 ?_
        obtain ⟨hi_2, h⟩ := gd_ex h
        refine cl_0_0 F hK hw hi_2 d_Scanner_advance_19 ?_
        obtain ⟨v_4, hc_3, h⟩ := bd_ex h
        refine cS_i F hA rfl hK hw (c_Scanner_isBlank l S hc_3) trivial rfl (good_S lk_406 lk_407 lk_3 lk_408) hd_Scanner_isBlank ⟨Nat.le_of_ble_eq_true rfl, Nat.le_of_ble_eq_true rfl⟩ rfl hl.1 rfl (Nat.le_of_ble_eq_true rfl) d_Scanner_advance_20 ⟨(Nat.zero_le _), (Nat.zero_le _)⟩ (fun H locs hw => ?_)
        refine lv_if_eq (tgt := 39) F.1 F.2.1 d_Scanner_advance_23 (by decide) (fun c_5 => ?_) (fun c_5 => ?_)
        · replace h := ip c_5 h
          cases h
          have ho : X_0 _ := ho
          rw [eX_0] at ho
          exact ho H locs ls hw (lv_sub hl [0] rfl)
        · replace h := iq c_5 h
          refine lv_aload_n F.1 F.2.1 d_Scanner_advance_26 rfl (lv_at hl 0 rfl) ?_
          refine lv_dup F.1 F.2.1 d_Scanner_advance_27 rfl ?_
          refine cg_2_2 F hK hw lk_36 d_Scanner_advance_28 ?_
          refine lv_iconst (v := 1) F.1 F.2.1 d_Scanner_advance_31 (by decide) ?_
          refine lv_iadd F.1 F.2.1 d_Scanner_advance_32 ?_
          obtain ⟨S_6, eS_6, h⟩ := nm_ex h
          refine cp_2_2 F hK hw lk_36 d_Scanner_advance_33 eS_6 (fun H locs hw => ?_)
          refine lv_goto (tgt := 0) F.1 F.2.1 d_Scanner_advance_36 (by decide) ?_
          cases h
          have ho : P_0 _ := ho
          rw [eP_0] at ho
          exact ho H locs ls hw (lv_sub hl [0] rfl)
    rw [eP_0] at hL_0
    exact hL_0 H locs ls hw (lv_sub hl [0] rfl)
  exact key _ _ hw _ h (by rw [eX_0]; exact fun H locs pc ls hd hw => hQ H locs pc ls ad rfl hd hw)
theorem d_Scanner_begin_0 : decode b_Scanner_begin 0 = .ok (.aload_n 0, 1) := by decide +kernel
theorem d_Scanner_begin_1 : decode b_Scanner_begin 1 = .ok (.aload_n 1, 1) := by decide +kernel
theorem d_Scanner_begin_2 : decode b_Scanner_begin 2 = .ok (.putfield 9, 3) := by decide +kernel
theorem d_Scanner_begin_5 : decode b_Scanner_begin 5 = .ok (.aload_n 0, 1) := by decide +kernel
theorem d_Scanner_begin_6 : decode b_Scanner_begin 6 = .ok (.iconst 0, 1) := by decide +kernel
theorem d_Scanner_begin_7 : decode b_Scanner_begin 7 = .ok (.iload_n 2, 1) := by decide +kernel
theorem d_Scanner_begin_8 : decode b_Scanner_begin 8 = .ok (.aload_n 1, 1) := by decide +kernel
theorem d_Scanner_begin_9 : decode b_Scanner_begin 9 = .ok (.arraylength, 1) := by decide +kernel
theorem d_Scanner_begin_10 : decode b_Scanner_begin 10 = .ok (.invokestatic 35, 3) := by decide +kernel
theorem d_Scanner_begin_13 : decode b_Scanner_begin 13 = .ok (.invokestatic 41, 3) := by decide +kernel
theorem d_Scanner_begin_16 : decode b_Scanner_begin 16 = .ok (.putfield 15, 3) := by decide +kernel
theorem d_Scanner_begin_19 : decode b_Scanner_begin 19 = .ok (.aload_n 0, 1) := by decide +kernel
theorem d_Scanner_begin_20 : decode b_Scanner_begin 20 = .ok (.iconst 0, 1) := by decide +kernel
theorem d_Scanner_begin_21 : decode b_Scanner_begin 21 = .ok (.putfield 19, 3) := by decide +kernel
theorem d_Scanner_begin_24 : decode b_Scanner_begin 24 = .ok (.aload_n 0, 1) := by decide +kernel
theorem d_Scanner_begin_25 : decode b_Scanner_begin 25 = .ok (.invokevirtual 44, 3) := by decide +kernel
theorem d_Scanner_begin_28 : decode b_Scanner_begin 28 = .ok (.return_, 1) := by decide +kernel
set_option maxHeartbeats 4000000 in
set_option maxRecDepth 100000 in
theorem c_Scanner_begin (l : Launch) {S : St} {x2 : Int32} {S' : St} (h : f_Scanner_begin S x2 = some S') : MV cw l y_Scanner_begin b_Scanner_begin 3 none 3 62 0 0 (fun ad => [.ref (ad 2 0), .ref (ad 0 1), .int x2]) aT (aG adT) S S' := by
  refine MV_of "LawfulLots$Scanner" rfl (by decide) (fun _ => Nat.le_of_ble_eq_true rfl) ?_
  intro p e s m args below meth c D ar ad A Q ls hP F hK hA hw hl hQ
  have hl : lv_has ls 3 [(0, .ref (ad 2 0)), (1, .ref (ad 0 1)), (2, .int x2)] := hl
  obtain ⟨X_0, eX_0⟩ : ∃ X : St → Prop, X = (fun q => ∀ (H : Heap) (locs : List Loc) (pc : Nat) (ls : Array Slot), decode b_Scanner_begin pc = .ok (.return_, 1) → Bw cw D ar A s.heap H locs (adT ad) q → W p l e (RM 3 62) s m args below meth c H locs 0 0 Q (F0 m pc ls [])) := ⟨_, rfl⟩
  have key : ∀ (H : Heap) (locs : List Loc), Bw cw D ar A s.heap H locs ad S → ∀ o, f_Scanner_begin S x2 = some o → X_0 o → W p l e (RM 3 62) s m args below meth c H locs 0 0 Q (F0 m 0 ls []) := by
    intro H locs hw o h ho
    unfold f_Scanner_begin at h
    refine lv_aload_n F.1 F.2.1 d_Scanner_begin_0 rfl (lv_at hl 0 rfl) ?_
    refine lv_aload_n F.1 F.2.1 d_Scanner_begin_1 rfl (lv_at hl 1 rfl) ?_
    refine cp_2_0T F hK hw lk_34 d_Scanner_begin_2 (fun H locs hw => ?_)
    refine lv_aload_n F.1 F.2.1 d_Scanner_begin_5 rfl (lv_at hl 0 rfl) ?_
    refine lv_iconst (v := 0) F.1 F.2.1 d_Scanner_begin_6 (by decide) ?_
    refine lv_iload_n F.1 F.2.1 d_Scanner_begin_7 rfl (lv_at hl 2 rfl) ?_
    refine lv_aload_n F.1 F.2.1 d_Scanner_begin_8 rfl (lv_at hl 1 rfl) ?_
    refine cn_0_0 (ad := (adT ad)) F hK hw d_Scanner_begin_9 ?_
    refine va_mmin F.1 F.2.1 (F.2.2.1.trans hl.1.symm) F.2.2.2.1 (F.2.2.2.2 _ lk_396) (F.2.2.2.2 _ lk_397) (F.2.2.2.2 _ lk_12) (F.2.2.2.2 _ lk_398) (Nat.le_of_ble_eq_true rfl) (Nat.le_of_ble_eq_true rfl) (Nat.zero_le _) (Nat.zero_le _) d_Scanner_begin_10 ?_
    refine va_mmax F.1 F.2.1 (F.2.2.1.trans hl.1.symm) F.2.2.2.1 (F.2.2.2.2 _ lk_399) (F.2.2.2.2 _ lk_400) (F.2.2.2.2 _ lk_12) (F.2.2.2.2 _ lk_401) (Nat.le_of_ble_eq_true rfl) (Nat.le_of_ble_eq_true rfl) (Nat.zero_le _) (Nat.zero_le _) d_Scanner_begin_13 ?_
    obtain ⟨S_1, eS_1, h⟩ := nm_ex h
    refine cp_2_1 (ad := (adT ad)) F hK hw lk_35 d_Scanner_begin_16 eS_1 (fun H locs hw => ?_)
    refine lv_aload_n F.1 F.2.1 d_Scanner_begin_19 rfl (lv_at hl 0 rfl) ?_
    refine lv_iconst (v := 0) F.1 F.2.1 d_Scanner_begin_20 (by decide) ?_
    obtain ⟨S_2, eS_2, h⟩ := nm_ex h
    refine cp_2_2 (ad := (adT ad)) F hK hw lk_36 d_Scanner_begin_21 eS_2 (fun H locs hw => ?_)
    refine lv_aload_n F.1 F.2.1 d_Scanner_begin_24 rfl (lv_at hl 0 rfl) ?_
    obtain ⟨S_4, hc_3, h⟩ := bd_ex h
    refine cV_v (ad := (adT ad)) F hA rfl hK hw (c_Scanner_advance l hc_3) rfl rfl (good_V lk_402 lk_403 lk_404 lk_3 lk_405) (cr_2 hK hw) hd_Scanner_advance ⟨Nat.le_of_ble_eq_true rfl, Nat.le_of_ble_eq_true rfl⟩ rfl hl.1 rfl (Nat.le_of_ble_eq_true rfl) d_Scanner_begin_25 ⟨(Nat.zero_le _), (Nat.zero_le _)⟩ (fun H locs hw => ?_)
    cases h
    have ho : X_0 _ := ho
    rw [eX_0] at ho
    exact ho H locs _ ls d_Scanner_begin_28 hw
  exact key _ _ hw _ h (by rw [eX_0]; exact fun H locs pc ls hd hw => hQ H locs pc ls (adT ad) rfl hd hw)
theorem d_Reader_understand_0 : decode b_Reader_understand 0 = .ok (.aload_n 0, 1) := by decide +kernel
theorem d_Reader_understand_1 : decode b_Reader_understand 1 = .ok (.iconst 0, 1) := by decide +kernel
theorem d_Reader_understand_2 : decode b_Reader_understand 2 = .ok (.putfield 33, 3) := by decide +kernel
theorem d_Reader_understand_5 : decode b_Reader_understand 5 = .ok (.aload_n 0, 1) := by decide +kernel
theorem d_Reader_understand_6 : decode b_Reader_understand 6 = .ok (.iconst (-1), 1) := by decide +kernel
theorem d_Reader_understand_7 : decode b_Reader_understand 7 = .ok (.putfield 29, 3) := by decide +kernel
theorem d_Reader_understand_10 : decode b_Reader_understand 10 = .ok (.aload_n 0, 1) := by decide +kernel
theorem d_Reader_understand_11 : decode b_Reader_understand 11 = .ok (.iconst 0, 1) := by decide +kernel
theorem d_Reader_understand_12 : decode b_Reader_understand 12 = .ok (.putfield 36, 3) := by decide +kernel
theorem d_Reader_understand_15 : decode b_Reader_understand 15 = .ok (.aload_n 0, 1) := by decide +kernel
theorem d_Reader_understand_16 : decode b_Reader_understand 16 = .ok (.iconst 0, 1) := by decide +kernel
theorem d_Reader_understand_17 : decode b_Reader_understand 17 = .ok (.putfield 42, 3) := by decide +kernel
theorem d_Reader_understand_20 : decode b_Reader_understand 20 = .ok (.aload_n 0, 1) := by decide +kernel
theorem d_Reader_understand_21 : decode b_Reader_understand 21 = .ok (.iconst 0, 1) := by decide +kernel
theorem d_Reader_understand_22 : decode b_Reader_understand 22 = .ok (.putfield 57, 3) := by decide +kernel
theorem d_Reader_understand_25 : decode b_Reader_understand 25 = .ok (.aload_n 0, 1) := by decide +kernel
theorem d_Reader_understand_26 : decode b_Reader_understand 26 = .ok (.iconst 0, 1) := by decide +kernel
theorem d_Reader_understand_27 : decode b_Reader_understand 27 = .ok (.putfield 60, 3) := by decide +kernel
theorem d_Reader_understand_30 : decode b_Reader_understand 30 = .ok (.aload_n 0, 1) := by decide +kernel
theorem d_Reader_understand_31 : decode b_Reader_understand 31 = .ok (.getfield 25, 3) := by decide +kernel
theorem d_Reader_understand_34 : decode b_Reader_understand 34 = .ok (.invokevirtual 74, 3) := by decide +kernel
theorem d_Reader_understand_37 : decode b_Reader_understand 37 = .ok (.aload_n 0, 1) := by decide +kernel
theorem d_Reader_understand_38 : decode b_Reader_understand 38 = .ok (.getfield 12, 3) := by decide +kernel
theorem d_Reader_understand_41 : decode b_Reader_understand 41 = .ok (.aload_n 1, 1) := by decide +kernel
theorem d_Reader_understand_42 : decode b_Reader_understand 42 = .ok (.iload_n 2, 1) := by decide +kernel
theorem d_Reader_understand_43 : decode b_Reader_understand 43 = .ok (.invokevirtual 77, 3) := by decide +kernel
theorem d_Reader_understand_46 : decode b_Reader_understand 46 = .ok (.iconst 0, 1) := by decide +kernel
theorem d_Reader_understand_47 : decode b_Reader_understand 47 = .ok (.istore_n 3, 1) := by decide +kernel
theorem d_Reader_understand_48 : decode b_Reader_understand 48 = .ok (.iload_n 3, 1) := by decide +kernel
theorem d_Reader_understand_49 : decode b_Reader_understand 49 = .ok (.sipush 400, 3) := by decide +kernel
theorem d_Reader_understand_52 : decode b_Reader_understand 52 = .ok (.if_icmp .gt 86, 3) := by decide +kernel
theorem d_Reader_understand_55 : decode b_Reader_understand 55 = .ok (.aload_n 0, 1) := by decide +kernel
theorem d_Reader_understand_56 : decode b_Reader_understand 56 = .ok (.getfield 33, 3) := by decide +kernel
theorem d_Reader_understand_59 : decode b_Reader_understand 59 = .ok (.ifCond .ne 79, 3) := by decide +kernel
theorem d_Reader_understand_62 : decode b_Reader_understand 62 = .ok (.aload_n 0, 1) := by decide +kernel
theorem d_Reader_understand_63 : decode b_Reader_understand 63 = .ok (.getfield 12, 3) := by decide +kernel
theorem d_Reader_understand_66 : decode b_Reader_understand 66 = .ok (.getfield 81, 3) := by decide +kernel
theorem d_Reader_understand_69 : decode b_Reader_understand 69 = .ok (.ifCond .eq 69, 3) := by decide +kernel
theorem d_Reader_understand_72 : decode b_Reader_understand 72 = .ok (.aload_n 0, 1) := by decide +kernel
theorem d_Reader_understand_73 : decode b_Reader_understand 73 = .ok (.aload_n 0, 1) := by decide +kernel
theorem d_Reader_understand_74 : decode b_Reader_understand 74 = .ok (.aload_n 0, 1) := by decide +kernel
theorem d_Reader_understand_75 : decode b_Reader_understand 75 = .ok (.getfield 12, 3) := by decide +kernel
theorem d_Reader_understand_78 : decode b_Reader_understand 78 = .ok (.getfield 81, 3) := by decide +kernel
theorem d_Reader_understand_81 : decode b_Reader_understand 81 = .ok (.invokevirtual 84, 3) := by decide +kernel
theorem d_Reader_understand_84 : decode b_Reader_understand 84 = .ok (.putfield 42, 3) := by decide +kernel
theorem d_Reader_understand_87 : decode b_Reader_understand 87 = .ok (.aload_n 0, 1) := by decide +kernel
theorem d_Reader_understand_88 : decode b_Reader_understand 88 = .ok (.getfield 42, 3) := by decide +kernel
theorem d_Reader_understand_91 : decode b_Reader_understand 91 = .ok (.iconst (-1), 1) := by decide +kernel
theorem d_Reader_understand_92 : decode b_Reader_understand 92 = .ok (.if_icmp .ne 11, 3) := by decide +kernel
theorem d_Reader_understand_95 : decode b_Reader_understand 95 = .ok (.aload_n 0, 1) := by decide +kernel
theorem d_Reader_understand_96 : decode b_Reader_understand 96 = .ok (.iconst 1, 1) := by decide +kernel
theorem d_Reader_understand_97 : decode b_Reader_understand 97 = .ok (.invokevirtual 88, 3) := by decide +kernel
theorem d_Reader_understand_100 : decode b_Reader_understand 100 = .ok (.goto 32, 3) := by decide +kernel
theorem d_Reader_understand_103 : decode b_Reader_understand 103 = .ok (.aload_n 0, 1) := by decide +kernel
theorem d_Reader_understand_104 : decode b_Reader_understand 104 = .ok (.getfield 60, 3) := by decide +kernel
theorem d_Reader_understand_107 : decode b_Reader_understand 107 = .ok (.ifCond .ne 10, 3) := by decide +kernel
theorem d_Reader_understand_110 : decode b_Reader_understand 110 = .ok (.iload_n 3, 1) := by decide +kernel
theorem d_Reader_understand_111 : decode b_Reader_understand 111 = .ok (.sipush 400, 3) := by decide +kernel
theorem d_Reader_understand_114 : decode b_Reader_understand 114 = .ok (.if_icmp .ne 11, 3) := by decide +kernel
theorem d_Reader_understand_117 : decode b_Reader_understand 117 = .ok (.aload_n 0, 1) := by decide +kernel
theorem d_Reader_understand_118 : decode b_Reader_understand 118 = .ok (.iconst 2, 1) := by decide +kernel
theorem d_Reader_understand_119 : decode b_Reader_understand 119 = .ok (.invokevirtual 88, 3) := by decide +kernel
theorem d_Reader_understand_122 : decode b_Reader_understand 122 = .ok (.goto 10, 3) := by decide +kernel
theorem d_Reader_understand_125 : decode b_Reader_understand 125 = .ok (.aload_n 0, 1) := by decide +kernel
theorem d_Reader_understand_126 : decode b_Reader_understand 126 = .ok (.getfield 12, 3) := by decide +kernel
theorem d_Reader_understand_129 : decode b_Reader_understand 129 = .ok (.invokevirtual 92, 3) := by decide +kernel
theorem d_Reader_understand_132 : decode b_Reader_understand 132 = .ok (.iinc 3 1, 3) := by decide +kernel
theorem d_Reader_understand_135 : decode b_Reader_understand 135 = .ok (.goto (-87), 3) := by decide +kernel
theorem d_Reader_understand_138 : decode b_Reader_understand 138 = .ok (.aload_n 0, 1) := by decide +kernel
theorem d_Reader_understand_139 : decode b_Reader_understand 139 = .ok (.getfield 33, 3) := by decide +kernel
theorem d_Reader_understand_142 : decode b_Reader_understand 142 = .ok (.ifCond .ne 15, 3) := by decide +kernel
theorem d_Reader_understand_145 : decode b_Reader_understand 145 = .ok (.aload_n 0, 1) := by decide +kernel
theorem d_Reader_understand_146 : decode b_Reader_understand 146 = .ok (.getfield 42, 3) := by decide +kernel
theorem d_Reader_understand_149 : decode b_Reader_understand 149 = .ok (.ifCond .eq 8, 3) := by decide +kernel
theorem d_Reader_understand_152 : decode b_Reader_understand 152 = .ok (.aload_n 0, 1) := by decide +kernel
theorem d_Reader_understand_153 : decode b_Reader_understand 153 = .ok (.iconst 1, 1) := by decide +kernel
theorem d_Reader_understand_154 : decode b_Reader_understand 154 = .ok (.invokevirtual 88, 3) := by decide +kernel
theorem d_Reader_understand_157 : decode b_Reader_understand 157 = .ok (.aload_n 0, 1) := by decide +kernel
theorem d_Reader_understand_158 : decode b_Reader_understand 158 = .ok (.getfield 33, 3) := by decide +kernel
theorem d_Reader_understand_161 : decode b_Reader_understand 161 = .ok (.ifCond .ne 26, 3) := by decide +kernel
theorem d_Reader_understand_164 : decode b_Reader_understand 164 = .ok (.aload_n 0, 1) := by decide +kernel
theorem d_Reader_understand_165 : decode b_Reader_understand 165 = .ok (.getfield 36, 3) := by decide +kernel
theorem d_Reader_understand_168 : decode b_Reader_understand 168 = .ok (.ifCond .eq 19, 3) := by decide +kernel
theorem d_Reader_understand_171 : decode b_Reader_understand 171 = .ok (.aload_n 0, 1) := by decide +kernel
theorem d_Reader_understand_172 : decode b_Reader_understand 172 = .ok (.aload_n 0, 1) := by decide +kernel
theorem d_Reader_understand_173 : decode b_Reader_understand 173 = .ok (.getfield 36, 3) := by decide +kernel
theorem d_Reader_understand_176 : decode b_Reader_understand 176 = .ok (.putfield 33, 3) := by decide +kernel
theorem d_Reader_understand_179 : decode b_Reader_understand 179 = .ok (.aload_n 0, 1) := by decide +kernel
theorem d_Reader_understand_180 : decode b_Reader_understand 180 = .ok (.aload_n 0, 1) := by decide +kernel
theorem d_Reader_understand_181 : decode b_Reader_understand 181 = .ok (.getfield 39, 3) := by decide +kernel
theorem d_Reader_understand_184 : decode b_Reader_understand 184 = .ok (.putfield 29, 3) := by decide +kernel
theorem d_Reader_understand_187 : decode b_Reader_understand 187 = .ok (.aload_n 0, 1) := by decide +kernel
theorem d_Reader_understand_188 : decode b_Reader_understand 188 = .ok (.getfield 33, 3) := by decide +kernel
theorem d_Reader_understand_191 : decode b_Reader_understand 191 = .ok (.ifCond .ne 10, 3) := by decide +kernel
theorem d_Reader_understand_194 : decode b_Reader_understand 194 = .ok (.aload_n 0, 1) := by decide +kernel
theorem d_Reader_understand_195 : decode b_Reader_understand 195 = .ok (.getfield 25, 3) := by decide +kernel
theorem d_Reader_understand_198 : decode b_Reader_understand 198 = .ok (.invokevirtual 95, 3) := by decide +kernel
theorem d_Reader_understand_201 : decode b_Reader_understand 201 = .ok (.aload_n 0, 1) := by decide +kernel
theorem d_Reader_understand_202 : decode b_Reader_understand 202 = .ok (.getfield 33, 3) := by decide +kernel
theorem d_Reader_understand_205 : decode b_Reader_understand 205 = .ok (.ireturn, 1) := by decide +kernel
set_option maxHeartbeats 4000000 in
set_option maxRecDepth 100000 in
theorem c_Reader_understand (l : Launch) {S : St} {x2 : Int32} {S' : St} {r : Int32} (h : f_Reader_understand S x2 = some (r, S')) : MI cw l y_Reader_understand b_Reader_understand 4 (some .int) 5 110 0 0 (fun ad => [.ref (ad 1 0), .ref (ad 0 1), .int x2]) aT (aG adT) S r S' := by
  refine MI_of "LawfulLots$Reader" rfl (by decide) (fun _ => Nat.le_of_ble_eq_true rfl) ?_
  intro p e s m args below meth c D ar ad A Q ls hP F hK hA hw hl hQ
  have hl : lv_has ls 4 [(0, .ref (ad 1 0)), (1, .ref (ad 0 1)), (2, .int x2)] := hl
  obtain ⟨X_0, eX_0⟩ : ∃ X : (Int32 × St) → Prop, X = (fun q => ∀ (H : Heap) (locs : List Loc) (pc : Nat) (ls : Array Slot), decode b_Reader_understand pc = .ok (.ireturn, 1) → Bw cw D ar A s.heap H locs (adT ad) q.2 → W p l e (RM 5 110) s m args below meth c H locs 0 0 Q (F0 m pc ls [.int q.1])) := ⟨_, rfl⟩
  have key : ∀ (H : Heap) (locs : List Loc), Bw cw D ar A s.heap H locs ad S → ∀ o, f_Reader_understand S x2 = some o → X_0 o → W p l e (RM 5 110) s m args below meth c H locs 0 0 Q (F0 m 0 ls []) := by
    intro H locs hw o h ho
    unfold f_Reader_understand at h
    have J_201 : ∀ (S : St) (H : Heap) (locs : List Loc) (ls : Array Slot), Bw cw D ar A s.heap H locs (adT ad) S → lv_has ls 4 [(0, .ref ((adT ad) 1 0))] → ∀ o, Reader_understand_j201 S = some o → X_0 o → W p l e (RM 5 110) s m args below meth c H locs 0 0 Q (F0 m 201 ls []) := by
      intro S H locs ls hw hl o h ho
      unfold Reader_understand_j201 at h
      refine lv_aload_n F.1 F.2.1 d_Reader_understand_201 rfl (lv_at hl 0 rfl) ?_
      refine cg_1_4 (ad := (adT ad)) F hK hw lk_125 d_Reader_understand_202 ?_
      cases h
      have ho : X_0 _ := ho
      rw [eX_0] at ho
      exact ho H locs _ ls d_Reader_understand_205 hw
    have J_187 : ∀ (S : St) (H : Heap) (locs : List Loc) (ls : Array Slot), Bw cw D ar A s.heap H locs (adT ad) S → lv_has ls 4 [(0, .ref ((adT ad) 1 0))] → ∀ o, Reader_understand_j187 S = some o → X_0 o → W p l e (RM 5 110) s m args below meth c H locs 0 0 Q (F0 m 187 ls []) := by
      intro S H locs ls hw hl o h ho
      unfold Reader_understand_j187 at h
      refine lv_aload_n F.1 F.2.1 d_Reader_understand_187 rfl (lv_at hl 0 rfl) ?_
      refine cg_1_4 (ad := (adT ad)) F hK hw lk_125 d_Reader_understand_188 ?_
      refine lv_if_ne (tgt := 201) F.1 F.2.1 d_Reader_understand_191 (by decide) (fun c_38 => ?_) (fun c_38 => ?_)
      · replace h := iq c_38 h
        exact J_201 S H locs ls hw (lv_sub hl [0] rfl) o h ho
      · replace h := ip c_38 h
        refine lv_aload_n F.1 F.2.1 d_Reader_understand_194 rfl (lv_at hl 0 rfl) ?_
        refine cg_1_2 (ad := (adT ad)) F hK hw lk_121 d_Reader_understand_195 ?_
        obtain ⟨S_40, hc_39, h⟩ := bd_ex h
        refine cV_v (ad := (adT ad)) F hA rfl hK hw (c_Book_setStrides l hc_39) trivial rfl (good_V lk_548 lk_549 lk_550 lk_4 lk_551) (cr_3 hK hw) hd_Book_setStrides ⟨Nat.le_of_ble_eq_true rfl, Nat.le_of_ble_eq_true rfl⟩ rfl hl.1 rfl (Nat.le_of_ble_eq_true rfl) d_Reader_understand_198 ⟨(Nat.zero_le _), (Nat.zero_le _)⟩ (fun H locs hw => ?_)
        exact J_201 S_40 H locs ls hw (lv_sub hl [0] rfl) o h ho
    have J_157 : ∀ (S : St) (H : Heap) (locs : List Loc) (ls : Array Slot), Bw cw D ar A s.heap H locs (adT ad) S → lv_has ls 4 [(0, .ref ((adT ad) 1 0))] → ∀ o, Reader_understand_j157 S = some o → X_0 o → W p l e (RM 5 110) s m args below meth c H locs 0 0 Q (F0 m 157 ls []) := by
      intro S H locs ls hw hl o h ho
      unfold Reader_understand_j157 at h
      refine lv_aload_n F.1 F.2.1 d_Reader_understand_157 rfl (lv_at hl 0 rfl) ?_
      refine cg_1_4 (ad := (adT ad)) F hK hw lk_125 d_Reader_understand_158 ?_
      refine lv_if_ne (tgt := 187) F.1 F.2.1 d_Reader_understand_161 (by decide) (fun c_34 => ?_) (fun c_34 => ?_)
      · replace h := iq c_34 h
        exact J_187 S H locs ls hw (lv_sub hl [0] rfl) o h ho
      · replace h := ip c_34 h
        refine lv_aload_n F.1 F.2.1 d_Reader_understand_164 rfl (lv_at hl 0 rfl) ?_
        refine cg_1_5 (ad := (adT ad)) F hK hw lk_126 d_Reader_understand_165 ?_
        refine lv_if_eq (tgt := 187) F.1 F.2.1 d_Reader_understand_168 (by decide) (fun c_35 => ?_) (fun c_35 => ?_)
        · replace h := ip c_35 h
          exact J_187 S H locs ls hw (lv_sub hl [0] rfl) o h ho
        · replace h := iq c_35 h
          refine lv_aload_n F.1 F.2.1 d_Reader_understand_171 rfl (lv_at hl 0 rfl) ?_
          refine lv_aload_n F.1 F.2.1 d_Reader_understand_172 rfl (lv_at hl 0 rfl) ?_
          refine cg_1_5 (ad := (adT ad)) F hK hw lk_126 d_Reader_understand_173 ?_
          obtain ⟨S_36, eS_36, h⟩ := nm_ex h
          refine cp_1_4 (ad := (adT ad)) F hK hw lk_125 d_Reader_understand_176 eS_36 (fun H locs hw => ?_)
          refine lv_aload_n F.1 F.2.1 d_Reader_understand_179 rfl (lv_at hl 0 rfl) ?_
          refine lv_aload_n F.1 F.2.1 d_Reader_understand_180 rfl (lv_at hl 0 rfl) ?_
          refine cg_1_6 (ad := (adT ad)) F hK hw lk_127 d_Reader_understand_181 ?_
          obtain ⟨S_37, eS_37, h⟩ := nm_ex h
          refine cp_1_3 (ad := (adT ad)) F hK hw lk_123 d_Reader_understand_184 eS_37 (fun H locs hw => ?_)
          exact J_187 S_37 H locs ls hw (lv_sub hl [0] rfl) o h ho
    have J_138 : ∀ (S : St) (H : Heap) (locs : List Loc) (ls : Array Slot), Bw cw D ar A s.heap H locs (adT ad) S → lv_has ls 4 [(0, .ref ((adT ad) 1 0))] → ∀ o, Reader_understand_j138 S = some o → X_0 o → W p l e (RM 5 110) s m args below meth c H locs 0 0 Q (F0 m 138 ls []) := by
      intro S H locs ls hw hl o h ho
      unfold Reader_understand_j138 at h
      refine lv_aload_n F.1 F.2.1 d_Reader_understand_138 rfl (lv_at hl 0 rfl) ?_
      refine cg_1_4 (ad := (adT ad)) F hK hw lk_125 d_Reader_understand_139 ?_
      refine lv_if_ne (tgt := 157) F.1 F.2.1 d_Reader_understand_142 (by decide) (fun c_30 => ?_) (fun c_30 => ?_)
      · replace h := iq c_30 h
        exact J_157 S H locs ls hw (lv_sub hl [0] rfl) o h ho
      · replace h := ip c_30 h
        refine lv_aload_n F.1 F.2.1 d_Reader_understand_145 rfl (lv_at hl 0 rfl) ?_
        refine cg_1_7 (ad := (adT ad)) F hK hw lk_128 d_Reader_understand_146 ?_
        refine lv_if_eq (tgt := 157) F.1 F.2.1 d_Reader_understand_149 (by decide) (fun c_31 => ?_) (fun c_31 => ?_)
        · replace h := ip c_31 h
          exact J_157 S H locs ls hw (lv_sub hl [0] rfl) o h ho
        · replace h := iq c_31 h
          refine lv_aload_n F.1 F.2.1 d_Reader_understand_152 rfl (lv_at hl 0 rfl) ?_
          refine lv_iconst (v := 1) F.1 F.2.1 d_Reader_understand_153 (by decide) ?_
          obtain ⟨S_33, hc_32, h⟩ := bd_ex h
          refine cV_v (ad := (adT ad)) F hA rfl hK hw (c_Reader_refuse l hc_32) trivial rfl (good_V lk_543 lk_545 ls_22 lk_2 lk_546) (cr_1 hK hw) hd_Reader_refuse ⟨Nat.le_of_ble_eq_true rfl, Nat.le_of_ble_eq_true rfl⟩ rfl hl.1 rfl (Nat.le_of_ble_eq_true rfl) d_Reader_understand_154 ⟨(Nat.zero_le _), (Nat.zero_le _)⟩ (fun H locs hw => ?_)
          exact J_157 S_33 H locs ls hw (lv_sub hl [0] rfl) o h ho
    refine lv_aload_n F.1 F.2.1 d_Reader_understand_0 rfl (lv_at hl 0 rfl) ?_
    refine lv_iconst (v := 0) F.1 F.2.1 d_Reader_understand_1 (by decide) ?_
    obtain ⟨S_1, eS_1, h⟩ := nm_ex h
    refine cp_1_4 F hK hw lk_125 d_Reader_understand_2 eS_1 (fun H locs hw => ?_)
    refine lv_aload_n F.1 F.2.1 d_Reader_understand_5 rfl (lv_at hl 0 rfl) ?_
    refine lv_iconst (v := -1) F.1 F.2.1 d_Reader_understand_6 (by decide) ?_
    obtain ⟨S_2, eS_2, h⟩ := nm_ex h
    refine cp_1_3 F hK hw lk_123 d_Reader_understand_7 eS_2 (fun H locs hw => ?_)
    refine lv_aload_n F.1 F.2.1 d_Reader_understand_10 rfl (lv_at hl 0 rfl) ?_
    refine lv_iconst (v := 0) F.1 F.2.1 d_Reader_understand_11 (by decide) ?_
    obtain ⟨S_3, eS_3, h⟩ := nm_ex h
    refine cp_1_5 F hK hw lk_126 d_Reader_understand_12 eS_3 (fun H locs hw => ?_)
    refine lv_aload_n F.1 F.2.1 d_Reader_understand_15 rfl (lv_at hl 0 rfl) ?_
    refine lv_iconst (v := 0) F.1 F.2.1 d_Reader_understand_16 (by decide) ?_
    obtain ⟨S_4, eS_4, h⟩ := nm_ex h
    refine cp_1_7 F hK hw lk_128 d_Reader_understand_17 eS_4 (fun H locs hw => ?_)
    refine lv_aload_n F.1 F.2.1 d_Reader_understand_20 rfl (lv_at hl 0 rfl) ?_
    refine lv_iconst (v := 0) F.1 F.2.1 d_Reader_understand_21 (by decide) ?_
    obtain ⟨S_5, eS_5, h⟩ := nm_ex h
    refine cp_1_12 F hK hw lk_133 d_Reader_understand_22 eS_5 (fun H locs hw => ?_)
    refine lv_aload_n F.1 F.2.1 d_Reader_understand_25 rfl (lv_at hl 0 rfl) ?_
    refine lv_iconst (v := 0) F.1 F.2.1 d_Reader_understand_26 (by decide) ?_
    obtain ⟨S_6, eS_6, h⟩ := nm_ex h
    refine cp_1_13 F hK hw isB0 lk_134 d_Reader_understand_27 eS_6 (fun H locs hw => ?_)
    refine lv_aload_n F.1 F.2.1 d_Reader_understand_30 rfl (lv_at hl 0 rfl) ?_
    refine cg_1_2 F hK hw lk_121 d_Reader_understand_31 ?_
    obtain ⟨S_8, hc_7, h⟩ := bd_ex h
    refine cV_v F hA rfl hK hw (c_Book_clear l hc_7) trivial rfl (good_V lk_385 lk_386 lk_387 lk_4 lk_388) (cr_3 hK hw) hd_Book_clear ⟨Nat.le_of_ble_eq_true rfl, Nat.le_of_ble_eq_true rfl⟩ rfl hl.1 rfl (Nat.le_of_ble_eq_true rfl) d_Reader_understand_34 ⟨(Nat.zero_le _), (Nat.zero_le _)⟩ (fun H locs hw => ?_)
    refine lv_aload_n F.1 F.2.1 d_Reader_understand_37 rfl (lv_at hl 0 rfl) ?_
    refine cg_1_0 F hK hw lk_119 d_Reader_understand_38 ?_
    refine lv_aload_n F.1 F.2.1 d_Reader_understand_41 rfl (lv_at hl 1 rfl) ?_
    refine lv_iload_n F.1 F.2.1 d_Reader_understand_42 rfl (lv_at hl 2 rfl) ?_
    obtain ⟨S_10, hc_9, h⟩ := bd_ex h
    refine cVg_v F hA rfl hK hw (c_Scanner_begin l hc_9) trivial rfl (good_V lk_392 lk_393 lk_394 lk_3 lk_395) (cr_2 hK hw) hd_Scanner_begin ⟨Nat.le_of_ble_eq_true rfl, Nat.le_of_ble_eq_true rfl⟩ rfl hl.1 rfl (Nat.le_of_ble_eq_true rfl) d_Reader_understand_43 ⟨(Nat.zero_le _), (Nat.zero_le _)⟩ (fun H locs hw => ?_)
    refine lv_iconst (v := 0) F.1 F.2.1 d_Reader_understand_46 (by decide) ?_
    refine lv_istore_n (lv' := [(3, .int (0 : Int32)), (0, .ref ((adT ad) 1 0)), (1, .ref ((adT ad) 0 1)), (2, .int x2)]) F.1 F.2.1 d_Reader_understand_47 rfl hl (by decide) rfl (fun ls hl => ?_)
    obtain ⟨S_28, hc_29, h⟩ := bd_ex h
    obtain ⟨X_48, eX_48⟩ : ∃ X : St → Prop, X = (fun q => ∀ (H : Heap) (locs : List Loc) (ls : Array Slot), Bw cw D ar A s.heap H locs (adT ad) q → lv_has ls 4 [(0, .ref ((adT ad) 1 0))] → W p l e (RM 5 110) s m args below meth c H locs 0 0 Q (F0 m 138 ls [])) := ⟨_, rfl⟩
    have hX_48 : X_48 S_28 := by
      rw [eX_48]
      intro H locs ls hw hl
      exact J_138 S_28 H locs ls hw (lv_sub hl [0] rfl) o h ho
    obtain ⟨P_48, eP_48⟩ : ∃ P : (St × Int32) → Prop, P = (fun q => ∀ (H : Heap) (locs : List Loc) (ls : Array Slot), Bw cw D ar A s.heap H locs (adT ad) q.1 → lv_has ls 4 [(0, .ref ((adT ad) 1 0)), (3, .int q.2)] → W p l e (RM 5 110) s m args below meth c H locs 0 0 Q (F0 m 48 ls [])) := ⟨_, rfl⟩
    have hL_48 : P_48 (S_10, (0 : Int32)) := by
      refine wh_gp (P := P_48) (X := X_48) hc_29 hX_48 ?_
      clear h
      intro q o h ho
      obtain ⟨S, x3⟩ := q
      have h : Reader_understand_l48 S x3 = some o := h
      unfold Reader_understand_l48 at h
      rw [eP_48]
      intro H locs ls hw hl
      have J_132_l48 : ∀ (S : St) (x3 : Int32) (H : Heap) (locs : List Loc) (ls : Array Slot), Bw cw D ar A s.heap H locs (adT ad) S → lv_has ls 4 [(0, .ref ((adT ad) 1 0)), (3, .int x3)] → ∀ o, Reader_understand_j132_l48 S x3 = some o → (Sum.elim P_48 X_48) o → W p l e (RM 5 110) s m args below meth c H locs 0 0 Q (F0 m 132 ls []) := by
        intro S x3 H locs ls hw hl o h ho
        unfold Reader_understand_j132_l48 at h
        obtain ⟨x3_27, ex3_27, h⟩ := nm_ex h
        refine lv_iinc (v := x3_27) (lv' := [(3, .int x3_27), (0, .ref ((adT ad) 1 0))]) F.1 F.2.1 d_Reader_understand_132 hl (k := 1) rfl (by rw [ex3_27]; rfl) (by decide) rfl (fun ls hl => ?_)
        refine lv_goto (tgt := 48) F.1 F.2.1 d_Reader_understand_135 (by decide) ?_
        cases h
        have ho : P_48 _ := ho
        rw [eP_48] at ho
        exact ho H locs ls hw (lv_sub hl [1, 0] rfl)
      have J_117_l48 : ∀ (S : St) (x3 : Int32) (H : Heap) (locs : List Loc) (ls : Array Slot), Bw cw D ar A s.heap H locs (adT ad) S → lv_has ls 4 [(0, .ref ((adT ad) 1 0)), (3, .int x3)] → ∀ o, Reader_understand_j117_l48 S x3 = some o → (Sum.elim P_48 X_48) o → W p l e (RM 5 110) s m args below meth c H locs 0 0 Q (F0 m 117 ls []) := by
        intro S x3 H locs ls hw hl o h ho
        unfold Reader_understand_j117_l48 at h
        refine lv_aload_n F.1 F.2.1 d_Reader_understand_117 rfl (lv_at hl 0 rfl) ?_
        refine lv_iconst (v := 2) F.1 F.2.1 d_Reader_understand_118 (by decide) ?_
        obtain ⟨S_26, hc_25, h⟩ := bd_ex h
        refine cV_v (ad := (adT ad)) F hA rfl hK hw (c_Reader_refuse l hc_25) trivial rfl (good_V lk_543 lk_545 ls_22 lk_2 lk_546) (cr_1 hK hw) hd_Reader_refuse ⟨Nat.le_of_ble_eq_true rfl, Nat.le_of_ble_eq_true rfl⟩ rfl hl.1 rfl (Nat.le_of_ble_eq_true rfl) d_Reader_understand_119 ⟨(Nat.zero_le _), (Nat.zero_le _)⟩ (fun H locs hw => ?_)
        refine lv_goto (tgt := 132) F.1 F.2.1 d_Reader_understand_122 (by decide) ?_
        exact J_132_l48 S_26 x3 H locs ls hw (lv_sub hl [0, 1] rfl) o h ho
      refine lv_iload_n F.1 F.2.1 d_Reader_understand_48 rfl (lv_at hl 1 rfl) ?_
      refine lv_sipush (v := 400) F.1 F.2.1 d_Reader_understand_49 (by decide) ?_
      refine lv_icmp_gt (tgt := 138) F.1 F.2.1 d_Reader_understand_52 (by decide) (fun c_11 => ?_) (fun c_11 => ?_)
      · replace h := ip c_11 h
        cases h
        have ho : X_48 _ := ho
        rw [eX_48] at ho
        exact ho H locs ls hw (lv_sub hl [0] rfl)
      · replace h := iq c_11 h
        refine lv_aload_n F.1 F.2.1 d_Reader_understand_55 rfl (lv_at hl 0 rfl) ?_
        refine cg_1_4 (ad := (adT ad)) F hK hw lk_125 d_Reader_understand_56 ?_
        refine lv_if_ne (tgt := 138) F.1 F.2.1 d_Reader_understand_59 (by decide) (fun c_12 => ?_) (fun c_12 => ?_)
        · replace h := iq c_12 h
          cases h
          have ho : X_48 _ := ho
          rw [eX_48] at ho
          exact ho H locs ls hw (lv_sub hl [0] rfl)
        · replace h := ip c_12 h
          refine lv_aload_n F.1 F.2.1 d_Reader_understand_62 rfl (lv_at hl 0 rfl) ?_
          refine cg_1_0 (ad := (adT ad)) F hK hw lk_119 d_Reader_understand_63 ?_
          refine cg_2_3 (ad := (adT ad)) F hK hw lk_38 d_Reader_understand_66 ?_
          refine lv_if_eq (tgt := 138) F.1 F.2.1 d_Reader_understand_69 (by decide) (fun c_13 => ?_) (fun c_13 => ?_)
          · replace h := ip c_13 h
            cases h
            have ho : X_48 _ := ho
            rw [eX_48] at ho
            exact ho H locs ls hw (lv_sub hl [0] rfl)
          · replace h := iq c_13 h
            refine lv_aload_n F.1 F.2.1 d_Reader_understand_72 rfl (lv_at hl 0 rfl) ?_
            refine lv_aload_n F.1 F.2.1 d_Reader_understand_73 rfl (lv_at hl 0 rfl) ?_
            refine lv_aload_n F.1 F.2.1 d_Reader_understand_74 rfl (lv_at hl 0 rfl) ?_
            refine cg_1_0 (ad := (adT ad)) F hK hw lk_119 d_Reader_understand_75 ?_
            refine cg_2_3 (ad := (adT ad)) F hK hw lk_38 d_Reader_understand_78 ?_
            obtain ⟨v_15, S_16, hc_14, h⟩ := bd2_ex h
            refine cV_i (ad := (adT ad)) F hA rfl hK hw (c_Reader_goOn l hc_14) trivial rfl (good_V lk_439 lk_441 ls_5 lk_2 lk_442) (cr_1 hK hw) hd_Reader_goOn ⟨Nat.le_of_ble_eq_true rfl, Nat.le_of_ble_eq_true rfl⟩ rfl hl.1 rfl (Nat.le_of_ble_eq_true rfl) d_Reader_understand_81 ⟨(Nat.zero_le _), (Nat.zero_le _)⟩ (fun H locs hw => ?_)
            obtain ⟨S_17, eS_17, h⟩ := nm_ex h
            refine cp_1_7 (ad := (adT ad)) F hK hw lk_128 d_Reader_understand_84 eS_17 (fun H locs hw => ?_)
            refine lv_aload_n F.1 F.2.1 d_Reader_understand_87 rfl (lv_at hl 0 rfl) ?_
            refine cg_1_7 (ad := (adT ad)) F hK hw lk_128 d_Reader_understand_88 ?_
            refine lv_iconst (v := -1) F.1 F.2.1 d_Reader_understand_91 (by decide) ?_
            refine lv_icmp_ne (tgt := 103) F.1 F.2.1 d_Reader_understand_92 (by decide) (fun c_18 => ?_) (fun c_18 => ?_)
            · replace h := iq c_18 h
              refine lv_aload_n F.1 F.2.1 d_Reader_understand_103 rfl (lv_at hl 0 rfl) ?_
              refine cg_1_13 (ad := (adT ad)) F hK hw lk_134 d_Reader_understand_104 ?_
              refine lv_if_ne (tgt := 117) F.1 F.2.1 d_Reader_understand_107 (by decide) (fun c_19 => ?_) (fun c_19 => ?_)
              · replace h := iq c_19 h
                exact J_117_l48 S_17 x3 H locs ls hw (lv_sub hl [0, 1] rfl) o h ho
              · replace h := ip c_19 h
                refine lv_iload_n F.1 F.2.1 d_Reader_understand_110 rfl (lv_at hl 1 rfl) ?_
                refine lv_sipush (v := 400) F.1 F.2.1 d_Reader_understand_111 (by decide) ?_
                refine lv_icmp_ne (tgt := 125) F.1 F.2.1 d_Reader_understand_114 (by decide) (fun c_20 => ?_) (fun c_20 => ?_)
                · replace h := iq c_20 h
                  refine lv_aload_n F.1 F.2.1 d_Reader_understand_125 rfl (lv_at hl 0 rfl) ?_
                  refine cg_1_0 (ad := (adT ad)) F hK hw lk_119 d_Reader_understand_126 ?_
                  obtain ⟨S_22, hc_21, h⟩ := bd_ex h
                  refine cV_v (ad := (adT ad)) F hA rfl hK hw (c_Scanner_advance l hc_21) rfl rfl (good_V lk_547 lk_403 lk_404 lk_3 lk_405) (cr_2 hK hw) hd_Scanner_advance ⟨Nat.le_of_ble_eq_true rfl, Nat.le_of_ble_eq_true rfl⟩ rfl hl.1 rfl (Nat.le_of_ble_eq_true rfl) d_Reader_understand_129 ⟨(Nat.zero_le _), (Nat.zero_le _)⟩ (fun H locs hw => ?_)
                  exact J_132_l48 S_22 x3 H locs ls hw (lv_sub hl [0, 1] rfl) o h ho
                · replace h := ip c_20 h
                  exact J_117_l48 S_17 x3 H locs ls hw (lv_sub hl [0, 1] rfl) o h ho
            · replace h := ip c_18 h
              refine lv_aload_n F.1 F.2.1 d_Reader_understand_95 rfl (lv_at hl 0 rfl) ?_
              refine lv_iconst (v := 1) F.1 F.2.1 d_Reader_understand_96 (by decide) ?_
              obtain ⟨S_24, hc_23, h⟩ := bd_ex h
              refine cV_v (ad := (adT ad)) F hA rfl hK hw (c_Reader_refuse l hc_23) trivial rfl (good_V lk_543 lk_545 ls_22 lk_2 lk_546) (cr_1 hK hw) hd_Reader_refuse ⟨Nat.le_of_ble_eq_true rfl, Nat.le_of_ble_eq_true rfl⟩ rfl hl.1 rfl (Nat.le_of_ble_eq_true rfl) d_Reader_understand_97 ⟨(Nat.zero_le _), (Nat.zero_le _)⟩ (fun H locs hw => ?_)
              refine lv_goto (tgt := 132) F.1 F.2.1 d_Reader_understand_100 (by decide) ?_
              exact J_132_l48 S_24 x3 H locs ls hw (lv_sub hl [0, 1] rfl) o h ho
    rw [eP_48] at hL_48
    exact hL_48 H locs ls hw (lv_sub hl [1, 0] rfl)
  exact key _ _ hw _ h (by rw [eX_0]; exact fun H locs pc ls hd hw => hQ H locs pc ls (adT ad) rfl hd hw)
theorem d_Chart_markLaws_0 : decode b_Chart_markLaws 0 = .ok (.aload_n 0, 1) := by decide +kernel
theorem d_Chart_markLaws_1 : decode b_Chart_markLaws 1 = .ok (.getfield 60, 3) := by decide +kernel
theorem d_Chart_markLaws_4 : decode b_Chart_markLaws 4 = .ok (.ifCond .eq 4, 3) := by decide +kernel
theorem d_Chart_markLaws_7 : decode b_Chart_markLaws 7 = .ok (.return_, 1) := by decide +kernel
theorem d_Chart_markLaws_8 : decode b_Chart_markLaws 8 = .ok (.aload_n 0, 1) := by decide +kernel
theorem d_Chart_markLaws_9 : decode b_Chart_markLaws 9 = .ok (.getfield 43, 3) := by decide +kernel
theorem d_Chart_markLaws_12 : decode b_Chart_markLaws 12 = .ok (.getfield 92, 3) := by decide +kernel
theorem d_Chart_markLaws_15 : decode b_Chart_markLaws 15 = .ok (.invokestatic 95, 3) := by decide +kernel
theorem d_Chart_markLaws_18 : decode b_Chart_markLaws 18 = .ok (.istore_n 1, 1) := by decide +kernel
theorem d_Chart_markLaws_19 : decode b_Chart_markLaws 19 = .ok (.aload_n 0, 1) := by decide +kernel
theorem d_Chart_markLaws_20 : decode b_Chart_markLaws 20 = .ok (.getfield 31, 3) := by decide +kernel
theorem d_Chart_markLaws_23 : decode b_Chart_markLaws 23 = .ok (.arraylength, 1) := by decide +kernel
theorem d_Chart_markLaws_24 : decode b_Chart_markLaws 24 = .ok (.iload_n 1, 1) := by decide +kernel
theorem d_Chart_markLaws_25 : decode b_Chart_markLaws 25 = .ok (.if_icmp .ge 17, 3) := by decide +kernel
theorem d_Chart_markLaws_28 : decode b_Chart_markLaws 28 = .ok (.aload_n 0, 1) := by decide +kernel
theorem d_Chart_markLaws_29 : decode b_Chart_markLaws 29 = .ok (.iload_n 1, 1) := by decide +kernel
theorem d_Chart_markLaws_30 : decode b_Chart_markLaws 30 = .ok (.newarray .int, 2) := by decide +kernel
theorem d_Chart_markLaws_32 : decode b_Chart_markLaws 32 = .ok (.putfield 31, 3) := by decide +kernel
theorem d_Chart_markLaws_35 : decode b_Chart_markLaws 35 = .ok (.aload_n 0, 1) := by decide +kernel
theorem d_Chart_markLaws_36 : decode b_Chart_markLaws 36 = .ok (.iload_n 1, 1) := by decide +kernel
theorem d_Chart_markLaws_37 : decode b_Chart_markLaws 37 = .ok (.newarray .int, 2) := by decide +kernel
theorem d_Chart_markLaws_39 : decode b_Chart_markLaws 39 = .ok (.putfield 37, 3) := by decide +kernel
theorem d_Chart_markLaws_42 : decode b_Chart_markLaws 42 = .ok (.aload_n 0, 1) := by decide +kernel
theorem d_Chart_markLaws_43 : decode b_Chart_markLaws 43 = .ok (.getfield 31, 3) := by decide +kernel
theorem d_Chart_markLaws_46 : decode b_Chart_markLaws 46 = .ok (.iconst 0, 1) := by decide +kernel
theorem d_Chart_markLaws_47 : decode b_Chart_markLaws 47 = .ok (.invokestatic 98, 3) := by decide +kernel
theorem d_Chart_markLaws_50 : decode b_Chart_markLaws 50 = .ok (.aload_n 0, 1) := by decide +kernel
theorem d_Chart_markLaws_51 : decode b_Chart_markLaws 51 = .ok (.iconst 0, 1) := by decide +kernel
theorem d_Chart_markLaws_52 : decode b_Chart_markLaws 52 = .ok (.invokevirtual 104, 3) := by decide +kernel
theorem d_Chart_markLaws_55 : decode b_Chart_markLaws 55 = .ok (.aload_n 0, 1) := by decide +kernel
theorem d_Chart_markLaws_56 : decode b_Chart_markLaws 56 = .ok (.iconst 1, 1) := by decide +kernel
theorem d_Chart_markLaws_57 : decode b_Chart_markLaws 57 = .ok (.invokevirtual 104, 3) := by decide +kernel
theorem d_Chart_markLaws_60 : decode b_Chart_markLaws 60 = .ok (.aload_n 0, 1) := by decide +kernel
theorem d_Chart_markLaws_61 : decode b_Chart_markLaws 61 = .ok (.invokevirtual 108, 3) := by decide +kernel
theorem d_Chart_markLaws_64 : decode b_Chart_markLaws 64 = .ok (.aload_n 0, 1) := by decide +kernel
theorem d_Chart_markLaws_65 : decode b_Chart_markLaws 65 = .ok (.iconst 1, 1) := by decide +kernel
theorem d_Chart_markLaws_66 : decode b_Chart_markLaws 66 = .ok (.putfield 60, 3) := by decide +kernel
theorem d_Chart_markLaws_69 : decode b_Chart_markLaws 69 = .ok (.return_, 1) := by decide +kernel
set_option maxHeartbeats 4000000 in
set_option maxRecDepth 100000 in
theorem c_Chart_markLaws (l : Launch) {S : St} {S' : St} (h : f_Chart_markLaws S = some S') {kS : Nat} (hkS : kS = kMark S) : MV cw l y_Chart_markLaws b_Chart_markLaws 2 none 3 67 2 kS (fun ad => [.ref (ad 4 0)]) aT aM S S' := by
  refine MV_of "LawfulLots$Chart" rfl (by decide) (fun _ => Nat.le_of_ble_eq_true rfl) ?_
  intro p e s m args below meth c D ar ad A Q ls hP F hK hA hw hl hQ
  have hl : lv_has ls 2 [(0, .ref (ad 4 0))] := hl
  obtain ⟨X_0, eX_0⟩ : ∃ X : St → Prop, X = (fun q => ∀ (q0 : Nat → Nat) (H : Heap) (locs : List Loc) (pc : Nat) (ls : Array Slot), decode b_Chart_markLaws pc = .ok (.return_, 1) → Bw cw D ar A s.heap H locs (adM q0 ad) q → W p l e (RMA 3 67 2 kS) s m args below meth c H locs 2 kS Q (F0 m pc ls [])) := ⟨_, rfl⟩
  have key : ∀ (H : Heap) (locs : List Loc), Bw cw D ar A s.heap H locs ad S → ∀ o, f_Chart_markLaws S = some o → X_0 o → W p l e (RMA 3 67 2 kS) s m args below meth c H locs 0 0 Q (F0 m 0 ls []) := by
    intro H locs hw o h ho
    unfold f_Chart_markLaws at h
    have J_42 : ∀ (q0 : Nat → Nat) (S : St) (H : Heap) (locs : List Loc) (ls : Array Slot), Bw cw D ar A s.heap H locs (adM q0 ad) S → lv_has ls 2 [(0, .ref ((adM q0 ad) 4 0))] → ∀ o, Chart_markLaws_j42 S = some o → X_0 o → W p l e (RMA 3 67 2 kS) s m args below meth c H locs 2 kS Q (F0 m 42 ls []) := by
      intro q0 S H locs ls hw hl o h ho
      unfold Chart_markLaws_j42 at h
      refine lv_aload_n F.1 F.2.1 d_Chart_markLaws_42 rfl (lv_at hl 0 rfl) ?_
      refine cg_4_5 (ad := (adM q0 ad)) F hK hw lk_196 d_Chart_markLaws_43 ?_
      refine lv_iconst (v := 0) F.1 F.2.1 d_Chart_markLaws_46 (by decide) ?_
      obtain ⟨S_15, hc_14, h⟩ := bd_ex h
      refine cS_v (ad := (adM q0 ad)) F hA rfl hK hw (c_Arrays_fill_4_5 l hc_14) trivial rfl (good_S lk_602 lk_390 lk_11 lk_391) hd_Arrays_fill ⟨Nat.le_of_ble_eq_true rfl, Nat.le_of_ble_eq_true rfl⟩ rfl hl.1 rfl (Nat.le_of_ble_eq_true rfl) d_Chart_markLaws_47 ⟨(Nat.le_refl _), (Nat.le_refl _)⟩ (fun H locs hw => ?_)
      refine lv_aload_n F.1 F.2.1 d_Chart_markLaws_50 rfl (lv_at hl 0 rfl) ?_
      refine lv_iconst (v := 0) F.1 F.2.1 d_Chart_markLaws_51 (by decide) ?_
      obtain ⟨S_17, hc_16, h⟩ := bd_ex h
      refine cV_v (ad := (adM q0 ad)) F hA rfl hK hw (c_Chart_mark l hc_16) trivial rfl (good_V lk_603 lk_605 ls_25 lk_5 lk_606) (cr_4 hK hw) hd_Chart_mark ⟨Nat.le_of_ble_eq_true rfl, Nat.le_of_ble_eq_true rfl⟩ rfl hl.1 rfl (Nat.le_of_ble_eq_true rfl) d_Chart_markLaws_52 ⟨(Nat.le_refl _), (Nat.le_refl _)⟩ (fun H locs hw => ?_)
      refine lv_aload_n F.1 F.2.1 d_Chart_markLaws_55 rfl (lv_at hl 0 rfl) ?_
      refine lv_iconst (v := 1) F.1 F.2.1 d_Chart_markLaws_56 (by decide) ?_
      obtain ⟨S_19, hc_18, h⟩ := bd_ex h
      refine cV_v (ad := (adM q0 ad)) F hA rfl hK hw (c_Chart_mark l hc_18) trivial rfl (good_V lk_603 lk_605 ls_25 lk_5 lk_606) (cr_4 hK hw) hd_Chart_mark ⟨Nat.le_of_ble_eq_true rfl, Nat.le_of_ble_eq_true rfl⟩ rfl hl.1 rfl (Nat.le_of_ble_eq_true rfl) d_Chart_markLaws_57 ⟨(Nat.le_refl _), (Nat.le_refl _)⟩ (fun H locs hw => ?_)
      refine lv_aload_n F.1 F.2.1 d_Chart_markLaws_60 rfl (lv_at hl 0 rfl) ?_
      obtain ⟨S_21, hc_20, h⟩ := bd_ex h
      refine cV_v (ad := (adM q0 ad)) F hA rfl hK hw (c_Chart_countStanding l hc_20) trivial rfl (good_V lk_620 lk_622 ls_26 lk_5 lk_623) (cr_4 hK hw) hd_Chart_countStanding ⟨Nat.le_of_ble_eq_true rfl, Nat.le_of_ble_eq_true rfl⟩ rfl hl.1 rfl (Nat.le_of_ble_eq_true rfl) d_Chart_markLaws_61 ⟨(Nat.le_refl _), (Nat.le_refl _)⟩ (fun H locs hw => ?_)
      refine lv_aload_n F.1 F.2.1 d_Chart_markLaws_64 rfl (lv_at hl 0 rfl) ?_
      refine lv_iconst (v := 1) F.1 F.2.1 d_Chart_markLaws_65 (by decide) ?_
      obtain ⟨S_22, eS_22, h⟩ := nm_ex h
      refine cp_4_13 (ad := (adM q0 ad)) F hK hw isB1 lk_212 d_Chart_markLaws_66 eS_22 (fun H locs hw => ?_)
      cases h
      have ho : X_0 _ := ho
      rw [eX_0] at ho
      exact ho q0 H locs _ ls d_Chart_markLaws_69 hw
    refine lv_aload_n F.1 F.2.1 d_Chart_markLaws_0 rfl (lv_at hl 0 rfl) ?_
    refine cg_4_13 F hK hw lk_212 d_Chart_markLaws_1 ?_
    refine lv_if_eq (tgt := 8) F.1 F.2.1 d_Chart_markLaws_4 (by decide) (fun c_1 => ?_) (fun c_1 => ?_)
    · replace h := ip c_1 h
      refine lv_aload_n F.1 F.2.1 d_Chart_markLaws_8 rfl (lv_at hl 0 rfl) ?_
      refine cg_4_8 F hK hw lk_199 d_Chart_markLaws_9 ?_
      refine cg_5_11 F hK hw lk_86 d_Chart_markLaws_12 ?_
      obtain ⟨v_3, hc_2, h⟩ := bd_ex h
      refine cS_i F hA rfl hK hw (c_Chart_roomFor l S hc_2) trivial rfl (good_S lk_598 lk_599 lk_5 lk_600) hd_Chart_roomFor ⟨Nat.le_of_ble_eq_true rfl, Nat.le_of_ble_eq_true rfl⟩ rfl hl.1 rfl (Nat.le_of_ble_eq_true rfl) d_Chart_markLaws_15 ⟨(Nat.zero_le _), (Nat.zero_le _)⟩ (fun H locs hw => ?_)
      refine lv_istore_n (lv' := [(1, .int v_3), (0, .ref (ad 4 0))]) F.1 F.2.1 d_Chart_markLaws_18 rfl hl (by decide) rfl (fun ls hl => ?_)
      refine lv_aload_n F.1 F.2.1 d_Chart_markLaws_19 rfl (lv_at hl 1 rfl) ?_
      refine cg_4_5 F hK hw lk_196 d_Chart_markLaws_20 ?_
      refine cn_4_5 F hK hw d_Chart_markLaws_23 ?_
      refine lv_iload_n F.1 F.2.1 d_Chart_markLaws_24 rfl (lv_at hl 0 rfl) ?_
      refine lv_icmp_ge (tgt := 42) F.1 F.2.1 d_Chart_markLaws_25 (by decide) (fun c_4 => ?_) (fun c_4 => ?_)
      · replace h := ip c_4 h
        obtain ⟨q_5, hq_5⟩ := (aM_rf ad)
        rw [hq_5] at hw
        refine W.widen (k := 2) (n := kS) (Nat.le_of_ble_eq_true rfl) (Nat.zero_le _) ?_
        exact J_42 q_5 S H locs ls hw (lv_sub hl [1] rfl) o h ho
      · replace h := iq c_4 h
        refine lv_aload_n F.1 F.2.1 d_Chart_markLaws_28 rfl (lv_at hl 1 rfl) ?_
        refine lv_iload_n F.1 F.2.1 d_Chart_markLaws_29 rfl (lv_at hl 0 rfl) ?_
        obtain ⟨hn_6, h⟩ := gd_ex h
        obtain ⟨S_7, eS_7, h⟩ := nm_ex h
        refine new_4_5 F hA hK hw lk_196 d_Chart_markLaws_30 d_Chart_markLaws_32 hn_6 (Nat.le_of_ble_eq_true rfl) (by show _ ≤ kS; rw [hkS]; unfold kMark; simp only [if_pos c_1, hc_2, if_neg c_4]; omega) eS_7 (fun q_8 H locs hw => ?_)
        refine lv_aload_n F.1 F.2.1 d_Chart_markLaws_35 rfl (lv_at hl 1 rfl) ?_
        refine lv_iload_n F.1 F.2.1 d_Chart_markLaws_36 rfl (lv_at hl 0 rfl) ?_
        obtain ⟨hn_9, h⟩ := gd_ex h
        obtain ⟨S_10, eS_10, h⟩ := nm_ex h
        refine new_4_7 (ad := (adU ad 4 6 q_8)) F hA hK hw lk_198 d_Chart_markLaws_37 d_Chart_markLaws_39 hn_9 (Nat.le_of_ble_eq_true rfl) (by show _ ≤ kS; rw [hkS]; unfold kMark; simp only [if_pos c_1, hc_2, if_neg c_4]; omega) eS_10 (fun q_11 H locs hw => ?_)
        obtain ⟨q_12, hq_12⟩ := (aM_U (aM_U (aM_rf ad) 6 q_8 rfl) 8 q_11 rfl)
        rw [hq_12] at hw
        refine W.widen (k := 2) (n := kS) (Nat.le_of_ble_eq_true rfl) (by show _ ≤ kS; rw [hkS]; unfold kMark; simp only [if_pos c_1, hc_2, if_neg c_4]; omega) ?_
        exact J_42 q_12 S_10 H locs ls hw (lv_sub hl [1] rfl) o h ho
    · replace h := iq c_1 h
      obtain ⟨q_13, hq_13⟩ := (aM_rf ad)
      rw [hq_13] at hw
      refine W.widen (k := 2) (n := kS) (Nat.le_of_ble_eq_true rfl) (Nat.zero_le _) ?_
      cases h
      have ho : X_0 _ := ho
      rw [eX_0] at ho
      exact ho q_13 H locs _ ls d_Chart_markLaws_7 hw
  exact key _ _ hw _ h (by rw [eX_0]; exact fun q0 H locs pc ls hd hw => hQ H locs pc ls (adM q0 ad) ⟨q0, rfl⟩ hd hw)
theorem d_Chart_refresh_0 : decode b_Chart_refresh 0 = .ok (.aload_n 0, 1) := by decide +kernel
theorem d_Chart_refresh_1 : decode b_Chart_refresh 1 = .ok (.getfield 70, 3) := by decide +kernel
theorem d_Chart_refresh_4 : decode b_Chart_refresh 4 = .ok (.ifCond .eq 4, 3) := by decide +kernel
theorem d_Chart_refresh_7 : decode b_Chart_refresh 7 = .ok (.return_, 1) := by decide +kernel
theorem d_Chart_refresh_8 : decode b_Chart_refresh 8 = .ok (.aload_n 0, 1) := by decide +kernel
theorem d_Chart_refresh_9 : decode b_Chart_refresh 9 = .ok (.invokevirtual 80, 3) := by decide +kernel
theorem d_Chart_refresh_12 : decode b_Chart_refresh 12 = .ok (.aload_n 0, 1) := by decide +kernel
theorem d_Chart_refresh_13 : decode b_Chart_refresh 13 = .ok (.invokevirtual 83, 3) := by decide +kernel
theorem d_Chart_refresh_16 : decode b_Chart_refresh 16 = .ok (.aload_n 0, 1) := by decide +kernel
theorem d_Chart_refresh_17 : decode b_Chart_refresh 17 = .ok (.invokevirtual 86, 3) := by decide +kernel
theorem d_Chart_refresh_20 : decode b_Chart_refresh 20 = .ok (.aload_n 0, 1) := by decide +kernel
theorem d_Chart_refresh_21 : decode b_Chart_refresh 21 = .ok (.invokevirtual 89, 3) := by decide +kernel
theorem d_Chart_refresh_24 : decode b_Chart_refresh 24 = .ok (.aload_n 0, 1) := by decide +kernel
theorem d_Chart_refresh_25 : decode b_Chart_refresh 25 = .ok (.iconst 1, 1) := by decide +kernel
theorem d_Chart_refresh_26 : decode b_Chart_refresh 26 = .ok (.putfield 70, 3) := by decide +kernel
theorem d_Chart_refresh_29 : decode b_Chart_refresh 29 = .ok (.return_, 1) := by decide +kernel
set_option maxHeartbeats 4000000 in
set_option maxRecDepth 100000 in
theorem c_Chart_refresh (l : Launch) {S : St} {S' : St} (h : f_Chart_refresh S = some S') {kS : Nat} (hkS : kS = kMark S) : MV cw l y_Chart_refresh b_Chart_refresh 1 none 4 88 2 kS (fun ad => [.ref (ad 4 0)]) aT aM S S' := by
  refine MV_of "LawfulLots$Chart" rfl (by decide) (fun _ => Nat.le_of_ble_eq_true rfl) ?_
  intro p e s m args below meth c D ar ad A Q ls hP F hK hA hw hl hQ
  have hl : lv_has ls 1 [(0, .ref (ad 4 0))] := hl
  obtain ⟨X_0, eX_0⟩ : ∃ X : St → Prop, X = (fun q => ∀ (q0 : Nat → Nat) (H : Heap) (locs : List Loc) (pc : Nat) (ls : Array Slot), decode b_Chart_refresh pc = .ok (.return_, 1) → Bw cw D ar A s.heap H locs (adM q0 ad) q → W p l e (RMA 4 88 2 kS) s m args below meth c H locs 2 kS Q (F0 m pc ls [])) := ⟨_, rfl⟩
  have key : ∀ (H : Heap) (locs : List Loc), Bw cw D ar A s.heap H locs ad S → ∀ o, f_Chart_refresh S = some o → X_0 o → W p l e (RMA 4 88 2 kS) s m args below meth c H locs 0 0 Q (F0 m 0 ls []) := by
    intro H locs hw o h ho
    unfold f_Chart_refresh at h
    refine lv_aload_n F.1 F.2.1 d_Chart_refresh_0 rfl (lv_at hl 0 rfl) ?_
    refine cg_4_16 F hK hw lk_215 d_Chart_refresh_1 ?_
    refine lv_if_eq (tgt := 8) F.1 F.2.1 d_Chart_refresh_4 (by decide) (fun c_1 => ?_) (fun c_1 => ?_)
    · replace h := ip c_1 h
      refine lv_aload_n F.1 F.2.1 d_Chart_refresh_8 rfl (lv_at hl 0 rfl) ?_
      obtain ⟨S_3, hc_2, h⟩ := bd_ex h
      refine cVm_v F hA rfl hK hw (c_Chart_markLaws l hc_2 rfl) trivial rfl (good_V lk_594 lk_596 ls_24 lk_5 lk_597) (cr_4 hK hw) hd_Chart_markLaws ⟨Nat.le_of_ble_eq_true rfl, Nat.le_of_ble_eq_true rfl⟩ rfl hl.1 rfl (Nat.le_of_ble_eq_true rfl) d_Chart_refresh_9 ⟨Nat.le_of_ble_eq_true rfl, (by show _ ≤ kS; rw [hkS]; exact Nat.le_of_eq (Nat.zero_add _))⟩ (fun q_4 H locs hw => ?_)
      refine W.widen (k := 2) (n := kS) (Nat.le_of_ble_eq_true rfl) (by show _ ≤ kS; rw [hkS]; exact Nat.le_of_eq (Nat.zero_add _)) ?_
      refine lv_aload_n F.1 F.2.1 d_Chart_refresh_12 rfl (lv_at hl 0 rfl) ?_
      obtain ⟨S_6, hc_5, h⟩ := bd_ex h
      refine cV_v (ad := (adM q_4 ad)) F hA rfl hK hw (c_Chart_gather l hc_5) trivial rfl (good_V lk_628 lk_630 ls_27 lk_5 lk_631) (cr_4 hK hw) hd_Chart_gather ⟨Nat.le_of_ble_eq_true rfl, Nat.le_of_ble_eq_true rfl⟩ rfl hl.1 rfl (Nat.le_of_ble_eq_true rfl) d_Chart_refresh_13 ⟨(Nat.le_refl _), (Nat.le_refl _)⟩ (fun H locs hw => ?_)
      refine lv_aload_n F.1 F.2.1 d_Chart_refresh_16 rfl (lv_at hl 0 rfl) ?_
      obtain ⟨S_8, hc_7, h⟩ := bd_ex h
      refine cV_v (ad := (adM q_4 ad)) F hA rfl hK hw (c_Chart_keepSoft l hc_7) trivial rfl (good_V lk_632 lk_634 ls_28 lk_5 lk_635) (cr_4 hK hw) hd_Chart_keepSoft ⟨Nat.le_of_ble_eq_true rfl, Nat.le_of_ble_eq_true rfl⟩ rfl hl.1 rfl (Nat.le_of_ble_eq_true rfl) d_Chart_refresh_17 ⟨(Nat.le_refl _), (Nat.le_refl _)⟩ (fun H locs hw => ?_)
      refine lv_aload_n F.1 F.2.1 d_Chart_refresh_20 rfl (lv_at hl 0 rfl) ?_
      obtain ⟨S_10, hc_9, h⟩ := bd_ex h
      refine cV_v (ad := (adM q_4 ad)) F hA rfl hK hw (c_Chart_narrow l hc_9) trivial rfl (good_V lk_644 lk_646 ls_31 lk_5 lk_647) (cr_4 hK hw) hd_Chart_narrow ⟨Nat.le_of_ble_eq_true rfl, Nat.le_of_ble_eq_true rfl⟩ rfl hl.1 rfl (Nat.le_of_ble_eq_true rfl) d_Chart_refresh_21 ⟨(Nat.le_refl _), (Nat.le_refl _)⟩ (fun H locs hw => ?_)
      refine lv_aload_n F.1 F.2.1 d_Chart_refresh_24 rfl (lv_at hl 0 rfl) ?_
      refine lv_iconst (v := 1) F.1 F.2.1 d_Chart_refresh_25 (by decide) ?_
      obtain ⟨S_11, eS_11, h⟩ := nm_ex h
      refine cp_4_16 (ad := (adM q_4 ad)) F hK hw isB1 lk_215 d_Chart_refresh_26 eS_11 (fun H locs hw => ?_)
      cases h
      have ho : X_0 _ := ho
      rw [eX_0] at ho
      exact ho q_4 H locs _ ls d_Chart_refresh_29 hw
    · replace h := iq c_1 h
      obtain ⟨q_12, hq_12⟩ := (aM_rf ad)
      rw [hq_12] at hw
      refine W.widen (k := 2) (n := kS) (Nat.le_of_ble_eq_true rfl) (Nat.zero_le _) ?_
      cases h
      have ho : X_0 _ := ho
      rw [eX_0] at ho
      exact ho q_12 H locs _ ls d_Chart_refresh_7 hw
  exact key _ _ hw _ h (by rw [eX_0]; exact fun q0 H locs pc ls hd hw => hQ H locs pc ls (adM q0 ad) ⟨q0, rfl⟩ hd hw)
theorem d_Chart_refreshBins_0 : decode b_Chart_refreshBins 0 = .ok (.aload_n 0, 1) := by decide +kernel
theorem d_Chart_refreshBins_1 : decode b_Chart_refreshBins 1 = .ok (.invokevirtual 149, 3) := by decide +kernel
theorem d_Chart_refreshBins_4 : decode b_Chart_refreshBins 4 = .ok (.aload_n 0, 1) := by decide +kernel
theorem d_Chart_refreshBins_5 : decode b_Chart_refreshBins 5 = .ok (.getfield 64, 3) := by decide +kernel
theorem d_Chart_refreshBins_8 : decode b_Chart_refreshBins 8 = .ok (.ifCond .ne 13, 3) := by decide +kernel
theorem d_Chart_refreshBins_11 : decode b_Chart_refreshBins 11 = .ok (.aload_n 0, 1) := by decide +kernel
theorem d_Chart_refreshBins_12 : decode b_Chart_refreshBins 12 = .ok (.iconst 2, 1) := by decide +kernel
theorem d_Chart_refreshBins_13 : decode b_Chart_refreshBins 13 = .ok (.invokevirtual 104, 3) := by decide +kernel
theorem d_Chart_refreshBins_16 : decode b_Chart_refreshBins 16 = .ok (.aload_n 0, 1) := by decide +kernel
theorem d_Chart_refreshBins_17 : decode b_Chart_refreshBins 17 = .ok (.iconst 1, 1) := by decide +kernel
theorem d_Chart_refreshBins_18 : decode b_Chart_refreshBins 18 = .ok (.putfield 64, 3) := by decide +kernel
theorem d_Chart_refreshBins_21 : decode b_Chart_refreshBins 21 = .ok (.return_, 1) := by decide +kernel
set_option maxHeartbeats 4000000 in
set_option maxRecDepth 100000 in
theorem c_Chart_refreshBins (l : Launch) {S : St} {S' : St} (h : f_Chart_refreshBins S = some S') {kS : Nat} (hkS : kS = kMark S) : MV cw l y_Chart_refreshBins b_Chart_refreshBins 1 none 5 108 2 kS (fun ad => [.ref (ad 4 0)]) aT aM S S' := by
  refine MV_of "LawfulLots$Chart" rfl (by decide) (fun _ => Nat.le_of_ble_eq_true rfl) ?_
  intro p e s m args below meth c D ar ad A Q ls hP F hK hA hw hl hQ
  have hl : lv_has ls 1 [(0, .ref (ad 4 0))] := hl
  obtain ⟨X_0, eX_0⟩ : ∃ X : St → Prop, X = (fun q => ∀ (q0 : Nat → Nat) (H : Heap) (locs : List Loc) (pc : Nat) (ls : Array Slot), decode b_Chart_refreshBins pc = .ok (.return_, 1) → Bw cw D ar A s.heap H locs (adM q0 ad) q → W p l e (RMA 5 108 2 kS) s m args below meth c H locs 2 kS Q (F0 m pc ls [])) := ⟨_, rfl⟩
  have key : ∀ (H : Heap) (locs : List Loc), Bw cw D ar A s.heap H locs ad S → ∀ o, f_Chart_refreshBins S = some o → X_0 o → W p l e (RMA 5 108 2 kS) s m args below meth c H locs 0 0 Q (F0 m 0 ls []) := by
    intro H locs hw o h ho
    unfold f_Chart_refreshBins at h
    have J_21 : ∀ (q0 : Nat → Nat) (S : St) (H : Heap) (locs : List Loc) (ls : Array Slot), Bw cw D ar A s.heap H locs (adM q0 ad) S → lv_has ls 1 [] → ∀ o, Chart_refreshBins_j21 S = some o → X_0 o → W p l e (RMA 5 108 2 kS) s m args below meth c H locs 2 kS Q (F0 m 21 ls []) := by
      intro q0 S H locs ls hw hl o h ho
      unfold Chart_refreshBins_j21 at h
      cases h
      have ho : X_0 _ := ho
      rw [eX_0] at ho
      exact ho q0 H locs _ ls d_Chart_refreshBins_21 hw
    refine lv_aload_n F.1 F.2.1 d_Chart_refreshBins_0 rfl (lv_at hl 0 rfl) ?_
    obtain ⟨S_2, hc_1, h⟩ := bd_ex h
    refine cVm_v F hA rfl hK hw (c_Chart_refresh l hc_1 rfl) trivial rfl (good_V lk_676 lk_591 lk_592 lk_5 lk_593) (cr_4 hK hw) hd_Chart_refresh ⟨Nat.le_of_ble_eq_true rfl, Nat.le_of_ble_eq_true rfl⟩ rfl hl.1 rfl (Nat.le_of_ble_eq_true rfl) d_Chart_refreshBins_1 ⟨Nat.le_of_ble_eq_true rfl, (by show _ ≤ kS; rw [hkS]; exact Nat.le_of_eq (Nat.zero_add _))⟩ (fun q_3 H locs hw => ?_)
    refine W.widen (k := 2) (n := kS) (Nat.le_of_ble_eq_true rfl) (by show _ ≤ kS; rw [hkS]; exact Nat.le_of_eq (Nat.zero_add _)) ?_
    refine lv_aload_n F.1 F.2.1 d_Chart_refreshBins_4 rfl (lv_at hl 0 rfl) ?_
    refine cg_4_14 (ad := (adM q_3 ad)) F hK hw lk_213 d_Chart_refreshBins_5 ?_
    refine lv_if_ne (tgt := 21) F.1 F.2.1 d_Chart_refreshBins_8 (by decide) (fun c_4 => ?_) (fun c_4 => ?_)
    · replace h := iq c_4 h
      exact J_21 q_3 S_2 H locs ls hw (lv_sub hl [] rfl) o h ho
    · replace h := ip c_4 h
      refine lv_aload_n F.1 F.2.1 d_Chart_refreshBins_11 rfl (lv_at hl 0 rfl) ?_
      refine lv_iconst (v := 2) F.1 F.2.1 d_Chart_refreshBins_12 (by decide) ?_
      obtain ⟨S_6, hc_5, h⟩ := bd_ex h
      refine cV_v (ad := (adM q_3 ad)) F hA rfl hK hw (c_Chart_mark l hc_5) trivial rfl (good_V lk_603 lk_605 ls_25 lk_5 lk_606) (cr_4 hK hw) hd_Chart_mark ⟨Nat.le_of_ble_eq_true rfl, Nat.le_of_ble_eq_true rfl⟩ rfl hl.1 rfl (Nat.le_of_ble_eq_true rfl) d_Chart_refreshBins_13 ⟨(Nat.le_refl _), (Nat.le_refl _)⟩ (fun H locs hw => ?_)
      refine lv_aload_n F.1 F.2.1 d_Chart_refreshBins_16 rfl (lv_at hl 0 rfl) ?_
      refine lv_iconst (v := 1) F.1 F.2.1 d_Chart_refreshBins_17 (by decide) ?_
      obtain ⟨S_7, eS_7, h⟩ := nm_ex h
      refine cp_4_14 (ad := (adM q_3 ad)) F hK hw isB1 lk_213 d_Chart_refreshBins_18 eS_7 (fun H locs hw => ?_)
      exact J_21 q_3 S_7 H locs ls hw (lv_sub hl [] rfl) o h ho
  exact key _ _ hw _ h (by rw [eX_0]; exact fun q0 H locs pc ls hd hw => hQ H locs pc ls (adM q0 ad) ⟨q0, rfl⟩ hd hw)
theorem d_Chart_tellShares_0 : decode b_Chart_tellShares 0 = .ok (.aload_n 0, 1) := by decide +kernel
theorem d_Chart_tellShares_1 : decode b_Chart_tellShares 1 = .ok (.getfield 34, 3) := by decide +kernel
theorem d_Chart_tellShares_4 : decode b_Chart_tellShares 4 = .ok (.arraylength, 1) := by decide +kernel
theorem d_Chart_tellShares_5 : decode b_Chart_tellShares 5 = .ok (.aload_n 0, 1) := by decide +kernel
theorem d_Chart_tellShares_6 : decode b_Chart_tellShares 6 = .ok (.getfield 31, 3) := by decide +kernel
theorem d_Chart_tellShares_9 : decode b_Chart_tellShares 9 = .ok (.arraylength, 1) := by decide +kernel
theorem d_Chart_tellShares_10 : decode b_Chart_tellShares 10 = .ok (.if_icmp .ge 14, 3) := by decide +kernel
theorem d_Chart_tellShares_13 : decode b_Chart_tellShares 13 = .ok (.aload_n 0, 1) := by decide +kernel
theorem d_Chart_tellShares_14 : decode b_Chart_tellShares 14 = .ok (.aload_n 0, 1) := by decide +kernel
theorem d_Chart_tellShares_15 : decode b_Chart_tellShares 15 = .ok (.getfield 31, 3) := by decide +kernel
theorem d_Chart_tellShares_18 : decode b_Chart_tellShares 18 = .ok (.arraylength, 1) := by decide +kernel
theorem d_Chart_tellShares_19 : decode b_Chart_tellShares 19 = .ok (.newarray .int, 2) := by decide +kernel
theorem d_Chart_tellShares_21 : decode b_Chart_tellShares 21 = .ok (.putfield 34, 3) := by decide +kernel
theorem d_Chart_tellShares_24 : decode b_Chart_tellShares 24 = .ok (.aload_n 0, 1) := by decide +kernel
theorem d_Chart_tellShares_25 : decode b_Chart_tellShares 25 = .ok (.getfield 43, 3) := by decide +kernel
theorem d_Chart_tellShares_28 : decode b_Chart_tellShares 28 = .ok (.getfield 92, 3) := by decide +kernel
theorem d_Chart_tellShares_31 : decode b_Chart_tellShares 31 = .ok (.aload_n 0, 1) := by decide +kernel
theorem d_Chart_tellShares_32 : decode b_Chart_tellShares 32 = .ok (.getfield 34, 3) := by decide +kernel
theorem d_Chart_tellShares_35 : decode b_Chart_tellShares 35 = .ok (.arraylength, 1) := by decide +kernel
theorem d_Chart_tellShares_36 : decode b_Chart_tellShares 36 = .ok (.invokestatic 112, 3) := by decide +kernel
theorem d_Chart_tellShares_39 : decode b_Chart_tellShares 39 = .ok (.istore_n 1, 1) := by decide +kernel
theorem d_Chart_tellShares_40 : decode b_Chart_tellShares 40 = .ok (.aload_n 0, 1) := by decide +kernel
theorem d_Chart_tellShares_41 : decode b_Chart_tellShares 41 = .ok (.invokevirtual 158, 3) := by decide +kernel
theorem d_Chart_tellShares_44 : decode b_Chart_tellShares 44 = .ok (.istore_n 2, 1) := by decide +kernel
theorem d_Chart_tellShares_45 : decode b_Chart_tellShares 45 = .ok (.iconst 1, 1) := by decide +kernel
theorem d_Chart_tellShares_46 : decode b_Chart_tellShares 46 = .ok (.istore_n 3, 1) := by decide +kernel
theorem d_Chart_tellShares_47 : decode b_Chart_tellShares 47 = .ok (.iconst (-1), 1) := by decide +kernel
theorem d_Chart_tellShares_48 : decode b_Chart_tellShares 48 = .ok (.istore 4, 2) := by decide +kernel
theorem d_Chart_tellShares_50 : decode b_Chart_tellShares 50 = .ok (.aload_n 0, 1) := by decide +kernel
theorem d_Chart_tellShares_51 : decode b_Chart_tellShares 51 = .ok (.getfield 43, 3) := by decide +kernel
theorem d_Chart_tellShares_54 : decode b_Chart_tellShares 54 = .ok (.aload_n 0, 1) := by decide +kernel
theorem d_Chart_tellShares_55 : decode b_Chart_tellShares 55 = .ok (.getfield 18, 3) := by decide +kernel
theorem d_Chart_tellShares_58 : decode b_Chart_tellShares 58 = .ok (.invokevirtual 121, 3) := by decide +kernel
theorem d_Chart_tellShares_61 : decode b_Chart_tellShares 61 = .ok (.iconst 0, 1) := by decide +kernel
theorem d_Chart_tellShares_62 : decode b_Chart_tellShares 62 = .ok (.istore 5, 2) := by decide +kernel
theorem d_Chart_tellShares_64 : decode b_Chart_tellShares 64 = .ok (.iload 5, 2) := by decide +kernel
theorem d_Chart_tellShares_66 : decode b_Chart_tellShares 66 = .ok (.iload_n 1, 1) := by decide +kernel
theorem d_Chart_tellShares_67 : decode b_Chart_tellShares 67 = .ok (.if_icmp .ge 41, 3) := by decide +kernel
theorem d_Chart_tellShares_70 : decode b_Chart_tellShares 70 = .ok (.iload_n 2, 1) := by decide +kernel
theorem d_Chart_tellShares_71 : decode b_Chart_tellShares 71 = .ok (.iload 4, 2) := by decide +kernel
theorem d_Chart_tellShares_73 : decode b_Chart_tellShares 73 = .ok (.if_icmp .lt 8, 3) := by decide +kernel
theorem d_Chart_tellShares_76 : decode b_Chart_tellShares 76 = .ok (.aload_n 0, 1) := by decide +kernel
theorem d_Chart_tellShares_77 : decode b_Chart_tellShares 77 = .ok (.invokevirtual 162, 3) := by decide +kernel
theorem d_Chart_tellShares_80 : decode b_Chart_tellShares 80 = .ok (.istore_n 3, 1) := by decide +kernel
theorem d_Chart_tellShares_81 : decode b_Chart_tellShares 81 = .ok (.aload_n 0, 1) := by decide +kernel
theorem d_Chart_tellShares_82 : decode b_Chart_tellShares 82 = .ok (.getfield 34, 3) := by decide +kernel
theorem d_Chart_tellShares_85 : decode b_Chart_tellShares 85 = .ok (.iload 5, 2) := by decide +kernel
theorem d_Chart_tellShares_87 : decode b_Chart_tellShares 87 = .ok (.iload_n 3, 1) := by decide +kernel
theorem d_Chart_tellShares_88 : decode b_Chart_tellShares 88 = .ok (.iastore, 1) := by decide +kernel
theorem d_Chart_tellShares_89 : decode b_Chart_tellShares 89 = .ok (.aload_n 0, 1) := by decide +kernel
theorem d_Chart_tellShares_90 : decode b_Chart_tellShares 90 = .ok (.getfield 43, 3) := by decide +kernel
theorem d_Chart_tellShares_93 : decode b_Chart_tellShares 93 = .ok (.aload_n 0, 1) := by decide +kernel
theorem d_Chart_tellShares_94 : decode b_Chart_tellShares 94 = .ok (.getfield 18, 3) := by decide +kernel
theorem d_Chart_tellShares_97 : decode b_Chart_tellShares 97 = .ok (.invokevirtual 129, 3) := by decide +kernel
theorem d_Chart_tellShares_100 : decode b_Chart_tellShares 100 = .ok (.istore 4, 2) := by decide +kernel
theorem d_Chart_tellShares_102 : decode b_Chart_tellShares 102 = .ok (.iinc 5 1, 3) := by decide +kernel
theorem d_Chart_tellShares_105 : decode b_Chart_tellShares 105 = .ok (.goto (-41), 3) := by decide +kernel
theorem d_Chart_tellShares_108 : decode b_Chart_tellShares 108 = .ok (.return_, 1) := by decide +kernel
set_option maxHeartbeats 4000000 in
set_option maxRecDepth 100000 in
theorem c_Chart_tellShares (l : Launch) {S : St} {S' : St} (h : f_Chart_tellShares S = some S') {kS : Nat} (hkS : kS = kTell S) : MV cw l y_Chart_tellShares b_Chart_tellShares 6 none 2 53 1 kS (fun ad => [.ref (ad 4 0)]) aT aM S S' := by
  refine MV_of "LawfulLots$Chart" rfl (by decide) (fun _ => Nat.le_of_ble_eq_true rfl) ?_
  intro p e s m args below meth c D ar ad A Q ls hP F hK hA hw hl hQ
  have hl : lv_has ls 6 [(0, .ref (ad 4 0))] := hl
  obtain ⟨X_0, eX_0⟩ : ∃ X : St → Prop, X = (fun q => ∀ (q0 : Nat → Nat) (H : Heap) (locs : List Loc) (pc : Nat) (ls : Array Slot), decode b_Chart_tellShares pc = .ok (.return_, 1) → Bw cw D ar A s.heap H locs (adM q0 ad) q → W p l e (RMA 2 53 1 kS) s m args below meth c H locs 1 kS Q (F0 m pc ls [])) := ⟨_, rfl⟩
  have key : ∀ (H : Heap) (locs : List Loc), Bw cw D ar A s.heap H locs ad S → ∀ o, f_Chart_tellShares S = some o → X_0 o → W p l e (RMA 2 53 1 kS) s m args below meth c H locs 0 0 Q (F0 m 0 ls []) := by
    intro H locs hw o h ho
    unfold f_Chart_tellShares at h
    have J_24 : ∀ (q0 : Nat → Nat) (S : St) (H : Heap) (locs : List Loc) (ls : Array Slot), Bw cw D ar A s.heap H locs (adM q0 ad) S → lv_has ls 6 [(0, .ref ((adM q0 ad) 4 0))] → ∀ o, Chart_tellShares_j24 S = some o → X_0 o → W p l e (RMA 2 53 1 kS) s m args below meth c H locs 1 kS Q (F0 m 24 ls []) := by
      intro q0 S H locs ls hw hl o h ho
      unfold Chart_tellShares_j24 at h
      refine lv_aload_n F.1 F.2.1 d_Chart_tellShares_24 rfl (lv_at hl 0 rfl) ?_
      refine cg_4_8 (ad := (adM q0 ad)) F hK hw lk_199 d_Chart_tellShares_25 ?_
      refine cg_5_11 (ad := (adM q0 ad)) F hK hw lk_86 d_Chart_tellShares_28 ?_
      refine lv_aload_n F.1 F.2.1 d_Chart_tellShares_31 rfl (lv_at hl 0 rfl) ?_
      refine cg_4_6 (ad := (adM q0 ad)) F hK hw lk_197 d_Chart_tellShares_32 ?_
      refine cn_4_6 (ad := (adM q0 ad)) F hK hw d_Chart_tellShares_35 ?_
      refine va_mmin F.1 F.2.1 (F.2.2.1.trans hl.1.symm) F.2.2.2.1 (F.2.2.2.2 _ lk_607) (F.2.2.2.2 _ lk_397) (F.2.2.2.2 _ lk_12) (F.2.2.2.2 _ lk_398) (Nat.le_of_ble_eq_true rfl) (Nat.le_of_ble_eq_true rfl) (Nat.le_refl _) (Nat.le_refl _) d_Chart_tellShares_36 ?_
      obtain ⟨x1_7, ex1_7, h⟩ := nm_ex h
      refine lv_nm ex1_7 ?_
      refine lv_istore_n (lv' := [(1, .int x1_7), (0, .ref ((adM q0 ad) 4 0))]) F.1 F.2.1 d_Chart_tellShares_39 rfl hl (by decide) rfl (fun ls hl => ?_)
      refine lv_aload_n F.1 F.2.1 d_Chart_tellShares_40 rfl (lv_at hl 1 rfl) ?_
      obtain ⟨v_9, hc_8, h⟩ := bd_ex h
      refine cV_i (ad := (adM q0 ad)) F hA rfl hK hw (c_Chart_reachOfShares l hc_8) trivial rfl (good_V lk_681 lk_683 ls_33 lk_5 lk_684) (cr_4 hK hw) hd_Chart_reachOfShares ⟨Nat.le_of_ble_eq_true rfl, Nat.le_of_ble_eq_true rfl⟩ rfl hl.1 rfl (Nat.le_of_ble_eq_true rfl) d_Chart_tellShares_41 ⟨(Nat.le_refl _), (Nat.le_refl _)⟩ (fun H locs hw => ?_)
      refine lv_istore_n (lv' := [(2, .int v_9), (1, .int x1_7), (0, .ref ((adM q0 ad) 4 0))]) F.1 F.2.1 d_Chart_tellShares_44 rfl hl (by decide) rfl (fun ls hl => ?_)
      refine lv_iconst (v := 1) F.1 F.2.1 d_Chart_tellShares_45 (by decide) ?_
      refine lv_istore_n (lv' := [(3, .int (1 : Int32)), (2, .int v_9), (1, .int x1_7), (0, .ref ((adM q0 ad) 4 0))]) F.1 F.2.1 d_Chart_tellShares_46 rfl hl (by decide) rfl (fun ls hl => ?_)
      refine lv_iconst (v := -1) F.1 F.2.1 d_Chart_tellShares_47 (by decide) ?_
      refine lv_istore (lv' := [(4, .int (-1 : Int32)), (3, .int (1 : Int32)), (2, .int v_9), (1, .int x1_7), (0, .ref ((adM q0 ad) 4 0))]) F.1 F.2.1 d_Chart_tellShares_48 hl (by decide) rfl (fun ls hl => ?_)
      refine lv_aload_n F.1 F.2.1 d_Chart_tellShares_50 rfl (lv_at hl 4 rfl) ?_
      refine cg_4_8 (ad := (adM q0 ad)) F hK hw lk_199 d_Chart_tellShares_51 ?_
      refine lv_aload_n F.1 F.2.1 d_Chart_tellShares_54 rfl (lv_at hl 4 rfl) ?_
      refine cg_4_1 (ad := (adM q0 ad)) F hK hw lk_192 d_Chart_tellShares_55 ?_
      obtain ⟨S_11, hc_10, h⟩ := bd_ex h
      refine cV_v (ad := (adM q0 ad)) F hA rfl hK hw (c_Book_spellFirst l hc_10) trivial rfl (good_V lk_608 lk_609 lk_610 lk_4 lk_611) (cr_5 hK hw) hd_Book_spellFirst ⟨Nat.le_of_ble_eq_true rfl, Nat.le_of_ble_eq_true rfl⟩ rfl hl.1 rfl (Nat.le_of_ble_eq_true rfl) d_Chart_tellShares_58 ⟨(Nat.le_refl _), (Nat.le_refl _)⟩ (fun H locs hw => ?_)
      refine lv_iconst (v := 0) F.1 F.2.1 d_Chart_tellShares_61 (by decide) ?_
      refine lv_istore (lv' := [(5, .int (0 : Int32)), (4, .int (-1 : Int32)), (3, .int (1 : Int32)), (2, .int v_9), (1, .int x1_7), (0, .ref ((adM q0 ad) 4 0))]) F.1 F.2.1 d_Chart_tellShares_62 hl (by decide) rfl (fun ls hl => ?_)
      obtain ⟨S_23, hc_24, h⟩ := bd_ex h
      obtain ⟨X_64, eX_64⟩ : ∃ X : St → Prop, X = (fun q => ∀ (H : Heap) (locs : List Loc) (ls : Array Slot), Bw cw D ar A s.heap H locs (adM q0 ad) q → lv_has ls 6 [] → W p l e (RMA 2 53 1 kS) s m args below meth c H locs 1 kS Q (F0 m 108 ls [])) := ⟨_, rfl⟩
      have hX_64 : X_64 S_23 := by
        rw [eX_64]
        intro H locs ls hw hl
        cases h
        have ho : X_0 _ := ho
        rw [eX_0] at ho
        exact ho q0 H locs _ ls d_Chart_tellShares_108 hw
      obtain ⟨P_64, eP_64⟩ : ∃ P : (St × Int32 × Int32 × Int32) → Prop, P = (fun q => ∀ (H : Heap) (locs : List Loc) (ls : Array Slot), Bw cw D ar A s.heap H locs (adM q0 ad) q.1 → lv_has ls 6 [(0, .ref ((adM q0 ad) 4 0)), (1, .int x1_7), (2, .int v_9), (3, .int q.2.1), (4, .int q.2.2.1), (5, .int q.2.2.2)] → W p l e (RMA 2 53 1 kS) s m args below meth c H locs 1 kS Q (F0 m 64 ls [])) := ⟨_, rfl⟩
      have hL_64 : P_64 (S_11, (1 : Int32), (-1 : Int32), (0 : Int32)) := by
        refine wh_gp (P := P_64) (X := X_64) hc_24 hX_64 ?_
        clear h
        intro q o h ho
        obtain ⟨S, x3, x4, x5⟩ := q
        have h : Chart_tellShares_l64 x1_7 v_9 S x3 x4 x5 = some o := h
        unfold Chart_tellShares_l64 at h
        rw [eP_64]
        intro H locs ls hw hl
        have J_81_l64 : ∀ (S : St) (x3 : Int32) (x5 : Int32) (H : Heap) (locs : List Loc) (ls : Array Slot), Bw cw D ar A s.heap H locs (adM q0 ad) S → lv_has ls 6 [(0, .ref ((adM q0 ad) 4 0)), (1, .int x1_7), (2, .int v_9), (3, .int x3), (5, .int x5)] → ∀ o, Chart_tellShares_j81_l64 S x1_7 v_9 x3 x5 = some o → (Sum.elim P_64 X_64) o → W p l e (RMA 2 53 1 kS) s m args below meth c H locs 1 kS Q (F0 m 81 ls []) := by
          intro S x3 x5 H locs ls hw hl o h ho
          unfold Chart_tellShares_j81_l64 at h
          refine lv_aload_n F.1 F.2.1 d_Chart_tellShares_81 rfl (lv_at hl 0 rfl) ?_
          refine cg_4_6 (ad := (adM q0 ad)) F hK hw lk_197 d_Chart_tellShares_82 ?_
          refine lv_iload F.1 F.2.1 d_Chart_tellShares_85 (lv_at hl 4 rfl) ?_
          refine lv_iload_n F.1 F.2.1 d_Chart_tellShares_87 rfl (lv_at hl 3 rfl) ?_
          obtain ⟨hi_17, h⟩ := gd_ex h
          obtain ⟨S_18, eS_18, h⟩ := nm_ex h
          refine cs_4_6 (ad := (adM q0 ad)) F hK hw hi_17 d_Chart_tellShares_88 eS_18 (fun H locs hw => ?_)
          refine lv_aload_n F.1 F.2.1 d_Chart_tellShares_89 rfl (lv_at hl 0 rfl) ?_
          refine cg_4_8 (ad := (adM q0 ad)) F hK hw lk_199 d_Chart_tellShares_90 ?_
          refine lv_aload_n F.1 F.2.1 d_Chart_tellShares_93 rfl (lv_at hl 0 rfl) ?_
          refine cg_4_1 (ad := (adM q0 ad)) F hK hw lk_192 d_Chart_tellShares_94 ?_
          obtain ⟨v_20, S_21, hc_19, h⟩ := bd2_ex h
          refine cV_i (ad := (adM q0 ad)) F hA rfl hK hw (c_Book_advance l hc_19) trivial rfl (good_V lk_616 lk_617 lk_618 lk_4 lk_619) (cr_5 hK hw) hd_Book_advance ⟨Nat.le_of_ble_eq_true rfl, Nat.le_of_ble_eq_true rfl⟩ rfl hl.1 rfl (Nat.le_of_ble_eq_true rfl) d_Chart_tellShares_97 ⟨(Nat.le_refl _), (Nat.le_refl _)⟩ (fun H locs hw => ?_)
          refine lv_istore (lv' := [(4, .int v_20), (0, .ref ((adM q0 ad) 4 0)), (1, .int x1_7), (2, .int v_9), (3, .int x3), (5, .int x5)]) F.1 F.2.1 d_Chart_tellShares_100 hl (by decide) rfl (fun ls hl => ?_)
          obtain ⟨x5_22, ex5_22, h⟩ := nm_ex h
          refine lv_iinc (v := x5_22) (lv' := [(5, .int x5_22), (4, .int v_20), (0, .ref ((adM q0 ad) 4 0)), (1, .int x1_7), (2, .int v_9), (3, .int x3)]) F.1 F.2.1 d_Chart_tellShares_102 hl (k := 5) rfl (by rw [ex5_22]; rfl) (by decide) rfl (fun ls hl => ?_)
          refine lv_goto (tgt := 64) F.1 F.2.1 d_Chart_tellShares_105 (by decide) ?_
          cases h
          have ho : P_64 _ := ho
          rw [eP_64] at ho
          exact ho H locs ls hw (lv_sub hl [2, 3, 4, 5, 1, 0] rfl)
        refine lv_iload F.1 F.2.1 d_Chart_tellShares_64 (lv_at hl 5 rfl) ?_
        refine lv_iload_n F.1 F.2.1 d_Chart_tellShares_66 rfl (lv_at hl 1 rfl) ?_
        refine lv_icmp_ge (tgt := 108) F.1 F.2.1 d_Chart_tellShares_67 (by decide) (fun c_12 => ?_) (fun c_12 => ?_)
        · replace h := ip c_12 h
          cases h
          have ho : X_64 _ := ho
          rw [eX_64] at ho
          exact ho H locs ls hw (lv_sub hl [] rfl)
        · replace h := iq c_12 h
          refine lv_iload_n F.1 F.2.1 d_Chart_tellShares_70 rfl (lv_at hl 2 rfl) ?_
          refine lv_iload F.1 F.2.1 d_Chart_tellShares_71 (lv_at hl 4 rfl) ?_
          refine lv_icmp_lt (tgt := 81) F.1 F.2.1 d_Chart_tellShares_73 (by decide) (fun c_13 => ?_) (fun c_13 => ?_)
          · replace h := ip c_13 h
            exact J_81_l64 S x3 x5 H locs ls hw (lv_sub hl [0, 1, 2, 3, 5] rfl) o h ho
          · replace h := iq c_13 h
            refine lv_aload_n F.1 F.2.1 d_Chart_tellShares_76 rfl (lv_at hl 0 rfl) ?_
            obtain ⟨v_15, S_16, hc_14, h⟩ := bd2_ex h
            refine cV_i (ad := (adM q0 ad)) F hA rfl hK hw (c_Chart_shareNow l hc_14) trivial rfl (good_V lk_690 lk_692 ls_34 lk_5 lk_693) (cr_4 hK hw) hd_Chart_shareNow ⟨Nat.le_of_ble_eq_true rfl, Nat.le_of_ble_eq_true rfl⟩ rfl hl.1 rfl (Nat.le_of_ble_eq_true rfl) d_Chart_tellShares_77 ⟨(Nat.le_refl _), (Nat.le_refl _)⟩ (fun H locs hw => ?_)
            refine lv_istore_n (lv' := [(3, .int v_15), (0, .ref ((adM q0 ad) 4 0)), (1, .int x1_7), (2, .int v_9), (4, .int x4), (5, .int x5)]) F.1 F.2.1 d_Chart_tellShares_80 rfl hl (by decide) rfl (fun ls hl => ?_)
            exact J_81_l64 S_16 v_15 x5 H locs ls hw (lv_sub hl [1, 2, 3, 0, 5] rfl) o h ho
      rw [eP_64] at hL_64
      exact hL_64 H locs ls hw (lv_sub hl [5, 4, 3, 2, 1, 0] rfl)
    refine lv_aload_n F.1 F.2.1 d_Chart_tellShares_0 rfl (lv_at hl 0 rfl) ?_
    refine cg_4_6 F hK hw lk_197 d_Chart_tellShares_1 ?_
    refine cn_4_6 F hK hw d_Chart_tellShares_4 ?_
    refine lv_aload_n F.1 F.2.1 d_Chart_tellShares_5 rfl (lv_at hl 0 rfl) ?_
    refine cg_4_5 F hK hw lk_196 d_Chart_tellShares_6 ?_
    refine cn_4_5 F hK hw d_Chart_tellShares_9 ?_
    refine lv_icmp_ge (tgt := 24) F.1 F.2.1 d_Chart_tellShares_10 (by decide) (fun c_1 => ?_) (fun c_1 => ?_)
    · replace h := ip c_1 h
      obtain ⟨q_2, hq_2⟩ := (aM_rf ad)
      rw [hq_2] at hw
      refine W.widen (k := 1) (n := kS) (Nat.le_of_ble_eq_true rfl) (Nat.zero_le _) ?_
      exact J_24 q_2 S H locs ls hw (lv_sub hl [0] rfl) o h ho
    · replace h := iq c_1 h
      refine lv_aload_n F.1 F.2.1 d_Chart_tellShares_13 rfl (lv_at hl 0 rfl) ?_
      refine lv_aload_n F.1 F.2.1 d_Chart_tellShares_14 rfl (lv_at hl 0 rfl) ?_
      refine cg_4_5 F hK hw lk_196 d_Chart_tellShares_15 ?_
      refine cn_4_5 F hK hw d_Chart_tellShares_18 ?_
      obtain ⟨hn_3, h⟩ := gd_ex h
      obtain ⟨S_4, eS_4, h⟩ := nm_ex h
      refine new_4_6 F hA hK hw lk_197 d_Chart_tellShares_19 d_Chart_tellShares_21 hn_3 (Nat.le_of_ble_eq_true rfl) (by show _ ≤ kS; rw [hkS]; unfold kTell; rw [if_neg c_1]; omega) eS_4 (fun q_5 H locs hw => ?_)
      obtain ⟨q_6, hq_6⟩ := (aM_U (aM_rf ad) 7 q_5 rfl)
      rw [hq_6] at hw
      refine W.widen (k := 1) (n := kS) (Nat.le_of_ble_eq_true rfl) (by show _ ≤ kS; rw [hkS]; unfold kTell; rw [if_neg c_1]; omega) ?_
      exact J_24 q_6 S_4 H locs ls hw (lv_sub hl [0] rfl) o h ho
  exact key _ _ hw _ h (by rw [eX_0]; exact fun q0 H locs pc ls hd hw => hQ H locs pc ls (adM q0 ad) ⟨q0, rfl⟩ hd hw)
theorem d_Chart_refreshShares_0 : decode b_Chart_refreshShares 0 = .ok (.aload_n 0, 1) := by decide +kernel
theorem d_Chart_refreshShares_1 : decode b_Chart_refreshShares 1 = .ok (.invokevirtual 149, 3) := by decide +kernel
theorem d_Chart_refreshShares_4 : decode b_Chart_refreshShares 4 = .ok (.aload_n 0, 1) := by decide +kernel
theorem d_Chart_refreshShares_5 : decode b_Chart_refreshShares 5 = .ok (.getfield 67, 3) := by decide +kernel
theorem d_Chart_refreshShares_8 : decode b_Chart_refreshShares 8 = .ok (.ifCond .ne 12, 3) := by decide +kernel
theorem d_Chart_refreshShares_11 : decode b_Chart_refreshShares 11 = .ok (.aload_n 0, 1) := by decide +kernel
theorem d_Chart_refreshShares_12 : decode b_Chart_refreshShares 12 = .ok (.invokevirtual 152, 3) := by decide +kernel
theorem d_Chart_refreshShares_15 : decode b_Chart_refreshShares 15 = .ok (.aload_n 0, 1) := by decide +kernel
theorem d_Chart_refreshShares_16 : decode b_Chart_refreshShares 16 = .ok (.iconst 1, 1) := by decide +kernel
theorem d_Chart_refreshShares_17 : decode b_Chart_refreshShares 17 = .ok (.putfield 67, 3) := by decide +kernel
theorem d_Chart_refreshShares_20 : decode b_Chart_refreshShares 20 = .ok (.aload_n 0, 1) := by decide +kernel
theorem d_Chart_refreshShares_21 : decode b_Chart_refreshShares 21 = .ok (.getfield 73, 3) := by decide +kernel
theorem d_Chart_refreshShares_24 : decode b_Chart_refreshShares 24 = .ok (.ifCond .ne 12, 3) := by decide +kernel
theorem d_Chart_refreshShares_27 : decode b_Chart_refreshShares 27 = .ok (.aload_n 0, 1) := by decide +kernel
theorem d_Chart_refreshShares_28 : decode b_Chart_refreshShares 28 = .ok (.invokevirtual 155, 3) := by decide +kernel
theorem d_Chart_refreshShares_31 : decode b_Chart_refreshShares 31 = .ok (.aload_n 0, 1) := by decide +kernel
theorem d_Chart_refreshShares_32 : decode b_Chart_refreshShares 32 = .ok (.iconst 1, 1) := by decide +kernel
theorem d_Chart_refreshShares_33 : decode b_Chart_refreshShares 33 = .ok (.putfield 73, 3) := by decide +kernel
theorem d_Chart_refreshShares_36 : decode b_Chart_refreshShares 36 = .ok (.return_, 1) := by decide +kernel
set_option maxHeartbeats 4000000 in
set_option maxRecDepth 100000 in
theorem c_Chart_refreshShares (l : Launch) {S : St} {S' : St} (h : f_Chart_refreshShares S = some S') {kS : Nat} (hkS : kS = kSh S) : MV cw l y_Chart_refreshShares b_Chart_refreshShares 1 none 5 108 3 kS (fun ad => [.ref (ad 4 0)]) aT aM S S' := by
  refine MV_of "LawfulLots$Chart" rfl (by decide) (fun _ => Nat.le_of_ble_eq_true rfl) ?_
  intro p e s m args below meth c D ar ad A Q ls hP F hK hA hw hl hQ
  have hl : lv_has ls 1 [(0, .ref (ad 4 0))] := hl
  obtain ⟨X_0, eX_0⟩ : ∃ X : St → Prop, X = (fun q => ∀ (q0 : Nat → Nat) (H : Heap) (locs : List Loc) (pc : Nat) (ls : Array Slot), decode b_Chart_refreshShares pc = .ok (.return_, 1) → Bw cw D ar A s.heap H locs (adM q0 ad) q → W p l e (RMA 5 108 3 kS) s m args below meth c H locs 3 kS Q (F0 m pc ls [])) := ⟨_, rfl⟩
  have key : ∀ (H : Heap) (locs : List Loc), Bw cw D ar A s.heap H locs ad S → ∀ o, f_Chart_refreshShares S = some o → X_0 o → W p l e (RMA 5 108 3 kS) s m args below meth c H locs 0 0 Q (F0 m 0 ls []) := by
    intro H locs hw o h ho
    unfold f_Chart_refreshShares at h
    have J_36 : ∀ (q0 : Nat → Nat) (S : St) (H : Heap) (locs : List Loc) (ls : Array Slot), Bw cw D ar A s.heap H locs (adM q0 ad) S → lv_has ls 1 [] → ∀ o, Chart_refreshShares_j36 S = some o → X_0 o → W p l e (RMA 5 108 3 kS) s m args below meth c H locs 3 kS Q (F0 m 36 ls []) := by
      intro q0 S H locs ls hw hl o h ho
      unfold Chart_refreshShares_j36 at h
      cases h
      have ho : X_0 _ := ho
      rw [eX_0] at ho
      exact ho q0 H locs _ ls d_Chart_refreshShares_36 hw
    have J_20 : ∀ (q0 : Nat → Nat) (S : St) (H : Heap) (locs : List Loc) (ls : Array Slot), Bw cw D ar A s.heap H locs (adM q0 ad) S → lv_has ls 1 [(0, .ref ((adM q0 ad) 4 0))] → ∀ o, Chart_refreshShares_j20 S = some o → X_0 o → W p l e (RMA 5 108 3 kS) s m args below meth c H locs 3 kS Q (F0 m 20 ls []) := by
      intro q0 S H locs ls hw hl o h ho
      unfold Chart_refreshShares_j20 at h
      refine lv_aload_n F.1 F.2.1 d_Chart_refreshShares_20 rfl (lv_at hl 0 rfl) ?_
      refine cg_4_17 (ad := (adM q0 ad)) F hK hw lk_216 d_Chart_refreshShares_21 ?_
      refine lv_if_ne (tgt := 36) F.1 F.2.1 d_Chart_refreshShares_24 (by decide) (fun c_9 => ?_) (fun c_9 => ?_)
      · replace h := iq c_9 h
        exact J_36 q0 S H locs ls hw (lv_sub hl [] rfl) o h ho
      · replace h := ip c_9 h
        refine lv_aload_n F.1 F.2.1 d_Chart_refreshShares_27 rfl (lv_at hl 0 rfl) ?_
        obtain ⟨S_11, hc_10, h⟩ := bd_ex h
        refine cV_v (ad := (adM q0 ad)) F hA rfl hK hw (c_Chart_addShares l hc_10) trivial rfl (good_V lk_698 lk_700 ls_35 lk_5 lk_701) (cr_4 hK hw) hd_Chart_addShares ⟨Nat.le_of_ble_eq_true rfl, Nat.le_of_ble_eq_true rfl⟩ rfl hl.1 rfl (Nat.le_of_ble_eq_true rfl) d_Chart_refreshShares_28 ⟨(Nat.le_refl _), (Nat.le_refl _)⟩ (fun H locs hw => ?_)
        refine lv_aload_n F.1 F.2.1 d_Chart_refreshShares_31 rfl (lv_at hl 0 rfl) ?_
        refine lv_iconst (v := 1) F.1 F.2.1 d_Chart_refreshShares_32 (by decide) ?_
        obtain ⟨S_12, eS_12, h⟩ := nm_ex h
        refine cp_4_17 (ad := (adM q0 ad)) F hK hw isB1 lk_216 d_Chart_refreshShares_33 eS_12 (fun H locs hw => ?_)
        exact J_36 q0 S_12 H locs ls hw (lv_sub hl [] rfl) o h ho
    refine lv_aload_n F.1 F.2.1 d_Chart_refreshShares_0 rfl (lv_at hl 0 rfl) ?_
    obtain ⟨S_2, hc_1, h⟩ := bd_ex h
    refine cVm_v F hA rfl hK hw (c_Chart_refresh l hc_1 rfl) trivial rfl (good_V lk_676 lk_591 lk_592 lk_5 lk_593) (cr_4 hK hw) hd_Chart_refresh ⟨Nat.le_of_ble_eq_true rfl, Nat.le_of_ble_eq_true rfl⟩ rfl hl.1 rfl (Nat.le_of_ble_eq_true rfl) d_Chart_refreshShares_1 ⟨Nat.le_of_ble_eq_true rfl, (by show _ ≤ kS; rw [hkS]; unfold kSh; omega)⟩ (fun q_3 H locs hw => ?_)
    refine lv_aload_n F.1 F.2.1 d_Chart_refreshShares_4 rfl (lv_at hl 0 rfl) ?_
    refine cg_4_15 (ad := (adM q_3 ad)) F hK hw lk_214 d_Chart_refreshShares_5 ?_
    refine lv_if_ne (tgt := 20) F.1 F.2.1 d_Chart_refreshShares_8 (by decide) (fun c_4 => ?_) (fun c_4 => ?_)
    · replace h := iq c_4 h
      refine W.widen (k := 3) (n := kS) (Nat.le_of_ble_eq_true rfl) (by show _ ≤ kS; rw [hkS]; unfold kSh; omega) ?_
      exact J_20 q_3 S_2 H locs ls hw (lv_sub hl [0] rfl) o h ho
    · replace h := ip c_4 h
      refine lv_aload_n F.1 F.2.1 d_Chart_refreshShares_11 rfl (lv_at hl 0 rfl) ?_
      obtain ⟨S_6, hc_5, h⟩ := bd_ex h
      refine cVm_v (ad := (adM q_3 ad)) F hA rfl hK hw (c_Chart_tellShares l hc_5 rfl) trivial rfl (good_V lk_677 lk_679 ls_32 lk_5 lk_680) (cr_4 hK hw) hd_Chart_tellShares ⟨Nat.le_of_ble_eq_true rfl, Nat.le_of_ble_eq_true rfl⟩ rfl hl.1 rfl (Nat.le_of_ble_eq_true rfl) d_Chart_refreshShares_12 ⟨Nat.le_of_ble_eq_true rfl, (by show _ ≤ kS; rw [hkS]; unfold kSh; simp only [hc_1, if_pos c_4]; omega)⟩ (fun q_7 H locs hw => ?_)
      rw [adM_adM] at hw
      refine W.widen (k := 3) (n := kS) (Nat.le_of_ble_eq_true rfl) (by show _ ≤ kS; rw [hkS]; unfold kSh; simp only [hc_1, if_pos c_4]; omega) ?_
      refine lv_aload_n F.1 F.2.1 d_Chart_refreshShares_15 rfl (lv_at hl 0 rfl) ?_
      refine lv_iconst (v := 1) F.1 F.2.1 d_Chart_refreshShares_16 (by decide) ?_
      obtain ⟨S_8, eS_8, h⟩ := nm_ex h
      refine cp_4_15 (ad := (adM q_7 ad)) F hK hw isB1 lk_214 d_Chart_refreshShares_17 eS_8 (fun H locs hw => ?_)
      exact J_20 q_7 S_8 H locs ls hw (lv_sub hl [0] rfl) o h ho
  exact key _ _ hw _ h (by rw [eX_0]; exact fun q0 H locs pc ls hd hw => hQ H locs pc ls (adM q0 ad) ⟨q0, rfl⟩ hd hw)
theorem d_Lots_alone_0 : decode b_Lots_alone 0 = .ok (.aload_n 0, 1) := by decide +kernel
theorem d_Lots_alone_1 : decode b_Lots_alone 1 = .ok (.getfield 23, 3) := by decide +kernel
theorem d_Lots_alone_4 : decode b_Lots_alone 4 = .ok (.getfield 85, 3) := by decide +kernel
theorem d_Lots_alone_7 : decode b_Lots_alone 7 = .ok (.iconst 0, 1) := by decide +kernel
theorem d_Lots_alone_8 : decode b_Lots_alone 8 = .ok (.iload_n 1, 1) := by decide +kernel
theorem d_Lots_alone_9 : decode b_Lots_alone 9 = .ok (.invokevirtual 88, 3) := by decide +kernel
theorem d_Lots_alone_12 : decode b_Lots_alone 12 = .ok (.ifCond .eq 14, 3) := by decide +kernel
theorem d_Lots_alone_15 : decode b_Lots_alone 15 = .ok (.aload_n 0, 1) := by decide +kernel
theorem d_Lots_alone_16 : decode b_Lots_alone 16 = .ok (.getfield 23, 3) := by decide +kernel
theorem d_Lots_alone_19 : decode b_Lots_alone 19 = .ok (.iload_n 1, 1) := by decide +kernel
theorem d_Lots_alone_20 : decode b_Lots_alone 20 = .ok (.invokevirtual 94, 3) := by decide +kernel
theorem d_Lots_alone_23 : decode b_Lots_alone 23 = .ok (.ifCond .ne 5, 3) := by decide +kernel
theorem d_Lots_alone_26 : decode b_Lots_alone 26 = .ok (.iconst (-1), 1) := by decide +kernel
theorem d_Lots_alone_27 : decode b_Lots_alone 27 = .ok (.ireturn, 1) := by decide +kernel
theorem d_Lots_alone_28 : decode b_Lots_alone 28 = .ok (.aload_n 0, 1) := by decide +kernel
theorem d_Lots_alone_29 : decode b_Lots_alone 29 = .ok (.getfield 23, 3) := by decide +kernel
theorem d_Lots_alone_32 : decode b_Lots_alone 32 = .ok (.invokevirtual 101, 3) := by decide +kernel
theorem d_Lots_alone_35 : decode b_Lots_alone 35 = .ok (.aload_n 0, 1) := by decide +kernel
theorem d_Lots_alone_36 : decode b_Lots_alone 36 = .ok (.getfield 23, 3) := by decide +kernel
theorem d_Lots_alone_39 : decode b_Lots_alone 39 = .ok (.iload_n 1, 1) := by decide +kernel
theorem d_Lots_alone_40 : decode b_Lots_alone 40 = .ok (.invokevirtual 142, 3) := by decide +kernel
theorem d_Lots_alone_43 : decode b_Lots_alone 43 = .ok (.ireturn, 1) := by decide +kernel
set_option maxHeartbeats 4000000 in
set_option maxRecDepth 100000 in
theorem c_Lots_alone (l : Launch) {S : St} {x1 : Int32} {S' : St} {r : Int32} (h : f_Lots_alone S x1 = some (r, S')) {kS : Nat} (hkS : kS = kAlone S x1) : MI cw l y_Lots_alone b_Lots_alone 2 (some .int) 5 108 2 kS (fun ad => [.ref (ad 0 0), .int x1]) aT aM S r S' := by
  refine MI_of "LawfulLots" rfl (by decide) (fun _ => Nat.le_of_ble_eq_true rfl) ?_
  intro p e s m args below meth c D ar ad A Q ls hP F hK hA hw hl hQ
  have hl : lv_has ls 2 [(0, .ref (ad 0 0)), (1, .int x1)] := hl
  obtain ⟨X_0, eX_0⟩ : ∃ X : (Int32 × St) → Prop, X = (fun q => ∀ (q0 : Nat → Nat) (H : Heap) (locs : List Loc) (pc : Nat) (ls : Array Slot), decode b_Lots_alone pc = .ok (.ireturn, 1) → Bw cw D ar A s.heap H locs (adM q0 ad) q.2 → W p l e (RMA 5 108 2 kS) s m args below meth c H locs 2 kS Q (F0 m pc ls [.int q.1])) := ⟨_, rfl⟩
  have key : ∀ (H : Heap) (locs : List Loc), Bw cw D ar A s.heap H locs ad S → ∀ o, f_Lots_alone S x1 = some o → X_0 o → W p l e (RMA 5 108 2 kS) s m args below meth c H locs 0 0 Q (F0 m 0 ls []) := by
    intro H locs hw o h ho
    unfold f_Lots_alone at h
    have J_26 : ∀ (q0 : Nat → Nat) (S : St) (H : Heap) (locs : List Loc) (ls : Array Slot), Bw cw D ar A s.heap H locs (adM q0 ad) S → lv_has ls 2 [] → ∀ o, Lots_alone_j26 S = some o → X_0 o → W p l e (RMA 5 108 2 kS) s m args below meth c H locs 2 kS Q (F0 m 26 ls []) := by
      intro q0 S H locs ls hw hl o h ho
      unfold Lots_alone_j26 at h
      refine lv_iconst (v := -1) F.1 F.2.1 d_Lots_alone_26 (by decide) ?_
      cases h
      have ho : X_0 _ := ho
      rw [eX_0] at ho
      exact ho q0 H locs _ ls d_Lots_alone_27 hw
    refine lv_aload_n F.1 F.2.1 d_Lots_alone_0 rfl (lv_at hl 0 rfl) ?_
    refine cg_0_2 F hK hw lk_342 d_Lots_alone_1 ?_
    refine cg_4_8 F hK hw lk_202 d_Lots_alone_4 ?_
    refine lv_iconst (v := 0) F.1 F.2.1 d_Lots_alone_7 (by decide) ?_
    refine lv_iload_n F.1 F.2.1 d_Lots_alone_8 rfl (lv_at hl 1 rfl) ?_
    obtain ⟨v_2, hc_1, h⟩ := bd_ex h
    refine cV_i F hA rfl hK hw (c_Book_has l hc_1) trivial rfl (good_V lk_573 lk_574 lk_575 lk_4 lk_576) (cr_5 hK hw) hd_Book_has ⟨Nat.le_of_ble_eq_true rfl, Nat.le_of_ble_eq_true rfl⟩ rfl hl.1 rfl (Nat.le_of_ble_eq_true rfl) d_Lots_alone_9 ⟨(Nat.zero_le _), (Nat.zero_le _)⟩ (fun H locs hw => ?_)
    refine lv_if_eq (tgt := 26) F.1 F.2.1 d_Lots_alone_12 (by decide) (fun c_3 => ?_) (fun c_3 => ?_)
    · replace h := ip c_3 h
      obtain ⟨q_4, hq_4⟩ := (aM_rf ad)
      rw [hq_4] at hw
      refine W.widen (k := 2) (n := kS) (Nat.le_of_ble_eq_true rfl) (Nat.zero_le _) ?_
      exact J_26 q_4 S H locs ls hw (lv_sub hl [] rfl) o h ho
    · replace h := iq c_3 h
      refine lv_aload_n F.1 F.2.1 d_Lots_alone_15 rfl (lv_at hl 0 rfl) ?_
      refine cg_0_2 F hK hw lk_342 d_Lots_alone_16 ?_
      refine lv_iload_n F.1 F.2.1 d_Lots_alone_19 rfl (lv_at hl 1 rfl) ?_
      obtain ⟨v_6, hc_5, h⟩ := bd_ex h
      refine cV_i F hA rfl hK hw (c_Chart_isOn l hc_5) trivial rfl (good_V lk_578 lk_579 lk_580 lk_5 lk_581) (cr_4 hK hw) hd_Chart_isOn ⟨Nat.le_of_ble_eq_true rfl, Nat.le_of_ble_eq_true rfl⟩ rfl hl.1 rfl (Nat.le_of_ble_eq_true rfl) d_Lots_alone_20 ⟨(Nat.zero_le _), (Nat.zero_le _)⟩ (fun H locs hw => ?_)
      refine lv_if_ne (tgt := 28) F.1 F.2.1 d_Lots_alone_23 (by decide) (fun c_7 => ?_) (fun c_7 => ?_)
      · replace h := iq c_7 h
        refine lv_aload_n F.1 F.2.1 d_Lots_alone_28 rfl (lv_at hl 0 rfl) ?_
        refine cg_0_2 F hK hw lk_342 d_Lots_alone_29 ?_
        obtain ⟨S_9, hc_8, h⟩ := bd_ex h
        refine cVm_v F hA rfl hK hw (c_Chart_refresh l hc_8 rfl) trivial rfl (good_V lk_590 lk_591 lk_592 lk_5 lk_593) (cr_4 hK hw) hd_Chart_refresh ⟨Nat.le_of_ble_eq_true rfl, Nat.le_of_ble_eq_true rfl⟩ rfl hl.1 rfl (Nat.le_of_ble_eq_true rfl) d_Lots_alone_32 ⟨Nat.le_of_ble_eq_true rfl, (by show _ ≤ kS; rw [hkS]; unfold kAlone; simp only [hc_1, if_neg c_3, hc_5, if_neg c_7]; omega)⟩ (fun q_10 H locs hw => ?_)
        refine W.widen (k := 2) (n := kS) (Nat.le_of_ble_eq_true rfl) (by show _ ≤ kS; rw [hkS]; unfold kAlone; simp only [hc_1, if_neg c_3, hc_5, if_neg c_7]; omega) ?_
        refine lv_aload_n F.1 F.2.1 d_Lots_alone_35 rfl (lv_at hl 0 rfl) ?_
        refine cg_0_2 (ad := (adM q_10 ad)) F hK hw lk_342 d_Lots_alone_36 ?_
        refine lv_iload_n F.1 F.2.1 d_Lots_alone_39 rfl (lv_at hl 1 rfl) ?_
        obtain ⟨v_12, hc_11, h⟩ := bd_ex h
        refine cV_i (ad := (adM q_10 ad)) F hA rfl hK hw (c_Chart_refusedByAlone l hc_11) trivial rfl (good_V lk_754 lk_755 lk_756 lk_5 lk_757) (cr_4 hK hw) hd_Chart_refusedByAlone ⟨Nat.le_of_ble_eq_true rfl, Nat.le_of_ble_eq_true rfl⟩ rfl hl.1 rfl (Nat.le_of_ble_eq_true rfl) d_Lots_alone_40 ⟨(Nat.le_refl _), (Nat.le_refl _)⟩ (fun H locs hw => ?_)
        cases h
        have ho : X_0 _ := ho
        rw [eX_0] at ho
        exact ho q_10 H locs _ ls d_Lots_alone_43 hw
      · replace h := ip c_7 h
        obtain ⟨q_13, hq_13⟩ := (aM_rf ad)
        rw [hq_13] at hw
        refine W.widen (k := 2) (n := kS) (Nat.le_of_ble_eq_true rfl) (Nat.zero_le _) ?_
        exact J_26 q_13 S H locs ls hw (lv_sub hl [] rfl) o h ho
  exact key _ _ hw _ h (by rw [eX_0]; exact fun q0 H locs pc ls hd hw => hQ H locs pc ls (adM q0 ad) ⟨q0, rfl⟩ hd hw)
theorem d_Lots_refreshBins_0 : decode b_Lots_refreshBins 0 = .ok (.aload_n 0, 1) := by decide +kernel
theorem d_Lots_refreshBins_1 : decode b_Lots_refreshBins 1 = .ok (.getfield 23, 3) := by decide +kernel
theorem d_Lots_refreshBins_4 : decode b_Lots_refreshBins 4 = .ok (.invokevirtual 151, 3) := by decide +kernel
theorem d_Lots_refreshBins_7 : decode b_Lots_refreshBins 7 = .ok (.aload_n 0, 1) := by decide +kernel
theorem d_Lots_refreshBins_8 : decode b_Lots_refreshBins 8 = .ok (.getfield 37, 3) := by decide +kernel
theorem d_Lots_refreshBins_11 : decode b_Lots_refreshBins 11 = .ok (.aload_n 0, 1) := by decide +kernel
theorem d_Lots_refreshBins_12 : decode b_Lots_refreshBins 12 = .ok (.getfield 23, 3) := by decide +kernel
theorem d_Lots_refreshBins_15 : decode b_Lots_refreshBins 15 = .ok (.invokevirtual 152, 3) := by decide +kernel
theorem d_Lots_refreshBins_18 : decode b_Lots_refreshBins 18 = .ok (.return_, 1) := by decide +kernel
set_option maxHeartbeats 4000000 in
set_option maxRecDepth 100000 in
theorem c_Lots_refreshBins (l : Launch) {S : St} {S' : St} (h : f_Lots_refreshBins S = some S') {kS : Nat} (hkS : kS = kMark S) : MV cw l y_Lots_refreshBins b_Lots_refreshBins 1 none 6 128 2 kS (fun ad => [.ref (ad 0 0)]) aT aM S S' := by
  refine MV_of "LawfulLots" rfl (by decide) (fun _ => Nat.le_of_ble_eq_true rfl) ?_
  intro p e s m args below meth c D ar ad A Q ls hP F hK hA hw hl hQ
  have hl : lv_has ls 1 [(0, .ref (ad 0 0))] := hl
  obtain ⟨X_0, eX_0⟩ : ∃ X : St → Prop, X = (fun q => ∀ (q0 : Nat → Nat) (H : Heap) (locs : List Loc) (pc : Nat) (ls : Array Slot), decode b_Lots_refreshBins pc = .ok (.return_, 1) → Bw cw D ar A s.heap H locs (adM q0 ad) q → W p l e (RMA 6 128 2 kS) s m args below meth c H locs 2 kS Q (F0 m pc ls [])) := ⟨_, rfl⟩
  have key : ∀ (H : Heap) (locs : List Loc), Bw cw D ar A s.heap H locs ad S → ∀ o, f_Lots_refreshBins S = some o → X_0 o → W p l e (RMA 6 128 2 kS) s m args below meth c H locs 0 0 Q (F0 m 0 ls []) := by
    intro H locs hw o h ho
    unfold f_Lots_refreshBins at h
    refine lv_aload_n F.1 F.2.1 d_Lots_refreshBins_0 rfl (lv_at hl 0 rfl) ?_
    refine cg_0_2 F hK hw lk_342 d_Lots_refreshBins_1 ?_
    obtain ⟨S_2, hc_1, h⟩ := bd_ex h
    refine cVm_v F hA rfl hK hw (c_Chart_refreshBins l hc_1 rfl) trivial rfl (good_V lk_766 lk_767 lk_768 lk_5 lk_769) (cr_4 hK hw) hd_Chart_refreshBins ⟨Nat.le_of_ble_eq_true rfl, Nat.le_of_ble_eq_true rfl⟩ rfl hl.1 rfl (Nat.le_of_ble_eq_true rfl) d_Lots_refreshBins_4 ⟨Nat.le_of_ble_eq_true rfl, (by show _ ≤ kS; rw [hkS]; exact Nat.le_of_eq (Nat.zero_add _))⟩ (fun q_3 H locs hw => ?_)
    refine W.widen (k := 2) (n := kS) (Nat.le_of_ble_eq_true rfl) (by show _ ≤ kS; rw [hkS]; exact Nat.le_of_eq (Nat.zero_add _)) ?_
    refine lv_aload_n F.1 F.2.1 d_Lots_refreshBins_7 rfl (lv_at hl 0 rfl) ?_
    refine cg_0_4 (ad := (adM q_3 ad)) F hK hw lk_344 d_Lots_refreshBins_8 ?_
    refine lv_aload_n F.1 F.2.1 d_Lots_refreshBins_11 rfl (lv_at hl 0 rfl) ?_
    refine cg_0_2 (ad := (adM q_3 ad)) F hK hw lk_342 d_Lots_refreshBins_12 ?_
    obtain ⟨S_5, hc_4, h⟩ := bd_ex h
    refine cV_v (ad := (adM q_3 ad)) F hA rfl hK hw (c_Bins_refresh l hc_4) trivial rfl (good_V lk_770 lk_771 lk_772 lk_8 lk_773) (cr_8 hK hw) hd_Bins_refresh ⟨Nat.le_of_ble_eq_true rfl, Nat.le_of_ble_eq_true rfl⟩ rfl hl.1 rfl (Nat.le_of_ble_eq_true rfl) d_Lots_refreshBins_15 ⟨(Nat.le_refl _), (Nat.le_refl _)⟩ (fun H locs hw => ?_)
    cases h
    have ho : X_0 _ := ho
    rw [eX_0] at ho
    exact ho q_3 H locs _ ls d_Lots_refreshBins_18 hw
  exact key _ _ hw _ h (by rw [eX_0]; exact fun q0 H locs pc ls hd hw => hQ H locs pc ls (adM q0 ad) ⟨q0, rfl⟩ hd hw)
theorem d_Lots_best_0 : decode b_Lots_best 0 = .ok (.aload_n 0, 1) := by decide +kernel
theorem d_Lots_best_1 : decode b_Lots_best 1 = .ok (.invokevirtual 145, 3) := by decide +kernel
theorem d_Lots_best_4 : decode b_Lots_best 4 = .ok (.aload_n 0, 1) := by decide +kernel
theorem d_Lots_best_5 : decode b_Lots_best 5 = .ok (.getfield 37, 3) := by decide +kernel
theorem d_Lots_best_8 : decode b_Lots_best 8 = .ok (.aload_n 0, 1) := by decide +kernel
theorem d_Lots_best_9 : decode b_Lots_best 9 = .ok (.getfield 30, 3) := by decide +kernel
theorem d_Lots_best_12 : decode b_Lots_best 12 = .ok (.aload_n 0, 1) := by decide +kernel
theorem d_Lots_best_13 : decode b_Lots_best 13 = .ok (.getfield 23, 3) := by decide +kernel
theorem d_Lots_best_16 : decode b_Lots_best 16 = .ok (.invokevirtual 169, 3) := by decide +kernel
theorem d_Lots_best_19 : decode b_Lots_best 19 = .ok (.invokevirtual 173, 3) := by decide +kernel
theorem d_Lots_best_22 : decode b_Lots_best 22 = .ok (.ireturn, 1) := by decide +kernel
set_option maxHeartbeats 4000000 in
set_option maxRecDepth 100000 in
theorem c_Lots_best (l : Launch) {S : St} {S' : St} {r : Int32} (h : f_Lots_best S = some (r, S')) {kS : Nat} (hkS : kS = kMark S) : MI cw l y_Lots_best b_Lots_best 1 (some .int) 7 148 2 kS (fun ad => [.ref (ad 0 0)]) aT aM S r S' := by
  refine MI_of "LawfulLots" rfl (by decide) (fun _ => Nat.le_of_ble_eq_true rfl) ?_
  intro p e s m args below meth c D ar ad A Q ls hP F hK hA hw hl hQ
  have hl : lv_has ls 1 [(0, .ref (ad 0 0))] := hl
  obtain ⟨X_0, eX_0⟩ : ∃ X : (Int32 × St) → Prop, X = (fun q => ∀ (q0 : Nat → Nat) (H : Heap) (locs : List Loc) (pc : Nat) (ls : Array Slot), decode b_Lots_best pc = .ok (.ireturn, 1) → Bw cw D ar A s.heap H locs (adM q0 ad) q.2 → W p l e (RMA 7 148 2 kS) s m args below meth c H locs 2 kS Q (F0 m pc ls [.int q.1])) := ⟨_, rfl⟩
  have key : ∀ (H : Heap) (locs : List Loc), Bw cw D ar A s.heap H locs ad S → ∀ o, f_Lots_best S = some o → X_0 o → W p l e (RMA 7 148 2 kS) s m args below meth c H locs 0 0 Q (F0 m 0 ls []) := by
    intro H locs hw o h ho
    unfold f_Lots_best at h
    refine lv_aload_n F.1 F.2.1 d_Lots_best_0 rfl (lv_at hl 0 rfl) ?_
    obtain ⟨S_2, hc_1, h⟩ := bd_ex h
    refine cVm_v F hA rfl hK hw (c_Lots_refreshBins l hc_1 rfl) trivial rfl (good_V lk_762 lk_764 ls_36 lk_1 lk_765) (cr_0 hK hw) hd_Lots_refreshBins ⟨Nat.le_of_ble_eq_true rfl, Nat.le_of_ble_eq_true rfl⟩ rfl hl.1 rfl (Nat.le_of_ble_eq_true rfl) d_Lots_best_1 ⟨Nat.le_of_ble_eq_true rfl, (by show _ ≤ kS; rw [hkS]; exact Nat.le_of_eq (Nat.zero_add _))⟩ (fun q_3 H locs hw => ?_)
    refine W.widen (k := 2) (n := kS) (Nat.le_of_ble_eq_true rfl) (by show _ ≤ kS; rw [hkS]; exact Nat.le_of_eq (Nat.zero_add _)) ?_
    refine lv_aload_n F.1 F.2.1 d_Lots_best_4 rfl (lv_at hl 0 rfl) ?_
    refine cg_0_4 (ad := (adM q_3 ad)) F hK hw lk_344 d_Lots_best_5 ?_
    refine lv_aload_n F.1 F.2.1 d_Lots_best_8 rfl (lv_at hl 0 rfl) ?_
    refine cg_0_3 (ad := (adM q_3 ad)) F hK hw lk_343 d_Lots_best_9 ?_
    refine lv_aload_n F.1 F.2.1 d_Lots_best_12 rfl (lv_at hl 0 rfl) ?_
    refine cg_0_2 (ad := (adM q_3 ad)) F hK hw lk_342 d_Lots_best_13 ?_
    obtain ⟨v_5, hc_4, h⟩ := bd_ex h
    refine cV_i (ad := (adM q_3 ad)) F hA rfl hK hw (c_Log_unmet l hc_4) trivial rfl (good_V lk_844 lk_812 lk_813 lk_7 lk_814) (cr_7 hK hw) hd_Log_unmet ⟨Nat.le_of_ble_eq_true rfl, Nat.le_of_ble_eq_true rfl⟩ rfl hl.1 rfl (Nat.le_of_ble_eq_true rfl) d_Lots_best_16 ⟨(Nat.le_refl _), (Nat.le_refl _)⟩ (fun H locs hw => ?_)
    obtain ⟨v_7, hc_6, h⟩ := bd_ex h
    refine cV_i (ad := (adM q_3 ad)) F hA rfl hK hw (c_Bins_meetingMost l hc_6) trivial rfl (good_V lk_845 lk_846 lk_847 lk_8 lk_848) (cr_8 hK hw) hd_Bins_meetingMost ⟨Nat.le_of_ble_eq_true rfl, Nat.le_of_ble_eq_true rfl⟩ rfl hl.1 rfl (Nat.le_of_ble_eq_true rfl) d_Lots_best_19 ⟨(Nat.le_refl _), (Nat.le_refl _)⟩ (fun H locs hw => ?_)
    cases h
    have ho : X_0 _ := ho
    rw [eX_0] at ho
    exact ho q_3 H locs _ ls d_Lots_best_22 hw
  exact key _ _ hw _ h (by rw [eX_0]; exact fun q0 H locs pc ls hd hw => hQ H locs pc ls (adM q0 ad) ⟨q0, rfl⟩ hd hw)
theorem d_Lots_cross_0 : decode b_Lots_cross 0 = .ok (.aload_n 0, 1) := by decide +kernel
theorem d_Lots_cross_1 : decode b_Lots_cross 1 = .ok (.getfield 23, 3) := by decide +kernel
theorem d_Lots_cross_4 : decode b_Lots_cross 4 = .ok (.getfield 85, 3) := by decide +kernel
theorem d_Lots_cross_7 : decode b_Lots_cross 7 = .ok (.iconst 2, 1) := by decide +kernel
theorem d_Lots_cross_8 : decode b_Lots_cross 8 = .ok (.iload_n 1, 1) := by decide +kernel
theorem d_Lots_cross_9 : decode b_Lots_cross 9 = .ok (.invokevirtual 88, 3) := by decide +kernel
theorem d_Lots_cross_12 : decode b_Lots_cross 12 = .ok (.ifCond .eq 18, 3) := by decide +kernel
theorem d_Lots_cross_15 : decode b_Lots_cross 15 = .ok (.aload_n 0, 1) := by decide +kernel
theorem d_Lots_cross_16 : decode b_Lots_cross 16 = .ok (.getfield 23, 3) := by decide +kernel
theorem d_Lots_cross_19 : decode b_Lots_cross 19 = .ok (.getfield 85, 3) := by decide +kernel
theorem d_Lots_cross_22 : decode b_Lots_cross 22 = .ok (.iconst 2, 1) := by decide +kernel
theorem d_Lots_cross_23 : decode b_Lots_cross 23 = .ok (.iload_n 2, 1) := by decide +kernel
theorem d_Lots_cross_24 : decode b_Lots_cross 24 = .ok (.invokevirtual 88, 3) := by decide +kernel
theorem d_Lots_cross_27 : decode b_Lots_cross 27 = .ok (.ifCond .ne 5, 3) := by decide +kernel
theorem d_Lots_cross_30 : decode b_Lots_cross 30 = .ok (.iconst (-1), 1) := by decide +kernel
theorem d_Lots_cross_31 : decode b_Lots_cross 31 = .ok (.ireturn, 1) := by decide +kernel
theorem d_Lots_cross_32 : decode b_Lots_cross 32 = .ok (.aload_n 0, 1) := by decide +kernel
theorem d_Lots_cross_33 : decode b_Lots_cross 33 = .ok (.invokevirtual 145, 3) := by decide +kernel
theorem d_Lots_cross_36 : decode b_Lots_cross 36 = .ok (.aload_n 0, 1) := by decide +kernel
theorem d_Lots_cross_37 : decode b_Lots_cross 37 = .ok (.getfield 37, 3) := by decide +kernel
theorem d_Lots_cross_40 : decode b_Lots_cross 40 = .ok (.iconst 1, 1) := by decide +kernel
theorem d_Lots_cross_41 : decode b_Lots_cross 41 = .ok (.iload_n 1, 1) := by decide +kernel
theorem d_Lots_cross_42 : decode b_Lots_cross 42 = .ok (.ishl, 1) := by decide +kernel
theorem d_Lots_cross_43 : decode b_Lots_cross 43 = .ok (.iconst 1, 1) := by decide +kernel
theorem d_Lots_cross_44 : decode b_Lots_cross 44 = .ok (.iload_n 2, 1) := by decide +kernel
theorem d_Lots_cross_45 : decode b_Lots_cross 45 = .ok (.ishl, 1) := by decide +kernel
theorem d_Lots_cross_46 : decode b_Lots_cross 46 = .ok (.ior, 1) := by decide +kernel
theorem d_Lots_cross_47 : decode b_Lots_cross 47 = .ok (.invokevirtual 148, 3) := by decide +kernel
theorem d_Lots_cross_50 : decode b_Lots_cross 50 = .ok (.ireturn, 1) := by decide +kernel
set_option maxHeartbeats 4000000 in
set_option maxRecDepth 100000 in
theorem c_Lots_cross (l : Launch) {S : St} {x1 : Int32} {x2 : Int32} {S' : St} {r : Int32} (h : f_Lots_cross S x1 x2 = some (r, S')) {kS : Nat} (hkS : kS = kCross S x1 x2) : MI cw l y_Lots_cross b_Lots_cross 3 (some .int) 7 148 2 kS (fun ad => [.ref (ad 0 0), .int x1, .int x2]) aT aM S r S' := by
  refine MI_of "LawfulLots" rfl (by decide) (fun _ => Nat.le_of_ble_eq_true rfl) ?_
  intro p e s m args below meth c D ar ad A Q ls hP F hK hA hw hl hQ
  have hl : lv_has ls 3 [(0, .ref (ad 0 0)), (1, .int x1), (2, .int x2)] := hl
  obtain ⟨X_0, eX_0⟩ : ∃ X : (Int32 × St) → Prop, X = (fun q => ∀ (q0 : Nat → Nat) (H : Heap) (locs : List Loc) (pc : Nat) (ls : Array Slot), decode b_Lots_cross pc = .ok (.ireturn, 1) → Bw cw D ar A s.heap H locs (adM q0 ad) q.2 → W p l e (RMA 7 148 2 kS) s m args below meth c H locs 2 kS Q (F0 m pc ls [.int q.1])) := ⟨_, rfl⟩
  have key : ∀ (H : Heap) (locs : List Loc), Bw cw D ar A s.heap H locs ad S → ∀ o, f_Lots_cross S x1 x2 = some o → X_0 o → W p l e (RMA 7 148 2 kS) s m args below meth c H locs 0 0 Q (F0 m 0 ls []) := by
    intro H locs hw o h ho
    unfold f_Lots_cross at h
    have J_30 : ∀ (q0 : Nat → Nat) (S : St) (H : Heap) (locs : List Loc) (ls : Array Slot), Bw cw D ar A s.heap H locs (adM q0 ad) S → lv_has ls 3 [] → ∀ o, Lots_cross_j30 S = some o → X_0 o → W p l e (RMA 7 148 2 kS) s m args below meth c H locs 2 kS Q (F0 m 30 ls []) := by
      intro q0 S H locs ls hw hl o h ho
      unfold Lots_cross_j30 at h
      refine lv_iconst (v := -1) F.1 F.2.1 d_Lots_cross_30 (by decide) ?_
      cases h
      have ho : X_0 _ := ho
      rw [eX_0] at ho
      exact ho q0 H locs _ ls d_Lots_cross_31 hw
    refine lv_aload_n F.1 F.2.1 d_Lots_cross_0 rfl (lv_at hl 0 rfl) ?_
    refine cg_0_2 F hK hw lk_342 d_Lots_cross_1 ?_
    refine cg_4_8 F hK hw lk_202 d_Lots_cross_4 ?_
    refine lv_iconst (v := 2) F.1 F.2.1 d_Lots_cross_7 (by decide) ?_
    refine lv_iload_n F.1 F.2.1 d_Lots_cross_8 rfl (lv_at hl 1 rfl) ?_
    obtain ⟨v_2, hc_1, h⟩ := bd_ex h
    refine cV_i F hA rfl hK hw (c_Book_has l hc_1) trivial rfl (good_V lk_573 lk_574 lk_575 lk_4 lk_576) (cr_5 hK hw) hd_Book_has ⟨Nat.le_of_ble_eq_true rfl, Nat.le_of_ble_eq_true rfl⟩ rfl hl.1 rfl (Nat.le_of_ble_eq_true rfl) d_Lots_cross_9 ⟨(Nat.zero_le _), (Nat.zero_le _)⟩ (fun H locs hw => ?_)
    refine lv_if_eq (tgt := 30) F.1 F.2.1 d_Lots_cross_12 (by decide) (fun c_3 => ?_) (fun c_3 => ?_)
    · replace h := ip c_3 h
      obtain ⟨q_4, hq_4⟩ := (aM_rf ad)
      rw [hq_4] at hw
      refine W.widen (k := 2) (n := kS) (Nat.le_of_ble_eq_true rfl) (Nat.zero_le _) ?_
      exact J_30 q_4 S H locs ls hw (lv_sub hl [] rfl) o h ho
    · replace h := iq c_3 h
      refine lv_aload_n F.1 F.2.1 d_Lots_cross_15 rfl (lv_at hl 0 rfl) ?_
      refine cg_0_2 F hK hw lk_342 d_Lots_cross_16 ?_
      refine cg_4_8 F hK hw lk_202 d_Lots_cross_19 ?_
      refine lv_iconst (v := 2) F.1 F.2.1 d_Lots_cross_22 (by decide) ?_
      refine lv_iload_n F.1 F.2.1 d_Lots_cross_23 rfl (lv_at hl 2 rfl) ?_
      obtain ⟨v_6, hc_5, h⟩ := bd_ex h
      refine cV_i F hA rfl hK hw (c_Book_has l hc_5) trivial rfl (good_V lk_573 lk_574 lk_575 lk_4 lk_576) (cr_5 hK hw) hd_Book_has ⟨Nat.le_of_ble_eq_true rfl, Nat.le_of_ble_eq_true rfl⟩ rfl hl.1 rfl (Nat.le_of_ble_eq_true rfl) d_Lots_cross_24 ⟨(Nat.zero_le _), (Nat.zero_le _)⟩ (fun H locs hw => ?_)
      refine lv_if_ne (tgt := 32) F.1 F.2.1 d_Lots_cross_27 (by decide) (fun c_7 => ?_) (fun c_7 => ?_)
      · replace h := iq c_7 h
        refine lv_aload_n F.1 F.2.1 d_Lots_cross_32 rfl (lv_at hl 0 rfl) ?_
        obtain ⟨S_9, hc_8, h⟩ := bd_ex h
        refine cVm_v F hA rfl hK hw (c_Lots_refreshBins l hc_8 rfl) trivial rfl (good_V lk_762 lk_764 ls_36 lk_1 lk_765) (cr_0 hK hw) hd_Lots_refreshBins ⟨Nat.le_of_ble_eq_true rfl, Nat.le_of_ble_eq_true rfl⟩ rfl hl.1 rfl (Nat.le_of_ble_eq_true rfl) d_Lots_cross_33 ⟨Nat.le_of_ble_eq_true rfl, (by show _ ≤ kS; rw [hkS]; unfold kCross; simp only [hc_1, if_neg c_3, hc_5, if_neg c_7]; omega)⟩ (fun q_10 H locs hw => ?_)
        refine W.widen (k := 2) (n := kS) (Nat.le_of_ble_eq_true rfl) (by show _ ≤ kS; rw [hkS]; unfold kCross; simp only [hc_1, if_neg c_3, hc_5, if_neg c_7]; omega) ?_
        refine lv_aload_n F.1 F.2.1 d_Lots_cross_36 rfl (lv_at hl 0 rfl) ?_
        refine cg_0_4 (ad := (adM q_10 ad)) F hK hw lk_344 d_Lots_cross_37 ?_
        refine lv_iconst (v := 1) F.1 F.2.1 d_Lots_cross_40 (by decide) ?_
        refine lv_iload_n F.1 F.2.1 d_Lots_cross_41 rfl (lv_at hl 1 rfl) ?_
        refine lv_ishl F.1 F.2.1 d_Lots_cross_42 ?_
        refine lv_iconst (v := 1) F.1 F.2.1 d_Lots_cross_43 (by decide) ?_
        refine lv_iload_n F.1 F.2.1 d_Lots_cross_44 rfl (lv_at hl 2 rfl) ?_
        refine lv_ishl F.1 F.2.1 d_Lots_cross_45 ?_
        refine lv_ior F.1 F.2.1 d_Lots_cross_46 ?_
        obtain ⟨v_12, hc_11, h⟩ := bd_ex h
        refine cV_i (ad := (adM q_10 ad)) F hA rfl hK hw (c_Bins_meetingAll l hc_11) trivial rfl (good_V lk_782 lk_783 lk_784 lk_8 lk_785) (cr_8 hK hw) hd_Bins_meetingAll ⟨Nat.le_of_ble_eq_true rfl, Nat.le_of_ble_eq_true rfl⟩ rfl hl.1 rfl (Nat.le_of_ble_eq_true rfl) d_Lots_cross_47 ⟨(Nat.le_refl _), (Nat.le_refl _)⟩ (fun H locs hw => ?_)
        cases h
        have ho : X_0 _ := ho
        rw [eX_0] at ho
        exact ho q_10 H locs _ ls d_Lots_cross_50 hw
      · replace h := ip c_7 h
        obtain ⟨q_13, hq_13⟩ := (aM_rf ad)
        rw [hq_13] at hw
        refine W.widen (k := 2) (n := kS) (Nat.le_of_ble_eq_true rfl) (Nat.zero_le _) ?_
        exact J_30 q_13 S H locs ls hw (lv_sub hl [] rfl) o h ho
  exact key _ _ hw _ h (by rw [eX_0]; exact fun q0 H locs pc ls hd hw => hQ H locs pc ls (adM q0 ad) ⟨q0, rfl⟩ hd hw)
theorem d_Lots_draw_0 : decode b_Lots_draw 0 = .ok (.aload_n 0, 1) := by decide +kernel
theorem d_Lots_draw_1 : decode b_Lots_draw 1 = .ok (.getfield 23, 3) := by decide +kernel
theorem d_Lots_draw_4 : decode b_Lots_draw 4 = .ok (.invokevirtual 116, 3) := by decide +kernel
theorem d_Lots_draw_7 : decode b_Lots_draw 7 = .ok (.iload_n 3, 1) := by decide +kernel
theorem d_Lots_draw_8 : decode b_Lots_draw 8 = .ok (.ifCond .lt 13, 3) := by decide +kernel
theorem d_Lots_draw_11 : decode b_Lots_draw 11 = .ok (.aload_n 0, 1) := by decide +kernel
theorem d_Lots_draw_12 : decode b_Lots_draw 12 = .ok (.getfield 23, 3) := by decide +kernel
theorem d_Lots_draw_15 : decode b_Lots_draw 15 = .ok (.getfield 122, 3) := by decide +kernel
theorem d_Lots_draw_18 : decode b_Lots_draw 18 = .ok (.ifCond .gt 5, 3) := by decide +kernel
theorem d_Lots_draw_21 : decode b_Lots_draw 21 = .ok (.iconst (-1), 1) := by decide +kernel
theorem d_Lots_draw_22 : decode b_Lots_draw 22 = .ok (.ireturn, 1) := by decide +kernel
theorem d_Lots_draw_23 : decode b_Lots_draw 23 = .ok (.lload_n 1, 1) := by decide +kernel
theorem d_Lots_draw_24 : decode b_Lots_draw 24 = .ok (.ldc2_w 128, 3) := by decide +kernel
theorem d_Lots_draw_27 : decode b_Lots_draw 27 = .ok (.lmul, 1) := by decide +kernel
theorem d_Lots_draw_28 : decode b_Lots_draw 28 = .ok (.iload_n 3, 1) := by decide +kernel
theorem d_Lots_draw_29 : decode b_Lots_draw 29 = .ok (.i2l, 1) := by decide +kernel
theorem d_Lots_draw_30 : decode b_Lots_draw 30 = .ok (.ladd, 1) := by decide +kernel
theorem d_Lots_draw_31 : decode b_Lots_draw 31 = .ok (.lconst 1, 1) := by decide +kernel
theorem d_Lots_draw_32 : decode b_Lots_draw 32 = .ok (.ladd, 1) := by decide +kernel
theorem d_Lots_draw_33 : decode b_Lots_draw 33 = .ok (.ldc2_w 130, 3) := by decide +kernel
theorem d_Lots_draw_36 : decode b_Lots_draw 36 = .ok (.lmul, 1) := by decide +kernel
theorem d_Lots_draw_37 : decode b_Lots_draw 37 = .ok (.lstore 4, 2) := by decide +kernel
theorem d_Lots_draw_39 : decode b_Lots_draw 39 = .ok (.lload 4, 2) := by decide +kernel
theorem d_Lots_draw_41 : decode b_Lots_draw 41 = .ok (.lload 4, 2) := by decide +kernel
theorem d_Lots_draw_43 : decode b_Lots_draw 43 = .ok (.bipush 29, 2) := by decide +kernel
theorem d_Lots_draw_45 : decode b_Lots_draw 45 = .ok (.lushr, 1) := by decide +kernel
theorem d_Lots_draw_46 : decode b_Lots_draw 46 = .ok (.lxor, 1) := by decide +kernel
theorem d_Lots_draw_47 : decode b_Lots_draw 47 = .ok (.lstore 6, 2) := by decide +kernel
theorem d_Lots_draw_49 : decode b_Lots_draw 49 = .ok (.aload_n 0, 1) := by decide +kernel
theorem d_Lots_draw_50 : decode b_Lots_draw 50 = .ok (.getfield 23, 3) := by decide +kernel
theorem d_Lots_draw_53 : decode b_Lots_draw 53 = .ok (.lload 6, 2) := by decide +kernel
theorem d_Lots_draw_55 : decode b_Lots_draw 55 = .ok (.iconst 1, 1) := by decide +kernel
theorem d_Lots_draw_56 : decode b_Lots_draw 56 = .ok (.lushr, 1) := by decide +kernel
theorem d_Lots_draw_57 : decode b_Lots_draw 57 = .ok (.aload_n 0, 1) := by decide +kernel
theorem d_Lots_draw_58 : decode b_Lots_draw 58 = .ok (.getfield 23, 3) := by decide +kernel
theorem d_Lots_draw_61 : decode b_Lots_draw 61 = .ok (.getfield 122, 3) := by decide +kernel
theorem d_Lots_draw_64 : decode b_Lots_draw 64 = .ok (.i2l, 1) := by decide +kernel
theorem d_Lots_draw_65 : decode b_Lots_draw 65 = .ok (.lrem, 1) := by decide +kernel
theorem d_Lots_draw_66 : decode b_Lots_draw 66 = .ok (.l2i, 1) := by decide +kernel
theorem d_Lots_draw_67 : decode b_Lots_draw 67 = .ok (.invokevirtual 125, 3) := by decide +kernel
theorem d_Lots_draw_70 : decode b_Lots_draw 70 = .ok (.istore 8, 2) := by decide +kernel
theorem d_Lots_draw_72 : decode b_Lots_draw 72 = .ok (.aload_n 0, 1) := by decide +kernel
theorem d_Lots_draw_73 : decode b_Lots_draw 73 = .ok (.getfield 30, 3) := by decide +kernel
theorem d_Lots_draw_76 : decode b_Lots_draw 76 = .ok (.aload_n 0, 1) := by decide +kernel
theorem d_Lots_draw_77 : decode b_Lots_draw 77 = .ok (.getfield 23, 3) := by decide +kernel
theorem d_Lots_draw_80 : decode b_Lots_draw 80 = .ok (.iload 8, 2) := by decide +kernel
theorem d_Lots_draw_82 : decode b_Lots_draw 82 = .ok (.invokevirtual 108, 3) := by decide +kernel
theorem d_Lots_draw_85 : decode b_Lots_draw 85 = .ok (.invokevirtual 132, 3) := by decide +kernel
theorem d_Lots_draw_88 : decode b_Lots_draw 88 = .ok (.aload_n 0, 1) := by decide +kernel
theorem d_Lots_draw_89 : decode b_Lots_draw 89 = .ok (.getfield 37, 3) := by decide +kernel
theorem d_Lots_draw_92 : decode b_Lots_draw 92 = .ok (.iconst 0, 1) := by decide +kernel
theorem d_Lots_draw_93 : decode b_Lots_draw 93 = .ok (.putfield 135, 3) := by decide +kernel
theorem d_Lots_draw_96 : decode b_Lots_draw 96 = .ok (.iload 8, 2) := by decide +kernel
theorem d_Lots_draw_98 : decode b_Lots_draw 98 = .ok (.ireturn, 1) := by decide +kernel
set_option maxHeartbeats 4000000 in
set_option maxRecDepth 100000 in
theorem c_Lots_draw (l : Launch) {S : St} {x1 : Int64} {x3 : Int32} {S' : St} {r : Int32} (h : f_Lots_draw S x1 x3 = some (r, S')) {kS : Nat} (hkS : kS = kSh S) : MI cw l y_Lots_draw b_Lots_draw 9 (some .int) 6 128 3 kS (fun ad => [.ref (ad 0 0), .long x1, .int x3]) aT aM S r S' := by
  refine MI_of "LawfulLots" rfl (by decide) (fun _ => Nat.le_of_ble_eq_true rfl) ?_
  intro p e s m args below meth c D ar ad A Q ls hP F hK hA hw hl hQ
  have hl : lv_has ls 9 [(0, .ref (ad 0 0)), (1, .long x1), (3, .int x3)] := hl
  obtain ⟨X_0, eX_0⟩ : ∃ X : (Int32 × St) → Prop, X = (fun q => ∀ (q0 : Nat → Nat) (H : Heap) (locs : List Loc) (pc : Nat) (ls : Array Slot), decode b_Lots_draw pc = .ok (.ireturn, 1) → Bw cw D ar A s.heap H locs (adM q0 ad) q.2 → W p l e (RMA 6 128 3 kS) s m args below meth c H locs 3 kS Q (F0 m pc ls [.int q.1])) := ⟨_, rfl⟩
  have key : ∀ (H : Heap) (locs : List Loc), Bw cw D ar A s.heap H locs ad S → ∀ o, f_Lots_draw S x1 x3 = some o → X_0 o → W p l e (RMA 6 128 3 kS) s m args below meth c H locs 0 0 Q (F0 m 0 ls []) := by
    intro H locs hw o h ho
    unfold f_Lots_draw at h
    have J_21 : ∀ (q0 : Nat → Nat) (S : St) (H : Heap) (locs : List Loc) (ls : Array Slot), Bw cw D ar A s.heap H locs (adM q0 ad) S → lv_has ls 9 [] → ∀ o, Lots_draw_j21 S = some o → X_0 o → W p l e (RMA 6 128 3 kS) s m args below meth c H locs 3 kS Q (F0 m 21 ls []) := by
      intro q0 S H locs ls hw hl o h ho
      unfold Lots_draw_j21 at h
      refine lv_iconst (v := -1) F.1 F.2.1 d_Lots_draw_21 (by decide) ?_
      cases h
      have ho : X_0 _ := ho
      rw [eX_0] at ho
      exact ho q0 H locs _ ls d_Lots_draw_22 hw
    refine lv_aload_n F.1 F.2.1 d_Lots_draw_0 rfl (lv_at hl 0 rfl) ?_
    refine cg_0_2 F hK hw lk_342 d_Lots_draw_1 ?_
    obtain ⟨S_2, hc_1, h⟩ := bd_ex h
    refine cVm_v F hA rfl hK hw (c_Chart_refreshShares l hc_1 rfl) trivial rfl (good_V lk_672 lk_673 lk_674 lk_5 lk_675) (cr_4 hK hw) hd_Chart_refreshShares ⟨Nat.le_of_ble_eq_true rfl, Nat.le_of_ble_eq_true rfl⟩ rfl hl.1 rfl (Nat.le_of_ble_eq_true rfl) d_Lots_draw_4 ⟨Nat.le_of_ble_eq_true rfl, (by show _ ≤ kS; rw [hkS]; exact Nat.le_of_eq (Nat.zero_add _))⟩ (fun q_3 H locs hw => ?_)
    refine W.widen (k := 3) (n := kS) (Nat.le_of_ble_eq_true rfl) (by show _ ≤ kS; rw [hkS]; exact Nat.le_of_eq (Nat.zero_add _)) ?_
    refine lv_iload_n F.1 F.2.1 d_Lots_draw_7 rfl (lv_at hl 2 rfl) ?_
    refine lv_if_lt (tgt := 21) F.1 F.2.1 d_Lots_draw_8 (by decide) (fun c_4 => ?_) (fun c_4 => ?_)
    · replace h := ip c_4 h
      exact J_21 q_3 S_2 H locs ls hw (lv_sub hl [] rfl) o h ho
    · replace h := iq c_4 h
      refine lv_aload_n F.1 F.2.1 d_Lots_draw_11 rfl (lv_at hl 0 rfl) ?_
      refine cg_0_2 (ad := (adM q_3 ad)) F hK hw lk_342 d_Lots_draw_12 ?_
      refine cg_4_11 (ad := (adM q_3 ad)) F hK hw lk_210 d_Lots_draw_15 ?_
      refine lv_if_gt (tgt := 23) F.1 F.2.1 d_Lots_draw_18 (by decide) (fun c_5 => ?_) (fun c_5 => ?_)
      · replace h := ip c_5 h
        refine lv_lload_n F.1 F.2.1 d_Lots_draw_23 rfl (lv_at hl 1 rfl) ?_
        refine lv_ldc2 F.1 F.2.1 F.2.2.2.1 (F.2.2.2.2 _ lk_724) d_Lots_draw_24 ?_
        refine lv_lmul F.1 F.2.1 d_Lots_draw_27 ?_
        refine lv_iload_n F.1 F.2.1 d_Lots_draw_28 rfl (lv_at hl 2 rfl) ?_
        refine lv_i2l F.1 F.2.1 d_Lots_draw_29 rfl ?_
        refine lv_ladd F.1 F.2.1 d_Lots_draw_30 ?_
        refine lv_lconst (v := 1) F.1 F.2.1 d_Lots_draw_31 (by decide) ?_
        refine lv_ladd F.1 F.2.1 d_Lots_draw_32 ?_
        refine lv_ldc2 F.1 F.2.1 F.2.2.2.1 (F.2.2.2.2 _ lk_725) d_Lots_draw_33 ?_
        refine lv_lmul F.1 F.2.1 d_Lots_draw_36 ?_
        obtain ⟨x4_6, ex4_6, h⟩ := nm_ex h
        refine lv_nmL ex4_6 ?_
        refine lv_lstore (lv' := [(4, .long x4_6), (0, .ref ((adM q_3 ad) 0 0)), (1, .long x1), (3, .int x3)]) F.1 F.2.1 d_Lots_draw_37 hl (by decide) rfl (fun ls hl => ?_)
        refine lv_lload F.1 F.2.1 d_Lots_draw_39 (lv_at hl 0 rfl) ?_
        refine lv_lload F.1 F.2.1 d_Lots_draw_41 (lv_at hl 0 rfl) ?_
        refine lv_bipush (v := 29) F.1 F.2.1 d_Lots_draw_43 (by decide) ?_
        refine lv_lushr F.1 F.2.1 d_Lots_draw_45 rfl ?_
        refine lv_lxor F.1 F.2.1 d_Lots_draw_46 ?_
        obtain ⟨x6_7, ex6_7, h⟩ := nm_ex h
        refine lv_nmL ex6_7 ?_
        refine lv_lstore (lv' := [(6, .long x6_7), (4, .long x4_6), (0, .ref ((adM q_3 ad) 0 0)), (1, .long x1), (3, .int x3)]) F.1 F.2.1 d_Lots_draw_47 hl (by decide) rfl (fun ls hl => ?_)
        refine lv_aload_n F.1 F.2.1 d_Lots_draw_49 rfl (lv_at hl 2 rfl) ?_
        refine cg_0_2 (ad := (adM q_3 ad)) F hK hw lk_342 d_Lots_draw_50 ?_
        refine lv_lload F.1 F.2.1 d_Lots_draw_53 (lv_at hl 0 rfl) ?_
        refine lv_iconst (v := 1) F.1 F.2.1 d_Lots_draw_55 (by decide) ?_
        refine lv_lushr F.1 F.2.1 d_Lots_draw_56 rfl ?_
        refine lv_aload_n F.1 F.2.1 d_Lots_draw_57 rfl (lv_at hl 2 rfl) ?_
        refine cg_0_2 (ad := (adM q_3 ad)) F hK hw lk_342 d_Lots_draw_58 ?_
        refine cg_4_11 (ad := (adM q_3 ad)) F hK hw lk_210 d_Lots_draw_61 ?_
        refine lv_i2l F.1 F.2.1 d_Lots_draw_64 rfl ?_
        obtain ⟨hz_8, h⟩ := gd_ex h
        refine lv_lrem F.1 F.2.1 d_Lots_draw_65 (of_decide_eq_true hz_8) ?_
        refine lv_l2i F.1 F.2.1 d_Lots_draw_66 rfl ?_
        obtain ⟨v_10, hc_9, h⟩ := bd_ex h
        refine cV_i (ad := (adM q_3 ad)) F hA rfl hK hw (c_Chart_drawnBy l hc_9) trivial rfl (good_V lk_716 lk_717 lk_718 lk_5 lk_719) (cr_4 hK hw) hd_Chart_drawnBy ⟨Nat.le_of_ble_eq_true rfl, Nat.le_of_ble_eq_true rfl⟩ rfl hl.1 rfl (Nat.le_of_ble_eq_true rfl) d_Lots_draw_67 ⟨(Nat.le_refl _), (Nat.le_refl _)⟩ (fun H locs hw => ?_)
        refine lv_istore (lv' := [(8, .int v_10), (6, .long x6_7), (4, .long x4_6), (0, .ref ((adM q_3 ad) 0 0)), (1, .long x1), (3, .int x3)]) F.1 F.2.1 d_Lots_draw_70 hl (by decide) rfl (fun ls hl => ?_)
        refine lv_aload_n F.1 F.2.1 d_Lots_draw_72 rfl (lv_at hl 3 rfl) ?_
        refine cg_0_3 (ad := (adM q_3 ad)) F hK hw lk_343 d_Lots_draw_73 ?_
        refine lv_aload_n F.1 F.2.1 d_Lots_draw_76 rfl (lv_at hl 3 rfl) ?_
        refine cg_0_2 (ad := (adM q_3 ad)) F hK hw lk_342 d_Lots_draw_77 ?_
        refine lv_iload F.1 F.2.1 d_Lots_draw_80 (lv_at hl 0 rfl) ?_
        obtain ⟨v_12, hc_11, h⟩ := bd_ex h
        refine cV_i (ad := (adM q_3 ad)) F hA rfl hK hw (c_Chart_inputOf l hc_11) trivial rfl (good_V lk_660 lk_661 lk_662 lk_5 lk_663) (cr_4 hK hw) hd_Chart_inputOf ⟨Nat.le_of_ble_eq_true rfl, Nat.le_of_ble_eq_true rfl⟩ rfl hl.1 rfl (Nat.le_of_ble_eq_true rfl) d_Lots_draw_82 ⟨(Nat.le_refl _), (Nat.le_refl _)⟩ (fun H locs hw => ?_)
        obtain ⟨S_14, hc_13, h⟩ := bd_ex h
        refine cV_v (ad := (adM q_3 ad)) F hA rfl hK hw (c_Log_add l hc_13) trivial rfl (good_V lk_726 lk_727 lk_728 lk_7 lk_729) (cr_7 hK hw) hd_Log_add ⟨Nat.le_of_ble_eq_true rfl, Nat.le_of_ble_eq_true rfl⟩ rfl hl.1 rfl (Nat.le_of_ble_eq_true rfl) d_Lots_draw_85 ⟨(Nat.le_refl _), (Nat.le_refl _)⟩ (fun H locs hw => ?_)
        refine lv_aload_n F.1 F.2.1 d_Lots_draw_88 rfl (lv_at hl 3 rfl) ?_
        refine cg_0_4 (ad := (adM q_3 ad)) F hK hw lk_344 d_Lots_draw_89 ?_
        refine lv_iconst (v := 0) F.1 F.2.1 d_Lots_draw_92 (by decide) ?_
        obtain ⟨S_15, eS_15, h⟩ := nm_ex h
        refine cp_8_10 (ad := (adM q_3 ad)) F hK hw isB0 lk_285 d_Lots_draw_93 eS_15 (fun H locs hw => ?_)
        refine lv_iload F.1 F.2.1 d_Lots_draw_96 (lv_at hl 0 rfl) ?_
        cases h
        have ho : X_0 _ := ho
        rw [eX_0] at ho
        exact ho q_3 H locs _ ls d_Lots_draw_98 hw
      · replace h := iq c_5 h
        exact J_21 q_3 S_2 H locs ls hw (lv_sub hl [] rfl) o h ho
  exact key _ _ hw _ h (by rw [eX_0]; exact fun q0 H locs pc ls hd hw => hQ H locs pc ls (adM q0 ad) ⟨q0, rfl⟩ hd hw)
theorem d_Lots_fallen_0 : decode b_Lots_fallen 0 = .ok (.aload_n 0, 1) := by decide +kernel
theorem d_Lots_fallen_1 : decode b_Lots_fallen 1 = .ok (.getfield 23, 3) := by decide +kernel
theorem d_Lots_fallen_4 : decode b_Lots_fallen 4 = .ok (.invokevirtual 101, 3) := by decide +kernel
theorem d_Lots_fallen_7 : decode b_Lots_fallen 7 = .ok (.aload_n 0, 1) := by decide +kernel
theorem d_Lots_fallen_8 : decode b_Lots_fallen 8 = .ok (.getfield 30, 3) := by decide +kernel
theorem d_Lots_fallen_11 : decode b_Lots_fallen 11 = .ok (.aload_n 0, 1) := by decide +kernel
theorem d_Lots_fallen_12 : decode b_Lots_fallen 12 = .ok (.getfield 23, 3) := by decide +kernel
theorem d_Lots_fallen_15 : decode b_Lots_fallen 15 = .ok (.iload_n 1, 1) := by decide +kernel
theorem d_Lots_fallen_16 : decode b_Lots_fallen 16 = .ok (.invokevirtual 183, 3) := by decide +kernel
theorem d_Lots_fallen_19 : decode b_Lots_fallen 19 = .ok (.ireturn, 1) := by decide +kernel
set_option maxHeartbeats 4000000 in
set_option maxRecDepth 100000 in
theorem c_Lots_fallen (l : Launch) {S : St} {x1 : Int32} {S' : St} {r : Int32} (h : f_Lots_fallen S x1 = some (r, S')) {kS : Nat} (hkS : kS = kMark S) : MI cw l y_Lots_fallen b_Lots_fallen 2 (some .int) 5 108 2 kS (fun ad => [.ref (ad 0 0), .int x1]) aT aM S r S' := by
  refine MI_of "LawfulLots" rfl (by decide) (fun _ => Nat.le_of_ble_eq_true rfl) ?_
  intro p e s m args below meth c D ar ad A Q ls hP F hK hA hw hl hQ
  have hl : lv_has ls 2 [(0, .ref (ad 0 0)), (1, .int x1)] := hl
  obtain ⟨X_0, eX_0⟩ : ∃ X : (Int32 × St) → Prop, X = (fun q => ∀ (q0 : Nat → Nat) (H : Heap) (locs : List Loc) (pc : Nat) (ls : Array Slot), decode b_Lots_fallen pc = .ok (.ireturn, 1) → Bw cw D ar A s.heap H locs (adM q0 ad) q.2 → W p l e (RMA 5 108 2 kS) s m args below meth c H locs 2 kS Q (F0 m pc ls [.int q.1])) := ⟨_, rfl⟩
  have key : ∀ (H : Heap) (locs : List Loc), Bw cw D ar A s.heap H locs ad S → ∀ o, f_Lots_fallen S x1 = some o → X_0 o → W p l e (RMA 5 108 2 kS) s m args below meth c H locs 0 0 Q (F0 m 0 ls []) := by
    intro H locs hw o h ho
    unfold f_Lots_fallen at h
    refine lv_aload_n F.1 F.2.1 d_Lots_fallen_0 rfl (lv_at hl 0 rfl) ?_
    refine cg_0_2 F hK hw lk_342 d_Lots_fallen_1 ?_
    obtain ⟨S_2, hc_1, h⟩ := bd_ex h
    refine cVm_v F hA rfl hK hw (c_Chart_refresh l hc_1 rfl) trivial rfl (good_V lk_590 lk_591 lk_592 lk_5 lk_593) (cr_4 hK hw) hd_Chart_refresh ⟨Nat.le_of_ble_eq_true rfl, Nat.le_of_ble_eq_true rfl⟩ rfl hl.1 rfl (Nat.le_of_ble_eq_true rfl) d_Lots_fallen_4 ⟨Nat.le_of_ble_eq_true rfl, (by show _ ≤ kS; rw [hkS]; exact Nat.le_of_eq (Nat.zero_add _))⟩ (fun q_3 H locs hw => ?_)
    refine W.widen (k := 2) (n := kS) (Nat.le_of_ble_eq_true rfl) (by show _ ≤ kS; rw [hkS]; exact Nat.le_of_eq (Nat.zero_add _)) ?_
    refine lv_aload_n F.1 F.2.1 d_Lots_fallen_7 rfl (lv_at hl 0 rfl) ?_
    refine cg_0_3 (ad := (adM q_3 ad)) F hK hw lk_343 d_Lots_fallen_8 ?_
    refine lv_aload_n F.1 F.2.1 d_Lots_fallen_11 rfl (lv_at hl 0 rfl) ?_
    refine cg_0_2 (ad := (adM q_3 ad)) F hK hw lk_342 d_Lots_fallen_12 ?_
    refine lv_iload_n F.1 F.2.1 d_Lots_fallen_15 rfl (lv_at hl 1 rfl) ?_
    obtain ⟨v_5, hc_4, h⟩ := bd_ex h
    refine cV_i (ad := (adM q_3 ad)) F hA rfl hK hw (c_Log_unlawful l hc_4) trivial rfl (good_V lk_879 lk_880 lk_881 lk_7 lk_882) (cr_7 hK hw) hd_Log_unlawful ⟨Nat.le_of_ble_eq_true rfl, Nat.le_of_ble_eq_true rfl⟩ rfl hl.1 rfl (Nat.le_of_ble_eq_true rfl) d_Lots_fallen_16 ⟨(Nat.le_refl _), (Nat.le_refl _)⟩ (fun H locs hw => ?_)
    cases h
    have ho : X_0 _ := ho
    rw [eX_0] at ho
    exact ho q_3 H locs _ ls d_Lots_fallen_19 hw
  exact key _ _ hw _ h (by rw [eX_0]; exact fun q0 H locs pc ls hd hw => hQ H locs pc ls (adM q0 ad) ⟨q0, rfl⟩ hd hw)
theorem d_Lots_fill_0 : decode b_Lots_fill 0 = .ok (.aload_n 0, 1) := by decide +kernel
theorem d_Lots_fill_1 : decode b_Lots_fill 1 = .ok (.invokevirtual 145, 3) := by decide +kernel
theorem d_Lots_fill_4 : decode b_Lots_fill 4 = .ok (.aload_n 0, 1) := by decide +kernel
theorem d_Lots_fill_5 : decode b_Lots_fill 5 = .ok (.getfield 37, 3) := by decide +kernel
theorem d_Lots_fill_8 : decode b_Lots_fill 8 = .ok (.aload_n 0, 1) := by decide +kernel
theorem d_Lots_fill_9 : decode b_Lots_fill 9 = .ok (.getfield 23, 3) := by decide +kernel
theorem d_Lots_fill_12 : decode b_Lots_fill 12 = .ok (.aload_n 0, 1) := by decide +kernel
theorem d_Lots_fill_13 : decode b_Lots_fill 13 = .ok (.getfield 30, 3) := by decide +kernel
theorem d_Lots_fill_16 : decode b_Lots_fill 16 = .ok (.invokevirtual 159, 3) := by decide +kernel
theorem d_Lots_fill_19 : decode b_Lots_fill 19 = .ok (.aload_n 0, 1) := by decide +kernel
theorem d_Lots_fill_20 : decode b_Lots_fill 20 = .ok (.getfield 37, 3) := by decide +kernel
theorem d_Lots_fill_23 : decode b_Lots_fill 23 = .ok (.invokevirtual 163, 3) := by decide +kernel
theorem d_Lots_fill_26 : decode b_Lots_fill 26 = .ok (.ireturn, 1) := by decide +kernel
set_option maxHeartbeats 4000000 in
set_option maxRecDepth 100000 in
theorem c_Lots_fill (l : Launch) {S : St} {S' : St} {r : Int32} (h : f_Lots_fill S = some (r, S')) {kS : Nat} (hkS : kS = kMark S) : MI cw l y_Lots_fill b_Lots_fill 1 (some .int) 7 148 2 kS (fun ad => [.ref (ad 0 0)]) aT aM S r S' := by
  refine MI_of "LawfulLots" rfl (by decide) (fun _ => Nat.le_of_ble_eq_true rfl) ?_
  intro p e s m args below meth c D ar ad A Q ls hP F hK hA hw hl hQ
  have hl : lv_has ls 1 [(0, .ref (ad 0 0))] := hl
  obtain ⟨X_0, eX_0⟩ : ∃ X : (Int32 × St) → Prop, X = (fun q => ∀ (q0 : Nat → Nat) (H : Heap) (locs : List Loc) (pc : Nat) (ls : Array Slot), decode b_Lots_fill pc = .ok (.ireturn, 1) → Bw cw D ar A s.heap H locs (adM q0 ad) q.2 → W p l e (RMA 7 148 2 kS) s m args below meth c H locs 2 kS Q (F0 m pc ls [.int q.1])) := ⟨_, rfl⟩
  have key : ∀ (H : Heap) (locs : List Loc), Bw cw D ar A s.heap H locs ad S → ∀ o, f_Lots_fill S = some o → X_0 o → W p l e (RMA 7 148 2 kS) s m args below meth c H locs 0 0 Q (F0 m 0 ls []) := by
    intro H locs hw o h ho
    unfold f_Lots_fill at h
    refine lv_aload_n F.1 F.2.1 d_Lots_fill_0 rfl (lv_at hl 0 rfl) ?_
    obtain ⟨S_2, hc_1, h⟩ := bd_ex h
    refine cVm_v F hA rfl hK hw (c_Lots_refreshBins l hc_1 rfl) trivial rfl (good_V lk_762 lk_764 ls_36 lk_1 lk_765) (cr_0 hK hw) hd_Lots_refreshBins ⟨Nat.le_of_ble_eq_true rfl, Nat.le_of_ble_eq_true rfl⟩ rfl hl.1 rfl (Nat.le_of_ble_eq_true rfl) d_Lots_fill_1 ⟨Nat.le_of_ble_eq_true rfl, (by show _ ≤ kS; rw [hkS]; exact Nat.le_of_eq (Nat.zero_add _))⟩ (fun q_3 H locs hw => ?_)
    refine W.widen (k := 2) (n := kS) (Nat.le_of_ble_eq_true rfl) (by show _ ≤ kS; rw [hkS]; exact Nat.le_of_eq (Nat.zero_add _)) ?_
    refine lv_aload_n F.1 F.2.1 d_Lots_fill_4 rfl (lv_at hl 0 rfl) ?_
    refine cg_0_4 (ad := (adM q_3 ad)) F hK hw lk_344 d_Lots_fill_5 ?_
    refine lv_aload_n F.1 F.2.1 d_Lots_fill_8 rfl (lv_at hl 0 rfl) ?_
    refine cg_0_2 (ad := (adM q_3 ad)) F hK hw lk_342 d_Lots_fill_9 ?_
    refine lv_aload_n F.1 F.2.1 d_Lots_fill_12 rfl (lv_at hl 0 rfl) ?_
    refine cg_0_3 (ad := (adM q_3 ad)) F hK hw lk_343 d_Lots_fill_13 ?_
    obtain ⟨S_5, hc_4, h⟩ := bd_ex h
    refine cV_v (ad := (adM q_3 ad)) F hA rfl hK hw (c_Bins_plan l hc_4) trivial rfl (good_V lk_807 lk_808 lk_809 lk_8 lk_810) (cr_8 hK hw) hd_Bins_plan ⟨Nat.le_of_ble_eq_true rfl, Nat.le_of_ble_eq_true rfl⟩ rfl hl.1 rfl (Nat.le_of_ble_eq_true rfl) d_Lots_fill_16 ⟨(Nat.le_refl _), (Nat.le_refl _)⟩ (fun H locs hw => ?_)
    refine lv_aload_n F.1 F.2.1 d_Lots_fill_19 rfl (lv_at hl 0 rfl) ?_
    refine cg_0_4 (ad := (adM q_3 ad)) F hK hw lk_344 d_Lots_fill_20 ?_
    obtain ⟨v_7, hc_6, h⟩ := bd_ex h
    refine cV_i (ad := (adM q_3 ad)) F hA rfl hK hw (c_Bins_planSize l hc_6) trivial rfl (good_V lk_823 lk_824 lk_825 lk_8 lk_826) (cr_8 hK hw) hd_Bins_planSize ⟨Nat.le_of_ble_eq_true rfl, Nat.le_of_ble_eq_true rfl⟩ rfl hl.1 rfl (Nat.le_of_ble_eq_true rfl) d_Lots_fill_23 ⟨(Nat.le_refl _), (Nat.le_refl _)⟩ (fun H locs hw => ?_)
    cases h
    have ho : X_0 _ := ho
    rw [eX_0] at ho
    exact ho q_3 H locs _ ls d_Lots_fill_26 hw
  exact key _ _ hw _ h (by rw [eX_0]; exact fun q0 H locs pc ls hd hw => hQ H locs pc ls (adM q0 ad) ⟨q0, rfl⟩ hd hw)
theorem d_Lots_fills_0 : decode b_Lots_fills 0 = .ok (.aload_n 0, 1) := by decide +kernel
theorem d_Lots_fills_1 : decode b_Lots_fills 1 = .ok (.invokevirtual 145, 3) := by decide +kernel
theorem d_Lots_fills_4 : decode b_Lots_fills 4 = .ok (.aload_n 0, 1) := by decide +kernel
theorem d_Lots_fills_5 : decode b_Lots_fills 5 = .ok (.getfield 37, 3) := by decide +kernel
theorem d_Lots_fills_8 : decode b_Lots_fills 8 = .ok (.aload_n 0, 1) := by decide +kernel
theorem d_Lots_fills_9 : decode b_Lots_fills 9 = .ok (.getfield 23, 3) := by decide +kernel
theorem d_Lots_fills_12 : decode b_Lots_fills 12 = .ok (.aload_n 0, 1) := by decide +kernel
theorem d_Lots_fills_13 : decode b_Lots_fills 13 = .ok (.getfield 30, 3) := by decide +kernel
theorem d_Lots_fills_16 : decode b_Lots_fills 16 = .ok (.invokevirtual 159, 3) := by decide +kernel
theorem d_Lots_fills_19 : decode b_Lots_fills 19 = .ok (.aload_n 0, 1) := by decide +kernel
theorem d_Lots_fills_20 : decode b_Lots_fills 20 = .ok (.getfield 37, 3) := by decide +kernel
theorem d_Lots_fills_23 : decode b_Lots_fills 23 = .ok (.iload_n 1, 1) := by decide +kernel
theorem d_Lots_fills_24 : decode b_Lots_fills 24 = .ok (.invokevirtual 166, 3) := by decide +kernel
theorem d_Lots_fills_27 : decode b_Lots_fills 27 = .ok (.ireturn, 1) := by decide +kernel
set_option maxHeartbeats 4000000 in
set_option maxRecDepth 100000 in
theorem c_Lots_fills (l : Launch) {S : St} {x1 : Int32} {S' : St} {r : Int32} (h : f_Lots_fills S x1 = some (r, S')) {kS : Nat} (hkS : kS = kMark S) : MI cw l y_Lots_fills b_Lots_fills 2 (some .int) 7 148 2 kS (fun ad => [.ref (ad 0 0), .int x1]) aT aM S r S' := by
  refine MI_of "LawfulLots" rfl (by decide) (fun _ => Nat.le_of_ble_eq_true rfl) ?_
  intro p e s m args below meth c D ar ad A Q ls hP F hK hA hw hl hQ
  have hl : lv_has ls 2 [(0, .ref (ad 0 0)), (1, .int x1)] := hl
  obtain ⟨X_0, eX_0⟩ : ∃ X : (Int32 × St) → Prop, X = (fun q => ∀ (q0 : Nat → Nat) (H : Heap) (locs : List Loc) (pc : Nat) (ls : Array Slot), decode b_Lots_fills pc = .ok (.ireturn, 1) → Bw cw D ar A s.heap H locs (adM q0 ad) q.2 → W p l e (RMA 7 148 2 kS) s m args below meth c H locs 2 kS Q (F0 m pc ls [.int q.1])) := ⟨_, rfl⟩
  have key : ∀ (H : Heap) (locs : List Loc), Bw cw D ar A s.heap H locs ad S → ∀ o, f_Lots_fills S x1 = some o → X_0 o → W p l e (RMA 7 148 2 kS) s m args below meth c H locs 0 0 Q (F0 m 0 ls []) := by
    intro H locs hw o h ho
    unfold f_Lots_fills at h
    refine lv_aload_n F.1 F.2.1 d_Lots_fills_0 rfl (lv_at hl 0 rfl) ?_
    obtain ⟨S_2, hc_1, h⟩ := bd_ex h
    refine cVm_v F hA rfl hK hw (c_Lots_refreshBins l hc_1 rfl) trivial rfl (good_V lk_762 lk_764 ls_36 lk_1 lk_765) (cr_0 hK hw) hd_Lots_refreshBins ⟨Nat.le_of_ble_eq_true rfl, Nat.le_of_ble_eq_true rfl⟩ rfl hl.1 rfl (Nat.le_of_ble_eq_true rfl) d_Lots_fills_1 ⟨Nat.le_of_ble_eq_true rfl, (by show _ ≤ kS; rw [hkS]; exact Nat.le_of_eq (Nat.zero_add _))⟩ (fun q_3 H locs hw => ?_)
    refine W.widen (k := 2) (n := kS) (Nat.le_of_ble_eq_true rfl) (by show _ ≤ kS; rw [hkS]; exact Nat.le_of_eq (Nat.zero_add _)) ?_
    refine lv_aload_n F.1 F.2.1 d_Lots_fills_4 rfl (lv_at hl 0 rfl) ?_
    refine cg_0_4 (ad := (adM q_3 ad)) F hK hw lk_344 d_Lots_fills_5 ?_
    refine lv_aload_n F.1 F.2.1 d_Lots_fills_8 rfl (lv_at hl 0 rfl) ?_
    refine cg_0_2 (ad := (adM q_3 ad)) F hK hw lk_342 d_Lots_fills_9 ?_
    refine lv_aload_n F.1 F.2.1 d_Lots_fills_12 rfl (lv_at hl 0 rfl) ?_
    refine cg_0_3 (ad := (adM q_3 ad)) F hK hw lk_343 d_Lots_fills_13 ?_
    obtain ⟨S_5, hc_4, h⟩ := bd_ex h
    refine cV_v (ad := (adM q_3 ad)) F hA rfl hK hw (c_Bins_plan l hc_4) trivial rfl (good_V lk_807 lk_808 lk_809 lk_8 lk_810) (cr_8 hK hw) hd_Bins_plan ⟨Nat.le_of_ble_eq_true rfl, Nat.le_of_ble_eq_true rfl⟩ rfl hl.1 rfl (Nat.le_of_ble_eq_true rfl) d_Lots_fills_16 ⟨(Nat.le_refl _), (Nat.le_refl _)⟩ (fun H locs hw => ?_)
    refine lv_aload_n F.1 F.2.1 d_Lots_fills_19 rfl (lv_at hl 0 rfl) ?_
    refine cg_0_4 (ad := (adM q_3 ad)) F hK hw lk_344 d_Lots_fills_20 ?_
    refine lv_iload_n F.1 F.2.1 d_Lots_fills_23 rfl (lv_at hl 1 rfl) ?_
    obtain ⟨v_7, hc_6, h⟩ := bd_ex h
    refine cV_i (ad := (adM q_3 ad)) F hA rfl hK hw (c_Bins_planMember l hc_6) trivial rfl (good_V lk_831 lk_832 lk_833 lk_8 lk_834) (cr_8 hK hw) hd_Bins_planMember ⟨Nat.le_of_ble_eq_true rfl, Nat.le_of_ble_eq_true rfl⟩ rfl hl.1 rfl (Nat.le_of_ble_eq_true rfl) d_Lots_fills_24 ⟨(Nat.le_refl _), (Nat.le_refl _)⟩ (fun H locs hw => ?_)
    cases h
    have ho : X_0 _ := ho
    rw [eX_0] at ho
    exact ho q_3 H locs _ ls d_Lots_fills_27 hw
  exact key _ _ hw _ h (by rw [eX_0]; exact fun q0 H locs pc ls hd hw => hQ H locs pc ls (adM q0 ad) ⟨q0, rfl⟩ hd hw)
theorem d_Lots_hits_0 : decode b_Lots_hits 0 = .ok (.aload_n 0, 1) := by decide +kernel
theorem d_Lots_hits_1 : decode b_Lots_hits 1 = .ok (.getfield 23, 3) := by decide +kernel
theorem d_Lots_hits_4 : decode b_Lots_hits 4 = .ok (.getfield 85, 3) := by decide +kernel
theorem d_Lots_hits_7 : decode b_Lots_hits 7 = .ok (.iconst 2, 1) := by decide +kernel
theorem d_Lots_hits_8 : decode b_Lots_hits 8 = .ok (.iload_n 1, 1) := by decide +kernel
theorem d_Lots_hits_9 : decode b_Lots_hits 9 = .ok (.invokevirtual 88, 3) := by decide +kernel
theorem d_Lots_hits_12 : decode b_Lots_hits 12 = .ok (.ifCond .ne 5, 3) := by decide +kernel
theorem d_Lots_hits_15 : decode b_Lots_hits 15 = .ok (.iconst (-1), 1) := by decide +kernel
theorem d_Lots_hits_16 : decode b_Lots_hits 16 = .ok (.ireturn, 1) := by decide +kernel
theorem d_Lots_hits_17 : decode b_Lots_hits 17 = .ok (.aload_n 0, 1) := by decide +kernel
theorem d_Lots_hits_18 : decode b_Lots_hits 18 = .ok (.getfield 23, 3) := by decide +kernel
theorem d_Lots_hits_21 : decode b_Lots_hits 21 = .ok (.invokevirtual 151, 3) := by decide +kernel
theorem d_Lots_hits_24 : decode b_Lots_hits 24 = .ok (.aload_n 0, 1) := by decide +kernel
theorem d_Lots_hits_25 : decode b_Lots_hits 25 = .ok (.getfield 30, 3) := by decide +kernel
theorem d_Lots_hits_28 : decode b_Lots_hits 28 = .ok (.aload_n 0, 1) := by decide +kernel
theorem d_Lots_hits_29 : decode b_Lots_hits 29 = .ok (.getfield 23, 3) := by decide +kernel
theorem d_Lots_hits_32 : decode b_Lots_hits 32 = .ok (.iload_n 1, 1) := by decide +kernel
theorem d_Lots_hits_33 : decode b_Lots_hits 33 = .ok (.invokevirtual 155, 3) := by decide +kernel
theorem d_Lots_hits_36 : decode b_Lots_hits 36 = .ok (.ireturn, 1) := by decide +kernel
set_option maxHeartbeats 4000000 in
set_option maxRecDepth 100000 in
theorem c_Lots_hits (l : Launch) {S : St} {x1 : Int32} {S' : St} {r : Int32} (h : f_Lots_hits S x1 = some (r, S')) {kS : Nat} (hkS : kS = kBin S x1) : MI cw l y_Lots_hits b_Lots_hits 2 (some .int) 6 128 2 kS (fun ad => [.ref (ad 0 0), .int x1]) aT aM S r S' := by
  refine MI_of "LawfulLots" rfl (by decide) (fun _ => Nat.le_of_ble_eq_true rfl) ?_
  intro p e s m args below meth c D ar ad A Q ls hP F hK hA hw hl hQ
  have hl : lv_has ls 2 [(0, .ref (ad 0 0)), (1, .int x1)] := hl
  obtain ⟨X_0, eX_0⟩ : ∃ X : (Int32 × St) → Prop, X = (fun q => ∀ (q0 : Nat → Nat) (H : Heap) (locs : List Loc) (pc : Nat) (ls : Array Slot), decode b_Lots_hits pc = .ok (.ireturn, 1) → Bw cw D ar A s.heap H locs (adM q0 ad) q.2 → W p l e (RMA 6 128 2 kS) s m args below meth c H locs 2 kS Q (F0 m pc ls [.int q.1])) := ⟨_, rfl⟩
  have key : ∀ (H : Heap) (locs : List Loc), Bw cw D ar A s.heap H locs ad S → ∀ o, f_Lots_hits S x1 = some o → X_0 o → W p l e (RMA 6 128 2 kS) s m args below meth c H locs 0 0 Q (F0 m 0 ls []) := by
    intro H locs hw o h ho
    unfold f_Lots_hits at h
    refine lv_aload_n F.1 F.2.1 d_Lots_hits_0 rfl (lv_at hl 0 rfl) ?_
    refine cg_0_2 F hK hw lk_342 d_Lots_hits_1 ?_
    refine cg_4_8 F hK hw lk_202 d_Lots_hits_4 ?_
    refine lv_iconst (v := 2) F.1 F.2.1 d_Lots_hits_7 (by decide) ?_
    refine lv_iload_n F.1 F.2.1 d_Lots_hits_8 rfl (lv_at hl 1 rfl) ?_
    obtain ⟨v_2, hc_1, h⟩ := bd_ex h
    refine cV_i F hA rfl hK hw (c_Book_has l hc_1) trivial rfl (good_V lk_573 lk_574 lk_575 lk_4 lk_576) (cr_5 hK hw) hd_Book_has ⟨Nat.le_of_ble_eq_true rfl, Nat.le_of_ble_eq_true rfl⟩ rfl hl.1 rfl (Nat.le_of_ble_eq_true rfl) d_Lots_hits_9 ⟨(Nat.zero_le _), (Nat.zero_le _)⟩ (fun H locs hw => ?_)
    refine lv_if_ne (tgt := 17) F.1 F.2.1 d_Lots_hits_12 (by decide) (fun c_3 => ?_) (fun c_3 => ?_)
    · replace h := iq c_3 h
      refine lv_aload_n F.1 F.2.1 d_Lots_hits_17 rfl (lv_at hl 0 rfl) ?_
      refine cg_0_2 F hK hw lk_342 d_Lots_hits_18 ?_
      obtain ⟨S_5, hc_4, h⟩ := bd_ex h
      refine cVm_v F hA rfl hK hw (c_Chart_refreshBins l hc_4 rfl) trivial rfl (good_V lk_766 lk_767 lk_768 lk_5 lk_769) (cr_4 hK hw) hd_Chart_refreshBins ⟨Nat.le_of_ble_eq_true rfl, Nat.le_of_ble_eq_true rfl⟩ rfl hl.1 rfl (Nat.le_of_ble_eq_true rfl) d_Lots_hits_21 ⟨Nat.le_of_ble_eq_true rfl, (by show _ ≤ kS; rw [hkS]; unfold kBin; simp only [hc_1, if_neg c_3]; omega)⟩ (fun q_6 H locs hw => ?_)
      refine W.widen (k := 2) (n := kS) (Nat.le_of_ble_eq_true rfl) (by show _ ≤ kS; rw [hkS]; unfold kBin; simp only [hc_1, if_neg c_3]; omega) ?_
      refine lv_aload_n F.1 F.2.1 d_Lots_hits_24 rfl (lv_at hl 0 rfl) ?_
      refine cg_0_3 (ad := (adM q_6 ad)) F hK hw lk_343 d_Lots_hits_25 ?_
      refine lv_aload_n F.1 F.2.1 d_Lots_hits_28 rfl (lv_at hl 0 rfl) ?_
      refine cg_0_2 (ad := (adM q_6 ad)) F hK hw lk_342 d_Lots_hits_29 ?_
      refine lv_iload_n F.1 F.2.1 d_Lots_hits_32 rfl (lv_at hl 1 rfl) ?_
      obtain ⟨v_8, hc_7, h⟩ := bd_ex h
      refine cV_i (ad := (adM q_6 ad)) F hA rfl hK hw (c_Log_meeting l hc_7) trivial rfl (good_V lk_794 lk_795 lk_796 lk_7 lk_797) (cr_7 hK hw) hd_Log_meeting ⟨Nat.le_of_ble_eq_true rfl, Nat.le_of_ble_eq_true rfl⟩ rfl hl.1 rfl (Nat.le_of_ble_eq_true rfl) d_Lots_hits_33 ⟨(Nat.le_refl _), (Nat.le_refl _)⟩ (fun H locs hw => ?_)
      cases h
      have ho : X_0 _ := ho
      rw [eX_0] at ho
      exact ho q_6 H locs _ ls d_Lots_hits_36 hw
    · replace h := ip c_3 h
      obtain ⟨q_9, hq_9⟩ := (aM_rf ad)
      rw [hq_9] at hw
      refine W.widen (k := 2) (n := kS) (Nat.le_of_ble_eq_true rfl) (Nat.zero_le _) ?_
      refine lv_iconst (v := -1) F.1 F.2.1 d_Lots_hits_15 (by decide) ?_
      cases h
      have ho : X_0 _ := ho
      rw [eX_0] at ho
      exact ho q_9 H locs _ ls d_Lots_hits_16 hw
  exact key _ _ hw _ h (by rw [eX_0]; exact fun q0 H locs pc ls hd hw => hQ H locs pc ls (adM q0 ad) ⟨q0, rfl⟩ hd hw)
theorem d_Lots_kept_0 : decode b_Lots_kept 0 = .ok (.aload_n 0, 1) := by decide +kernel
theorem d_Lots_kept_1 : decode b_Lots_kept 1 = .ok (.getfield 23, 3) := by decide +kernel
theorem d_Lots_kept_4 : decode b_Lots_kept 4 = .ok (.invokevirtual 101, 3) := by decide +kernel
theorem d_Lots_kept_7 : decode b_Lots_kept 7 = .ok (.aload_n 0, 1) := by decide +kernel
theorem d_Lots_kept_8 : decode b_Lots_kept 8 = .ok (.getfield 23, 3) := by decide +kernel
theorem d_Lots_kept_11 : decode b_Lots_kept 11 = .ok (.getfield 105, 3) := by decide +kernel
theorem d_Lots_kept_14 : decode b_Lots_kept 14 = .ok (.ireturn, 1) := by decide +kernel
set_option maxHeartbeats 4000000 in
set_option maxRecDepth 100000 in
theorem c_Lots_kept (l : Launch) {S : St} {S' : St} {r : Int32} (h : f_Lots_kept S = some (r, S')) {kS : Nat} (hkS : kS = kMark S) : MI cw l y_Lots_kept b_Lots_kept 1 (some .int) 5 108 2 kS (fun ad => [.ref (ad 0 0)]) aT aM S r S' := by
  refine MI_of "LawfulLots" rfl (by decide) (fun _ => Nat.le_of_ble_eq_true rfl) ?_
  intro p e s m args below meth c D ar ad A Q ls hP F hK hA hw hl hQ
  have hl : lv_has ls 1 [(0, .ref (ad 0 0))] := hl
  obtain ⟨X_0, eX_0⟩ : ∃ X : (Int32 × St) → Prop, X = (fun q => ∀ (q0 : Nat → Nat) (H : Heap) (locs : List Loc) (pc : Nat) (ls : Array Slot), decode b_Lots_kept pc = .ok (.ireturn, 1) → Bw cw D ar A s.heap H locs (adM q0 ad) q.2 → W p l e (RMA 5 108 2 kS) s m args below meth c H locs 2 kS Q (F0 m pc ls [.int q.1])) := ⟨_, rfl⟩
  have key : ∀ (H : Heap) (locs : List Loc), Bw cw D ar A s.heap H locs ad S → ∀ o, f_Lots_kept S = some o → X_0 o → W p l e (RMA 5 108 2 kS) s m args below meth c H locs 0 0 Q (F0 m 0 ls []) := by
    intro H locs hw o h ho
    unfold f_Lots_kept at h
    refine lv_aload_n F.1 F.2.1 d_Lots_kept_0 rfl (lv_at hl 0 rfl) ?_
    refine cg_0_2 F hK hw lk_342 d_Lots_kept_1 ?_
    obtain ⟨S_2, hc_1, h⟩ := bd_ex h
    refine cVm_v F hA rfl hK hw (c_Chart_refresh l hc_1 rfl) trivial rfl (good_V lk_590 lk_591 lk_592 lk_5 lk_593) (cr_4 hK hw) hd_Chart_refresh ⟨Nat.le_of_ble_eq_true rfl, Nat.le_of_ble_eq_true rfl⟩ rfl hl.1 rfl (Nat.le_of_ble_eq_true rfl) d_Lots_kept_4 ⟨Nat.le_of_ble_eq_true rfl, (by show _ ≤ kS; rw [hkS]; exact Nat.le_of_eq (Nat.zero_add _))⟩ (fun q_3 H locs hw => ?_)
    refine W.widen (k := 2) (n := kS) (Nat.le_of_ble_eq_true rfl) (by show _ ≤ kS; rw [hkS]; exact Nat.le_of_eq (Nat.zero_add _)) ?_
    refine lv_aload_n F.1 F.2.1 d_Lots_kept_7 rfl (lv_at hl 0 rfl) ?_
    refine cg_0_2 (ad := (adM q_3 ad)) F hK hw lk_342 d_Lots_kept_8 ?_
    refine cg_4_10 (ad := (adM q_3 ad)) F hK hw lk_208 d_Lots_kept_11 ?_
    cases h
    have ho : X_0 _ := ho
    rw [eX_0] at ho
    exact ho q_3 H locs _ ls d_Lots_kept_14 hw
  exact key _ _ hw _ h (by rw [eX_0]; exact fun q0 H locs pc ls hd hw => hQ H locs pc ls (adM q0 ad) ⟨q0, rfl⟩ hd hw)
theorem d_Lots_lawful_0 : decode b_Lots_lawful 0 = .ok (.aload_n 0, 1) := by decide +kernel
theorem d_Lots_lawful_1 : decode b_Lots_lawful 1 = .ok (.getfield 23, 3) := by decide +kernel
theorem d_Lots_lawful_4 : decode b_Lots_lawful 4 = .ok (.invokevirtual 101, 3) := by decide +kernel
theorem d_Lots_lawful_7 : decode b_Lots_lawful 7 = .ok (.aload_n 0, 1) := by decide +kernel
theorem d_Lots_lawful_8 : decode b_Lots_lawful 8 = .ok (.getfield 23, 3) := by decide +kernel
theorem d_Lots_lawful_11 : decode b_Lots_lawful 11 = .ok (.getfield 104, 3) := by decide +kernel
theorem d_Lots_lawful_14 : decode b_Lots_lawful 14 = .ok (.ireturn, 1) := by decide +kernel
set_option maxHeartbeats 4000000 in
set_option maxRecDepth 100000 in
theorem c_Lots_lawful (l : Launch) {S : St} {S' : St} {r : Int32} (h : f_Lots_lawful S = some (r, S')) {kS : Nat} (hkS : kS = kMark S) : MI cw l y_Lots_lawful b_Lots_lawful 1 (some .int) 5 108 2 kS (fun ad => [.ref (ad 0 0)]) aT aM S r S' := by
  refine MI_of "LawfulLots" rfl (by decide) (fun _ => Nat.le_of_ble_eq_true rfl) ?_
  intro p e s m args below meth c D ar ad A Q ls hP F hK hA hw hl hQ
  have hl : lv_has ls 1 [(0, .ref (ad 0 0))] := hl
  obtain ⟨X_0, eX_0⟩ : ∃ X : (Int32 × St) → Prop, X = (fun q => ∀ (q0 : Nat → Nat) (H : Heap) (locs : List Loc) (pc : Nat) (ls : Array Slot), decode b_Lots_lawful pc = .ok (.ireturn, 1) → Bw cw D ar A s.heap H locs (adM q0 ad) q.2 → W p l e (RMA 5 108 2 kS) s m args below meth c H locs 2 kS Q (F0 m pc ls [.int q.1])) := ⟨_, rfl⟩
  have key : ∀ (H : Heap) (locs : List Loc), Bw cw D ar A s.heap H locs ad S → ∀ o, f_Lots_lawful S = some o → X_0 o → W p l e (RMA 5 108 2 kS) s m args below meth c H locs 0 0 Q (F0 m 0 ls []) := by
    intro H locs hw o h ho
    unfold f_Lots_lawful at h
    refine lv_aload_n F.1 F.2.1 d_Lots_lawful_0 rfl (lv_at hl 0 rfl) ?_
    refine cg_0_2 F hK hw lk_342 d_Lots_lawful_1 ?_
    obtain ⟨S_2, hc_1, h⟩ := bd_ex h
    refine cVm_v F hA rfl hK hw (c_Chart_refresh l hc_1 rfl) trivial rfl (good_V lk_590 lk_591 lk_592 lk_5 lk_593) (cr_4 hK hw) hd_Chart_refresh ⟨Nat.le_of_ble_eq_true rfl, Nat.le_of_ble_eq_true rfl⟩ rfl hl.1 rfl (Nat.le_of_ble_eq_true rfl) d_Lots_lawful_4 ⟨Nat.le_of_ble_eq_true rfl, (by show _ ≤ kS; rw [hkS]; exact Nat.le_of_eq (Nat.zero_add _))⟩ (fun q_3 H locs hw => ?_)
    refine W.widen (k := 2) (n := kS) (Nat.le_of_ble_eq_true rfl) (by show _ ≤ kS; rw [hkS]; exact Nat.le_of_eq (Nat.zero_add _)) ?_
    refine lv_aload_n F.1 F.2.1 d_Lots_lawful_7 rfl (lv_at hl 0 rfl) ?_
    refine cg_0_2 (ad := (adM q_3 ad)) F hK hw lk_342 d_Lots_lawful_8 ?_
    refine cg_4_9 (ad := (adM q_3 ad)) F hK hw lk_206 d_Lots_lawful_11 ?_
    cases h
    have ho : X_0 _ := ho
    rw [eX_0] at ho
    exact ho q_3 H locs _ ls d_Lots_lawful_14 hw
  exact key _ _ hw _ h (by rw [eX_0]; exact fun q0 H locs pc ls hd hw => hQ H locs pc ls (adM q0 ad) ⟨q0, rfl⟩ hd hw)
theorem d_Lots_least_0 : decode b_Lots_least 0 = .ok (.aload_n 0, 1) := by decide +kernel
theorem d_Lots_least_1 : decode b_Lots_least 1 = .ok (.getfield 23, 3) := by decide +kernel
theorem d_Lots_least_4 : decode b_Lots_least 4 = .ok (.getfield 85, 3) := by decide +kernel
theorem d_Lots_least_7 : decode b_Lots_least 7 = .ok (.iconst 2, 1) := by decide +kernel
theorem d_Lots_least_8 : decode b_Lots_least 8 = .ok (.iload_n 1, 1) := by decide +kernel
theorem d_Lots_least_9 : decode b_Lots_least 9 = .ok (.invokevirtual 88, 3) := by decide +kernel
theorem d_Lots_least_12 : decode b_Lots_least 12 = .ok (.ifCond .ne 5, 3) := by decide +kernel
theorem d_Lots_least_15 : decode b_Lots_least 15 = .ok (.iconst (-1), 1) := by decide +kernel
theorem d_Lots_least_16 : decode b_Lots_least 16 = .ok (.ireturn, 1) := by decide +kernel
theorem d_Lots_least_17 : decode b_Lots_least 17 = .ok (.aload_n 0, 1) := by decide +kernel
theorem d_Lots_least_18 : decode b_Lots_least 18 = .ok (.getfield 23, 3) := by decide +kernel
theorem d_Lots_least_21 : decode b_Lots_least 21 = .ok (.invokevirtual 151, 3) := by decide +kernel
theorem d_Lots_least_24 : decode b_Lots_least 24 = .ok (.aload_n 0, 1) := by decide +kernel
theorem d_Lots_least_25 : decode b_Lots_least 25 = .ok (.getfield 37, 3) := by decide +kernel
theorem d_Lots_least_28 : decode b_Lots_least 28 = .ok (.aload_n 0, 1) := by decide +kernel
theorem d_Lots_least_29 : decode b_Lots_least 29 = .ok (.getfield 23, 3) := by decide +kernel
theorem d_Lots_least_32 : decode b_Lots_least 32 = .ok (.invokevirtual 176, 3) := by decide +kernel
theorem d_Lots_least_35 : decode b_Lots_least 35 = .ok (.aload_n 0, 1) := by decide +kernel
theorem d_Lots_least_36 : decode b_Lots_least 36 = .ok (.getfield 37, 3) := by decide +kernel
theorem d_Lots_least_39 : decode b_Lots_least 39 = .ok (.iload_n 1, 1) := by decide +kernel
theorem d_Lots_least_40 : decode b_Lots_least 40 = .ok (.invokevirtual 179, 3) := by decide +kernel
theorem d_Lots_least_43 : decode b_Lots_least 43 = .ok (.ireturn, 1) := by decide +kernel
set_option maxHeartbeats 4000000 in
set_option maxRecDepth 100000 in
theorem c_Lots_least (l : Launch) {S : St} {x1 : Int32} {S' : St} {r : Int32} (h : f_Lots_least S x1 = some (r, S')) {kS : Nat} (hkS : kS = kBin S x1) : MI cw l y_Lots_least b_Lots_least 2 (some .int) 6 128 2 kS (fun ad => [.ref (ad 0 0), .int x1]) aT aM S r S' := by
  refine MI_of "LawfulLots" rfl (by decide) (fun _ => Nat.le_of_ble_eq_true rfl) ?_
  intro p e s m args below meth c D ar ad A Q ls hP F hK hA hw hl hQ
  have hl : lv_has ls 2 [(0, .ref (ad 0 0)), (1, .int x1)] := hl
  obtain ⟨X_0, eX_0⟩ : ∃ X : (Int32 × St) → Prop, X = (fun q => ∀ (q0 : Nat → Nat) (H : Heap) (locs : List Loc) (pc : Nat) (ls : Array Slot), decode b_Lots_least pc = .ok (.ireturn, 1) → Bw cw D ar A s.heap H locs (adM q0 ad) q.2 → W p l e (RMA 6 128 2 kS) s m args below meth c H locs 2 kS Q (F0 m pc ls [.int q.1])) := ⟨_, rfl⟩
  have key : ∀ (H : Heap) (locs : List Loc), Bw cw D ar A s.heap H locs ad S → ∀ o, f_Lots_least S x1 = some o → X_0 o → W p l e (RMA 6 128 2 kS) s m args below meth c H locs 0 0 Q (F0 m 0 ls []) := by
    intro H locs hw o h ho
    unfold f_Lots_least at h
    refine lv_aload_n F.1 F.2.1 d_Lots_least_0 rfl (lv_at hl 0 rfl) ?_
    refine cg_0_2 F hK hw lk_342 d_Lots_least_1 ?_
    refine cg_4_8 F hK hw lk_202 d_Lots_least_4 ?_
    refine lv_iconst (v := 2) F.1 F.2.1 d_Lots_least_7 (by decide) ?_
    refine lv_iload_n F.1 F.2.1 d_Lots_least_8 rfl (lv_at hl 1 rfl) ?_
    obtain ⟨v_2, hc_1, h⟩ := bd_ex h
    refine cV_i F hA rfl hK hw (c_Book_has l hc_1) trivial rfl (good_V lk_573 lk_574 lk_575 lk_4 lk_576) (cr_5 hK hw) hd_Book_has ⟨Nat.le_of_ble_eq_true rfl, Nat.le_of_ble_eq_true rfl⟩ rfl hl.1 rfl (Nat.le_of_ble_eq_true rfl) d_Lots_least_9 ⟨(Nat.zero_le _), (Nat.zero_le _)⟩ (fun H locs hw => ?_)
    refine lv_if_ne (tgt := 17) F.1 F.2.1 d_Lots_least_12 (by decide) (fun c_3 => ?_) (fun c_3 => ?_)
    · replace h := iq c_3 h
      refine lv_aload_n F.1 F.2.1 d_Lots_least_17 rfl (lv_at hl 0 rfl) ?_
      refine cg_0_2 F hK hw lk_342 d_Lots_least_18 ?_
      obtain ⟨S_5, hc_4, h⟩ := bd_ex h
      refine cVm_v F hA rfl hK hw (c_Chart_refreshBins l hc_4 rfl) trivial rfl (good_V lk_766 lk_767 lk_768 lk_5 lk_769) (cr_4 hK hw) hd_Chart_refreshBins ⟨Nat.le_of_ble_eq_true rfl, Nat.le_of_ble_eq_true rfl⟩ rfl hl.1 rfl (Nat.le_of_ble_eq_true rfl) d_Lots_least_21 ⟨Nat.le_of_ble_eq_true rfl, (by show _ ≤ kS; rw [hkS]; unfold kBin; simp only [hc_1, if_neg c_3]; omega)⟩ (fun q_6 H locs hw => ?_)
      refine W.widen (k := 2) (n := kS) (Nat.le_of_ble_eq_true rfl) (by show _ ≤ kS; rw [hkS]; unfold kBin; simp only [hc_1, if_neg c_3]; omega) ?_
      refine lv_aload_n F.1 F.2.1 d_Lots_least_24 rfl (lv_at hl 0 rfl) ?_
      refine cg_0_4 (ad := (adM q_6 ad)) F hK hw lk_344 d_Lots_least_25 ?_
      refine lv_aload_n F.1 F.2.1 d_Lots_least_28 rfl (lv_at hl 0 rfl) ?_
      refine cg_0_2 (ad := (adM q_6 ad)) F hK hw lk_342 d_Lots_least_29 ?_
      obtain ⟨S_8, hc_7, h⟩ := bd_ex h
      refine cV_v (ad := (adM q_6 ad)) F hA rfl hK hw (c_Bins_refreshLowest l hc_7) trivial rfl (good_V lk_854 lk_855 lk_856 lk_8 lk_857) (cr_8 hK hw) hd_Bins_refreshLowest ⟨Nat.le_of_ble_eq_true rfl, Nat.le_of_ble_eq_true rfl⟩ rfl hl.1 rfl (Nat.le_of_ble_eq_true rfl) d_Lots_least_32 ⟨(Nat.le_refl _), (Nat.le_refl _)⟩ (fun H locs hw => ?_)
      refine lv_aload_n F.1 F.2.1 d_Lots_least_35 rfl (lv_at hl 0 rfl) ?_
      refine cg_0_4 (ad := (adM q_6 ad)) F hK hw lk_344 d_Lots_least_36 ?_
      refine lv_iload_n F.1 F.2.1 d_Lots_least_39 rfl (lv_at hl 1 rfl) ?_
      obtain ⟨v_10, hc_9, h⟩ := bd_ex h
      refine cV_i (ad := (adM q_6 ad)) F hA rfl hK hw (c_Bins_lowest l hc_9) trivial rfl (good_V lk_866 lk_867 lk_868 lk_8 lk_869) (cr_8 hK hw) hd_Bins_lowest ⟨Nat.le_of_ble_eq_true rfl, Nat.le_of_ble_eq_true rfl⟩ rfl hl.1 rfl (Nat.le_of_ble_eq_true rfl) d_Lots_least_40 ⟨(Nat.le_refl _), (Nat.le_refl _)⟩ (fun H locs hw => ?_)
      cases h
      have ho : X_0 _ := ho
      rw [eX_0] at ho
      exact ho q_6 H locs _ ls d_Lots_least_43 hw
    · replace h := ip c_3 h
      obtain ⟨q_11, hq_11⟩ := (aM_rf ad)
      rw [hq_11] at hw
      refine W.widen (k := 2) (n := kS) (Nat.le_of_ble_eq_true rfl) (Nat.zero_le _) ?_
      refine lv_iconst (v := -1) F.1 F.2.1 d_Lots_least_15 (by decide) ?_
      cases h
      have ho : X_0 _ := ho
      rw [eX_0] at ho
      exact ho q_11 H locs _ ls d_Lots_least_16 hw
  exact key _ _ hw _ h (by rw [eX_0]; exact fun q0 H locs pc ls hd hw => hQ H locs pc ls (adM q0 ad) ⟨q0, rfl⟩ hd hw)
theorem d_Lots_meets_0 : decode b_Lots_meets 0 = .ok (.aload_n 0, 1) := by decide +kernel
theorem d_Lots_meets_1 : decode b_Lots_meets 1 = .ok (.getfield 23, 3) := by decide +kernel
theorem d_Lots_meets_4 : decode b_Lots_meets 4 = .ok (.getfield 85, 3) := by decide +kernel
theorem d_Lots_meets_7 : decode b_Lots_meets 7 = .ok (.iconst 2, 1) := by decide +kernel
theorem d_Lots_meets_8 : decode b_Lots_meets 8 = .ok (.iload_n 1, 1) := by decide +kernel
theorem d_Lots_meets_9 : decode b_Lots_meets 9 = .ok (.invokevirtual 88, 3) := by decide +kernel
theorem d_Lots_meets_12 : decode b_Lots_meets 12 = .ok (.ifCond .ne 5, 3) := by decide +kernel
theorem d_Lots_meets_15 : decode b_Lots_meets 15 = .ok (.iconst (-1), 1) := by decide +kernel
theorem d_Lots_meets_16 : decode b_Lots_meets 16 = .ok (.ireturn, 1) := by decide +kernel
theorem d_Lots_meets_17 : decode b_Lots_meets 17 = .ok (.aload_n 0, 1) := by decide +kernel
theorem d_Lots_meets_18 : decode b_Lots_meets 18 = .ok (.invokevirtual 145, 3) := by decide +kernel
theorem d_Lots_meets_21 : decode b_Lots_meets 21 = .ok (.aload_n 0, 1) := by decide +kernel
theorem d_Lots_meets_22 : decode b_Lots_meets 22 = .ok (.getfield 37, 3) := by decide +kernel
theorem d_Lots_meets_25 : decode b_Lots_meets 25 = .ok (.iconst 1, 1) := by decide +kernel
theorem d_Lots_meets_26 : decode b_Lots_meets 26 = .ok (.iload_n 1, 1) := by decide +kernel
theorem d_Lots_meets_27 : decode b_Lots_meets 27 = .ok (.ishl, 1) := by decide +kernel
theorem d_Lots_meets_28 : decode b_Lots_meets 28 = .ok (.invokevirtual 148, 3) := by decide +kernel
theorem d_Lots_meets_31 : decode b_Lots_meets 31 = .ok (.ireturn, 1) := by decide +kernel
set_option maxHeartbeats 4000000 in
set_option maxRecDepth 100000 in
theorem c_Lots_meets (l : Launch) {S : St} {x1 : Int32} {S' : St} {r : Int32} (h : f_Lots_meets S x1 = some (r, S')) {kS : Nat} (hkS : kS = kBin S x1) : MI cw l y_Lots_meets b_Lots_meets 2 (some .int) 7 148 2 kS (fun ad => [.ref (ad 0 0), .int x1]) aT aM S r S' := by
  refine MI_of "LawfulLots" rfl (by decide) (fun _ => Nat.le_of_ble_eq_true rfl) ?_
  intro p e s m args below meth c D ar ad A Q ls hP F hK hA hw hl hQ
  have hl : lv_has ls 2 [(0, .ref (ad 0 0)), (1, .int x1)] := hl
  obtain ⟨X_0, eX_0⟩ : ∃ X : (Int32 × St) → Prop, X = (fun q => ∀ (q0 : Nat → Nat) (H : Heap) (locs : List Loc) (pc : Nat) (ls : Array Slot), decode b_Lots_meets pc = .ok (.ireturn, 1) → Bw cw D ar A s.heap H locs (adM q0 ad) q.2 → W p l e (RMA 7 148 2 kS) s m args below meth c H locs 2 kS Q (F0 m pc ls [.int q.1])) := ⟨_, rfl⟩
  have key : ∀ (H : Heap) (locs : List Loc), Bw cw D ar A s.heap H locs ad S → ∀ o, f_Lots_meets S x1 = some o → X_0 o → W p l e (RMA 7 148 2 kS) s m args below meth c H locs 0 0 Q (F0 m 0 ls []) := by
    intro H locs hw o h ho
    unfold f_Lots_meets at h
    refine lv_aload_n F.1 F.2.1 d_Lots_meets_0 rfl (lv_at hl 0 rfl) ?_
    refine cg_0_2 F hK hw lk_342 d_Lots_meets_1 ?_
    refine cg_4_8 F hK hw lk_202 d_Lots_meets_4 ?_
    refine lv_iconst (v := 2) F.1 F.2.1 d_Lots_meets_7 (by decide) ?_
    refine lv_iload_n F.1 F.2.1 d_Lots_meets_8 rfl (lv_at hl 1 rfl) ?_
    obtain ⟨v_2, hc_1, h⟩ := bd_ex h
    refine cV_i F hA rfl hK hw (c_Book_has l hc_1) trivial rfl (good_V lk_573 lk_574 lk_575 lk_4 lk_576) (cr_5 hK hw) hd_Book_has ⟨Nat.le_of_ble_eq_true rfl, Nat.le_of_ble_eq_true rfl⟩ rfl hl.1 rfl (Nat.le_of_ble_eq_true rfl) d_Lots_meets_9 ⟨(Nat.zero_le _), (Nat.zero_le _)⟩ (fun H locs hw => ?_)
    refine lv_if_ne (tgt := 17) F.1 F.2.1 d_Lots_meets_12 (by decide) (fun c_3 => ?_) (fun c_3 => ?_)
    · replace h := iq c_3 h
      refine lv_aload_n F.1 F.2.1 d_Lots_meets_17 rfl (lv_at hl 0 rfl) ?_
      obtain ⟨S_5, hc_4, h⟩ := bd_ex h
      refine cVm_v F hA rfl hK hw (c_Lots_refreshBins l hc_4 rfl) trivial rfl (good_V lk_762 lk_764 ls_36 lk_1 lk_765) (cr_0 hK hw) hd_Lots_refreshBins ⟨Nat.le_of_ble_eq_true rfl, Nat.le_of_ble_eq_true rfl⟩ rfl hl.1 rfl (Nat.le_of_ble_eq_true rfl) d_Lots_meets_18 ⟨Nat.le_of_ble_eq_true rfl, (by show _ ≤ kS; rw [hkS]; unfold kBin; simp only [hc_1, if_neg c_3]; omega)⟩ (fun q_6 H locs hw => ?_)
      refine W.widen (k := 2) (n := kS) (Nat.le_of_ble_eq_true rfl) (by show _ ≤ kS; rw [hkS]; unfold kBin; simp only [hc_1, if_neg c_3]; omega) ?_
      refine lv_aload_n F.1 F.2.1 d_Lots_meets_21 rfl (lv_at hl 0 rfl) ?_
      refine cg_0_4 (ad := (adM q_6 ad)) F hK hw lk_344 d_Lots_meets_22 ?_
      refine lv_iconst (v := 1) F.1 F.2.1 d_Lots_meets_25 (by decide) ?_
      refine lv_iload_n F.1 F.2.1 d_Lots_meets_26 rfl (lv_at hl 1 rfl) ?_
      refine lv_ishl F.1 F.2.1 d_Lots_meets_27 ?_
      obtain ⟨v_8, hc_7, h⟩ := bd_ex h
      refine cV_i (ad := (adM q_6 ad)) F hA rfl hK hw (c_Bins_meetingAll l hc_7) trivial rfl (good_V lk_782 lk_783 lk_784 lk_8 lk_785) (cr_8 hK hw) hd_Bins_meetingAll ⟨Nat.le_of_ble_eq_true rfl, Nat.le_of_ble_eq_true rfl⟩ rfl hl.1 rfl (Nat.le_of_ble_eq_true rfl) d_Lots_meets_28 ⟨(Nat.le_refl _), (Nat.le_refl _)⟩ (fun H locs hw => ?_)
      cases h
      have ho : X_0 _ := ho
      rw [eX_0] at ho
      exact ho q_6 H locs _ ls d_Lots_meets_31 hw
    · replace h := ip c_3 h
      obtain ⟨q_9, hq_9⟩ := (aM_rf ad)
      rw [hq_9] at hw
      refine W.widen (k := 2) (n := kS) (Nat.le_of_ble_eq_true rfl) (Nat.zero_le _) ?_
      refine lv_iconst (v := -1) F.1 F.2.1 d_Lots_meets_15 (by decide) ?_
      cases h
      have ho : X_0 _ := ho
      rw [eX_0] at ho
      exact ho q_9 H locs _ ls d_Lots_meets_16 hw
  exact key _ _ hw _ h (by rw [eX_0]; exact fun q0 H locs pc ls hd hw => hQ H locs pc ls (adM q0 ad) ⟨q0, rfl⟩ hd hw)
theorem d_Lots_pick_0 : decode b_Lots_pick 0 = .ok (.aload_n 0, 1) := by decide +kernel
theorem d_Lots_pick_1 : decode b_Lots_pick 1 = .ok (.getfield 23, 3) := by decide +kernel
theorem d_Lots_pick_4 : decode b_Lots_pick 4 = .ok (.invokevirtual 116, 3) := by decide +kernel
theorem d_Lots_pick_7 : decode b_Lots_pick 7 = .ok (.aload_n 0, 1) := by decide +kernel
theorem d_Lots_pick_8 : decode b_Lots_pick 8 = .ok (.getfield 23, 3) := by decide +kernel
theorem d_Lots_pick_11 : decode b_Lots_pick 11 = .ok (.iload_n 1, 1) := by decide +kernel
theorem d_Lots_pick_12 : decode b_Lots_pick 12 = .ok (.invokevirtual 125, 3) := by decide +kernel
theorem d_Lots_pick_15 : decode b_Lots_pick 15 = .ok (.ireturn, 1) := by decide +kernel
set_option maxHeartbeats 4000000 in
set_option maxRecDepth 100000 in
theorem c_Lots_pick (l : Launch) {S : St} {x1 : Int32} {S' : St} {r : Int32} (h : f_Lots_pick S x1 = some (r, S')) {kS : Nat} (hkS : kS = kSh S) : MI cw l y_Lots_pick b_Lots_pick 2 (some .int) 6 128 3 kS (fun ad => [.ref (ad 0 0), .int x1]) aT aM S r S' := by
  refine MI_of "LawfulLots" rfl (by decide) (fun _ => Nat.le_of_ble_eq_true rfl) ?_
  intro p e s m args below meth c D ar ad A Q ls hP F hK hA hw hl hQ
  have hl : lv_has ls 2 [(0, .ref (ad 0 0)), (1, .int x1)] := hl
  obtain ⟨X_0, eX_0⟩ : ∃ X : (Int32 × St) → Prop, X = (fun q => ∀ (q0 : Nat → Nat) (H : Heap) (locs : List Loc) (pc : Nat) (ls : Array Slot), decode b_Lots_pick pc = .ok (.ireturn, 1) → Bw cw D ar A s.heap H locs (adM q0 ad) q.2 → W p l e (RMA 6 128 3 kS) s m args below meth c H locs 3 kS Q (F0 m pc ls [.int q.1])) := ⟨_, rfl⟩
  have key : ∀ (H : Heap) (locs : List Loc), Bw cw D ar A s.heap H locs ad S → ∀ o, f_Lots_pick S x1 = some o → X_0 o → W p l e (RMA 6 128 3 kS) s m args below meth c H locs 0 0 Q (F0 m 0 ls []) := by
    intro H locs hw o h ho
    unfold f_Lots_pick at h
    refine lv_aload_n F.1 F.2.1 d_Lots_pick_0 rfl (lv_at hl 0 rfl) ?_
    refine cg_0_2 F hK hw lk_342 d_Lots_pick_1 ?_
    obtain ⟨S_2, hc_1, h⟩ := bd_ex h
    refine cVm_v F hA rfl hK hw (c_Chart_refreshShares l hc_1 rfl) trivial rfl (good_V lk_672 lk_673 lk_674 lk_5 lk_675) (cr_4 hK hw) hd_Chart_refreshShares ⟨Nat.le_of_ble_eq_true rfl, Nat.le_of_ble_eq_true rfl⟩ rfl hl.1 rfl (Nat.le_of_ble_eq_true rfl) d_Lots_pick_4 ⟨Nat.le_of_ble_eq_true rfl, (by show _ ≤ kS; rw [hkS]; exact Nat.le_of_eq (Nat.zero_add _))⟩ (fun q_3 H locs hw => ?_)
    refine W.widen (k := 3) (n := kS) (Nat.le_of_ble_eq_true rfl) (by show _ ≤ kS; rw [hkS]; exact Nat.le_of_eq (Nat.zero_add _)) ?_
    refine lv_aload_n F.1 F.2.1 d_Lots_pick_7 rfl (lv_at hl 0 rfl) ?_
    refine cg_0_2 (ad := (adM q_3 ad)) F hK hw lk_342 d_Lots_pick_8 ?_
    refine lv_iload_n F.1 F.2.1 d_Lots_pick_11 rfl (lv_at hl 1 rfl) ?_
    obtain ⟨v_5, hc_4, h⟩ := bd_ex h
    refine cV_i (ad := (adM q_3 ad)) F hA rfl hK hw (c_Chart_drawnBy l hc_4) trivial rfl (good_V lk_716 lk_717 lk_718 lk_5 lk_719) (cr_4 hK hw) hd_Chart_drawnBy ⟨Nat.le_of_ble_eq_true rfl, Nat.le_of_ble_eq_true rfl⟩ rfl hl.1 rfl (Nat.le_of_ble_eq_true rfl) d_Lots_pick_12 ⟨(Nat.le_refl _), (Nat.le_refl _)⟩ (fun H locs hw => ?_)
    cases h
    have ho : X_0 _ := ho
    rw [eX_0] at ho
    exact ho q_3 H locs _ ls d_Lots_pick_15 hw
  exact key _ _ hw _ h (by rw [eX_0]; exact fun q0 H locs pc ls hd hw => hQ H locs pc ls (adM q0 ad) ⟨q0, rfl⟩ hd hw)
theorem d_Lots_quarrel_0 : decode b_Lots_quarrel 0 = .ok (.aload_n 0, 1) := by decide +kernel
theorem d_Lots_quarrel_1 : decode b_Lots_quarrel 1 = .ok (.getfield 23, 3) := by decide +kernel
theorem d_Lots_quarrel_4 : decode b_Lots_quarrel 4 = .ok (.invokevirtual 101, 3) := by decide +kernel
theorem d_Lots_quarrel_7 : decode b_Lots_quarrel 7 = .ok (.aload_n 0, 1) := by decide +kernel
theorem d_Lots_quarrel_8 : decode b_Lots_quarrel 8 = .ok (.getfield 23, 3) := by decide +kernel
theorem d_Lots_quarrel_11 : decode b_Lots_quarrel 11 = .ok (.invokevirtual 138, 3) := by decide +kernel
theorem d_Lots_quarrel_14 : decode b_Lots_quarrel 14 = .ok (.ireturn, 1) := by decide +kernel
set_option maxHeartbeats 4000000 in
set_option maxRecDepth 100000 in
theorem c_Lots_quarrel (l : Launch) {S : St} {S' : St} {r : Int32} (h : f_Lots_quarrel S = some (r, S')) {kS : Nat} (hkS : kS = kMark S) : MI cw l y_Lots_quarrel b_Lots_quarrel 1 (some .int) 5 108 2 kS (fun ad => [.ref (ad 0 0)]) aT aM S r S' := by
  refine MI_of "LawfulLots" rfl (by decide) (fun _ => Nat.le_of_ble_eq_true rfl) ?_
  intro p e s m args below meth c D ar ad A Q ls hP F hK hA hw hl hQ
  have hl : lv_has ls 1 [(0, .ref (ad 0 0))] := hl
  obtain ⟨X_0, eX_0⟩ : ∃ X : (Int32 × St) → Prop, X = (fun q => ∀ (q0 : Nat → Nat) (H : Heap) (locs : List Loc) (pc : Nat) (ls : Array Slot), decode b_Lots_quarrel pc = .ok (.ireturn, 1) → Bw cw D ar A s.heap H locs (adM q0 ad) q.2 → W p l e (RMA 5 108 2 kS) s m args below meth c H locs 2 kS Q (F0 m pc ls [.int q.1])) := ⟨_, rfl⟩
  have key : ∀ (H : Heap) (locs : List Loc), Bw cw D ar A s.heap H locs ad S → ∀ o, f_Lots_quarrel S = some o → X_0 o → W p l e (RMA 5 108 2 kS) s m args below meth c H locs 0 0 Q (F0 m 0 ls []) := by
    intro H locs hw o h ho
    unfold f_Lots_quarrel at h
    refine lv_aload_n F.1 F.2.1 d_Lots_quarrel_0 rfl (lv_at hl 0 rfl) ?_
    refine cg_0_2 F hK hw lk_342 d_Lots_quarrel_1 ?_
    obtain ⟨S_2, hc_1, h⟩ := bd_ex h
    refine cVm_v F hA rfl hK hw (c_Chart_refresh l hc_1 rfl) trivial rfl (good_V lk_590 lk_591 lk_592 lk_5 lk_593) (cr_4 hK hw) hd_Chart_refresh ⟨Nat.le_of_ble_eq_true rfl, Nat.le_of_ble_eq_true rfl⟩ rfl hl.1 rfl (Nat.le_of_ble_eq_true rfl) d_Lots_quarrel_4 ⟨Nat.le_of_ble_eq_true rfl, (by show _ ≤ kS; rw [hkS]; exact Nat.le_of_eq (Nat.zero_add _))⟩ (fun q_3 H locs hw => ?_)
    refine W.widen (k := 2) (n := kS) (Nat.le_of_ble_eq_true rfl) (by show _ ≤ kS; rw [hkS]; exact Nat.le_of_eq (Nat.zero_add _)) ?_
    refine lv_aload_n F.1 F.2.1 d_Lots_quarrel_7 rfl (lv_at hl 0 rfl) ?_
    refine cg_0_2 (ad := (adM q_3 ad)) F hK hw lk_342 d_Lots_quarrel_8 ?_
    obtain ⟨v_5, hc_4, h⟩ := bd_ex h
    refine cV_i (ad := (adM q_3 ad)) F hA rfl hK hw (c_Chart_smallestQuarrel l hc_4) trivial rfl (good_V lk_734 lk_735 lk_736 lk_5 lk_737) (cr_4 hK hw) hd_Chart_smallestQuarrel ⟨Nat.le_of_ble_eq_true rfl, Nat.le_of_ble_eq_true rfl⟩ rfl hl.1 rfl (Nat.le_of_ble_eq_true rfl) d_Lots_quarrel_11 ⟨(Nat.le_refl _), (Nat.le_refl _)⟩ (fun H locs hw => ?_)
    cases h
    have ho : X_0 _ := ho
    rw [eX_0] at ho
    exact ho q_3 H locs _ ls d_Lots_quarrel_14 hw
  exact key _ _ hw _ h (by rw [eX_0]; exact fun q0 H locs pc ls hd hw => hQ H locs pc ls (adM q0 ad) ⟨q0, rfl⟩ hd hw)
theorem d_Lots_rowsThereOf_0 : decode b_Lots_rowsThereOf 0 = .ok (.iload_n 1, 1) := by decide +kernel
theorem d_Lots_rowsThereOf_1 : decode b_Lots_rowsThereOf 1 = .ok (.iconst 1, 1) := by decide +kernel
theorem d_Lots_rowsThereOf_2 : decode b_Lots_rowsThereOf 2 = .ok (.if_icmp .lt 9, 3) := by decide +kernel
theorem d_Lots_rowsThereOf_5 : decode b_Lots_rowsThereOf 5 = .ok (.iload_n 1, 1) := by decide +kernel
theorem d_Lots_rowsThereOf_6 : decode b_Lots_rowsThereOf 6 = .ok (.bipush 10, 2) := by decide +kernel
theorem d_Lots_rowsThereOf_8 : decode b_Lots_rowsThereOf 8 = .ok (.if_icmp .le 5, 3) := by decide +kernel
theorem d_Lots_rowsThereOf_11 : decode b_Lots_rowsThereOf 11 = .ok (.iconst 0, 1) := by decide +kernel
theorem d_Lots_rowsThereOf_12 : decode b_Lots_rowsThereOf 12 = .ok (.ireturn, 1) := by decide +kernel
theorem d_Lots_rowsThereOf_13 : decode b_Lots_rowsThereOf 13 = .ok (.aload_n 0, 1) := by decide +kernel
theorem d_Lots_rowsThereOf_14 : decode b_Lots_rowsThereOf 14 = .ok (.getfield 23, 3) := by decide +kernel
theorem d_Lots_rowsThereOf_17 : decode b_Lots_rowsThereOf 17 = .ok (.invokevirtual 101, 3) := by decide +kernel
theorem d_Lots_rowsThereOf_20 : decode b_Lots_rowsThereOf 20 = .ok (.aload_n 0, 1) := by decide +kernel
theorem d_Lots_rowsThereOf_21 : decode b_Lots_rowsThereOf 21 = .ok (.getfield 23, 3) := by decide +kernel
theorem d_Lots_rowsThereOf_24 : decode b_Lots_rowsThereOf 24 = .ok (.getfield 104, 3) := by decide +kernel
theorem d_Lots_rowsThereOf_27 : decode b_Lots_rowsThereOf 27 = .ok (.iconst 1, 1) := by decide +kernel
theorem d_Lots_rowsThereOf_28 : decode b_Lots_rowsThereOf 28 = .ok (.if_icmp .lt 15, 3) := by decide +kernel
theorem d_Lots_rowsThereOf_31 : decode b_Lots_rowsThereOf 31 = .ok (.aload_n 0, 1) := by decide +kernel
theorem d_Lots_rowsThereOf_32 : decode b_Lots_rowsThereOf 32 = .ok (.getfield 23, 3) := by decide +kernel
theorem d_Lots_rowsThereOf_35 : decode b_Lots_rowsThereOf 35 = .ok (.getfield 104, 3) := by decide +kernel
theorem d_Lots_rowsThereOf_38 : decode b_Lots_rowsThereOf 38 = .ok (.bipush 64, 2) := by decide +kernel
theorem d_Lots_rowsThereOf_40 : decode b_Lots_rowsThereOf 40 = .ok (.if_icmp .le 5, 3) := by decide +kernel
theorem d_Lots_rowsThereOf_43 : decode b_Lots_rowsThereOf 43 = .ok (.iconst 0, 1) := by decide +kernel
theorem d_Lots_rowsThereOf_44 : decode b_Lots_rowsThereOf 44 = .ok (.ireturn, 1) := by decide +kernel
theorem d_Lots_rowsThereOf_45 : decode b_Lots_rowsThereOf 45 = .ok (.aload_n 0, 1) := by decide +kernel
theorem d_Lots_rowsThereOf_46 : decode b_Lots_rowsThereOf 46 = .ok (.getfield 44, 3) := by decide +kernel
theorem d_Lots_rowsThereOf_49 : decode b_Lots_rowsThereOf 49 = .ok (.aload_n 0, 1) := by decide +kernel
theorem d_Lots_rowsThereOf_50 : decode b_Lots_rowsThereOf 50 = .ok (.getfield 23, 3) := by decide +kernel
theorem d_Lots_rowsThereOf_53 : decode b_Lots_rowsThereOf 53 = .ok (.invokevirtual 199, 3) := by decide +kernel
theorem d_Lots_rowsThereOf_56 : decode b_Lots_rowsThereOf 56 = .ok (.iconst 1, 1) := by decide +kernel
theorem d_Lots_rowsThereOf_57 : decode b_Lots_rowsThereOf 57 = .ok (.ireturn, 1) := by decide +kernel
set_option maxHeartbeats 4000000 in
set_option maxRecDepth 100000 in
theorem c_Lots_rowsThereOf (l : Launch) {S : St} {x1 : Int32} {S' : St} {r : Int32} (h : f_Lots_rowsThereOf S x1 = some (r, S')) {kS : Nat} (hkS : kS = kRows S x1) : MI cw l y_Lots_rowsThereOf b_Lots_rowsThereOf 2 (some .boolean) 5 108 2 kS (fun ad => [.ref (ad 0 0), .int x1]) aT aM S r S' := by
  refine MZ_of "LawfulLots" rfl (by decide) (fun _ => Nat.le_of_ble_eq_true rfl) ?_
  intro p e s m args below meth c D ar ad A Q ls hP F hK hA hw hl hQ
  have hl : lv_has ls 2 [(0, .ref (ad 0 0)), (1, .int x1)] := hl
  obtain ⟨X_0, eX_0⟩ : ∃ X : (Int32 × St) → Prop, X = (fun q => ∀ (q0 : Nat → Nat) (H : Heap) (locs : List Loc) (pc : Nat) (ls : Array Slot), isB q.1 = true → decode b_Lots_rowsThereOf pc = .ok (.ireturn, 1) → Bw cw D ar A s.heap H locs (adM q0 ad) q.2 → W p l e (RMA 5 108 2 kS) s m args below meth c H locs 2 kS Q (F0 m pc ls [.int q.1])) := ⟨_, rfl⟩
  have key : ∀ (H : Heap) (locs : List Loc), Bw cw D ar A s.heap H locs ad S → ∀ o, f_Lots_rowsThereOf S x1 = some o → X_0 o → W p l e (RMA 5 108 2 kS) s m args below meth c H locs 0 0 Q (F0 m 0 ls []) := by
    intro H locs hw o h ho
    unfold f_Lots_rowsThereOf at h
    have J_43 : ∀ (q0 : Nat → Nat) (S : St) (H : Heap) (locs : List Loc) (ls : Array Slot), Bw cw D ar A s.heap H locs (adM q0 ad) S → lv_has ls 2 [] → ∀ o, Lots_rowsThereOf_j43 S = some o → X_0 o → W p l e (RMA 5 108 2 kS) s m args below meth c H locs 2 kS Q (F0 m 43 ls []) := by
      intro q0 S H locs ls hw hl o h ho
      unfold Lots_rowsThereOf_j43 at h
      refine lv_iconst (v := 0) F.1 F.2.1 d_Lots_rowsThereOf_43 (by decide) ?_
      cases h
      have ho : X_0 _ := ho
      rw [eX_0] at ho
      exact ho q0 H locs _ ls isB0 d_Lots_rowsThereOf_44 hw
    have J_11 : ∀ (q0 : Nat → Nat) (S : St) (H : Heap) (locs : List Loc) (ls : Array Slot), Bw cw D ar A s.heap H locs (adM q0 ad) S → lv_has ls 2 [] → ∀ o, Lots_rowsThereOf_j11 S = some o → X_0 o → W p l e (RMA 5 108 2 kS) s m args below meth c H locs 2 kS Q (F0 m 11 ls []) := by
      intro q0 S H locs ls hw hl o h ho
      unfold Lots_rowsThereOf_j11 at h
      refine lv_iconst (v := 0) F.1 F.2.1 d_Lots_rowsThereOf_11 (by decide) ?_
      cases h
      have ho : X_0 _ := ho
      rw [eX_0] at ho
      exact ho q0 H locs _ ls isB0 d_Lots_rowsThereOf_12 hw
    refine lv_iload_n F.1 F.2.1 d_Lots_rowsThereOf_0 rfl (lv_at hl 1 rfl) ?_
    refine lv_iconst (v := 1) F.1 F.2.1 d_Lots_rowsThereOf_1 (by decide) ?_
    refine lv_icmp_lt (tgt := 11) F.1 F.2.1 d_Lots_rowsThereOf_2 (by decide) (fun c_1 => ?_) (fun c_1 => ?_)
    · replace h := ip c_1 h
      obtain ⟨q_2, hq_2⟩ := (aM_rf ad)
      rw [hq_2] at hw
      refine W.widen (k := 2) (n := kS) (Nat.le_of_ble_eq_true rfl) (Nat.zero_le _) ?_
      exact J_11 q_2 S H locs ls hw (lv_sub hl [] rfl) o h ho
    · replace h := iq c_1 h
      refine lv_iload_n F.1 F.2.1 d_Lots_rowsThereOf_5 rfl (lv_at hl 1 rfl) ?_
      refine lv_bipush (v := 10) F.1 F.2.1 d_Lots_rowsThereOf_6 (by decide) ?_
      refine lv_icmp_le (tgt := 13) F.1 F.2.1 d_Lots_rowsThereOf_8 (by decide) (fun c_3 => ?_) (fun c_3 => ?_)
      · replace h := ip c_3 h
        refine lv_aload_n F.1 F.2.1 d_Lots_rowsThereOf_13 rfl (lv_at hl 0 rfl) ?_
        refine cg_0_2 F hK hw lk_342 d_Lots_rowsThereOf_14 ?_
        obtain ⟨S_5, hc_4, h⟩ := bd_ex h
        refine cVm_v F hA rfl hK hw (c_Chart_refresh l hc_4 rfl) trivial rfl (good_V lk_590 lk_591 lk_592 lk_5 lk_593) (cr_4 hK hw) hd_Chart_refresh ⟨Nat.le_of_ble_eq_true rfl, Nat.le_of_ble_eq_true rfl⟩ rfl hl.1 rfl (Nat.le_of_ble_eq_true rfl) d_Lots_rowsThereOf_17 ⟨Nat.le_of_ble_eq_true rfl, (by show _ ≤ kS; rw [hkS]; unfold kRows; rw [if_neg c_1, if_pos c_3]; omega)⟩ (fun q_6 H locs hw => ?_)
        refine W.widen (k := 2) (n := kS) (Nat.le_of_ble_eq_true rfl) (by show _ ≤ kS; rw [hkS]; unfold kRows; rw [if_neg c_1, if_pos c_3]; omega) ?_
        refine lv_aload_n F.1 F.2.1 d_Lots_rowsThereOf_20 rfl (lv_at hl 0 rfl) ?_
        refine cg_0_2 (ad := (adM q_6 ad)) F hK hw lk_342 d_Lots_rowsThereOf_21 ?_
        refine cg_4_9 (ad := (adM q_6 ad)) F hK hw lk_206 d_Lots_rowsThereOf_24 ?_
        refine lv_iconst (v := 1) F.1 F.2.1 d_Lots_rowsThereOf_27 (by decide) ?_
        refine lv_icmp_lt (tgt := 43) F.1 F.2.1 d_Lots_rowsThereOf_28 (by decide) (fun c_7 => ?_) (fun c_7 => ?_)
        · replace h := ip c_7 h
          exact J_43 q_6 S_5 H locs ls hw (lv_sub hl [] rfl) o h ho
        · replace h := iq c_7 h
          refine lv_aload_n F.1 F.2.1 d_Lots_rowsThereOf_31 rfl (lv_at hl 0 rfl) ?_
          refine cg_0_2 (ad := (adM q_6 ad)) F hK hw lk_342 d_Lots_rowsThereOf_32 ?_
          refine cg_4_9 (ad := (adM q_6 ad)) F hK hw lk_206 d_Lots_rowsThereOf_35 ?_
          refine lv_bipush (v := 64) F.1 F.2.1 d_Lots_rowsThereOf_38 (by decide) ?_
          refine lv_icmp_le (tgt := 45) F.1 F.2.1 d_Lots_rowsThereOf_40 (by decide) (fun c_8 => ?_) (fun c_8 => ?_)
          · replace h := ip c_8 h
            refine lv_aload_n F.1 F.2.1 d_Lots_rowsThereOf_45 rfl (lv_at hl 0 rfl) ?_
            refine cg_0_5 (ad := (adM q_6 ad)) F hK hw lk_345 d_Lots_rowsThereOf_46 ?_
            refine lv_aload_n F.1 F.2.1 d_Lots_rowsThereOf_49 rfl (lv_at hl 0 rfl) ?_
            refine cg_0_2 (ad := (adM q_6 ad)) F hK hw lk_342 d_Lots_rowsThereOf_50 ?_
            obtain ⟨S_10, hc_9, h⟩ := bd_ex h
            refine cV_v (ad := (adM q_6 ad)) F hA rfl hK hw (c_Chains_refresh l hc_9) trivial rfl (good_V lk_895 lk_896 lk_897 lk_9 lk_898) (cr_9 hK hw) hd_Chains_refresh ⟨Nat.le_of_ble_eq_true rfl, Nat.le_of_ble_eq_true rfl⟩ rfl hl.1 rfl (Nat.le_of_ble_eq_true rfl) d_Lots_rowsThereOf_53 ⟨(Nat.le_refl _), (Nat.le_refl _)⟩ (fun H locs hw => ?_)
            refine lv_iconst (v := 1) F.1 F.2.1 d_Lots_rowsThereOf_56 (by decide) ?_
            cases h
            have ho : X_0 _ := ho
            rw [eX_0] at ho
            exact ho q_6 H locs _ ls isB1 d_Lots_rowsThereOf_57 hw
          · replace h := iq c_8 h
            exact J_43 q_6 S_5 H locs ls hw (lv_sub hl [] rfl) o h ho
      · replace h := iq c_3 h
        obtain ⟨q_11, hq_11⟩ := (aM_rf ad)
        rw [hq_11] at hw
        refine W.widen (k := 2) (n := kS) (Nat.le_of_ble_eq_true rfl) (Nat.zero_le _) ?_
        exact J_11 q_11 S H locs ls hw (lv_sub hl [] rfl) o h ho
  exact key _ _ hw _ h (by rw [eX_0]; exact fun q0 H locs pc ls hb hd hw => hQ H locs pc ls (adM q0 ad) hb ⟨q0, rfl⟩ hd hw)
theorem d_Lots_row_0 : decode b_Lots_row 0 = .ok (.aload_n 0, 1) := by decide +kernel
theorem d_Lots_row_1 : decode b_Lots_row 1 = .ok (.iload_n 1, 1) := by decide +kernel
theorem d_Lots_row_2 : decode b_Lots_row 2 = .ok (.invokevirtual 186, 3) := by decide +kernel
theorem d_Lots_row_5 : decode b_Lots_row 5 = .ok (.ifCond .eq 20, 3) := by decide +kernel
theorem d_Lots_row_8 : decode b_Lots_row 8 = .ok (.lload_n 2, 1) := by decide +kernel
theorem d_Lots_row_9 : decode b_Lots_row 9 = .ok (.lconst 0, 1) := by decide +kernel
theorem d_Lots_row_10 : decode b_Lots_row 10 = .ok (.lcmp, 1) := by decide +kernel
theorem d_Lots_row_11 : decode b_Lots_row 11 = .ok (.ifCond .lt 14, 3) := by decide +kernel
theorem d_Lots_row_14 : decode b_Lots_row 14 = .ok (.iload 4, 2) := by decide +kernel
theorem d_Lots_row_16 : decode b_Lots_row 16 = .ok (.ifCond .lt 9, 3) := by decide +kernel
theorem d_Lots_row_19 : decode b_Lots_row 19 = .ok (.iload 4, 2) := by decide +kernel
theorem d_Lots_row_21 : decode b_Lots_row 21 = .ok (.iload_n 1, 1) := by decide +kernel
theorem d_Lots_row_22 : decode b_Lots_row 22 = .ok (.if_icmp .lt 5, 3) := by decide +kernel
theorem d_Lots_row_25 : decode b_Lots_row 25 = .ok (.iconst (-1), 1) := by decide +kernel
theorem d_Lots_row_26 : decode b_Lots_row 26 = .ok (.ireturn, 1) := by decide +kernel
theorem d_Lots_row_27 : decode b_Lots_row 27 = .ok (.aload_n 0, 1) := by decide +kernel
theorem d_Lots_row_28 : decode b_Lots_row 28 = .ok (.getfield 44, 3) := by decide +kernel
theorem d_Lots_row_31 : decode b_Lots_row 31 = .ok (.iload_n 1, 1) := by decide +kernel
theorem d_Lots_row_32 : decode b_Lots_row 32 = .ok (.lload_n 2, 1) := by decide +kernel
theorem d_Lots_row_33 : decode b_Lots_row 33 = .ok (.iload 4, 2) := by decide +kernel
theorem d_Lots_row_35 : decode b_Lots_row 35 = .ok (.invokevirtual 195, 3) := by decide +kernel
theorem d_Lots_row_38 : decode b_Lots_row 38 = .ok (.ireturn, 1) := by decide +kernel
set_option maxHeartbeats 4000000 in
set_option maxRecDepth 100000 in
theorem c_Lots_row (l : Launch) {S : St} {x1 : Int32} {x2 : Int64} {x4 : Int32} {S' : St} {r : Int32} (h : f_Lots_row S x1 x2 x4 = some (r, S')) {kS : Nat} (hkS : kS = kRows S x1) : MI cw l y_Lots_row b_Lots_row 5 (some .int) 6 129 2 kS (fun ad => [.ref (ad 0 0), .int x1, .long x2, .int x4]) aT aM S r S' := by
  refine MI_of "LawfulLots" rfl (by decide) (fun _ => Nat.le_of_ble_eq_true rfl) ?_
  intro p e s m args below meth c D ar ad A Q ls hP F hK hA hw hl hQ
  have hl : lv_has ls 5 [(0, .ref (ad 0 0)), (1, .int x1), (2, .long x2), (4, .int x4)] := hl
  obtain ⟨X_0, eX_0⟩ : ∃ X : (Int32 × St) → Prop, X = (fun q => ∀ (q0 : Nat → Nat) (H : Heap) (locs : List Loc) (pc : Nat) (ls : Array Slot), decode b_Lots_row pc = .ok (.ireturn, 1) → Bw cw D ar A s.heap H locs (adM q0 ad) q.2 → W p l e (RMA 6 129 2 kS) s m args below meth c H locs 2 kS Q (F0 m pc ls [.int q.1])) := ⟨_, rfl⟩
  have key : ∀ (H : Heap) (locs : List Loc), Bw cw D ar A s.heap H locs ad S → ∀ o, f_Lots_row S x1 x2 x4 = some o → X_0 o → W p l e (RMA 6 129 2 kS) s m args below meth c H locs 0 0 Q (F0 m 0 ls []) := by
    intro H locs hw o h ho
    unfold f_Lots_row at h
    have J_25 : ∀ (q0 : Nat → Nat) (S : St) (H : Heap) (locs : List Loc) (ls : Array Slot), Bw cw D ar A s.heap H locs (adM q0 ad) S → lv_has ls 5 [] → ∀ o, Lots_row_j25 S = some o → X_0 o → W p l e (RMA 6 129 2 kS) s m args below meth c H locs 2 kS Q (F0 m 25 ls []) := by
      intro q0 S H locs ls hw hl o h ho
      unfold Lots_row_j25 at h
      refine lv_iconst (v := -1) F.1 F.2.1 d_Lots_row_25 (by decide) ?_
      cases h
      have ho : X_0 _ := ho
      rw [eX_0] at ho
      exact ho q0 H locs _ ls d_Lots_row_26 hw
    refine lv_aload_n F.1 F.2.1 d_Lots_row_0 rfl (lv_at hl 0 rfl) ?_
    refine lv_iload_n F.1 F.2.1 d_Lots_row_1 rfl (lv_at hl 1 rfl) ?_
    obtain ⟨v_2, S_3, hc_1, h⟩ := bd2_ex h
    refine cVm_i F hA rfl hK hw (c_Lots_rowsThereOf l hc_1 rfl) trivial rfl (good_V lk_891 lk_893 ls_40 lk_1 lk_894) (cr_0 hK hw) hd_Lots_rowsThereOf ⟨Nat.le_of_ble_eq_true rfl, Nat.le_of_ble_eq_true rfl⟩ rfl hl.1 rfl (Nat.le_of_ble_eq_true rfl) d_Lots_row_2 ⟨Nat.le_of_ble_eq_true rfl, (by show _ ≤ kS; rw [hkS]; exact Nat.le_of_eq (Nat.zero_add _))⟩ (fun q_4 H locs hw => ?_)
    refine W.widen (k := 2) (n := kS) (Nat.le_of_ble_eq_true rfl) (by show _ ≤ kS; rw [hkS]; exact Nat.le_of_eq (Nat.zero_add _)) ?_
    refine lv_if_eq (tgt := 25) F.1 F.2.1 d_Lots_row_5 (by decide) (fun c_5 => ?_) (fun c_5 => ?_)
    · replace h := ip c_5 h
      exact J_25 q_4 S_3 H locs ls hw (lv_sub hl [] rfl) o h ho
    · replace h := iq c_5 h
      refine lv_lload_n F.1 F.2.1 d_Lots_row_8 rfl (lv_at hl 2 rfl) ?_
      refine lv_lconst (v := 0) F.1 F.2.1 d_Lots_row_9 (by decide) ?_
      refine W.lcmp F.1 F.2.1 d_Lots_row_10 ?_
      refine lv_if_lt (tgt := 25) F.1 F.2.1 d_Lots_row_11 (by decide) (fun c_6 => ?_) (fun c_6 => ?_)
      · replace h := ip c_6 h
        exact J_25 q_4 S_3 H locs ls hw (lv_sub hl [] rfl) o h ho
      · replace h := iq c_6 h
        refine lv_iload F.1 F.2.1 d_Lots_row_14 (lv_at hl 3 rfl) ?_
        refine lv_if_lt (tgt := 25) F.1 F.2.1 d_Lots_row_16 (by decide) (fun c_7 => ?_) (fun c_7 => ?_)
        · replace h := ip c_7 h
          exact J_25 q_4 S_3 H locs ls hw (lv_sub hl [] rfl) o h ho
        · replace h := iq c_7 h
          refine lv_iload F.1 F.2.1 d_Lots_row_19 (lv_at hl 3 rfl) ?_
          refine lv_iload_n F.1 F.2.1 d_Lots_row_21 rfl (lv_at hl 1 rfl) ?_
          refine lv_icmp_lt (tgt := 27) F.1 F.2.1 d_Lots_row_22 (by decide) (fun c_8 => ?_) (fun c_8 => ?_)
          · replace h := ip c_8 h
            refine lv_aload_n F.1 F.2.1 d_Lots_row_27 rfl (lv_at hl 0 rfl) ?_
            refine cg_0_5 (ad := (adM q_4 ad)) F hK hw lk_345 d_Lots_row_28 ?_
            refine lv_iload_n F.1 F.2.1 d_Lots_row_31 rfl (lv_at hl 1 rfl) ?_
            refine lv_lload_n F.1 F.2.1 d_Lots_row_32 rfl (lv_at hl 2 rfl) ?_
            refine lv_iload F.1 F.2.1 d_Lots_row_33 (lv_at hl 3 rfl) ?_
            obtain ⟨v_10, hc_9, h⟩ := bd_ex h
            refine cV_i (ad := (adM q_4 ad)) F hA rfl hK hw (c_Chains_member l hc_9) trivial rfl (good_V lk_934 lk_935 lk_936 lk_9 lk_937) (cr_9 hK hw) hd_Chains_member ⟨Nat.le_of_ble_eq_true rfl, Nat.le_of_ble_eq_true rfl⟩ rfl hl.1 rfl (Nat.le_of_ble_eq_true rfl) d_Lots_row_35 ⟨(Nat.le_refl _), (Nat.le_refl _)⟩ (fun H locs hw => ?_)
            cases h
            have ho : X_0 _ := ho
            rw [eX_0] at ho
            exact ho q_4 H locs _ ls d_Lots_row_38 hw
          · replace h := iq c_8 h
            exact J_25 q_4 S_3 H locs ls hw (lv_sub hl [] rfl) o h ho
  exact key _ _ hw _ h (by rw [eX_0]; exact fun q0 H locs pc ls hd hw => hQ H locs pc ls (adM q0 ad) ⟨q0, rfl⟩ hd hw)
theorem d_Lots_rows_0 : decode b_Lots_rows 0 = .ok (.aload_n 0, 1) := by decide +kernel
theorem d_Lots_rows_1 : decode b_Lots_rows 1 = .ok (.iload_n 1, 1) := by decide +kernel
theorem d_Lots_rows_2 : decode b_Lots_rows 2 = .ok (.invokevirtual 186, 3) := by decide +kernel
theorem d_Lots_rows_5 : decode b_Lots_rows 5 = .ok (.ifCond .ne 7, 3) := by decide +kernel
theorem d_Lots_rows_8 : decode b_Lots_rows 8 = .ok (.ldc2_w 189, 3) := by decide +kernel
theorem d_Lots_rows_11 : decode b_Lots_rows 11 = .ok (.lreturn, 1) := by decide +kernel
theorem d_Lots_rows_12 : decode b_Lots_rows 12 = .ok (.aload_n 0, 1) := by decide +kernel
theorem d_Lots_rows_13 : decode b_Lots_rows 13 = .ok (.getfield 44, 3) := by decide +kernel
theorem d_Lots_rows_16 : decode b_Lots_rows 16 = .ok (.iload_n 1, 1) := by decide +kernel
theorem d_Lots_rows_17 : decode b_Lots_rows 17 = .ok (.invokevirtual 191, 3) := by decide +kernel
theorem d_Lots_rows_20 : decode b_Lots_rows 20 = .ok (.lreturn, 1) := by decide +kernel
set_option maxHeartbeats 4000000 in
set_option maxRecDepth 100000 in
theorem c_Lots_rows (l : Launch) {S : St} {x1 : Int32} {S' : St} {r : Int64} (h : f_Lots_rows S x1 = some (r, S')) {kS : Nat} (hkS : kS = kRows S x1) : ML cw l y_Lots_rows b_Lots_rows 2 (some .long) 6 129 2 kS (fun ad => [.ref (ad 0 0), .int x1]) aT aM S r S' := by
  refine ML_of "LawfulLots" rfl (by decide) (fun _ => Nat.le_of_ble_eq_true rfl) ?_
  intro p e s m args below meth c D ar ad A Q ls hP F hK hA hw hl hQ
  have hl : lv_has ls 2 [(0, .ref (ad 0 0)), (1, .int x1)] := hl
  obtain ⟨X_0, eX_0⟩ : ∃ X : (Int64 × St) → Prop, X = (fun q => ∀ (q0 : Nat → Nat) (H : Heap) (locs : List Loc) (pc : Nat) (ls : Array Slot), decode b_Lots_rows pc = .ok (.lreturn, 1) → Bw cw D ar A s.heap H locs (adM q0 ad) q.2 → W p l e (RMA 6 129 2 kS) s m args below meth c H locs 2 kS Q (F0 m pc ls [.long q.1])) := ⟨_, rfl⟩
  have key : ∀ (H : Heap) (locs : List Loc), Bw cw D ar A s.heap H locs ad S → ∀ o, f_Lots_rows S x1 = some o → X_0 o → W p l e (RMA 6 129 2 kS) s m args below meth c H locs 0 0 Q (F0 m 0 ls []) := by
    intro H locs hw o h ho
    unfold f_Lots_rows at h
    refine lv_aload_n F.1 F.2.1 d_Lots_rows_0 rfl (lv_at hl 0 rfl) ?_
    refine lv_iload_n F.1 F.2.1 d_Lots_rows_1 rfl (lv_at hl 1 rfl) ?_
    obtain ⟨v_2, S_3, hc_1, h⟩ := bd2_ex h
    refine cVm_i F hA rfl hK hw (c_Lots_rowsThereOf l hc_1 rfl) trivial rfl (good_V lk_891 lk_893 ls_40 lk_1 lk_894) (cr_0 hK hw) hd_Lots_rowsThereOf ⟨Nat.le_of_ble_eq_true rfl, Nat.le_of_ble_eq_true rfl⟩ rfl hl.1 rfl (Nat.le_of_ble_eq_true rfl) d_Lots_rows_2 ⟨Nat.le_of_ble_eq_true rfl, (by show _ ≤ kS; rw [hkS]; exact Nat.le_of_eq (Nat.zero_add _))⟩ (fun q_4 H locs hw => ?_)
    refine W.widen (k := 2) (n := kS) (Nat.le_of_ble_eq_true rfl) (by show _ ≤ kS; rw [hkS]; exact Nat.le_of_eq (Nat.zero_add _)) ?_
    refine lv_if_ne (tgt := 12) F.1 F.2.1 d_Lots_rows_5 (by decide) (fun c_5 => ?_) (fun c_5 => ?_)
    · replace h := iq c_5 h
      refine lv_aload_n F.1 F.2.1 d_Lots_rows_12 rfl (lv_at hl 0 rfl) ?_
      refine cg_0_5 (ad := (adM q_4 ad)) F hK hw lk_345 d_Lots_rows_13 ?_
      refine lv_iload_n F.1 F.2.1 d_Lots_rows_16 rfl (lv_at hl 1 rfl) ?_
      obtain ⟨v_7, hc_6, h⟩ := bd_ex h
      refine cV_l (ad := (adM q_4 ad)) F hA rfl hK hw (c_Chains_ofLength l hc_6) trivial rfl (good_V lk_925 lk_926 lk_927 lk_9 lk_928) (cr_9 hK hw) hd_Chains_ofLength ⟨Nat.le_of_ble_eq_true rfl, Nat.le_of_ble_eq_true rfl⟩ rfl hl.1 rfl (Nat.le_of_ble_eq_true rfl) d_Lots_rows_17 ⟨(Nat.le_refl _), (Nat.le_refl _)⟩ (fun H locs hw => ?_)
      cases h
      have ho : X_0 _ := ho
      rw [eX_0] at ho
      exact ho q_4 H locs _ ls d_Lots_rows_20 hw
    · replace h := ip c_5 h
      refine lv_ldc2 F.1 F.2.1 F.2.2.2.1 (F.2.2.2.2 _ lk_924) d_Lots_rows_8 ?_
      cases h
      have ho : X_0 _ := ho
      rw [eX_0] at ho
      exact ho q_4 H locs _ ls d_Lots_rows_11 hw
  exact key _ _ hw _ h (by rw [eX_0]; exact fun q0 H locs pc ls hd hw => hQ H locs pc ls (adM q0 ad) ⟨q0, rfl⟩ hd hw)
theorem d_Lots_share_0 : decode b_Lots_share 0 = .ok (.aload_n 0, 1) := by decide +kernel
theorem d_Lots_share_1 : decode b_Lots_share 1 = .ok (.getfield 23, 3) := by decide +kernel
theorem d_Lots_share_4 : decode b_Lots_share 4 = .ok (.invokevirtual 116, 3) := by decide +kernel
theorem d_Lots_share_7 : decode b_Lots_share 7 = .ok (.iload_n 1, 1) := by decide +kernel
theorem d_Lots_share_8 : decode b_Lots_share 8 = .ok (.ifCond .lt 14, 3) := by decide +kernel
theorem d_Lots_share_11 : decode b_Lots_share 11 = .ok (.iload_n 1, 1) := by decide +kernel
theorem d_Lots_share_12 : decode b_Lots_share 12 = .ok (.aload_n 0, 1) := by decide +kernel
theorem d_Lots_share_13 : decode b_Lots_share 13 = .ok (.getfield 23, 3) := by decide +kernel
theorem d_Lots_share_16 : decode b_Lots_share 16 = .ok (.getfield 104, 3) := by decide +kernel
theorem d_Lots_share_19 : decode b_Lots_share 19 = .ok (.if_icmp .lt 7, 3) := by decide +kernel
theorem d_Lots_share_22 : decode b_Lots_share 22 = .ok (.iconst (-1), 1) := by decide +kernel
theorem d_Lots_share_23 : decode b_Lots_share 23 = .ok (.goto 11, 3) := by decide +kernel
theorem d_Lots_share_26 : decode b_Lots_share 26 = .ok (.aload_n 0, 1) := by decide +kernel
theorem d_Lots_share_27 : decode b_Lots_share 27 = .ok (.getfield 23, 3) := by decide +kernel
theorem d_Lots_share_30 : decode b_Lots_share 30 = .ok (.iload_n 1, 1) := by decide +kernel
theorem d_Lots_share_31 : decode b_Lots_share 31 = .ok (.invokevirtual 119, 3) := by decide +kernel
theorem d_Lots_share_34 : decode b_Lots_share 34 = .ok (.ireturn, 1) := by decide +kernel
set_option maxHeartbeats 4000000 in
set_option maxRecDepth 100000 in
theorem c_Lots_share (l : Launch) {S : St} {x1 : Int32} {S' : St} {r : Int32} (h : f_Lots_share S x1 = some (r, S')) {kS : Nat} (hkS : kS = kSh S) : MI cw l y_Lots_share b_Lots_share 2 (some .int) 6 128 3 kS (fun ad => [.ref (ad 0 0), .int x1]) aT aM S r S' := by
  refine MI_of "LawfulLots" rfl (by decide) (fun _ => Nat.le_of_ble_eq_true rfl) ?_
  intro p e s m args below meth c D ar ad A Q ls hP F hK hA hw hl hQ
  have hl : lv_has ls 2 [(0, .ref (ad 0 0)), (1, .int x1)] := hl
  obtain ⟨X_0, eX_0⟩ : ∃ X : (Int32 × St) → Prop, X = (fun q => ∀ (q0 : Nat → Nat) (H : Heap) (locs : List Loc) (pc : Nat) (ls : Array Slot), decode b_Lots_share pc = .ok (.ireturn, 1) → Bw cw D ar A s.heap H locs (adM q0 ad) q.2 → W p l e (RMA 6 128 3 kS) s m args below meth c H locs 3 kS Q (F0 m pc ls [.int q.1])) := ⟨_, rfl⟩
  have key : ∀ (H : Heap) (locs : List Loc), Bw cw D ar A s.heap H locs ad S → ∀ o, f_Lots_share S x1 = some o → X_0 o → W p l e (RMA 6 128 3 kS) s m args below meth c H locs 0 0 Q (F0 m 0 ls []) := by
    intro H locs hw o h ho
    unfold f_Lots_share at h
    have J_34 : ∀ (q0 : Nat → Nat) (S : St) (t0 : Int32) (H : Heap) (locs : List Loc) (ls : Array Slot), Bw cw D ar A s.heap H locs (adM q0 ad) S → lv_has ls 2 [] → ∀ o, Lots_share_j34 S t0 = some o → X_0 o → W p l e (RMA 6 128 3 kS) s m args below meth c H locs 3 kS Q (F0 m 34 ls [.int t0]) := by
      intro q0 S t0 H locs ls hw hl o h ho
      unfold Lots_share_j34 at h
      cases h
      have ho : X_0 _ := ho
      rw [eX_0] at ho
      exact ho q0 H locs _ ls d_Lots_share_34 hw
    have J_22 : ∀ (q0 : Nat → Nat) (S : St) (H : Heap) (locs : List Loc) (ls : Array Slot), Bw cw D ar A s.heap H locs (adM q0 ad) S → lv_has ls 2 [] → ∀ o, Lots_share_j22 S = some o → X_0 o → W p l e (RMA 6 128 3 kS) s m args below meth c H locs 3 kS Q (F0 m 22 ls []) := by
      intro q0 S H locs ls hw hl o h ho
      unfold Lots_share_j22 at h
      refine lv_iconst (v := -1) F.1 F.2.1 d_Lots_share_22 (by decide) ?_
      refine lv_goto (tgt := 34) F.1 F.2.1 d_Lots_share_23 (by decide) ?_
      exact J_34 q0 S (-1 : Int32) H locs ls hw (lv_sub hl [] rfl) o h ho
    refine lv_aload_n F.1 F.2.1 d_Lots_share_0 rfl (lv_at hl 0 rfl) ?_
    refine cg_0_2 F hK hw lk_342 d_Lots_share_1 ?_
    obtain ⟨S_2, hc_1, h⟩ := bd_ex h
    refine cVm_v F hA rfl hK hw (c_Chart_refreshShares l hc_1 rfl) trivial rfl (good_V lk_672 lk_673 lk_674 lk_5 lk_675) (cr_4 hK hw) hd_Chart_refreshShares ⟨Nat.le_of_ble_eq_true rfl, Nat.le_of_ble_eq_true rfl⟩ rfl hl.1 rfl (Nat.le_of_ble_eq_true rfl) d_Lots_share_4 ⟨Nat.le_of_ble_eq_true rfl, (by show _ ≤ kS; rw [hkS]; exact Nat.le_of_eq (Nat.zero_add _))⟩ (fun q_3 H locs hw => ?_)
    refine W.widen (k := 3) (n := kS) (Nat.le_of_ble_eq_true rfl) (by show _ ≤ kS; rw [hkS]; exact Nat.le_of_eq (Nat.zero_add _)) ?_
    refine lv_iload_n F.1 F.2.1 d_Lots_share_7 rfl (lv_at hl 1 rfl) ?_
    refine lv_if_lt (tgt := 22) F.1 F.2.1 d_Lots_share_8 (by decide) (fun c_4 => ?_) (fun c_4 => ?_)
    · replace h := ip c_4 h
      exact J_22 q_3 S_2 H locs ls hw (lv_sub hl [] rfl) o h ho
    · replace h := iq c_4 h
      refine lv_iload_n F.1 F.2.1 d_Lots_share_11 rfl (lv_at hl 1 rfl) ?_
      refine lv_aload_n F.1 F.2.1 d_Lots_share_12 rfl (lv_at hl 0 rfl) ?_
      refine cg_0_2 (ad := (adM q_3 ad)) F hK hw lk_342 d_Lots_share_13 ?_
      refine cg_4_9 (ad := (adM q_3 ad)) F hK hw lk_206 d_Lots_share_16 ?_
      refine lv_icmp_lt (tgt := 26) F.1 F.2.1 d_Lots_share_19 (by decide) (fun c_5 => ?_) (fun c_5 => ?_)
      · replace h := ip c_5 h
        refine lv_aload_n F.1 F.2.1 d_Lots_share_26 rfl (lv_at hl 0 rfl) ?_
        refine cg_0_2 (ad := (adM q_3 ad)) F hK hw lk_342 d_Lots_share_27 ?_
        refine lv_iload_n F.1 F.2.1 d_Lots_share_30 rfl (lv_at hl 1 rfl) ?_
        obtain ⟨v_7, hc_6, h⟩ := bd_ex h
        refine cV_i (ad := (adM q_3 ad)) F hA rfl hK hw (c_Chart_shareOf l hc_6) trivial rfl (good_V lk_707 lk_703 lk_704 lk_5 lk_705) (cr_4 hK hw) hd_Chart_shareOf ⟨Nat.le_of_ble_eq_true rfl, Nat.le_of_ble_eq_true rfl⟩ rfl hl.1 rfl (Nat.le_of_ble_eq_true rfl) d_Lots_share_31 ⟨(Nat.le_refl _), (Nat.le_refl _)⟩ (fun H locs hw => ?_)
        exact J_34 q_3 S_2 v_7 H locs ls hw (lv_sub hl [] rfl) o h ho
      · replace h := iq c_5 h
        exact J_22 q_3 S_2 H locs ls hw (lv_sub hl [] rfl) o h ho
  exact key _ _ hw _ h (by rw [eX_0]; exact fun q0 H locs pc ls hd hw => hQ H locs pc ls (adM q0 ad) ⟨q0, rfl⟩ hd hw)
theorem d_Lots_sum_0 : decode b_Lots_sum 0 = .ok (.aload_n 0, 1) := by decide +kernel
theorem d_Lots_sum_1 : decode b_Lots_sum 1 = .ok (.getfield 23, 3) := by decide +kernel
theorem d_Lots_sum_4 : decode b_Lots_sum 4 = .ok (.invokevirtual 116, 3) := by decide +kernel
theorem d_Lots_sum_7 : decode b_Lots_sum 7 = .ok (.aload_n 0, 1) := by decide +kernel
theorem d_Lots_sum_8 : decode b_Lots_sum 8 = .ok (.getfield 23, 3) := by decide +kernel
theorem d_Lots_sum_11 : decode b_Lots_sum 11 = .ok (.getfield 122, 3) := by decide +kernel
theorem d_Lots_sum_14 : decode b_Lots_sum 14 = .ok (.ireturn, 1) := by decide +kernel
set_option maxHeartbeats 4000000 in
set_option maxRecDepth 100000 in
theorem c_Lots_sum (l : Launch) {S : St} {S' : St} {r : Int32} (h : f_Lots_sum S = some (r, S')) {kS : Nat} (hkS : kS = kSh S) : MI cw l y_Lots_sum b_Lots_sum 1 (some .int) 6 128 3 kS (fun ad => [.ref (ad 0 0)]) aT aM S r S' := by
  refine MI_of "LawfulLots" rfl (by decide) (fun _ => Nat.le_of_ble_eq_true rfl) ?_
  intro p e s m args below meth c D ar ad A Q ls hP F hK hA hw hl hQ
  have hl : lv_has ls 1 [(0, .ref (ad 0 0))] := hl
  obtain ⟨X_0, eX_0⟩ : ∃ X : (Int32 × St) → Prop, X = (fun q => ∀ (q0 : Nat → Nat) (H : Heap) (locs : List Loc) (pc : Nat) (ls : Array Slot), decode b_Lots_sum pc = .ok (.ireturn, 1) → Bw cw D ar A s.heap H locs (adM q0 ad) q.2 → W p l e (RMA 6 128 3 kS) s m args below meth c H locs 3 kS Q (F0 m pc ls [.int q.1])) := ⟨_, rfl⟩
  have key : ∀ (H : Heap) (locs : List Loc), Bw cw D ar A s.heap H locs ad S → ∀ o, f_Lots_sum S = some o → X_0 o → W p l e (RMA 6 128 3 kS) s m args below meth c H locs 0 0 Q (F0 m 0 ls []) := by
    intro H locs hw o h ho
    unfold f_Lots_sum at h
    refine lv_aload_n F.1 F.2.1 d_Lots_sum_0 rfl (lv_at hl 0 rfl) ?_
    refine cg_0_2 F hK hw lk_342 d_Lots_sum_1 ?_
    obtain ⟨S_2, hc_1, h⟩ := bd_ex h
    refine cVm_v F hA rfl hK hw (c_Chart_refreshShares l hc_1 rfl) trivial rfl (good_V lk_672 lk_673 lk_674 lk_5 lk_675) (cr_4 hK hw) hd_Chart_refreshShares ⟨Nat.le_of_ble_eq_true rfl, Nat.le_of_ble_eq_true rfl⟩ rfl hl.1 rfl (Nat.le_of_ble_eq_true rfl) d_Lots_sum_4 ⟨Nat.le_of_ble_eq_true rfl, (by show _ ≤ kS; rw [hkS]; exact Nat.le_of_eq (Nat.zero_add _))⟩ (fun q_3 H locs hw => ?_)
    refine W.widen (k := 3) (n := kS) (Nat.le_of_ble_eq_true rfl) (by show _ ≤ kS; rw [hkS]; exact Nat.le_of_eq (Nat.zero_add _)) ?_
    refine lv_aload_n F.1 F.2.1 d_Lots_sum_7 rfl (lv_at hl 0 rfl) ?_
    refine cg_0_2 (ad := (adM q_3 ad)) F hK hw lk_342 d_Lots_sum_8 ?_
    refine cg_4_11 (ad := (adM q_3 ad)) F hK hw lk_210 d_Lots_sum_11 ?_
    cases h
    have ho : X_0 _ := ho
    rw [eX_0] at ho
    exact ho q_3 H locs _ ls d_Lots_sum_14 hw
  exact key _ _ hw _ h (by rw [eX_0]; exact fun q0 H locs pc ls hd hw => hQ H locs pc ls (adM q0 ad) ⟨q0, rfl⟩ hd hw)
theorem d_Lots_value_0 : decode b_Lots_value 0 = .ok (.aload_n 0, 1) := by decide +kernel
theorem d_Lots_value_1 : decode b_Lots_value 1 = .ok (.getfield 23, 3) := by decide +kernel
theorem d_Lots_value_4 : decode b_Lots_value 4 = .ok (.invokevirtual 101, 3) := by decide +kernel
theorem d_Lots_value_7 : decode b_Lots_value 7 = .ok (.iload_n 1, 1) := by decide +kernel
theorem d_Lots_value_8 : decode b_Lots_value 8 = .ok (.ifCond .lt 14, 3) := by decide +kernel
theorem d_Lots_value_11 : decode b_Lots_value 11 = .ok (.iload_n 1, 1) := by decide +kernel
theorem d_Lots_value_12 : decode b_Lots_value 12 = .ok (.aload_n 0, 1) := by decide +kernel
theorem d_Lots_value_13 : decode b_Lots_value 13 = .ok (.getfield 23, 3) := by decide +kernel
theorem d_Lots_value_16 : decode b_Lots_value 16 = .ok (.getfield 104, 3) := by decide +kernel
theorem d_Lots_value_19 : decode b_Lots_value 19 = .ok (.if_icmp .lt 5, 3) := by decide +kernel
theorem d_Lots_value_22 : decode b_Lots_value 22 = .ok (.iconst (-1), 1) := by decide +kernel
theorem d_Lots_value_23 : decode b_Lots_value 23 = .ok (.ireturn, 1) := by decide +kernel
theorem d_Lots_value_24 : decode b_Lots_value 24 = .ok (.aload_n 0, 1) := by decide +kernel
theorem d_Lots_value_25 : decode b_Lots_value 25 = .ok (.getfield 23, 3) := by decide +kernel
theorem d_Lots_value_28 : decode b_Lots_value 28 = .ok (.getfield 85, 3) := by decide +kernel
theorem d_Lots_value_31 : decode b_Lots_value 31 = .ok (.aload_n 0, 1) := by decide +kernel
theorem d_Lots_value_32 : decode b_Lots_value 32 = .ok (.getfield 23, 3) := by decide +kernel
theorem d_Lots_value_35 : decode b_Lots_value 35 = .ok (.iload_n 1, 1) := by decide +kernel
theorem d_Lots_value_36 : decode b_Lots_value 36 = .ok (.invokevirtual 108, 3) := by decide +kernel
theorem d_Lots_value_39 : decode b_Lots_value 39 = .ok (.iload_n 2, 1) := by decide +kernel
theorem d_Lots_value_40 : decode b_Lots_value 40 = .ok (.invokevirtual 112, 3) := by decide +kernel
theorem d_Lots_value_43 : decode b_Lots_value 43 = .ok (.ireturn, 1) := by decide +kernel
set_option maxHeartbeats 4000000 in
set_option maxRecDepth 100000 in
theorem c_Lots_value (l : Launch) {S : St} {x1 : Int32} {x2 : Int32} {S' : St} {r : Int32} (h : f_Lots_value S x1 x2 = some (r, S')) {kS : Nat} (hkS : kS = kMark S) : MI cw l y_Lots_value b_Lots_value 3 (some .int) 5 108 2 kS (fun ad => [.ref (ad 0 0), .int x1, .int x2]) aT aM S r S' := by
  refine MI_of "LawfulLots" rfl (by decide) (fun _ => Nat.le_of_ble_eq_true rfl) ?_
  intro p e s m args below meth c D ar ad A Q ls hP F hK hA hw hl hQ
  have hl : lv_has ls 3 [(0, .ref (ad 0 0)), (1, .int x1), (2, .int x2)] := hl
  obtain ⟨X_0, eX_0⟩ : ∃ X : (Int32 × St) → Prop, X = (fun q => ∀ (q0 : Nat → Nat) (H : Heap) (locs : List Loc) (pc : Nat) (ls : Array Slot), decode b_Lots_value pc = .ok (.ireturn, 1) → Bw cw D ar A s.heap H locs (adM q0 ad) q.2 → W p l e (RMA 5 108 2 kS) s m args below meth c H locs 2 kS Q (F0 m pc ls [.int q.1])) := ⟨_, rfl⟩
  have key : ∀ (H : Heap) (locs : List Loc), Bw cw D ar A s.heap H locs ad S → ∀ o, f_Lots_value S x1 x2 = some o → X_0 o → W p l e (RMA 5 108 2 kS) s m args below meth c H locs 0 0 Q (F0 m 0 ls []) := by
    intro H locs hw o h ho
    unfold f_Lots_value at h
    have J_22 : ∀ (q0 : Nat → Nat) (S : St) (H : Heap) (locs : List Loc) (ls : Array Slot), Bw cw D ar A s.heap H locs (adM q0 ad) S → lv_has ls 3 [] → ∀ o, Lots_value_j22 S = some o → X_0 o → W p l e (RMA 5 108 2 kS) s m args below meth c H locs 2 kS Q (F0 m 22 ls []) := by
      intro q0 S H locs ls hw hl o h ho
      unfold Lots_value_j22 at h
      refine lv_iconst (v := -1) F.1 F.2.1 d_Lots_value_22 (by decide) ?_
      cases h
      have ho : X_0 _ := ho
      rw [eX_0] at ho
      exact ho q0 H locs _ ls d_Lots_value_23 hw
    refine lv_aload_n F.1 F.2.1 d_Lots_value_0 rfl (lv_at hl 0 rfl) ?_
    refine cg_0_2 F hK hw lk_342 d_Lots_value_1 ?_
    obtain ⟨S_2, hc_1, h⟩ := bd_ex h
    refine cVm_v F hA rfl hK hw (c_Chart_refresh l hc_1 rfl) trivial rfl (good_V lk_590 lk_591 lk_592 lk_5 lk_593) (cr_4 hK hw) hd_Chart_refresh ⟨Nat.le_of_ble_eq_true rfl, Nat.le_of_ble_eq_true rfl⟩ rfl hl.1 rfl (Nat.le_of_ble_eq_true rfl) d_Lots_value_4 ⟨Nat.le_of_ble_eq_true rfl, (by show _ ≤ kS; rw [hkS]; exact Nat.le_of_eq (Nat.zero_add _))⟩ (fun q_3 H locs hw => ?_)
    refine W.widen (k := 2) (n := kS) (Nat.le_of_ble_eq_true rfl) (by show _ ≤ kS; rw [hkS]; exact Nat.le_of_eq (Nat.zero_add _)) ?_
    refine lv_iload_n F.1 F.2.1 d_Lots_value_7 rfl (lv_at hl 1 rfl) ?_
    refine lv_if_lt (tgt := 22) F.1 F.2.1 d_Lots_value_8 (by decide) (fun c_4 => ?_) (fun c_4 => ?_)
    · replace h := ip c_4 h
      exact J_22 q_3 S_2 H locs ls hw (lv_sub hl [] rfl) o h ho
    · replace h := iq c_4 h
      refine lv_iload_n F.1 F.2.1 d_Lots_value_11 rfl (lv_at hl 1 rfl) ?_
      refine lv_aload_n F.1 F.2.1 d_Lots_value_12 rfl (lv_at hl 0 rfl) ?_
      refine cg_0_2 (ad := (adM q_3 ad)) F hK hw lk_342 d_Lots_value_13 ?_
      refine cg_4_9 (ad := (adM q_3 ad)) F hK hw lk_206 d_Lots_value_16 ?_
      refine lv_icmp_lt (tgt := 24) F.1 F.2.1 d_Lots_value_19 (by decide) (fun c_5 => ?_) (fun c_5 => ?_)
      · replace h := ip c_5 h
        refine lv_aload_n F.1 F.2.1 d_Lots_value_24 rfl (lv_at hl 0 rfl) ?_
        refine cg_0_2 (ad := (adM q_3 ad)) F hK hw lk_342 d_Lots_value_25 ?_
        refine cg_4_8 (ad := (adM q_3 ad)) F hK hw lk_202 d_Lots_value_28 ?_
        refine lv_aload_n F.1 F.2.1 d_Lots_value_31 rfl (lv_at hl 0 rfl) ?_
        refine cg_0_2 (ad := (adM q_3 ad)) F hK hw lk_342 d_Lots_value_32 ?_
        refine lv_iload_n F.1 F.2.1 d_Lots_value_35 rfl (lv_at hl 1 rfl) ?_
        obtain ⟨v_7, hc_6, h⟩ := bd_ex h
        refine cV_i (ad := (adM q_3 ad)) F hA rfl hK hw (c_Chart_inputOf l hc_6) trivial rfl (good_V lk_660 lk_661 lk_662 lk_5 lk_663) (cr_4 hK hw) hd_Chart_inputOf ⟨Nat.le_of_ble_eq_true rfl, Nat.le_of_ble_eq_true rfl⟩ rfl hl.1 rfl (Nat.le_of_ble_eq_true rfl) d_Lots_value_36 ⟨(Nat.le_refl _), (Nat.le_refl _)⟩ (fun H locs hw => ?_)
        refine lv_iload_n F.1 F.2.1 d_Lots_value_39 rfl (lv_at hl 2 rfl) ?_
        obtain ⟨v_9, hc_8, h⟩ := bd_ex h
        refine cV_i (ad := (adM q_3 ad)) F hA rfl hK hw (c_Book_valueIn l hc_8) trivial rfl (good_V lk_664 lk_665 lk_666 lk_4 lk_667) (cr_5 hK hw) hd_Book_valueIn ⟨Nat.le_of_ble_eq_true rfl, Nat.le_of_ble_eq_true rfl⟩ rfl hl.1 rfl (Nat.le_of_ble_eq_true rfl) d_Lots_value_40 ⟨(Nat.le_refl _), (Nat.le_refl _)⟩ (fun H locs hw => ?_)
        cases h
        have ho : X_0 _ := ho
        rw [eX_0] at ho
        exact ho q_3 H locs _ ls d_Lots_value_43 hw
      · replace h := iq c_5 h
        exact J_22 q_3 S_2 H locs ls hw (lv_sub hl [] rfl) o h ho
  exact key _ _ hw _ h (by rw [eX_0]; exact fun q0 H locs pc ls hd hw => hQ H locs pc ls (adM q0 ad) ⟨q0, rfl⟩ hd hw)
