theorem d_Model_quarrel_0 : decode b_Model_quarrel 0 = .ok (.aload_n 0, 1) := by decide +kernel
theorem d_Model_quarrel_1 : decode b_Model_quarrel 1 = .ok (.invokevirtual 318, 3) := by decide +kernel
theorem d_Model_quarrel_4 : decode b_Model_quarrel 4 = .ok (.istore_n 1, 1) := by decide +kernel
theorem d_Model_quarrel_5 : decode b_Model_quarrel 5 = .ok (.aload_n 0, 1) := by decide +kernel
theorem d_Model_quarrel_6 : decode b_Model_quarrel 6 = .ok (.iload_n 1, 1) := by decide +kernel
theorem d_Model_quarrel_7 : decode b_Model_quarrel 7 = .ok (.iconst 0, 1) := by decide +kernel
theorem d_Model_quarrel_8 : decode b_Model_quarrel 8 = .ok (.invokevirtual 322, 3) := by decide +kernel
theorem d_Model_quarrel_11 : decode b_Model_quarrel 11 = .ok (.ifCond .eq 5, 3) := by decide +kernel
theorem d_Model_quarrel_14 : decode b_Model_quarrel 14 = .ok (.iconst (-1), 1) := by decide +kernel
theorem d_Model_quarrel_15 : decode b_Model_quarrel 15 = .ok (.ireturn, 1) := by decide +kernel
theorem d_Model_quarrel_16 : decode b_Model_quarrel 16 = .ok (.iload_n 1, 1) := by decide +kernel
theorem d_Model_quarrel_17 : decode b_Model_quarrel 17 = .ok (.istore_n 2, 1) := by decide +kernel
theorem d_Model_quarrel_18 : decode b_Model_quarrel 18 = .ok (.iconst 0, 1) := by decide +kernel
theorem d_Model_quarrel_19 : decode b_Model_quarrel 19 = .ok (.istore_n 3, 1) := by decide +kernel
theorem d_Model_quarrel_20 : decode b_Model_quarrel 20 = .ok (.iload_n 3, 1) := by decide +kernel
theorem d_Model_quarrel_21 : decode b_Model_quarrel 21 = .ok (.sipush 256, 3) := by decide +kernel
theorem d_Model_quarrel_24 : decode b_Model_quarrel 24 = .ok (.if_icmp .ge 81, 3) := by decide +kernel
theorem d_Model_quarrel_27 : decode b_Model_quarrel 27 = .ok (.iload_n 3, 1) := by decide +kernel
theorem d_Model_quarrel_28 : decode b_Model_quarrel 28 = .ok (.iload_n 1, 1) := by decide +kernel
theorem d_Model_quarrel_29 : decode b_Model_quarrel 29 = .ok (.iconst (-1), 1) := by decide +kernel
theorem d_Model_quarrel_30 : decode b_Model_quarrel 30 = .ok (.ixor, 1) := by decide +kernel
theorem d_Model_quarrel_31 : decode b_Model_quarrel 31 = .ok (.iand, 1) := by decide +kernel
theorem d_Model_quarrel_32 : decode b_Model_quarrel 32 = .ok (.ifCond .eq 6, 3) := by decide +kernel
theorem d_Model_quarrel_35 : decode b_Model_quarrel 35 = .ok (.goto 64, 3) := by decide +kernel
theorem d_Model_quarrel_38 : decode b_Model_quarrel 38 = .ok (.iload_n 3, 1) := by decide +kernel
theorem d_Model_quarrel_39 : decode b_Model_quarrel 39 = .ok (.iload_n 2, 1) := by decide +kernel
theorem d_Model_quarrel_40 : decode b_Model_quarrel 40 = .ok (.ixor, 1) := by decide +kernel
theorem d_Model_quarrel_41 : decode b_Model_quarrel 41 = .ok (.istore 4, 2) := by decide +kernel
theorem d_Model_quarrel_43 : decode b_Model_quarrel 43 = .ok (.iload_n 3, 1) := by decide +kernel
theorem d_Model_quarrel_44 : decode b_Model_quarrel 44 = .ok (.invokestatic 351, 3) := by decide +kernel
theorem d_Model_quarrel_47 : decode b_Model_quarrel 47 = .ok (.iload_n 2, 1) := by decide +kernel
theorem d_Model_quarrel_48 : decode b_Model_quarrel 48 = .ok (.invokestatic 351, 3) := by decide +kernel
theorem d_Model_quarrel_51 : decode b_Model_quarrel 51 = .ok (.if_icmp .lt 25, 3) := by decide +kernel
theorem d_Model_quarrel_54 : decode b_Model_quarrel 54 = .ok (.iload_n 3, 1) := by decide +kernel
theorem d_Model_quarrel_55 : decode b_Model_quarrel 55 = .ok (.invokestatic 351, 3) := by decide +kernel
theorem d_Model_quarrel_58 : decode b_Model_quarrel 58 = .ok (.iload_n 2, 1) := by decide +kernel
theorem d_Model_quarrel_59 : decode b_Model_quarrel 59 = .ok (.invokestatic 351, 3) := by decide +kernel
theorem d_Model_quarrel_62 : decode b_Model_quarrel 62 = .ok (.if_icmp .ne 18, 3) := by decide +kernel
theorem d_Model_quarrel_65 : decode b_Model_quarrel 65 = .ok (.iload_n 3, 1) := by decide +kernel
theorem d_Model_quarrel_66 : decode b_Model_quarrel 66 = .ok (.iload 4, 2) := by decide +kernel
theorem d_Model_quarrel_68 : decode b_Model_quarrel 68 = .ok (.iand, 1) := by decide +kernel
theorem d_Model_quarrel_69 : decode b_Model_quarrel 69 = .ok (.iload 4, 2) := by decide +kernel
theorem d_Model_quarrel_71 : decode b_Model_quarrel 71 = .ok (.ineg, 1) := by decide +kernel
theorem d_Model_quarrel_72 : decode b_Model_quarrel 72 = .ok (.iand, 1) := by decide +kernel
theorem d_Model_quarrel_73 : decode b_Model_quarrel 73 = .ok (.ifCond .eq 7, 3) := by decide +kernel
theorem d_Model_quarrel_76 : decode b_Model_quarrel 76 = .ok (.iconst 1, 1) := by decide +kernel
theorem d_Model_quarrel_77 : decode b_Model_quarrel 77 = .ok (.goto 4, 3) := by decide +kernel
theorem d_Model_quarrel_80 : decode b_Model_quarrel 80 = .ok (.iconst 0, 1) := by decide +kernel
theorem d_Model_quarrel_81 : decode b_Model_quarrel 81 = .ok (.istore 5, 2) := by decide +kernel
theorem d_Model_quarrel_83 : decode b_Model_quarrel 83 = .ok (.iload 5, 2) := by decide +kernel
theorem d_Model_quarrel_85 : decode b_Model_quarrel 85 = .ok (.ifCond .eq 14, 3) := by decide +kernel
theorem d_Model_quarrel_88 : decode b_Model_quarrel 88 = .ok (.aload_n 0, 1) := by decide +kernel
theorem d_Model_quarrel_89 : decode b_Model_quarrel 89 = .ok (.iload_n 3, 1) := by decide +kernel
theorem d_Model_quarrel_90 : decode b_Model_quarrel 90 = .ok (.iconst 0, 1) := by decide +kernel
theorem d_Model_quarrel_91 : decode b_Model_quarrel 91 = .ok (.invokevirtual 322, 3) := by decide +kernel
theorem d_Model_quarrel_94 : decode b_Model_quarrel 94 = .ok (.ifCond .ne 5, 3) := by decide +kernel
theorem d_Model_quarrel_97 : decode b_Model_quarrel 97 = .ok (.iload_n 3, 1) := by decide +kernel
theorem d_Model_quarrel_98 : decode b_Model_quarrel 98 = .ok (.istore_n 2, 1) := by decide +kernel
theorem d_Model_quarrel_99 : decode b_Model_quarrel 99 = .ok (.iinc 3 1, 3) := by decide +kernel
theorem d_Model_quarrel_102 : decode b_Model_quarrel 102 = .ok (.goto (-82), 3) := by decide +kernel
theorem d_Model_quarrel_105 : decode b_Model_quarrel 105 = .ok (.iload_n 2, 1) := by decide +kernel
theorem d_Model_quarrel_106 : decode b_Model_quarrel 106 = .ok (.ireturn, 1) := by decide +kernel
set_option maxHeartbeats 4000000 in
set_option maxRecDepth 100000 in
theorem c_Model_quarrel (l : Launch) {S : St} {r : Int32} (h : f_Model_quarrel S = some r) : MI mw l y_Model_quarrel b_Model_quarrel 6 (some .int) 2 41 0 0 (fun ad => [.ref (ad 0 0)]) aT aE S r S := by
  refine MI_of "LawfulLotsModel" rfl (by decide) (fun _ => Nat.le_of_ble_eq_true rfl) ?_
  intro p e s m args below meth c D ar ad A Q ls hP F hK hA hw hl hQ
  have hl : lv_has ls 6 [(0, .ref (ad 0 0))] := hl
  obtain ⟨X_0, eX_0⟩ : ∃ X : Int32 → Prop, X = (fun q => ∀ (H : Heap) (locs : List Loc) (pc : Nat) (ls : Array Slot), decode b_Model_quarrel pc = .ok (.ireturn, 1) → Bw mw D ar A s.heap H locs ad S → W p l e (RM 2 41) s m args below meth c H locs 0 0 Q (F0 m pc ls [.int q])) := ⟨_, rfl⟩
  have key : ∀ (H : Heap) (locs : List Loc), Bw mw D ar A s.heap H locs ad S → ∀ o, f_Model_quarrel S = some o → X_0 o → W p l e (RM 2 41) s m args below meth c H locs 0 0 Q (F0 m 0 ls []) := by
    intro H locs hw o h ho
    unfold f_Model_quarrel at h
    refine lv_aload_n F.1 F.2.1 d_Model_quarrel_0 rfl (lv_at hl 0 rfl) ?_
    obtain ⟨v_2, hc_1, h⟩ := bd_ex h
    refine cV_i F hA rfl hK hw (c_Model_laws l hc_1) trivial rfl (good_V lk_996 lk_998 ls_53 lk_10 lk_999) (mr_0 hK hw) hd_Model_laws ⟨Nat.le_of_ble_eq_true rfl, Nat.le_of_ble_eq_true rfl⟩ rfl hl.1 rfl (Nat.le_of_ble_eq_true rfl) d_Model_quarrel_1 ⟨(Nat.zero_le _), (Nat.zero_le _)⟩ (fun H locs hw => ?_)
    refine lv_istore_n (lv' := [(1, .int v_2), (0, .ref (ad 0 0))]) F.1 F.2.1 d_Model_quarrel_4 rfl hl (by decide) rfl (fun ls hl => ?_)
    refine lv_aload_n F.1 F.2.1 d_Model_quarrel_5 rfl (lv_at hl 1 rfl) ?_
    refine lv_iload_n F.1 F.2.1 d_Model_quarrel_6 rfl (lv_at hl 0 rfl) ?_
    refine lv_iconst (v := 0) F.1 F.2.1 d_Model_quarrel_7 (by decide) ?_
    obtain ⟨v_4, hc_3, h⟩ := bd_ex h
    refine cV_i F hA rfl hK hw (c_Model_isAny l hc_3) trivial rfl (good_V lk_1000 lk_1002 ls_54 lk_10 lk_1003) (mr_0 hK hw) hd_Model_isAny ⟨Nat.le_of_ble_eq_true rfl, Nat.le_of_ble_eq_true rfl⟩ rfl hl.1 rfl (Nat.le_of_ble_eq_true rfl) d_Model_quarrel_8 ⟨(Nat.zero_le _), (Nat.zero_le _)⟩ (fun H locs hw => ?_)
    refine lv_if_eq (tgt := 16) F.1 F.2.1 d_Model_quarrel_11 (by decide) (fun c_5 => ?_) (fun c_5 => ?_)
    · replace h := ip c_5 h
      refine lv_iload_n F.1 F.2.1 d_Model_quarrel_16 rfl (lv_at hl 0 rfl) ?_
      refine lv_istore_n (lv' := [(2, .int v_2), (1, .int v_2), (0, .ref (ad 0 0))]) F.1 F.2.1 d_Model_quarrel_17 rfl hl (by decide) rfl (fun ls hl => ?_)
      refine lv_iconst (v := 0) F.1 F.2.1 d_Model_quarrel_18 (by decide) ?_
      refine lv_istore_n (lv' := [(3, .int (0 : Int32)), (2, .int v_2), (1, .int v_2), (0, .ref (ad 0 0))]) F.1 F.2.1 d_Model_quarrel_19 rfl hl (by decide) rfl (fun ls hl => ?_)
      obtain ⟨x2_25, hc_26, h⟩ := bd_ex h
      obtain ⟨X_20, eX_20⟩ : ∃ X : Int32 → Prop, X = (fun q => ∀ (H : Heap) (locs : List Loc) (ls : Array Slot), Bw mw D ar A s.heap H locs ad S → lv_has ls 6 [(2, .int q)] → W p l e (RM 2 41) s m args below meth c H locs 0 0 Q (F0 m 105 ls [])) := ⟨_, rfl⟩
      have hX_20 : X_20 x2_25 := by
        rw [eX_20]
        intro H locs ls hw hl
        refine lv_iload_n F.1 F.2.1 d_Model_quarrel_105 rfl (lv_at hl 0 rfl) ?_
        cases h
        have ho : X_0 _ := ho
        rw [eX_0] at ho
        exact ho H locs _ ls d_Model_quarrel_106 hw
      obtain ⟨P_20, eP_20⟩ : ∃ P : (Int32 × Int32) → Prop, P = (fun q => ∀ (H : Heap) (locs : List Loc) (ls : Array Slot), Bw mw D ar A s.heap H locs ad S → lv_has ls 6 [(0, .ref (ad 0 0)), (1, .int v_2), (2, .int q.1), (3, .int q.2)] → W p l e (RM 2 41) s m args below meth c H locs 0 0 Q (F0 m 20 ls [])) := ⟨_, rfl⟩
      have hL_20 : P_20 (v_2, (0 : Int32)) := by
        refine wh_gp (P := P_20) (X := X_20) hc_26 hX_20 ?_
        clear h
        intro q o h ho
        obtain ⟨x2, x3⟩ := q
        have h : Model_quarrel_l20 S v_2 x2 x3 = some o := h
        unfold Model_quarrel_l20 at h
        rw [eP_20]
        intro H locs ls hw hl
        have J_99_l20 : ∀ (x2 : Int32) (x3 : Int32) (H : Heap) (locs : List Loc) (ls : Array Slot), Bw mw D ar A s.heap H locs ad S → lv_has ls 6 [(0, .ref (ad 0 0)), (1, .int v_2), (2, .int x2), (3, .int x3)] → ∀ o, Model_quarrel_j99_l20 S v_2 x2 x3 = some o → (Sum.elim P_20 X_20) o → W p l e (RM 2 41) s m args below meth c H locs 0 0 Q (F0 m 99 ls []) := by
          intro x2 x3 H locs ls hw hl o h ho
          unfold Model_quarrel_j99_l20 at h
          obtain ⟨x3_24, ex3_24, h⟩ := nm_ex h
          refine lv_iinc (v := x3_24) (lv' := [(3, .int x3_24), (0, .ref (ad 0 0)), (1, .int v_2), (2, .int x2)]) F.1 F.2.1 d_Model_quarrel_99 hl (k := 3) rfl (by rw [ex3_24]; rfl) (by decide) rfl (fun ls hl => ?_)
          refine lv_goto (tgt := 20) F.1 F.2.1 d_Model_quarrel_102 (by decide) ?_
          cases h
          have ho : P_20 _ := ho
          rw [eP_20] at ho
          exact ho H locs ls hw (lv_sub hl [1, 2, 3, 0] rfl)
        have J_81_l20 : ∀ (x2 : Int32) (x3 : Int32) (t0 : Int32) (H : Heap) (locs : List Loc) (ls : Array Slot), Bw mw D ar A s.heap H locs ad S → lv_has ls 6 [(0, .ref (ad 0 0)), (1, .int v_2), (2, .int x2), (3, .int x3)] → ∀ o, Model_quarrel_j81_l20 S v_2 x2 x3 t0 = some o → (Sum.elim P_20 X_20) o → W p l e (RM 2 41) s m args below meth c H locs 0 0 Q (F0 m 81 ls [.int t0]) := by
          intro x2 x3 t0 H locs ls hw hl o h ho
          unfold Model_quarrel_j81_l20 at h
          refine lv_istore (lv' := [(5, .int t0), (0, .ref (ad 0 0)), (1, .int v_2), (2, .int x2), (3, .int x3)]) F.1 F.2.1 d_Model_quarrel_81 hl (by decide) rfl (fun ls hl => ?_)
          refine lv_iload F.1 F.2.1 d_Model_quarrel_83 (lv_at hl 0 rfl) ?_
          refine lv_if_eq (tgt := 99) F.1 F.2.1 d_Model_quarrel_85 (by decide) (fun c_20 => ?_) (fun c_20 => ?_)
          · replace h := ip c_20 h
            exact J_99_l20 x2 x3 H locs ls hw (lv_sub hl [1, 2, 3, 4] rfl) o h ho
          · replace h := iq c_20 h
            refine lv_aload_n F.1 F.2.1 d_Model_quarrel_88 rfl (lv_at hl 1 rfl) ?_
            refine lv_iload_n F.1 F.2.1 d_Model_quarrel_89 rfl (lv_at hl 4 rfl) ?_
            refine lv_iconst (v := 0) F.1 F.2.1 d_Model_quarrel_90 (by decide) ?_
            obtain ⟨v_22, hc_21, h⟩ := bd_ex h
            refine cV_i F hA rfl hK hw (c_Model_isAny l hc_21) trivial rfl (good_V lk_1000 lk_1002 ls_54 lk_10 lk_1003) (mr_0 hK hw) hd_Model_isAny ⟨Nat.le_of_ble_eq_true rfl, Nat.le_of_ble_eq_true rfl⟩ rfl hl.1 rfl (Nat.le_of_ble_eq_true rfl) d_Model_quarrel_91 ⟨(Nat.zero_le _), (Nat.zero_le _)⟩ (fun H locs hw => ?_)
            refine lv_if_ne (tgt := 99) F.1 F.2.1 d_Model_quarrel_94 (by decide) (fun c_23 => ?_) (fun c_23 => ?_)
            · replace h := iq c_23 h
              exact J_99_l20 x2 x3 H locs ls hw (lv_sub hl [1, 2, 3, 4] rfl) o h ho
            · replace h := ip c_23 h
              refine lv_iload_n F.1 F.2.1 d_Model_quarrel_97 rfl (lv_at hl 4 rfl) ?_
              refine lv_istore_n (lv' := [(2, .int x3), (5, .int t0), (0, .ref (ad 0 0)), (1, .int v_2), (3, .int x3)]) F.1 F.2.1 d_Model_quarrel_98 rfl hl (by decide) rfl (fun ls hl => ?_)
              exact J_99_l20 x3 x3 H locs ls hw (lv_sub hl [2, 3, 0, 4] rfl) o h ho
        have J_80_l20 : ∀ (x2 : Int32) (x3 : Int32) (H : Heap) (locs : List Loc) (ls : Array Slot), Bw mw D ar A s.heap H locs ad S → lv_has ls 6 [(0, .ref (ad 0 0)), (1, .int v_2), (2, .int x2), (3, .int x3)] → ∀ o, Model_quarrel_j80_l20 S v_2 x2 x3 = some o → (Sum.elim P_20 X_20) o → W p l e (RM 2 41) s m args below meth c H locs 0 0 Q (F0 m 80 ls []) := by
          intro x2 x3 H locs ls hw hl o h ho
          unfold Model_quarrel_j80_l20 at h
          refine lv_iconst (v := 0) F.1 F.2.1 d_Model_quarrel_80 (by decide) ?_
          exact J_81_l20 x2 x3 (0 : Int32) H locs ls hw (lv_sub hl [0, 1, 2, 3] rfl) o h ho
        have J_76_l20 : ∀ (x2 : Int32) (x3 : Int32) (H : Heap) (locs : List Loc) (ls : Array Slot), Bw mw D ar A s.heap H locs ad S → lv_has ls 6 [(0, .ref (ad 0 0)), (1, .int v_2), (2, .int x2), (3, .int x3)] → ∀ o, Model_quarrel_j76_l20 S v_2 x2 x3 = some o → (Sum.elim P_20 X_20) o → W p l e (RM 2 41) s m args below meth c H locs 0 0 Q (F0 m 76 ls []) := by
          intro x2 x3 H locs ls hw hl o h ho
          unfold Model_quarrel_j76_l20 at h
          refine lv_iconst (v := 1) F.1 F.2.1 d_Model_quarrel_76 (by decide) ?_
          refine lv_goto (tgt := 81) F.1 F.2.1 d_Model_quarrel_77 (by decide) ?_
          exact J_81_l20 x2 x3 (1 : Int32) H locs ls hw (lv_sub hl [0, 1, 2, 3] rfl) o h ho
        refine lv_iload_n F.1 F.2.1 d_Model_quarrel_20 rfl (lv_at hl 3 rfl) ?_
        refine lv_sipush (v := 256) F.1 F.2.1 d_Model_quarrel_21 (by decide) ?_
        refine lv_icmp_ge (tgt := 105) F.1 F.2.1 d_Model_quarrel_24 (by decide) (fun c_6 => ?_) (fun c_6 => ?_)
        · replace h := ip c_6 h
          cases h
          have ho : X_20 _ := ho
          rw [eX_20] at ho
          exact ho H locs ls hw (lv_sub hl [2] rfl)
        · replace h := iq c_6 h
          refine lv_iload_n F.1 F.2.1 d_Model_quarrel_27 rfl (lv_at hl 3 rfl) ?_
          refine lv_iload_n F.1 F.2.1 d_Model_quarrel_28 rfl (lv_at hl 1 rfl) ?_
          refine lv_iconst (v := -1) F.1 F.2.1 d_Model_quarrel_29 (by decide) ?_
          refine lv_ixor F.1 F.2.1 d_Model_quarrel_30 ?_
          refine lv_iand F.1 F.2.1 d_Model_quarrel_31 ?_
          refine lv_if_eq (tgt := 38) F.1 F.2.1 d_Model_quarrel_32 (by decide) (fun c_7 => ?_) (fun c_7 => ?_)
          · replace h := ip c_7 h
            refine lv_iload_n F.1 F.2.1 d_Model_quarrel_38 rfl (lv_at hl 3 rfl) ?_
            refine lv_iload_n F.1 F.2.1 d_Model_quarrel_39 rfl (lv_at hl 2 rfl) ?_
            refine lv_ixor F.1 F.2.1 d_Model_quarrel_40 ?_
            obtain ⟨x4_8, ex4_8, h⟩ := nm_ex h
            refine lv_nm ex4_8 ?_
            refine lv_istore (lv' := [(4, .int x4_8), (0, .ref (ad 0 0)), (1, .int v_2), (2, .int x2), (3, .int x3)]) F.1 F.2.1 d_Model_quarrel_41 hl (by decide) rfl (fun ls hl => ?_)
            refine lv_iload_n F.1 F.2.1 d_Model_quarrel_43 rfl (lv_at hl 4 rfl) ?_
            obtain ⟨v_10, hc_9, h⟩ := bd_ex h
            refine cS_i F hA rfl hK hw (c_Model_bits l S hc_9) trivial rfl (good_S lk_1365 lk_1366 lk_10 lk_1367) hd_Model_bits ⟨Nat.le_of_ble_eq_true rfl, Nat.le_of_ble_eq_true rfl⟩ rfl hl.1 rfl (Nat.le_of_ble_eq_true rfl) d_Model_quarrel_44 ⟨(Nat.zero_le _), (Nat.zero_le _)⟩ (fun H locs hw => ?_)
            refine lv_iload_n F.1 F.2.1 d_Model_quarrel_47 rfl (lv_at hl 3 rfl) ?_
            obtain ⟨v_12, hc_11, h⟩ := bd_ex h
            refine cS_i F hA rfl hK hw (c_Model_bits l S hc_11) trivial rfl (good_S lk_1365 lk_1366 lk_10 lk_1367) hd_Model_bits ⟨Nat.le_of_ble_eq_true rfl, Nat.le_of_ble_eq_true rfl⟩ rfl hl.1 rfl (Nat.le_of_ble_eq_true rfl) d_Model_quarrel_48 ⟨(Nat.zero_le _), (Nat.zero_le _)⟩ (fun H locs hw => ?_)
            refine lv_icmp_lt (tgt := 76) F.1 F.2.1 d_Model_quarrel_51 (by decide) (fun c_13 => ?_) (fun c_13 => ?_)
            · replace h := ip c_13 h
              exact J_76_l20 x2 x3 H locs ls hw (lv_sub hl [1, 2, 3, 4] rfl) o h ho
            · replace h := iq c_13 h
              refine lv_iload_n F.1 F.2.1 d_Model_quarrel_54 rfl (lv_at hl 4 rfl) ?_
              obtain ⟨v_15, hc_14, h⟩ := bd_ex h
              refine cS_i F hA rfl hK hw (c_Model_bits l S hc_14) trivial rfl (good_S lk_1365 lk_1366 lk_10 lk_1367) hd_Model_bits ⟨Nat.le_of_ble_eq_true rfl, Nat.le_of_ble_eq_true rfl⟩ rfl hl.1 rfl (Nat.le_of_ble_eq_true rfl) d_Model_quarrel_55 ⟨(Nat.zero_le _), (Nat.zero_le _)⟩ (fun H locs hw => ?_)
              refine lv_iload_n F.1 F.2.1 d_Model_quarrel_58 rfl (lv_at hl 3 rfl) ?_
              obtain ⟨v_17, hc_16, h⟩ := bd_ex h
              refine cS_i F hA rfl hK hw (c_Model_bits l S hc_16) trivial rfl (good_S lk_1365 lk_1366 lk_10 lk_1367) hd_Model_bits ⟨Nat.le_of_ble_eq_true rfl, Nat.le_of_ble_eq_true rfl⟩ rfl hl.1 rfl (Nat.le_of_ble_eq_true rfl) d_Model_quarrel_59 ⟨(Nat.zero_le _), (Nat.zero_le _)⟩ (fun H locs hw => ?_)
              refine lv_icmp_ne (tgt := 80) F.1 F.2.1 d_Model_quarrel_62 (by decide) (fun c_18 => ?_) (fun c_18 => ?_)
              · replace h := iq c_18 h
                exact J_80_l20 x2 x3 H locs ls hw (lv_sub hl [1, 2, 3, 4] rfl) o h ho
              · replace h := ip c_18 h
                refine lv_iload_n F.1 F.2.1 d_Model_quarrel_65 rfl (lv_at hl 4 rfl) ?_
                refine lv_iload F.1 F.2.1 d_Model_quarrel_66 (lv_at hl 0 rfl) ?_
                refine lv_iand F.1 F.2.1 d_Model_quarrel_68 ?_
                refine lv_iload F.1 F.2.1 d_Model_quarrel_69 (lv_at hl 0 rfl) ?_
                refine lv_ineg F.1 F.2.1 d_Model_quarrel_71 ?_
                refine lv_iand F.1 F.2.1 d_Model_quarrel_72 ?_
                refine lv_if_eq (tgt := 80) F.1 F.2.1 d_Model_quarrel_73 (by decide) (fun c_19 => ?_) (fun c_19 => ?_)
                · replace h := ip c_19 h
                  exact J_80_l20 x2 x3 H locs ls hw (lv_sub hl [1, 2, 3, 4] rfl) o h ho
                · replace h := iq c_19 h
                  exact J_76_l20 x2 x3 H locs ls hw (lv_sub hl [1, 2, 3, 4] rfl) o h ho
          · replace h := iq c_7 h
            refine lv_goto (tgt := 99) F.1 F.2.1 d_Model_quarrel_35 (by decide) ?_
            exact J_99_l20 x2 x3 H locs ls hw (lv_sub hl [0, 1, 2, 3] rfl) o h ho
      rw [eP_20] at hL_20
      exact hL_20 H locs ls hw (lv_sub hl [3, 2, 1, 0] rfl)
    · replace h := iq c_5 h
      refine lv_iconst (v := -1) F.1 F.2.1 d_Model_quarrel_14 (by decide) ?_
      cases h
      have ho : X_0 _ := ho
      rw [eX_0] at ho
      exact ho H locs _ ls d_Model_quarrel_15 hw
  exact key _ _ hw _ h (by rw [eX_0]; exact fun H locs pc ls hd hw => hQ H locs pc ls ad rfl hd hw)
theorem d_Model_alone_0 : decode b_Model_alone 0 = .ok (.iload_n 1, 1) := by decide +kernel
theorem d_Model_alone_1 : decode b_Model_alone 1 = .ok (.ifCond .lt 23, 3) := by decide +kernel
theorem d_Model_alone_4 : decode b_Model_alone 4 = .ok (.iload_n 1, 1) := by decide +kernel
theorem d_Model_alone_5 : decode b_Model_alone 5 = .ok (.aload_n 0, 1) := by decide +kernel
theorem d_Model_alone_6 : decode b_Model_alone 6 = .ok (.iconst 0, 1) := by decide +kernel
theorem d_Model_alone_7 : decode b_Model_alone 7 = .ok (.invokevirtual 294, 3) := by decide +kernel
theorem d_Model_alone_10 : decode b_Model_alone 10 = .ok (.if_icmp .ge 14, 3) := by decide +kernel
theorem d_Model_alone_13 : decode b_Model_alone 13 = .ok (.aload_n 0, 1) := by decide +kernel
theorem d_Model_alone_14 : decode b_Model_alone 14 = .ok (.getfield 123, 3) := by decide +kernel
theorem d_Model_alone_17 : decode b_Model_alone 17 = .ok (.iload_n 1, 1) := by decide +kernel
theorem d_Model_alone_18 : decode b_Model_alone 18 = .ok (.ishr, 1) := by decide +kernel
theorem d_Model_alone_19 : decode b_Model_alone 19 = .ok (.iconst 1, 1) := by decide +kernel
theorem d_Model_alone_20 : decode b_Model_alone 20 = .ok (.iand, 1) := by decide +kernel
theorem d_Model_alone_21 : decode b_Model_alone 21 = .ok (.ifCond .ne 5, 3) := by decide +kernel
theorem d_Model_alone_24 : decode b_Model_alone 24 = .ok (.iconst (-1), 1) := by decide +kernel
theorem d_Model_alone_25 : decode b_Model_alone 25 = .ok (.ireturn, 1) := by decide +kernel
theorem d_Model_alone_26 : decode b_Model_alone 26 = .ok (.aload_n 0, 1) := by decide +kernel
theorem d_Model_alone_27 : decode b_Model_alone 27 = .ok (.invokevirtual 318, 3) := by decide +kernel
theorem d_Model_alone_30 : decode b_Model_alone 30 = .ok (.iconst 1, 1) := by decide +kernel
theorem d_Model_alone_31 : decode b_Model_alone 31 = .ok (.iload_n 1, 1) := by decide +kernel
theorem d_Model_alone_32 : decode b_Model_alone 32 = .ok (.ishl, 1) := by decide +kernel
theorem d_Model_alone_33 : decode b_Model_alone 33 = .ok (.iconst (-1), 1) := by decide +kernel
theorem d_Model_alone_34 : decode b_Model_alone 34 = .ok (.ixor, 1) := by decide +kernel
theorem d_Model_alone_35 : decode b_Model_alone 35 = .ok (.iand, 1) := by decide +kernel
theorem d_Model_alone_36 : decode b_Model_alone 36 = .ok (.istore_n 2, 1) := by decide +kernel
theorem d_Model_alone_37 : decode b_Model_alone 37 = .ok (.iconst 0, 1) := by decide +kernel
theorem d_Model_alone_38 : decode b_Model_alone 38 = .ok (.istore_n 3, 1) := by decide +kernel
theorem d_Model_alone_39 : decode b_Model_alone 39 = .ok (.iconst 0, 1) := by decide +kernel
theorem d_Model_alone_40 : decode b_Model_alone 40 = .ok (.istore 4, 2) := by decide +kernel
theorem d_Model_alone_42 : decode b_Model_alone 42 = .ok (.iload 4, 2) := by decide +kernel
theorem d_Model_alone_44 : decode b_Model_alone 44 = .ok (.aload_n 0, 1) := by decide +kernel
theorem d_Model_alone_45 : decode b_Model_alone 45 = .ok (.getfield 303, 3) := by decide +kernel
theorem d_Model_alone_48 : decode b_Model_alone 48 = .ok (.if_icmp .ge 28, 3) := by decide +kernel
theorem d_Model_alone_51 : decode b_Model_alone 51 = .ok (.aload_n 0, 1) := by decide +kernel
theorem d_Model_alone_52 : decode b_Model_alone 52 = .ok (.getfield 105, 3) := by decide +kernel
theorem d_Model_alone_55 : decode b_Model_alone 55 = .ok (.iload 4, 2) := by decide +kernel
theorem d_Model_alone_57 : decode b_Model_alone 57 = .ok (.iaload, 1) := by decide +kernel
theorem d_Model_alone_58 : decode b_Model_alone 58 = .ok (.aload_n 0, 1) := by decide +kernel
theorem d_Model_alone_59 : decode b_Model_alone 59 = .ok (.invokevirtual 318, 3) := by decide +kernel
theorem d_Model_alone_62 : decode b_Model_alone 62 = .ok (.iand, 1) := by decide +kernel
theorem d_Model_alone_63 : decode b_Model_alone 63 = .ok (.iload_n 2, 1) := by decide +kernel
theorem d_Model_alone_64 : decode b_Model_alone 64 = .ok (.if_icmp .ne 6, 3) := by decide +kernel
theorem d_Model_alone_67 : decode b_Model_alone 67 = .ok (.iinc 3 1, 3) := by decide +kernel
theorem d_Model_alone_70 : decode b_Model_alone 70 = .ok (.iinc 4 1, 3) := by decide +kernel
theorem d_Model_alone_73 : decode b_Model_alone 73 = .ok (.goto (-31), 3) := by decide +kernel
theorem d_Model_alone_76 : decode b_Model_alone 76 = .ok (.iload_n 3, 1) := by decide +kernel
theorem d_Model_alone_77 : decode b_Model_alone 77 = .ok (.ireturn, 1) := by decide +kernel
set_option maxHeartbeats 4000000 in
set_option maxRecDepth 100000 in
theorem c_Model_alone (l : Launch) {S : St} {x1 : Int32} {r : Int32} (h : f_Model_alone S x1 = some r) : MI mw l y_Model_alone b_Model_alone 5 (some .int) 2 41 0 0 (fun ad => [.ref (ad 0 0), .int x1]) aT aE S r S := by
  refine MI_of "LawfulLotsModel" rfl (by decide) (fun _ => Nat.le_of_ble_eq_true rfl) ?_
  intro p e s m args below meth c D ar ad A Q ls hP F hK hA hw hl hQ
  have hl : lv_has ls 5 [(0, .ref (ad 0 0)), (1, .int x1)] := hl
  obtain ⟨X_0, eX_0⟩ : ∃ X : Int32 → Prop, X = (fun q => ∀ (H : Heap) (locs : List Loc) (pc : Nat) (ls : Array Slot), decode b_Model_alone pc = .ok (.ireturn, 1) → Bw mw D ar A s.heap H locs ad S → W p l e (RM 2 41) s m args below meth c H locs 0 0 Q (F0 m pc ls [.int q])) := ⟨_, rfl⟩
  have key : ∀ (H : Heap) (locs : List Loc), Bw mw D ar A s.heap H locs ad S → ∀ o, f_Model_alone S x1 = some o → X_0 o → W p l e (RM 2 41) s m args below meth c H locs 0 0 Q (F0 m 0 ls []) := by
    intro H locs hw o h ho
    unfold f_Model_alone at h
    have J_24 : ∀ (H : Heap) (locs : List Loc) (ls : Array Slot), Bw mw D ar A s.heap H locs ad S → lv_has ls 5 [] → ∀ o, Model_alone_j24 S = some o → X_0 o → W p l e (RM 2 41) s m args below meth c H locs 0 0 Q (F0 m 24 ls []) := by
      intro H locs ls hw hl o h ho
      unfold Model_alone_j24 at h
      refine lv_iconst (v := -1) F.1 F.2.1 d_Model_alone_24 (by decide) ?_
      cases h
      have ho : X_0 _ := ho
      rw [eX_0] at ho
      exact ho H locs _ ls d_Model_alone_25 hw
    refine lv_iload_n F.1 F.2.1 d_Model_alone_0 rfl (lv_at hl 1 rfl) ?_
    refine lv_if_lt (tgt := 24) F.1 F.2.1 d_Model_alone_1 (by decide) (fun c_1 => ?_) (fun c_1 => ?_)
    · replace h := ip c_1 h
      exact J_24 H locs ls hw (lv_sub hl [] rfl) o h ho
    · replace h := iq c_1 h
      refine lv_iload_n F.1 F.2.1 d_Model_alone_4 rfl (lv_at hl 1 rfl) ?_
      refine lv_aload_n F.1 F.2.1 d_Model_alone_5 rfl (lv_at hl 0 rfl) ?_
      refine lv_iconst (v := 0) F.1 F.2.1 d_Model_alone_6 (by decide) ?_
      obtain ⟨v_3, hc_2, h⟩ := bd_ex h
      refine cV_i F hA rfl hK hw (c_Model_tellsOf l hc_2) trivial rfl (good_V lk_976 lk_978 ls_48 lk_10 lk_979) (mr_0 hK hw) hd_Model_tellsOf ⟨Nat.le_of_ble_eq_true rfl, Nat.le_of_ble_eq_true rfl⟩ rfl hl.1 rfl (Nat.le_of_ble_eq_true rfl) d_Model_alone_7 ⟨(Nat.zero_le _), (Nat.zero_le _)⟩ (fun H locs hw => ?_)
      refine lv_icmp_ge (tgt := 24) F.1 F.2.1 d_Model_alone_10 (by decide) (fun c_4 => ?_) (fun c_4 => ?_)
      · replace h := ip c_4 h
        exact J_24 H locs ls hw (lv_sub hl [] rfl) o h ho
      · replace h := iq c_4 h
        refine lv_aload_n F.1 F.2.1 d_Model_alone_13 rfl (lv_at hl 0 rfl) ?_
        refine mg_0_52 F hK hw lk_1063 d_Model_alone_14 ?_
        refine lv_iload_n F.1 F.2.1 d_Model_alone_17 rfl (lv_at hl 1 rfl) ?_
        refine lv_ishr F.1 F.2.1 d_Model_alone_18 ?_
        refine lv_iconst (v := 1) F.1 F.2.1 d_Model_alone_19 (by decide) ?_
        refine lv_iand F.1 F.2.1 d_Model_alone_20 ?_
        refine lv_if_ne (tgt := 26) F.1 F.2.1 d_Model_alone_21 (by decide) (fun c_5 => ?_) (fun c_5 => ?_)
        · replace h := iq c_5 h
          refine lv_aload_n F.1 F.2.1 d_Model_alone_26 rfl (lv_at hl 0 rfl) ?_
          obtain ⟨v_7, hc_6, h⟩ := bd_ex h
          refine cV_i F hA rfl hK hw (c_Model_laws l hc_6) trivial rfl (good_V lk_996 lk_998 ls_53 lk_10 lk_999) (mr_0 hK hw) hd_Model_laws ⟨Nat.le_of_ble_eq_true rfl, Nat.le_of_ble_eq_true rfl⟩ rfl hl.1 rfl (Nat.le_of_ble_eq_true rfl) d_Model_alone_27 ⟨(Nat.zero_le _), (Nat.zero_le _)⟩ (fun H locs hw => ?_)
          refine lv_iconst (v := 1) F.1 F.2.1 d_Model_alone_30 (by decide) ?_
          refine lv_iload_n F.1 F.2.1 d_Model_alone_31 rfl (lv_at hl 1 rfl) ?_
          refine lv_ishl F.1 F.2.1 d_Model_alone_32 ?_
          refine lv_iconst (v := -1) F.1 F.2.1 d_Model_alone_33 (by decide) ?_
          refine lv_ixor F.1 F.2.1 d_Model_alone_34 ?_
          refine lv_iand F.1 F.2.1 d_Model_alone_35 ?_
          obtain ⟨x2_8, ex2_8, h⟩ := nm_ex h
          refine lv_nm ex2_8 ?_
          refine lv_istore_n (lv' := [(2, .int x2_8), (0, .ref (ad 0 0)), (1, .int x1)]) F.1 F.2.1 d_Model_alone_36 rfl hl (by decide) rfl (fun ls hl => ?_)
          refine lv_iconst (v := 0) F.1 F.2.1 d_Model_alone_37 (by decide) ?_
          refine lv_istore_n (lv' := [(3, .int (0 : Int32)), (2, .int x2_8), (0, .ref (ad 0 0)), (1, .int x1)]) F.1 F.2.1 d_Model_alone_38 rfl hl (by decide) rfl (fun ls hl => ?_)
          refine lv_iconst (v := 0) F.1 F.2.1 d_Model_alone_39 (by decide) ?_
          refine lv_istore (lv' := [(4, .int (0 : Int32)), (3, .int (0 : Int32)), (2, .int x2_8), (0, .ref (ad 0 0)), (1, .int x1)]) F.1 F.2.1 d_Model_alone_40 hl (by decide) rfl (fun ls hl => ?_)
          obtain ⟨x3_16, hc_17, h⟩ := bd_ex h
          obtain ⟨X_42, eX_42⟩ : ∃ X : Int32 → Prop, X = (fun q => ∀ (H : Heap) (locs : List Loc) (ls : Array Slot), Bw mw D ar A s.heap H locs ad S → lv_has ls 5 [(3, .int q)] → W p l e (RM 2 41) s m args below meth c H locs 0 0 Q (F0 m 76 ls [])) := ⟨_, rfl⟩
          have hX_42 : X_42 x3_16 := by
            rw [eX_42]
            intro H locs ls hw hl
            refine lv_iload_n F.1 F.2.1 d_Model_alone_76 rfl (lv_at hl 0 rfl) ?_
            cases h
            have ho : X_0 _ := ho
            rw [eX_0] at ho
            exact ho H locs _ ls d_Model_alone_77 hw
          obtain ⟨P_42, eP_42⟩ : ∃ P : (Int32 × Int32) → Prop, P = (fun q => ∀ (H : Heap) (locs : List Loc) (ls : Array Slot), Bw mw D ar A s.heap H locs ad S → lv_has ls 5 [(0, .ref (ad 0 0)), (2, .int x2_8), (3, .int q.1), (4, .int q.2)] → W p l e (RM 2 41) s m args below meth c H locs 0 0 Q (F0 m 42 ls [])) := ⟨_, rfl⟩
          have hL_42 : P_42 ((0 : Int32), (0 : Int32)) := by
            refine wh_gp (P := P_42) (X := X_42) hc_17 hX_42 ?_
            clear h
            intro q o h ho
            obtain ⟨x3, x4⟩ := q
            have h : Model_alone_l42 S x2_8 x3 x4 = some o := h
            unfold Model_alone_l42 at h
            rw [eP_42]
            intro H locs ls hw hl
            have J_70_l42 : ∀ (x3 : Int32) (x4 : Int32) (H : Heap) (locs : List Loc) (ls : Array Slot), Bw mw D ar A s.heap H locs ad S → lv_has ls 5 [(0, .ref (ad 0 0)), (2, .int x2_8), (3, .int x3), (4, .int x4)] → ∀ o, Model_alone_j70_l42 S x2_8 x3 x4 = some o → (Sum.elim P_42 X_42) o → W p l e (RM 2 41) s m args below meth c H locs 0 0 Q (F0 m 70 ls []) := by
              intro x3 x4 H locs ls hw hl o h ho
              unfold Model_alone_j70_l42 at h
              obtain ⟨x4_15, ex4_15, h⟩ := nm_ex h
              refine lv_iinc (v := x4_15) (lv' := [(4, .int x4_15), (0, .ref (ad 0 0)), (2, .int x2_8), (3, .int x3)]) F.1 F.2.1 d_Model_alone_70 hl (k := 3) rfl (by rw [ex4_15]; rfl) (by decide) rfl (fun ls hl => ?_)
              refine lv_goto (tgt := 42) F.1 F.2.1 d_Model_alone_73 (by decide) ?_
              cases h
              have ho : P_42 _ := ho
              rw [eP_42] at ho
              exact ho H locs ls hw (lv_sub hl [1, 2, 3, 0] rfl)
            refine lv_iload F.1 F.2.1 d_Model_alone_42 (lv_at hl 3 rfl) ?_
            refine lv_aload_n F.1 F.2.1 d_Model_alone_44 rfl (lv_at hl 0 rfl) ?_
            refine mg_0_44 F hK hw lk_1055 d_Model_alone_45 ?_
            refine lv_icmp_ge (tgt := 76) F.1 F.2.1 d_Model_alone_48 (by decide) (fun c_9 => ?_) (fun c_9 => ?_)
            · replace h := ip c_9 h
              cases h
              have ho : X_42 _ := ho
              rw [eX_42] at ho
              exact ho H locs ls hw (lv_sub hl [2] rfl)
            · replace h := iq c_9 h
              refine lv_aload_n F.1 F.2.1 d_Model_alone_51 rfl (lv_at hl 0 rfl) ?_
              refine mg_0_46 F hK hw lk_1057 d_Model_alone_52 ?_
              refine lv_iload F.1 F.2.1 d_Model_alone_55 (lv_at hl 3 rfl) ?_
              obtain ⟨hi_10, h⟩ := gd_ex h
              refine ml_0_46 F hK hw hi_10 d_Model_alone_57 ?_
              refine lv_aload_n F.1 F.2.1 d_Model_alone_58 rfl (lv_at hl 0 rfl) ?_
              obtain ⟨v_12, hc_11, h⟩ := bd_ex h
              refine cV_i F hA rfl hK hw (c_Model_laws l hc_11) trivial rfl (good_V lk_996 lk_998 ls_53 lk_10 lk_999) (mr_0 hK hw) hd_Model_laws ⟨Nat.le_of_ble_eq_true rfl, Nat.le_of_ble_eq_true rfl⟩ rfl hl.1 rfl (Nat.le_of_ble_eq_true rfl) d_Model_alone_59 ⟨(Nat.zero_le _), (Nat.zero_le _)⟩ (fun H locs hw => ?_)
              refine lv_iand F.1 F.2.1 d_Model_alone_62 ?_
              refine lv_iload_n F.1 F.2.1 d_Model_alone_63 rfl (lv_at hl 1 rfl) ?_
              refine lv_icmp_ne (tgt := 70) F.1 F.2.1 d_Model_alone_64 (by decide) (fun c_13 => ?_) (fun c_13 => ?_)
              · replace h := iq c_13 h
                exact J_70_l42 x3 x4 H locs ls hw (lv_sub hl [0, 1, 2, 3] rfl) o h ho
              · replace h := ip c_13 h
                obtain ⟨x3_14, ex3_14, h⟩ := nm_ex h
                refine lv_iinc (v := x3_14) (lv' := [(3, .int x3_14), (0, .ref (ad 0 0)), (2, .int x2_8), (4, .int x4)]) F.1 F.2.1 d_Model_alone_67 hl (k := 2) rfl (by rw [ex3_14]; rfl) (by decide) rfl (fun ls hl => ?_)
                exact J_70_l42 x3_14 x4 H locs ls hw (lv_sub hl [1, 2, 0, 3] rfl) o h ho
          rw [eP_42] at hL_42
          exact hL_42 H locs ls hw (lv_sub hl [3, 2, 1, 0] rfl)
        · replace h := ip c_5 h
          exact J_24 H locs ls hw (lv_sub hl [] rfl) o h ho
  exact key _ _ hw _ h (by rw [eX_0]; exact fun H locs pc ls hd hw => hQ H locs pc ls ad rfl hd hw)
theorem d_Model_meeting_0 : decode b_Model_meeting 0 = .ok (.iconst 0, 1) := by decide +kernel
theorem d_Model_meeting_1 : decode b_Model_meeting 1 = .ok (.istore_n 2, 1) := by decide +kernel
theorem d_Model_meeting_2 : decode b_Model_meeting 2 = .ok (.iconst 0, 1) := by decide +kernel
theorem d_Model_meeting_3 : decode b_Model_meeting 3 = .ok (.istore_n 3, 1) := by decide +kernel
theorem d_Model_meeting_4 : decode b_Model_meeting 4 = .ok (.iload_n 3, 1) := by decide +kernel
theorem d_Model_meeting_5 : decode b_Model_meeting 5 = .ok (.aload_n 0, 1) := by decide +kernel
theorem d_Model_meeting_6 : decode b_Model_meeting 6 = .ok (.getfield 326, 3) := by decide +kernel
theorem d_Model_meeting_9 : decode b_Model_meeting 9 = .ok (.if_icmp .ge 29, 3) := by decide +kernel
theorem d_Model_meeting_12 : decode b_Model_meeting 12 = .ok (.aload_n 0, 1) := by decide +kernel
theorem d_Model_meeting_13 : decode b_Model_meeting 13 = .ok (.getfield 111, 3) := by decide +kernel
theorem d_Model_meeting_16 : decode b_Model_meeting 16 = .ok (.aload_n 0, 1) := by decide +kernel
theorem d_Model_meeting_17 : decode b_Model_meeting 17 = .ok (.getfield 126, 3) := by decide +kernel
theorem d_Model_meeting_20 : decode b_Model_meeting 20 = .ok (.iload_n 3, 1) := by decide +kernel
theorem d_Model_meeting_21 : decode b_Model_meeting 21 = .ok (.iaload, 1) := by decide +kernel
theorem d_Model_meeting_22 : decode b_Model_meeting 22 = .ok (.iaload, 1) := by decide +kernel
theorem d_Model_meeting_23 : decode b_Model_meeting 23 = .ok (.iload_n 1, 1) := by decide +kernel
theorem d_Model_meeting_24 : decode b_Model_meeting 24 = .ok (.iand, 1) := by decide +kernel
theorem d_Model_meeting_25 : decode b_Model_meeting 25 = .ok (.iload_n 1, 1) := by decide +kernel
theorem d_Model_meeting_26 : decode b_Model_meeting 26 = .ok (.if_icmp .ne 6, 3) := by decide +kernel
theorem d_Model_meeting_29 : decode b_Model_meeting 29 = .ok (.iinc 2 1, 3) := by decide +kernel
theorem d_Model_meeting_32 : decode b_Model_meeting 32 = .ok (.iinc 3 1, 3) := by decide +kernel
theorem d_Model_meeting_35 : decode b_Model_meeting 35 = .ok (.goto (-31), 3) := by decide +kernel
theorem d_Model_meeting_38 : decode b_Model_meeting 38 = .ok (.iload_n 2, 1) := by decide +kernel
theorem d_Model_meeting_39 : decode b_Model_meeting 39 = .ok (.ireturn, 1) := by decide +kernel
set_option maxHeartbeats 4000000 in
set_option maxRecDepth 100000 in
theorem c_Model_meeting (l : Launch) {S : St} {x1 : Int32} {r : Int32} (h : f_Model_meeting S x1 = some r) : MI mw l y_Model_meeting b_Model_meeting 4 (some .int) 0 0 0 0 (fun ad => [.ref (ad 0 0), .int x1]) aT aE S r S := by
  refine MI_of "LawfulLotsModel" rfl (by decide) (fun _ => Nat.le_of_ble_eq_true rfl) ?_
  intro p e s m args below meth c D ar ad A Q ls hP F hK hA hw hl hQ
  have hl : lv_has ls 4 [(0, .ref (ad 0 0)), (1, .int x1)] := hl
  obtain ⟨X_0, eX_0⟩ : ∃ X : Int32 → Prop, X = (fun q => ∀ (H : Heap) (locs : List Loc) (pc : Nat) (ls : Array Slot), decode b_Model_meeting pc = .ok (.ireturn, 1) → Bw mw D ar A s.heap H locs ad S → W p l e (RM 0 0) s m args below meth c H locs 0 0 Q (F0 m pc ls [.int q])) := ⟨_, rfl⟩
  have key : ∀ (H : Heap) (locs : List Loc), Bw mw D ar A s.heap H locs ad S → ∀ o, f_Model_meeting S x1 = some o → X_0 o → W p l e (RM 0 0) s m args below meth c H locs 0 0 Q (F0 m 0 ls []) := by
    intro H locs hw o h ho
    unfold f_Model_meeting at h
    refine lv_iconst (v := 0) F.1 F.2.1 d_Model_meeting_0 (by decide) ?_
    refine lv_istore_n (lv' := [(2, .int (0 : Int32)), (0, .ref (ad 0 0)), (1, .int x1)]) F.1 F.2.1 d_Model_meeting_1 rfl hl (by decide) rfl (fun ls hl => ?_)
    refine lv_iconst (v := 0) F.1 F.2.1 d_Model_meeting_2 (by decide) ?_
    refine lv_istore_n (lv' := [(3, .int (0 : Int32)), (2, .int (0 : Int32)), (0, .ref (ad 0 0)), (1, .int x1)]) F.1 F.2.1 d_Model_meeting_3 rfl hl (by decide) rfl (fun ls hl => ?_)
    obtain ⟨x2_7, hc_8, h⟩ := bd_ex h
    obtain ⟨X_4, eX_4⟩ : ∃ X : Int32 → Prop, X = (fun q => ∀ (H : Heap) (locs : List Loc) (ls : Array Slot), Bw mw D ar A s.heap H locs ad S → lv_has ls 4 [(2, .int q)] → W p l e (RM 0 0) s m args below meth c H locs 0 0 Q (F0 m 38 ls [])) := ⟨_, rfl⟩
    have hX_4 : X_4 x2_7 := by
      rw [eX_4]
      intro H locs ls hw hl
      refine lv_iload_n F.1 F.2.1 d_Model_meeting_38 rfl (lv_at hl 0 rfl) ?_
      cases h
      have ho : X_0 _ := ho
      rw [eX_0] at ho
      exact ho H locs _ ls d_Model_meeting_39 hw
    obtain ⟨P_4, eP_4⟩ : ∃ P : (Int32 × Int32) → Prop, P = (fun q => ∀ (H : Heap) (locs : List Loc) (ls : Array Slot), Bw mw D ar A s.heap H locs ad S → lv_has ls 4 [(0, .ref (ad 0 0)), (1, .int x1), (2, .int q.1), (3, .int q.2)] → W p l e (RM 0 0) s m args below meth c H locs 0 0 Q (F0 m 4 ls [])) := ⟨_, rfl⟩
    have hL_4 : P_4 ((0 : Int32), (0 : Int32)) := by
      refine wh_gp (P := P_4) (X := X_4) hc_8 hX_4 ?_
      clear h
      intro q o h ho
      obtain ⟨x2, x3⟩ := q
      have h : Model_meeting_l4 S x1 x2 x3 = some o := h
      unfold Model_meeting_l4 at h
      rw [eP_4]
      intro H locs ls hw hl
      have J_32_l4 : ∀ (x2 : Int32) (x3 : Int32) (H : Heap) (locs : List Loc) (ls : Array Slot), Bw mw D ar A s.heap H locs ad S → lv_has ls 4 [(0, .ref (ad 0 0)), (1, .int x1), (2, .int x2), (3, .int x3)] → ∀ o, Model_meeting_j32_l4 S x1 x2 x3 = some o → (Sum.elim P_4 X_4) o → W p l e (RM 0 0) s m args below meth c H locs 0 0 Q (F0 m 32 ls []) := by
        intro x2 x3 H locs ls hw hl o h ho
        unfold Model_meeting_j32_l4 at h
        obtain ⟨x3_6, ex3_6, h⟩ := nm_ex h
        refine lv_iinc (v := x3_6) (lv' := [(3, .int x3_6), (0, .ref (ad 0 0)), (1, .int x1), (2, .int x2)]) F.1 F.2.1 d_Model_meeting_32 hl (k := 3) rfl (by rw [ex3_6]; rfl) (by decide) rfl (fun ls hl => ?_)
        refine lv_goto (tgt := 4) F.1 F.2.1 d_Model_meeting_35 (by decide) ?_
        cases h
        have ho : P_4 _ := ho
        rw [eP_4] at ho
        exact ho H locs ls hw (lv_sub hl [1, 2, 3, 0] rfl)
      refine lv_iload_n F.1 F.2.1 d_Model_meeting_4 rfl (lv_at hl 3 rfl) ?_
      refine lv_aload_n F.1 F.2.1 d_Model_meeting_5 rfl (lv_at hl 0 rfl) ?_
      refine mg_0_54 F hK hw lk_1065 d_Model_meeting_6 ?_
      refine lv_icmp_ge (tgt := 38) F.1 F.2.1 d_Model_meeting_9 (by decide) (fun c_1 => ?_) (fun c_1 => ?_)
      · replace h := ip c_1 h
        cases h
        have ho : X_4 _ := ho
        rw [eX_4] at ho
        exact ho H locs ls hw (lv_sub hl [2] rfl)
      · replace h := iq c_1 h
        refine lv_aload_n F.1 F.2.1 d_Model_meeting_12 rfl (lv_at hl 0 rfl) ?_
        refine mg_0_48 F hK hw lk_1059 d_Model_meeting_13 ?_
        refine lv_aload_n F.1 F.2.1 d_Model_meeting_16 rfl (lv_at hl 0 rfl) ?_
        refine mg_0_55 F hK hw lk_1066 d_Model_meeting_17 ?_
        refine lv_iload_n F.1 F.2.1 d_Model_meeting_20 rfl (lv_at hl 3 rfl) ?_
        obtain ⟨hi_2, h⟩ := gd_ex h
        refine ml_0_55 F hK hw hi_2 d_Model_meeting_21 ?_
        obtain ⟨hi_3, h⟩ := gd_ex h
        refine ml_0_48 F hK hw hi_3 d_Model_meeting_22 ?_
        refine lv_iload_n F.1 F.2.1 d_Model_meeting_23 rfl (lv_at hl 1 rfl) ?_
        refine lv_iand F.1 F.2.1 d_Model_meeting_24 ?_
        refine lv_iload_n F.1 F.2.1 d_Model_meeting_25 rfl (lv_at hl 1 rfl) ?_
        refine lv_icmp_ne (tgt := 32) F.1 F.2.1 d_Model_meeting_26 (by decide) (fun c_4 => ?_) (fun c_4 => ?_)
        · replace h := iq c_4 h
          exact J_32_l4 x2 x3 H locs ls hw (lv_sub hl [0, 1, 2, 3] rfl) o h ho
        · replace h := ip c_4 h
          obtain ⟨x2_5, ex2_5, h⟩ := nm_ex h
          refine lv_iinc (v := x2_5) (lv' := [(2, .int x2_5), (0, .ref (ad 0 0)), (1, .int x1), (3, .int x3)]) F.1 F.2.1 d_Model_meeting_29 hl (k := 2) rfl (by rw [ex2_5]; rfl) (by decide) rfl (fun ls hl => ?_)
          exact J_32_l4 x2_5 x3 H locs ls hw (lv_sub hl [1, 2, 0, 3] rfl) o h ho
    rw [eP_4] at hL_4
    exact hL_4 H locs ls hw (lv_sub hl [2, 3, 1, 0] rfl)
  exact key _ _ hw _ h (by rw [eX_0]; exact fun H locs pc ls hd hw => hQ H locs pc ls ad rfl hd hw)
theorem d_Model_meets_0 : decode b_Model_meets 0 = .ok (.aload_n 0, 1) := by decide +kernel
theorem d_Model_meets_1 : decode b_Model_meets 1 = .ok (.iload_n 1, 1) := by decide +kernel
theorem d_Model_meets_2 : decode b_Model_meets 2 = .ok (.invokevirtual 354, 3) := by decide +kernel
theorem d_Model_meets_5 : decode b_Model_meets 5 = .ok (.ifCond .eq 13, 3) := by decide +kernel
theorem d_Model_meets_8 : decode b_Model_meets 8 = .ok (.aload_n 0, 1) := by decide +kernel
theorem d_Model_meets_9 : decode b_Model_meets 9 = .ok (.iconst 1, 1) := by decide +kernel
theorem d_Model_meets_10 : decode b_Model_meets 10 = .ok (.iload_n 1, 1) := by decide +kernel
theorem d_Model_meets_11 : decode b_Model_meets 11 = .ok (.ishl, 1) := by decide +kernel
theorem d_Model_meets_12 : decode b_Model_meets 12 = .ok (.invokevirtual 357, 3) := by decide +kernel
theorem d_Model_meets_15 : decode b_Model_meets 15 = .ok (.goto 4, 3) := by decide +kernel
theorem d_Model_meets_18 : decode b_Model_meets 18 = .ok (.iconst (-1), 1) := by decide +kernel
theorem d_Model_meets_19 : decode b_Model_meets 19 = .ok (.ireturn, 1) := by decide +kernel
set_option maxHeartbeats 4000000 in
set_option maxRecDepth 100000 in
theorem c_Model_meets (l : Launch) {S : St} {x1 : Int32} {r : Int32} (h : f_Model_meets S x1 = some r) : MI mw l y_Model_meets b_Model_meets 2 (some .int) 2 42 0 0 (fun ad => [.ref (ad 0 0), .int x1]) aT aE S r S := by
  refine MI_of "LawfulLotsModel" rfl (by decide) (fun _ => Nat.le_of_ble_eq_true rfl) ?_
  intro p e s m args below meth c D ar ad A Q ls hP F hK hA hw hl hQ
  have hl : lv_has ls 2 [(0, .ref (ad 0 0)), (1, .int x1)] := hl
  obtain ⟨X_0, eX_0⟩ : ∃ X : Int32 → Prop, X = (fun q => ∀ (H : Heap) (locs : List Loc) (pc : Nat) (ls : Array Slot), decode b_Model_meets pc = .ok (.ireturn, 1) → Bw mw D ar A s.heap H locs ad S → W p l e (RM 2 42) s m args below meth c H locs 0 0 Q (F0 m pc ls [.int q])) := ⟨_, rfl⟩
  have key : ∀ (H : Heap) (locs : List Loc), Bw mw D ar A s.heap H locs ad S → ∀ o, f_Model_meets S x1 = some o → X_0 o → W p l e (RM 2 42) s m args below meth c H locs 0 0 Q (F0 m 0 ls []) := by
    intro H locs hw o h ho
    unfold f_Model_meets at h
    have J_19 : ∀ (t0 : Int32) (H : Heap) (locs : List Loc) (ls : Array Slot), Bw mw D ar A s.heap H locs ad S → lv_has ls 2 [] → ∀ o, Model_meets_j19 S t0 = some o → X_0 o → W p l e (RM 2 42) s m args below meth c H locs 0 0 Q (F0 m 19 ls [.int t0]) := by
      intro t0 H locs ls hw hl o h ho
      unfold Model_meets_j19 at h
      cases h
      have ho : X_0 _ := ho
      rw [eX_0] at ho
      exact ho H locs _ ls d_Model_meets_19 hw
    refine lv_aload_n F.1 F.2.1 d_Model_meets_0 rfl (lv_at hl 0 rfl) ?_
    refine lv_iload_n F.1 F.2.1 d_Model_meets_1 rfl (lv_at hl 1 rfl) ?_
    obtain ⟨v_2, hc_1, h⟩ := bd_ex h
    refine cV_i F hA rfl hK hw (c_Model_isBin l hc_1) trivial rfl (good_V lk_1376 lk_1378 ls_78 lk_10 lk_1379) (mr_0 hK hw) hd_Model_isBin ⟨Nat.le_of_ble_eq_true rfl, Nat.le_of_ble_eq_true rfl⟩ rfl hl.1 rfl (Nat.le_of_ble_eq_true rfl) d_Model_meets_2 ⟨(Nat.zero_le _), (Nat.zero_le _)⟩ (fun H locs hw => ?_)
    refine lv_if_eq (tgt := 18) F.1 F.2.1 d_Model_meets_5 (by decide) (fun c_3 => ?_) (fun c_3 => ?_)
    · replace h := ip c_3 h
      refine lv_iconst (v := -1) F.1 F.2.1 d_Model_meets_18 (by decide) ?_
      exact J_19 (-1 : Int32) H locs ls hw (lv_sub hl [] rfl) o h ho
    · replace h := iq c_3 h
      refine lv_aload_n F.1 F.2.1 d_Model_meets_8 rfl (lv_at hl 0 rfl) ?_
      refine lv_iconst (v := 1) F.1 F.2.1 d_Model_meets_9 (by decide) ?_
      refine lv_iload_n F.1 F.2.1 d_Model_meets_10 rfl (lv_at hl 1 rfl) ?_
      refine lv_ishl F.1 F.2.1 d_Model_meets_11 ?_
      obtain ⟨v_5, hc_4, h⟩ := bd_ex h
      refine cV_i F hA rfl hK hw (c_Model_meeting l hc_4) trivial rfl (good_V lk_1380 lk_1382 ls_79 lk_10 lk_1383) (mr_0 hK hw) hd_Model_meeting ⟨Nat.le_of_ble_eq_true rfl, Nat.le_of_ble_eq_true rfl⟩ rfl hl.1 rfl (Nat.le_of_ble_eq_true rfl) d_Model_meets_12 ⟨(Nat.zero_le _), (Nat.zero_le _)⟩ (fun H locs hw => ?_)
      refine lv_goto (tgt := 19) F.1 F.2.1 d_Model_meets_15 (by decide) ?_
      exact J_19 v_5 H locs ls hw (lv_sub hl [] rfl) o h ho
  exact key _ _ hw _ h (by rw [eX_0]; exact fun H locs pc ls hd hw => hQ H locs pc ls ad rfl hd hw)
theorem d_Model_cross_0 : decode b_Model_cross 0 = .ok (.aload_n 0, 1) := by decide +kernel
theorem d_Model_cross_1 : decode b_Model_cross 1 = .ok (.iload_n 1, 1) := by decide +kernel
theorem d_Model_cross_2 : decode b_Model_cross 2 = .ok (.invokevirtual 354, 3) := by decide +kernel
theorem d_Model_cross_5 : decode b_Model_cross 5 = .ok (.ifCond .eq 25, 3) := by decide +kernel
theorem d_Model_cross_8 : decode b_Model_cross 8 = .ok (.aload_n 0, 1) := by decide +kernel
theorem d_Model_cross_9 : decode b_Model_cross 9 = .ok (.iload_n 2, 1) := by decide +kernel
theorem d_Model_cross_10 : decode b_Model_cross 10 = .ok (.invokevirtual 354, 3) := by decide +kernel
theorem d_Model_cross_13 : decode b_Model_cross 13 = .ok (.ifCond .eq 17, 3) := by decide +kernel
theorem d_Model_cross_16 : decode b_Model_cross 16 = .ok (.aload_n 0, 1) := by decide +kernel
theorem d_Model_cross_17 : decode b_Model_cross 17 = .ok (.iconst 1, 1) := by decide +kernel
theorem d_Model_cross_18 : decode b_Model_cross 18 = .ok (.iload_n 1, 1) := by decide +kernel
theorem d_Model_cross_19 : decode b_Model_cross 19 = .ok (.ishl, 1) := by decide +kernel
theorem d_Model_cross_20 : decode b_Model_cross 20 = .ok (.iconst 1, 1) := by decide +kernel
theorem d_Model_cross_21 : decode b_Model_cross 21 = .ok (.iload_n 2, 1) := by decide +kernel
theorem d_Model_cross_22 : decode b_Model_cross 22 = .ok (.ishl, 1) := by decide +kernel
theorem d_Model_cross_23 : decode b_Model_cross 23 = .ok (.ior, 1) := by decide +kernel
theorem d_Model_cross_24 : decode b_Model_cross 24 = .ok (.invokevirtual 357, 3) := by decide +kernel
theorem d_Model_cross_27 : decode b_Model_cross 27 = .ok (.goto 4, 3) := by decide +kernel
theorem d_Model_cross_30 : decode b_Model_cross 30 = .ok (.iconst (-1), 1) := by decide +kernel
theorem d_Model_cross_31 : decode b_Model_cross 31 = .ok (.ireturn, 1) := by decide +kernel
set_option maxHeartbeats 4000000 in
set_option maxRecDepth 100000 in
theorem c_Model_cross (l : Launch) {S : St} {x1 : Int32} {x2 : Int32} {r : Int32} (h : f_Model_cross S x1 x2 = some r) : MI mw l y_Model_cross b_Model_cross 3 (some .int) 2 42 0 0 (fun ad => [.ref (ad 0 0), .int x1, .int x2]) aT aE S r S := by
  refine MI_of "LawfulLotsModel" rfl (by decide) (fun _ => Nat.le_of_ble_eq_true rfl) ?_
  intro p e s m args below meth c D ar ad A Q ls hP F hK hA hw hl hQ
  have hl : lv_has ls 3 [(0, .ref (ad 0 0)), (1, .int x1), (2, .int x2)] := hl
  obtain ⟨X_0, eX_0⟩ : ∃ X : Int32 → Prop, X = (fun q => ∀ (H : Heap) (locs : List Loc) (pc : Nat) (ls : Array Slot), decode b_Model_cross pc = .ok (.ireturn, 1) → Bw mw D ar A s.heap H locs ad S → W p l e (RM 2 42) s m args below meth c H locs 0 0 Q (F0 m pc ls [.int q])) := ⟨_, rfl⟩
  have key : ∀ (H : Heap) (locs : List Loc), Bw mw D ar A s.heap H locs ad S → ∀ o, f_Model_cross S x1 x2 = some o → X_0 o → W p l e (RM 2 42) s m args below meth c H locs 0 0 Q (F0 m 0 ls []) := by
    intro H locs hw o h ho
    unfold f_Model_cross at h
    have J_31 : ∀ (t0 : Int32) (H : Heap) (locs : List Loc) (ls : Array Slot), Bw mw D ar A s.heap H locs ad S → lv_has ls 3 [] → ∀ o, Model_cross_j31 S t0 = some o → X_0 o → W p l e (RM 2 42) s m args below meth c H locs 0 0 Q (F0 m 31 ls [.int t0]) := by
      intro t0 H locs ls hw hl o h ho
      unfold Model_cross_j31 at h
      cases h
      have ho : X_0 _ := ho
      rw [eX_0] at ho
      exact ho H locs _ ls d_Model_cross_31 hw
    have J_30 : ∀ (H : Heap) (locs : List Loc) (ls : Array Slot), Bw mw D ar A s.heap H locs ad S → lv_has ls 3 [] → ∀ o, Model_cross_j30 S = some o → X_0 o → W p l e (RM 2 42) s m args below meth c H locs 0 0 Q (F0 m 30 ls []) := by
      intro H locs ls hw hl o h ho
      unfold Model_cross_j30 at h
      refine lv_iconst (v := -1) F.1 F.2.1 d_Model_cross_30 (by decide) ?_
      exact J_31 (-1 : Int32) H locs ls hw (lv_sub hl [] rfl) o h ho
    refine lv_aload_n F.1 F.2.1 d_Model_cross_0 rfl (lv_at hl 0 rfl) ?_
    refine lv_iload_n F.1 F.2.1 d_Model_cross_1 rfl (lv_at hl 1 rfl) ?_
    obtain ⟨v_2, hc_1, h⟩ := bd_ex h
    refine cV_i F hA rfl hK hw (c_Model_isBin l hc_1) trivial rfl (good_V lk_1376 lk_1378 ls_78 lk_10 lk_1379) (mr_0 hK hw) hd_Model_isBin ⟨Nat.le_of_ble_eq_true rfl, Nat.le_of_ble_eq_true rfl⟩ rfl hl.1 rfl (Nat.le_of_ble_eq_true rfl) d_Model_cross_2 ⟨(Nat.zero_le _), (Nat.zero_le _)⟩ (fun H locs hw => ?_)
    refine lv_if_eq (tgt := 30) F.1 F.2.1 d_Model_cross_5 (by decide) (fun c_3 => ?_) (fun c_3 => ?_)
    · replace h := ip c_3 h
      exact J_30 H locs ls hw (lv_sub hl [] rfl) o h ho
    · replace h := iq c_3 h
      refine lv_aload_n F.1 F.2.1 d_Model_cross_8 rfl (lv_at hl 0 rfl) ?_
      refine lv_iload_n F.1 F.2.1 d_Model_cross_9 rfl (lv_at hl 2 rfl) ?_
      obtain ⟨v_5, hc_4, h⟩ := bd_ex h
      refine cV_i F hA rfl hK hw (c_Model_isBin l hc_4) trivial rfl (good_V lk_1376 lk_1378 ls_78 lk_10 lk_1379) (mr_0 hK hw) hd_Model_isBin ⟨Nat.le_of_ble_eq_true rfl, Nat.le_of_ble_eq_true rfl⟩ rfl hl.1 rfl (Nat.le_of_ble_eq_true rfl) d_Model_cross_10 ⟨(Nat.zero_le _), (Nat.zero_le _)⟩ (fun H locs hw => ?_)
      refine lv_if_eq (tgt := 30) F.1 F.2.1 d_Model_cross_13 (by decide) (fun c_6 => ?_) (fun c_6 => ?_)
      · replace h := ip c_6 h
        exact J_30 H locs ls hw (lv_sub hl [] rfl) o h ho
      · replace h := iq c_6 h
        refine lv_aload_n F.1 F.2.1 d_Model_cross_16 rfl (lv_at hl 0 rfl) ?_
        refine lv_iconst (v := 1) F.1 F.2.1 d_Model_cross_17 (by decide) ?_
        refine lv_iload_n F.1 F.2.1 d_Model_cross_18 rfl (lv_at hl 1 rfl) ?_
        refine lv_ishl F.1 F.2.1 d_Model_cross_19 ?_
        refine lv_iconst (v := 1) F.1 F.2.1 d_Model_cross_20 (by decide) ?_
        refine lv_iload_n F.1 F.2.1 d_Model_cross_21 rfl (lv_at hl 2 rfl) ?_
        refine lv_ishl F.1 F.2.1 d_Model_cross_22 ?_
        refine lv_ior F.1 F.2.1 d_Model_cross_23 ?_
        obtain ⟨v_8, hc_7, h⟩ := bd_ex h
        refine cV_i F hA rfl hK hw (c_Model_meeting l hc_7) trivial rfl (good_V lk_1380 lk_1382 ls_79 lk_10 lk_1383) (mr_0 hK hw) hd_Model_meeting ⟨Nat.le_of_ble_eq_true rfl, Nat.le_of_ble_eq_true rfl⟩ rfl hl.1 rfl (Nat.le_of_ble_eq_true rfl) d_Model_cross_24 ⟨(Nat.zero_le _), (Nat.zero_le _)⟩ (fun H locs hw => ?_)
        refine lv_goto (tgt := 31) F.1 F.2.1 d_Model_cross_27 (by decide) ?_
        exact J_31 v_8 H locs ls hw (lv_sub hl [] rfl) o h ho
  exact key _ _ hw _ h (by rw [eX_0]; exact fun H locs pc ls hd hw => hQ H locs pc ls ad rfl hd hw)
theorem d_Model_hitsOf_0 : decode b_Model_hitsOf 0 = .ok (.iconst 0, 1) := by decide +kernel
theorem d_Model_hitsOf_1 : decode b_Model_hitsOf 1 = .ok (.istore_n 2, 1) := by decide +kernel
theorem d_Model_hitsOf_2 : decode b_Model_hitsOf 2 = .ok (.iconst 0, 1) := by decide +kernel
theorem d_Model_hitsOf_3 : decode b_Model_hitsOf 3 = .ok (.istore_n 3, 1) := by decide +kernel
theorem d_Model_hitsOf_4 : decode b_Model_hitsOf 4 = .ok (.iload_n 3, 1) := by decide +kernel
theorem d_Model_hitsOf_5 : decode b_Model_hitsOf 5 = .ok (.aload_n 0, 1) := by decide +kernel
theorem d_Model_hitsOf_6 : decode b_Model_hitsOf 6 = .ok (.getfield 244, 3) := by decide +kernel
theorem d_Model_hitsOf_9 : decode b_Model_hitsOf 9 = .ok (.if_icmp .ge 27, 3) := by decide +kernel
theorem d_Model_hitsOf_12 : decode b_Model_hitsOf 12 = .ok (.iload_n 2, 1) := by decide +kernel
theorem d_Model_hitsOf_13 : decode b_Model_hitsOf 13 = .ok (.aload_n 0, 1) := by decide +kernel
theorem d_Model_hitsOf_14 : decode b_Model_hitsOf 14 = .ok (.getfield 111, 3) := by decide +kernel
theorem d_Model_hitsOf_17 : decode b_Model_hitsOf 17 = .ok (.aload_n 0, 1) := by decide +kernel
theorem d_Model_hitsOf_18 : decode b_Model_hitsOf 18 = .ok (.getfield 132, 3) := by decide +kernel
theorem d_Model_hitsOf_21 : decode b_Model_hitsOf 21 = .ok (.iload_n 3, 1) := by decide +kernel
theorem d_Model_hitsOf_22 : decode b_Model_hitsOf 22 = .ok (.iaload, 1) := by decide +kernel
theorem d_Model_hitsOf_23 : decode b_Model_hitsOf 23 = .ok (.iaload, 1) := by decide +kernel
theorem d_Model_hitsOf_24 : decode b_Model_hitsOf 24 = .ok (.iload_n 1, 1) := by decide +kernel
theorem d_Model_hitsOf_25 : decode b_Model_hitsOf 25 = .ok (.ishr, 1) := by decide +kernel
theorem d_Model_hitsOf_26 : decode b_Model_hitsOf 26 = .ok (.iconst 1, 1) := by decide +kernel
theorem d_Model_hitsOf_27 : decode b_Model_hitsOf 27 = .ok (.iand, 1) := by decide +kernel
theorem d_Model_hitsOf_28 : decode b_Model_hitsOf 28 = .ok (.iadd, 1) := by decide +kernel
theorem d_Model_hitsOf_29 : decode b_Model_hitsOf 29 = .ok (.istore_n 2, 1) := by decide +kernel
theorem d_Model_hitsOf_30 : decode b_Model_hitsOf 30 = .ok (.iinc 3 1, 3) := by decide +kernel
theorem d_Model_hitsOf_33 : decode b_Model_hitsOf 33 = .ok (.goto (-29), 3) := by decide +kernel
theorem d_Model_hitsOf_36 : decode b_Model_hitsOf 36 = .ok (.iload_n 2, 1) := by decide +kernel
theorem d_Model_hitsOf_37 : decode b_Model_hitsOf 37 = .ok (.ireturn, 1) := by decide +kernel
set_option maxHeartbeats 4000000 in
set_option maxRecDepth 100000 in
theorem c_Model_hitsOf (l : Launch) {S : St} {x1 : Int32} {r : Int32} (h : f_Model_hitsOf S x1 = some r) : MI mw l y_Model_hitsOf b_Model_hitsOf 4 (some .int) 0 0 0 0 (fun ad => [.ref (ad 0 0), .int x1]) aT aE S r S := by
  refine MI_of "LawfulLotsModel" rfl (by decide) (fun _ => Nat.le_of_ble_eq_true rfl) ?_
  intro p e s m args below meth c D ar ad A Q ls hP F hK hA hw hl hQ
  have hl : lv_has ls 4 [(0, .ref (ad 0 0)), (1, .int x1)] := hl
  obtain ⟨X_0, eX_0⟩ : ∃ X : Int32 → Prop, X = (fun q => ∀ (H : Heap) (locs : List Loc) (pc : Nat) (ls : Array Slot), decode b_Model_hitsOf pc = .ok (.ireturn, 1) → Bw mw D ar A s.heap H locs ad S → W p l e (RM 0 0) s m args below meth c H locs 0 0 Q (F0 m pc ls [.int q])) := ⟨_, rfl⟩
  have key : ∀ (H : Heap) (locs : List Loc), Bw mw D ar A s.heap H locs ad S → ∀ o, f_Model_hitsOf S x1 = some o → X_0 o → W p l e (RM 0 0) s m args below meth c H locs 0 0 Q (F0 m 0 ls []) := by
    intro H locs hw o h ho
    unfold f_Model_hitsOf at h
    refine lv_iconst (v := 0) F.1 F.2.1 d_Model_hitsOf_0 (by decide) ?_
    refine lv_istore_n (lv' := [(2, .int (0 : Int32)), (0, .ref (ad 0 0)), (1, .int x1)]) F.1 F.2.1 d_Model_hitsOf_1 rfl hl (by decide) rfl (fun ls hl => ?_)
    refine lv_iconst (v := 0) F.1 F.2.1 d_Model_hitsOf_2 (by decide) ?_
    refine lv_istore_n (lv' := [(3, .int (0 : Int32)), (2, .int (0 : Int32)), (0, .ref (ad 0 0)), (1, .int x1)]) F.1 F.2.1 d_Model_hitsOf_3 rfl hl (by decide) rfl (fun ls hl => ?_)
    obtain ⟨x2_6, hc_7, h⟩ := bd_ex h
    obtain ⟨X_4, eX_4⟩ : ∃ X : Int32 → Prop, X = (fun q => ∀ (H : Heap) (locs : List Loc) (ls : Array Slot), Bw mw D ar A s.heap H locs ad S → lv_has ls 4 [(2, .int q)] → W p l e (RM 0 0) s m args below meth c H locs 0 0 Q (F0 m 36 ls [])) := ⟨_, rfl⟩
    have hX_4 : X_4 x2_6 := by
      rw [eX_4]
      intro H locs ls hw hl
      refine lv_iload_n F.1 F.2.1 d_Model_hitsOf_36 rfl (lv_at hl 0 rfl) ?_
      cases h
      have ho : X_0 _ := ho
      rw [eX_0] at ho
      exact ho H locs _ ls d_Model_hitsOf_37 hw
    obtain ⟨P_4, eP_4⟩ : ∃ P : (Int32 × Int32) → Prop, P = (fun q => ∀ (H : Heap) (locs : List Loc) (ls : Array Slot), Bw mw D ar A s.heap H locs ad S → lv_has ls 4 [(0, .ref (ad 0 0)), (1, .int x1), (2, .int q.1), (3, .int q.2)] → W p l e (RM 0 0) s m args below meth c H locs 0 0 Q (F0 m 4 ls [])) := ⟨_, rfl⟩
    have hL_4 : P_4 ((0 : Int32), (0 : Int32)) := by
      refine wh_gp (P := P_4) (X := X_4) hc_7 hX_4 ?_
      clear h
      intro q o h ho
      obtain ⟨x2, x3⟩ := q
      have h : Model_hitsOf_l4 S x1 x2 x3 = some o := h
      unfold Model_hitsOf_l4 at h
      rw [eP_4]
      intro H locs ls hw hl
      refine lv_iload_n F.1 F.2.1 d_Model_hitsOf_4 rfl (lv_at hl 3 rfl) ?_
      refine lv_aload_n F.1 F.2.1 d_Model_hitsOf_5 rfl (lv_at hl 0 rfl) ?_
      refine mg_0_58 F hK hw lk_1069 d_Model_hitsOf_6 ?_
      refine lv_icmp_ge (tgt := 36) F.1 F.2.1 d_Model_hitsOf_9 (by decide) (fun c_1 => ?_) (fun c_1 => ?_)
      · replace h := ip c_1 h
        cases h
        have ho : X_4 _ := ho
        rw [eX_4] at ho
        exact ho H locs ls hw (lv_sub hl [2] rfl)
      · replace h := iq c_1 h
        refine lv_iload_n F.1 F.2.1 d_Model_hitsOf_12 rfl (lv_at hl 2 rfl) ?_
        refine lv_aload_n F.1 F.2.1 d_Model_hitsOf_13 rfl (lv_at hl 0 rfl) ?_
        refine mg_0_48 F hK hw lk_1059 d_Model_hitsOf_14 ?_
        refine lv_aload_n F.1 F.2.1 d_Model_hitsOf_17 rfl (lv_at hl 0 rfl) ?_
        refine mg_0_59 F hK hw lk_1070 d_Model_hitsOf_18 ?_
        refine lv_iload_n F.1 F.2.1 d_Model_hitsOf_21 rfl (lv_at hl 3 rfl) ?_
        obtain ⟨hi_2, h⟩ := gd_ex h
        refine ml_0_59 F hK hw hi_2 d_Model_hitsOf_22 ?_
        obtain ⟨hi_3, h⟩ := gd_ex h
        refine ml_0_48 F hK hw hi_3 d_Model_hitsOf_23 ?_
        refine lv_iload_n F.1 F.2.1 d_Model_hitsOf_24 rfl (lv_at hl 1 rfl) ?_
        refine lv_ishr F.1 F.2.1 d_Model_hitsOf_25 ?_
        refine lv_iconst (v := 1) F.1 F.2.1 d_Model_hitsOf_26 (by decide) ?_
        refine lv_iand F.1 F.2.1 d_Model_hitsOf_27 ?_
        refine lv_iadd F.1 F.2.1 d_Model_hitsOf_28 ?_
        obtain ⟨x2_4, ex2_4, h⟩ := nm_ex h
        refine lv_nm ex2_4 ?_
        refine lv_istore_n (lv' := [(2, .int x2_4), (0, .ref (ad 0 0)), (1, .int x1), (3, .int x3)]) F.1 F.2.1 d_Model_hitsOf_29 rfl hl (by decide) rfl (fun ls hl => ?_)
        obtain ⟨x3_5, ex3_5, h⟩ := nm_ex h
        refine lv_iinc (v := x3_5) (lv' := [(3, .int x3_5), (2, .int x2_4), (0, .ref (ad 0 0)), (1, .int x1)]) F.1 F.2.1 d_Model_hitsOf_30 hl (k := 3) rfl (by rw [ex3_5]; rfl) (by decide) rfl (fun ls hl => ?_)
        refine lv_goto (tgt := 4) F.1 F.2.1 d_Model_hitsOf_33 (by decide) ?_
        cases h
        have ho : P_4 _ := ho
        rw [eP_4] at ho
        exact ho H locs ls hw (lv_sub hl [2, 3, 1, 0] rfl)
    rw [eP_4] at hL_4
    exact hL_4 H locs ls hw (lv_sub hl [2, 3, 1, 0] rfl)
  exact key _ _ hw _ h (by rw [eX_0]; exact fun H locs pc ls hd hw => hQ H locs pc ls ad rfl hd hw)
theorem d_Model_hits_0 : decode b_Model_hits 0 = .ok (.aload_n 0, 1) := by decide +kernel
theorem d_Model_hits_1 : decode b_Model_hits 1 = .ok (.iload_n 1, 1) := by decide +kernel
theorem d_Model_hits_2 : decode b_Model_hits 2 = .ok (.invokevirtual 354, 3) := by decide +kernel
theorem d_Model_hits_5 : decode b_Model_hits 5 = .ok (.ifCond .eq 11, 3) := by decide +kernel
theorem d_Model_hits_8 : decode b_Model_hits 8 = .ok (.aload_n 0, 1) := by decide +kernel
theorem d_Model_hits_9 : decode b_Model_hits 9 = .ok (.iload_n 1, 1) := by decide +kernel
theorem d_Model_hits_10 : decode b_Model_hits 10 = .ok (.invokevirtual 360, 3) := by decide +kernel
theorem d_Model_hits_13 : decode b_Model_hits 13 = .ok (.goto 4, 3) := by decide +kernel
theorem d_Model_hits_16 : decode b_Model_hits 16 = .ok (.iconst (-1), 1) := by decide +kernel
theorem d_Model_hits_17 : decode b_Model_hits 17 = .ok (.ireturn, 1) := by decide +kernel
set_option maxHeartbeats 4000000 in
set_option maxRecDepth 100000 in
theorem c_Model_hits (l : Launch) {S : St} {x1 : Int32} {r : Int32} (h : f_Model_hits S x1 = some r) : MI mw l y_Model_hits b_Model_hits 2 (some .int) 2 42 0 0 (fun ad => [.ref (ad 0 0), .int x1]) aT aE S r S := by
  refine MI_of "LawfulLotsModel" rfl (by decide) (fun _ => Nat.le_of_ble_eq_true rfl) ?_
  intro p e s m args below meth c D ar ad A Q ls hP F hK hA hw hl hQ
  have hl : lv_has ls 2 [(0, .ref (ad 0 0)), (1, .int x1)] := hl
  obtain ⟨X_0, eX_0⟩ : ∃ X : Int32 → Prop, X = (fun q => ∀ (H : Heap) (locs : List Loc) (pc : Nat) (ls : Array Slot), decode b_Model_hits pc = .ok (.ireturn, 1) → Bw mw D ar A s.heap H locs ad S → W p l e (RM 2 42) s m args below meth c H locs 0 0 Q (F0 m pc ls [.int q])) := ⟨_, rfl⟩
  have key : ∀ (H : Heap) (locs : List Loc), Bw mw D ar A s.heap H locs ad S → ∀ o, f_Model_hits S x1 = some o → X_0 o → W p l e (RM 2 42) s m args below meth c H locs 0 0 Q (F0 m 0 ls []) := by
    intro H locs hw o h ho
    unfold f_Model_hits at h
    have J_17 : ∀ (t0 : Int32) (H : Heap) (locs : List Loc) (ls : Array Slot), Bw mw D ar A s.heap H locs ad S → lv_has ls 2 [] → ∀ o, Model_hits_j17 S t0 = some o → X_0 o → W p l e (RM 2 42) s m args below meth c H locs 0 0 Q (F0 m 17 ls [.int t0]) := by
      intro t0 H locs ls hw hl o h ho
      unfold Model_hits_j17 at h
      cases h
      have ho : X_0 _ := ho
      rw [eX_0] at ho
      exact ho H locs _ ls d_Model_hits_17 hw
    refine lv_aload_n F.1 F.2.1 d_Model_hits_0 rfl (lv_at hl 0 rfl) ?_
    refine lv_iload_n F.1 F.2.1 d_Model_hits_1 rfl (lv_at hl 1 rfl) ?_
    obtain ⟨v_2, hc_1, h⟩ := bd_ex h
    refine cV_i F hA rfl hK hw (c_Model_isBin l hc_1) trivial rfl (good_V lk_1376 lk_1378 ls_78 lk_10 lk_1379) (mr_0 hK hw) hd_Model_isBin ⟨Nat.le_of_ble_eq_true rfl, Nat.le_of_ble_eq_true rfl⟩ rfl hl.1 rfl (Nat.le_of_ble_eq_true rfl) d_Model_hits_2 ⟨(Nat.zero_le _), (Nat.zero_le _)⟩ (fun H locs hw => ?_)
    refine lv_if_eq (tgt := 16) F.1 F.2.1 d_Model_hits_5 (by decide) (fun c_3 => ?_) (fun c_3 => ?_)
    · replace h := ip c_3 h
      refine lv_iconst (v := -1) F.1 F.2.1 d_Model_hits_16 (by decide) ?_
      exact J_17 (-1 : Int32) H locs ls hw (lv_sub hl [] rfl) o h ho
    · replace h := iq c_3 h
      refine lv_aload_n F.1 F.2.1 d_Model_hits_8 rfl (lv_at hl 0 rfl) ?_
      refine lv_iload_n F.1 F.2.1 d_Model_hits_9 rfl (lv_at hl 1 rfl) ?_
      obtain ⟨v_5, hc_4, h⟩ := bd_ex h
      refine cV_i F hA rfl hK hw (c_Model_hitsOf l hc_4) trivial rfl (good_V lk_1392 lk_1394 ls_80 lk_10 lk_1395) (mr_0 hK hw) hd_Model_hitsOf ⟨Nat.le_of_ble_eq_true rfl, Nat.le_of_ble_eq_true rfl⟩ rfl hl.1 rfl (Nat.le_of_ble_eq_true rfl) d_Model_hits_10 ⟨(Nat.zero_le _), (Nat.zero_le _)⟩ (fun H locs hw => ?_)
      refine lv_goto (tgt := 17) F.1 F.2.1 d_Model_hits_13 (by decide) ?_
      exact J_17 v_5 H locs ls hw (lv_sub hl [] rfl) o h ho
  exact key _ _ hw _ h (by rw [eX_0]; exact fun H locs pc ls hd hw => hQ H locs pc ls ad rfl hd hw)
theorem d_Model_without_0 : decode b_Model_without 0 = .ok (.iconst 0, 1) := by decide +kernel
theorem d_Model_without_1 : decode b_Model_without 1 = .ok (.istore_n 1, 1) := by decide +kernel
theorem d_Model_without_2 : decode b_Model_without 2 = .ok (.iconst 0, 1) := by decide +kernel
theorem d_Model_without_3 : decode b_Model_without 3 = .ok (.istore_n 2, 1) := by decide +kernel
theorem d_Model_without_4 : decode b_Model_without 4 = .ok (.iload_n 2, 1) := by decide +kernel
theorem d_Model_without_5 : decode b_Model_without 5 = .ok (.aload_n 0, 1) := by decide +kernel
theorem d_Model_without_6 : decode b_Model_without 6 = .ok (.iconst 2, 1) := by decide +kernel
theorem d_Model_without_7 : decode b_Model_without 7 = .ok (.invokevirtual 294, 3) := by decide +kernel
theorem d_Model_without_10 : decode b_Model_without 10 = .ok (.if_icmp .ge 23, 3) := by decide +kernel
theorem d_Model_without_13 : decode b_Model_without 13 = .ok (.aload_n 0, 1) := by decide +kernel
theorem d_Model_without_14 : decode b_Model_without 14 = .ok (.iload_n 2, 1) := by decide +kernel
theorem d_Model_without_15 : decode b_Model_without 15 = .ok (.invokevirtual 360, 3) := by decide +kernel
theorem d_Model_without_18 : decode b_Model_without 18 = .ok (.ifCond .ne 9, 3) := by decide +kernel
theorem d_Model_without_21 : decode b_Model_without 21 = .ok (.iload_n 1, 1) := by decide +kernel
theorem d_Model_without_22 : decode b_Model_without 22 = .ok (.iconst 1, 1) := by decide +kernel
theorem d_Model_without_23 : decode b_Model_without 23 = .ok (.iload_n 2, 1) := by decide +kernel
theorem d_Model_without_24 : decode b_Model_without 24 = .ok (.ishl, 1) := by decide +kernel
theorem d_Model_without_25 : decode b_Model_without 25 = .ok (.ior, 1) := by decide +kernel
theorem d_Model_without_26 : decode b_Model_without 26 = .ok (.istore_n 1, 1) := by decide +kernel
theorem d_Model_without_27 : decode b_Model_without 27 = .ok (.iinc 2 1, 3) := by decide +kernel
theorem d_Model_without_30 : decode b_Model_without 30 = .ok (.goto (-26), 3) := by decide +kernel
theorem d_Model_without_33 : decode b_Model_without 33 = .ok (.iload_n 1, 1) := by decide +kernel
theorem d_Model_without_34 : decode b_Model_without 34 = .ok (.ireturn, 1) := by decide +kernel
set_option maxHeartbeats 4000000 in
set_option maxRecDepth 100000 in
theorem c_Model_without (l : Launch) {S : St} {r : Int32} (h : f_Model_without S = some r) : MI mw l y_Model_without b_Model_without 3 (some .int) 1 23 0 0 (fun ad => [.ref (ad 0 0)]) aT aE S r S := by
  refine MI_of "LawfulLotsModel" rfl (by decide) (fun _ => Nat.le_of_ble_eq_true rfl) ?_
  intro p e s m args below meth c D ar ad A Q ls hP F hK hA hw hl hQ
  have hl : lv_has ls 3 [(0, .ref (ad 0 0))] := hl
  obtain ⟨X_0, eX_0⟩ : ∃ X : Int32 → Prop, X = (fun q => ∀ (H : Heap) (locs : List Loc) (pc : Nat) (ls : Array Slot), decode b_Model_without pc = .ok (.ireturn, 1) → Bw mw D ar A s.heap H locs ad S → W p l e (RM 1 23) s m args below meth c H locs 0 0 Q (F0 m pc ls [.int q])) := ⟨_, rfl⟩
  have key : ∀ (H : Heap) (locs : List Loc), Bw mw D ar A s.heap H locs ad S → ∀ o, f_Model_without S = some o → X_0 o → W p l e (RM 1 23) s m args below meth c H locs 0 0 Q (F0 m 0 ls []) := by
    intro H locs hw o h ho
    unfold f_Model_without at h
    refine lv_iconst (v := 0) F.1 F.2.1 d_Model_without_0 (by decide) ?_
    refine lv_istore_n (lv' := [(1, .int (0 : Int32)), (0, .ref (ad 0 0))]) F.1 F.2.1 d_Model_without_1 rfl hl (by decide) rfl (fun ls hl => ?_)
    refine lv_iconst (v := 0) F.1 F.2.1 d_Model_without_2 (by decide) ?_
    refine lv_istore_n (lv' := [(2, .int (0 : Int32)), (1, .int (0 : Int32)), (0, .ref (ad 0 0))]) F.1 F.2.1 d_Model_without_3 rfl hl (by decide) rfl (fun ls hl => ?_)
    obtain ⟨x1_9, hc_10, h⟩ := bd_ex h
    obtain ⟨X_4, eX_4⟩ : ∃ X : Int32 → Prop, X = (fun q => ∀ (H : Heap) (locs : List Loc) (ls : Array Slot), Bw mw D ar A s.heap H locs ad S → lv_has ls 3 [(1, .int q)] → W p l e (RM 1 23) s m args below meth c H locs 0 0 Q (F0 m 33 ls [])) := ⟨_, rfl⟩
    have hX_4 : X_4 x1_9 := by
      rw [eX_4]
      intro H locs ls hw hl
      refine lv_iload_n F.1 F.2.1 d_Model_without_33 rfl (lv_at hl 0 rfl) ?_
      cases h
      have ho : X_0 _ := ho
      rw [eX_0] at ho
      exact ho H locs _ ls d_Model_without_34 hw
    obtain ⟨P_4, eP_4⟩ : ∃ P : (Int32 × Int32) → Prop, P = (fun q => ∀ (H : Heap) (locs : List Loc) (ls : Array Slot), Bw mw D ar A s.heap H locs ad S → lv_has ls 3 [(0, .ref (ad 0 0)), (1, .int q.1), (2, .int q.2)] → W p l e (RM 1 23) s m args below meth c H locs 0 0 Q (F0 m 4 ls [])) := ⟨_, rfl⟩
    have hL_4 : P_4 ((0 : Int32), (0 : Int32)) := by
      refine wh_gp (P := P_4) (X := X_4) hc_10 hX_4 ?_
      clear h
      intro q o h ho
      obtain ⟨x1, x2⟩ := q
      have h : Model_without_l4 S x1 x2 = some o := h
      unfold Model_without_l4 at h
      rw [eP_4]
      intro H locs ls hw hl
      have J_27_l4 : ∀ (x1 : Int32) (x2 : Int32) (H : Heap) (locs : List Loc) (ls : Array Slot), Bw mw D ar A s.heap H locs ad S → lv_has ls 3 [(0, .ref (ad 0 0)), (1, .int x1), (2, .int x2)] → ∀ o, Model_without_j27_l4 S x1 x2 = some o → (Sum.elim P_4 X_4) o → W p l e (RM 1 23) s m args below meth c H locs 0 0 Q (F0 m 27 ls []) := by
        intro x1 x2 H locs ls hw hl o h ho
        unfold Model_without_j27_l4 at h
        obtain ⟨x2_8, ex2_8, h⟩ := nm_ex h
        refine lv_iinc (v := x2_8) (lv' := [(2, .int x2_8), (0, .ref (ad 0 0)), (1, .int x1)]) F.1 F.2.1 d_Model_without_27 hl (k := 2) rfl (by rw [ex2_8]; rfl) (by decide) rfl (fun ls hl => ?_)
        refine lv_goto (tgt := 4) F.1 F.2.1 d_Model_without_30 (by decide) ?_
        cases h
        have ho : P_4 _ := ho
        rw [eP_4] at ho
        exact ho H locs ls hw (lv_sub hl [1, 2, 0] rfl)
      refine lv_iload_n F.1 F.2.1 d_Model_without_4 rfl (lv_at hl 2 rfl) ?_
      refine lv_aload_n F.1 F.2.1 d_Model_without_5 rfl (lv_at hl 0 rfl) ?_
      refine lv_iconst (v := 2) F.1 F.2.1 d_Model_without_6 (by decide) ?_
      obtain ⟨v_2, hc_1, h⟩ := bd_ex h
      refine cV_i F hA rfl hK hw (c_Model_tellsOf l hc_1) trivial rfl (good_V lk_976 lk_978 ls_48 lk_10 lk_979) (mr_0 hK hw) hd_Model_tellsOf ⟨Nat.le_of_ble_eq_true rfl, Nat.le_of_ble_eq_true rfl⟩ rfl hl.1 rfl (Nat.le_of_ble_eq_true rfl) d_Model_without_7 ⟨(Nat.zero_le _), (Nat.zero_le _)⟩ (fun H locs hw => ?_)
      refine lv_icmp_ge (tgt := 33) F.1 F.2.1 d_Model_without_10 (by decide) (fun c_3 => ?_) (fun c_3 => ?_)
      · replace h := ip c_3 h
        cases h
        have ho : X_4 _ := ho
        rw [eX_4] at ho
        exact ho H locs ls hw (lv_sub hl [1] rfl)
      · replace h := iq c_3 h
        refine lv_aload_n F.1 F.2.1 d_Model_without_13 rfl (lv_at hl 0 rfl) ?_
        refine lv_iload_n F.1 F.2.1 d_Model_without_14 rfl (lv_at hl 2 rfl) ?_
        obtain ⟨v_5, hc_4, h⟩ := bd_ex h
        refine cV_i F hA rfl hK hw (c_Model_hitsOf l hc_4) trivial rfl (good_V lk_1392 lk_1394 ls_80 lk_10 lk_1395) (mr_0 hK hw) hd_Model_hitsOf ⟨Nat.le_of_ble_eq_true rfl, Nat.le_of_ble_eq_true rfl⟩ rfl hl.1 rfl (Nat.le_of_ble_eq_true rfl) d_Model_without_15 ⟨(Nat.zero_le _), (Nat.zero_le _)⟩ (fun H locs hw => ?_)
        refine lv_if_ne (tgt := 27) F.1 F.2.1 d_Model_without_18 (by decide) (fun c_6 => ?_) (fun c_6 => ?_)
        · replace h := iq c_6 h
          exact J_27_l4 x1 x2 H locs ls hw (lv_sub hl [0, 1, 2] rfl) o h ho
        · replace h := ip c_6 h
          refine lv_iload_n F.1 F.2.1 d_Model_without_21 rfl (lv_at hl 1 rfl) ?_
          refine lv_iconst (v := 1) F.1 F.2.1 d_Model_without_22 (by decide) ?_
          refine lv_iload_n F.1 F.2.1 d_Model_without_23 rfl (lv_at hl 2 rfl) ?_
          refine lv_ishl F.1 F.2.1 d_Model_without_24 ?_
          refine lv_ior F.1 F.2.1 d_Model_without_25 ?_
          obtain ⟨x1_7, ex1_7, h⟩ := nm_ex h
          refine lv_nm ex1_7 ?_
          refine lv_istore_n (lv' := [(1, .int x1_7), (0, .ref (ad 0 0)), (2, .int x2)]) F.1 F.2.1 d_Model_without_26 rfl hl (by decide) rfl (fun ls hl => ?_)
          exact J_27_l4 x1_7 x2 H locs ls hw (lv_sub hl [1, 0, 2] rfl) o h ho
    rw [eP_4] at hL_4
    exact hL_4 H locs ls hw (lv_sub hl [2, 1, 0] rfl)
  exact key _ _ hw _ h (by rw [eX_0]; exact fun H locs pc ls hd hw => hQ H locs pc ls ad rfl hd hw)
theorem d_Model_wants_0 : decode b_Model_wants 0 = .ok (.iconst 0, 1) := by decide +kernel
theorem d_Model_wants_1 : decode b_Model_wants 1 = .ok (.istore_n 1, 1) := by decide +kernel
theorem d_Model_wants_2 : decode b_Model_wants 2 = .ok (.iconst 0, 1) := by decide +kernel
theorem d_Model_wants_3 : decode b_Model_wants 3 = .ok (.istore_n 2, 1) := by decide +kernel
theorem d_Model_wants_4 : decode b_Model_wants 4 = .ok (.iload_n 2, 1) := by decide +kernel
theorem d_Model_wants_5 : decode b_Model_wants 5 = .ok (.aload_n 0, 1) := by decide +kernel
theorem d_Model_wants_6 : decode b_Model_wants 6 = .ok (.getfield 326, 3) := by decide +kernel
theorem d_Model_wants_9 : decode b_Model_wants 9 = .ok (.if_icmp .ge 23, 3) := by decide +kernel
theorem d_Model_wants_12 : decode b_Model_wants 12 = .ok (.iload_n 1, 1) := by decide +kernel
theorem d_Model_wants_13 : decode b_Model_wants 13 = .ok (.aload_n 0, 1) := by decide +kernel
theorem d_Model_wants_14 : decode b_Model_wants 14 = .ok (.getfield 111, 3) := by decide +kernel
theorem d_Model_wants_17 : decode b_Model_wants 17 = .ok (.aload_n 0, 1) := by decide +kernel
theorem d_Model_wants_18 : decode b_Model_wants 18 = .ok (.getfield 126, 3) := by decide +kernel
theorem d_Model_wants_21 : decode b_Model_wants 21 = .ok (.iload_n 2, 1) := by decide +kernel
theorem d_Model_wants_22 : decode b_Model_wants 22 = .ok (.iaload, 1) := by decide +kernel
theorem d_Model_wants_23 : decode b_Model_wants 23 = .ok (.iaload, 1) := by decide +kernel
theorem d_Model_wants_24 : decode b_Model_wants 24 = .ok (.ior, 1) := by decide +kernel
theorem d_Model_wants_25 : decode b_Model_wants 25 = .ok (.istore_n 1, 1) := by decide +kernel
theorem d_Model_wants_26 : decode b_Model_wants 26 = .ok (.iinc 2 1, 3) := by decide +kernel
theorem d_Model_wants_29 : decode b_Model_wants 29 = .ok (.goto (-25), 3) := by decide +kernel
theorem d_Model_wants_32 : decode b_Model_wants 32 = .ok (.aload_n 0, 1) := by decide +kernel
theorem d_Model_wants_33 : decode b_Model_wants 33 = .ok (.iload_n 1, 1) := by decide +kernel
theorem d_Model_wants_34 : decode b_Model_wants 34 = .ok (.aload_n 0, 1) := by decide +kernel
theorem d_Model_wants_35 : decode b_Model_wants 35 = .ok (.invokevirtual 363, 3) := by decide +kernel
theorem d_Model_wants_38 : decode b_Model_wants 38 = .ok (.iand, 1) := by decide +kernel
theorem d_Model_wants_39 : decode b_Model_wants 39 = .ok (.putfield 366, 3) := by decide +kernel
theorem d_Model_wants_42 : decode b_Model_wants 42 = .ok (.iconst 0, 1) := by decide +kernel
theorem d_Model_wants_43 : decode b_Model_wants 43 = .ok (.istore_n 2, 1) := by decide +kernel
theorem d_Model_wants_44 : decode b_Model_wants 44 = .ok (.iload_n 2, 1) := by decide +kernel
theorem d_Model_wants_45 : decode b_Model_wants 45 = .ok (.sipush 256, 3) := by decide +kernel
theorem d_Model_wants_48 : decode b_Model_wants 48 = .ok (.if_icmp .ge 16, 3) := by decide +kernel
theorem d_Model_wants_51 : decode b_Model_wants 51 = .ok (.aload_n 0, 1) := by decide +kernel
theorem d_Model_wants_52 : decode b_Model_wants 52 = .ok (.getfield 135, 3) := by decide +kernel
theorem d_Model_wants_55 : decode b_Model_wants 55 = .ok (.iload_n 2, 1) := by decide +kernel
theorem d_Model_wants_56 : decode b_Model_wants 56 = .ok (.iconst (-1), 1) := by decide +kernel
theorem d_Model_wants_57 : decode b_Model_wants 57 = .ok (.iastore, 1) := by decide +kernel
theorem d_Model_wants_58 : decode b_Model_wants 58 = .ok (.iinc 2 1, 3) := by decide +kernel
theorem d_Model_wants_61 : decode b_Model_wants 61 = .ok (.goto (-17), 3) := by decide +kernel
theorem d_Model_wants_64 : decode b_Model_wants 64 = .ok (.iconst 0, 1) := by decide +kernel
theorem d_Model_wants_65 : decode b_Model_wants 65 = .ok (.istore_n 2, 1) := by decide +kernel
theorem d_Model_wants_66 : decode b_Model_wants 66 = .ok (.iload_n 2, 1) := by decide +kernel
theorem d_Model_wants_67 : decode b_Model_wants 67 = .ok (.aload_n 0, 1) := by decide +kernel
theorem d_Model_wants_68 : decode b_Model_wants 68 = .ok (.getfield 326, 3) := by decide +kernel
theorem d_Model_wants_71 : decode b_Model_wants 71 = .ok (.if_icmp .ge 31, 3) := by decide +kernel
theorem d_Model_wants_74 : decode b_Model_wants 74 = .ok (.aload_n 0, 1) := by decide +kernel
theorem d_Model_wants_75 : decode b_Model_wants 75 = .ok (.getfield 135, 3) := by decide +kernel
theorem d_Model_wants_78 : decode b_Model_wants 78 = .ok (.aload_n 0, 1) := by decide +kernel
theorem d_Model_wants_79 : decode b_Model_wants 79 = .ok (.getfield 111, 3) := by decide +kernel
theorem d_Model_wants_82 : decode b_Model_wants 82 = .ok (.aload_n 0, 1) := by decide +kernel
theorem d_Model_wants_83 : decode b_Model_wants 83 = .ok (.getfield 126, 3) := by decide +kernel
theorem d_Model_wants_86 : decode b_Model_wants 86 = .ok (.iload_n 2, 1) := by decide +kernel
theorem d_Model_wants_87 : decode b_Model_wants 87 = .ok (.iaload, 1) := by decide +kernel
theorem d_Model_wants_88 : decode b_Model_wants 88 = .ok (.iaload, 1) := by decide +kernel
theorem d_Model_wants_89 : decode b_Model_wants 89 = .ok (.aload_n 0, 1) := by decide +kernel
theorem d_Model_wants_90 : decode b_Model_wants 90 = .ok (.getfield 366, 3) := by decide +kernel
theorem d_Model_wants_93 : decode b_Model_wants 93 = .ok (.iand, 1) := by decide +kernel
theorem d_Model_wants_94 : decode b_Model_wants 94 = .ok (.iload_n 2, 1) := by decide +kernel
theorem d_Model_wants_95 : decode b_Model_wants 95 = .ok (.iastore, 1) := by decide +kernel
theorem d_Model_wants_96 : decode b_Model_wants 96 = .ok (.iinc 2 1, 3) := by decide +kernel
theorem d_Model_wants_99 : decode b_Model_wants 99 = .ok (.goto (-33), 3) := by decide +kernel
theorem d_Model_wants_102 : decode b_Model_wants 102 = .ok (.return_, 1) := by decide +kernel
set_option maxHeartbeats 4000000 in
set_option maxRecDepth 100000 in
theorem c_Model_wants (l : Launch) {S : St} {S' : St} (h : f_Model_wants S = some S') : MV mw l y_Model_wants b_Model_wants 3 none 2 45 0 0 (fun ad => [.ref (ad 0 0)]) aT aE S S' := by
  refine MV_of "LawfulLotsModel" rfl (by decide) (fun _ => Nat.le_of_ble_eq_true rfl) ?_
  intro p e s m args below meth c D ar ad A Q ls hP F hK hA hw hl hQ
  have hl : lv_has ls 3 [(0, .ref (ad 0 0))] := hl
  obtain ⟨X_0, eX_0⟩ : ∃ X : St → Prop, X = (fun q => ∀ (H : Heap) (locs : List Loc) (pc : Nat) (ls : Array Slot), decode b_Model_wants pc = .ok (.return_, 1) → Bw mw D ar A s.heap H locs ad q → W p l e (RM 2 45) s m args below meth c H locs 0 0 Q (F0 m pc ls [])) := ⟨_, rfl⟩
  have key : ∀ (H : Heap) (locs : List Loc), Bw mw D ar A s.heap H locs ad S → ∀ o, f_Model_wants S = some o → X_0 o → W p l e (RM 2 45) s m args below meth c H locs 0 0 Q (F0 m 0 ls []) := by
    intro H locs hw o h ho
    unfold f_Model_wants at h
    refine lv_iconst (v := 0) F.1 F.2.1 d_Model_wants_0 (by decide) ?_
    refine lv_istore_n (lv' := [(1, .int (0 : Int32)), (0, .ref (ad 0 0))]) F.1 F.2.1 d_Model_wants_1 rfl hl (by decide) rfl (fun ls hl => ?_)
    refine lv_iconst (v := 0) F.1 F.2.1 d_Model_wants_2 (by decide) ?_
    refine lv_istore_n (lv' := [(2, .int (0 : Int32)), (1, .int (0 : Int32)), (0, .ref (ad 0 0))]) F.1 F.2.1 d_Model_wants_3 rfl hl (by decide) rfl (fun ls hl => ?_)
    obtain ⟨x1_6, hc_7, h⟩ := bd_ex h
    obtain ⟨X_4, eX_4⟩ : ∃ X : Int32 → Prop, X = (fun q => ∀ (H : Heap) (locs : List Loc) (ls : Array Slot), Bw mw D ar A s.heap H locs ad S → lv_has ls 3 [(0, .ref (ad 0 0)), (1, .int q)] → W p l e (RM 2 45) s m args below meth c H locs 0 0 Q (F0 m 32 ls [])) := ⟨_, rfl⟩
    have hX_4 : X_4 x1_6 := by
      rw [eX_4]
      intro H locs ls hw hl
      refine lv_aload_n F.1 F.2.1 d_Model_wants_32 rfl (lv_at hl 0 rfl) ?_
      refine lv_iload_n F.1 F.2.1 d_Model_wants_33 rfl (lv_at hl 1 rfl) ?_
      refine lv_aload_n F.1 F.2.1 d_Model_wants_34 rfl (lv_at hl 0 rfl) ?_
      obtain ⟨v_9, hc_8, h⟩ := bd_ex h
      refine cV_i F hA rfl hK hw (c_Model_without l hc_8) trivial rfl (good_V lk_1404 lk_1406 ls_82 lk_10 lk_1407) (mr_0 hK hw) hd_Model_without ⟨Nat.le_of_ble_eq_true rfl, Nat.le_of_ble_eq_true rfl⟩ rfl hl.1 rfl (Nat.le_of_ble_eq_true rfl) d_Model_wants_35 ⟨(Nat.zero_le _), (Nat.zero_le _)⟩ (fun H locs hw => ?_)
      refine lv_iand F.1 F.2.1 d_Model_wants_38 ?_
      obtain ⟨S_10, eS_10, h⟩ := nm_ex h
      refine mp_0_62 F hK hw lk_1073 d_Model_wants_39 eS_10 (fun H locs hw => ?_)
      refine lv_iconst (v := 0) F.1 F.2.1 d_Model_wants_42 (by decide) ?_
      refine lv_istore_n (lv' := [(2, .int (0 : Int32)), (0, .ref (ad 0 0)), (1, .int x1_6)]) F.1 F.2.1 d_Model_wants_43 rfl hl (by decide) rfl (fun ls hl => ?_)
      obtain ⟨S_15, hc_16, h⟩ := bd_ex h
      obtain ⟨X_44, eX_44⟩ : ∃ X : St → Prop, X = (fun q => ∀ (H : Heap) (locs : List Loc) (ls : Array Slot), Bw mw D ar A s.heap H locs ad q → lv_has ls 3 [(0, .ref (ad 0 0))] → W p l e (RM 2 45) s m args below meth c H locs 0 0 Q (F0 m 64 ls [])) := ⟨_, rfl⟩
      have hX_44 : X_44 S_15 := by
        rw [eX_44]
        intro H locs ls hw hl
        refine lv_iconst (v := 0) F.1 F.2.1 d_Model_wants_64 (by decide) ?_
        refine lv_istore_n (lv' := [(2, .int (0 : Int32)), (0, .ref (ad 0 0))]) F.1 F.2.1 d_Model_wants_65 rfl hl (by decide) rfl (fun ls hl => ?_)
        obtain ⟨S_23, hc_24, h⟩ := bd_ex h
        obtain ⟨X_66, eX_66⟩ : ∃ X : St → Prop, X = (fun q => ∀ (H : Heap) (locs : List Loc) (ls : Array Slot), Bw mw D ar A s.heap H locs ad q → lv_has ls 3 [] → W p l e (RM 2 45) s m args below meth c H locs 0 0 Q (F0 m 102 ls [])) := ⟨_, rfl⟩
        have hX_66 : X_66 S_23 := by
          rw [eX_66]
          intro H locs ls hw hl
          cases h
          have ho : X_0 _ := ho
          rw [eX_0] at ho
          exact ho H locs _ ls d_Model_wants_102 hw
        obtain ⟨P_66, eP_66⟩ : ∃ P : (St × Int32) → Prop, P = (fun q => ∀ (H : Heap) (locs : List Loc) (ls : Array Slot), Bw mw D ar A s.heap H locs ad q.1 → lv_has ls 3 [(0, .ref (ad 0 0)), (2, .int q.2)] → W p l e (RM 2 45) s m args below meth c H locs 0 0 Q (F0 m 66 ls [])) := ⟨_, rfl⟩
        have hL_66 : P_66 (S_15, (0 : Int32)) := by
          refine wh_gp (P := P_66) (X := X_66) hc_24 hX_66 ?_
          clear h
          intro q o h ho
          obtain ⟨S, x2⟩ := q
          have h : Model_wants_l66 S x2 = some o := h
          unfold Model_wants_l66 at h
          rw [eP_66]
          intro H locs ls hw hl
          refine lv_iload_n F.1 F.2.1 d_Model_wants_66 rfl (lv_at hl 1 rfl) ?_
          refine lv_aload_n F.1 F.2.1 d_Model_wants_67 rfl (lv_at hl 0 rfl) ?_
          refine mg_0_54 F hK hw lk_1065 d_Model_wants_68 ?_
          refine lv_icmp_ge (tgt := 102) F.1 F.2.1 d_Model_wants_71 (by decide) (fun c_17 => ?_) (fun c_17 => ?_)
          · replace h := ip c_17 h
            cases h
            have ho : X_66 _ := ho
            rw [eX_66] at ho
            exact ho H locs ls hw (lv_sub hl [] rfl)
          · replace h := iq c_17 h
            refine lv_aload_n F.1 F.2.1 d_Model_wants_74 rfl (lv_at hl 0 rfl) ?_
            refine mg_0_60 F hK hw lk_1071 d_Model_wants_75 ?_
            refine lv_aload_n F.1 F.2.1 d_Model_wants_78 rfl (lv_at hl 0 rfl) ?_
            refine mg_0_48 F hK hw lk_1059 d_Model_wants_79 ?_
            refine lv_aload_n F.1 F.2.1 d_Model_wants_82 rfl (lv_at hl 0 rfl) ?_
            refine mg_0_55 F hK hw lk_1066 d_Model_wants_83 ?_
            refine lv_iload_n F.1 F.2.1 d_Model_wants_86 rfl (lv_at hl 1 rfl) ?_
            obtain ⟨hi_18, h⟩ := gd_ex h
            refine ml_0_55 F hK hw hi_18 d_Model_wants_87 ?_
            obtain ⟨hi_19, h⟩ := gd_ex h
            refine ml_0_48 F hK hw hi_19 d_Model_wants_88 ?_
            refine lv_aload_n F.1 F.2.1 d_Model_wants_89 rfl (lv_at hl 0 rfl) ?_
            refine mg_0_62 F hK hw lk_1073 d_Model_wants_90 ?_
            refine lv_iand F.1 F.2.1 d_Model_wants_93 ?_
            refine lv_iload_n F.1 F.2.1 d_Model_wants_94 rfl (lv_at hl 1 rfl) ?_
            obtain ⟨hi_20, h⟩ := gd_ex h
            obtain ⟨S_21, eS_21, h⟩ := nm_ex h
            refine ms_0_60 F hK hw hi_20 d_Model_wants_95 eS_21 (fun H locs hw => ?_)
            obtain ⟨x2_22, ex2_22, h⟩ := nm_ex h
            refine lv_iinc (v := x2_22) (lv' := [(2, .int x2_22), (0, .ref (ad 0 0))]) F.1 F.2.1 d_Model_wants_96 hl (k := 1) rfl (by rw [ex2_22]; rfl) (by decide) rfl (fun ls hl => ?_)
            refine lv_goto (tgt := 66) F.1 F.2.1 d_Model_wants_99 (by decide) ?_
            cases h
            have ho : P_66 _ := ho
            rw [eP_66] at ho
            exact ho H locs ls hw (lv_sub hl [1, 0] rfl)
        rw [eP_66] at hL_66
        exact hL_66 H locs ls hw (lv_sub hl [1, 0] rfl)
      obtain ⟨P_44, eP_44⟩ : ∃ P : (St × Int32) → Prop, P = (fun q => ∀ (H : Heap) (locs : List Loc) (ls : Array Slot), Bw mw D ar A s.heap H locs ad q.1 → lv_has ls 3 [(0, .ref (ad 0 0)), (2, .int q.2)] → W p l e (RM 2 45) s m args below meth c H locs 0 0 Q (F0 m 44 ls [])) := ⟨_, rfl⟩
      have hL_44 : P_44 (S_10, (0 : Int32)) := by
        refine wh_gp (P := P_44) (X := X_44) hc_16 hX_44 ?_
        clear h
        intro q o h ho
        obtain ⟨S, x2⟩ := q
        have h : Model_wants_l44 S x2 = some o := h
        unfold Model_wants_l44 at h
        rw [eP_44]
        intro H locs ls hw hl
        refine lv_iload_n F.1 F.2.1 d_Model_wants_44 rfl (lv_at hl 1 rfl) ?_
        refine lv_sipush (v := 256) F.1 F.2.1 d_Model_wants_45 (by decide) ?_
        refine lv_icmp_ge (tgt := 64) F.1 F.2.1 d_Model_wants_48 (by decide) (fun c_11 => ?_) (fun c_11 => ?_)
        · replace h := ip c_11 h
          cases h
          have ho : X_44 _ := ho
          rw [eX_44] at ho
          exact ho H locs ls hw (lv_sub hl [0] rfl)
        · replace h := iq c_11 h
          refine lv_aload_n F.1 F.2.1 d_Model_wants_51 rfl (lv_at hl 0 rfl) ?_
          refine mg_0_60 F hK hw lk_1071 d_Model_wants_52 ?_
          refine lv_iload_n F.1 F.2.1 d_Model_wants_55 rfl (lv_at hl 1 rfl) ?_
          refine lv_iconst (v := -1) F.1 F.2.1 d_Model_wants_56 (by decide) ?_
          obtain ⟨hi_12, h⟩ := gd_ex h
          obtain ⟨S_13, eS_13, h⟩ := nm_ex h
          refine ms_0_60 F hK hw hi_12 d_Model_wants_57 eS_13 (fun H locs hw => ?_)
          obtain ⟨x2_14, ex2_14, h⟩ := nm_ex h
          refine lv_iinc (v := x2_14) (lv' := [(2, .int x2_14), (0, .ref (ad 0 0))]) F.1 F.2.1 d_Model_wants_58 hl (k := 1) rfl (by rw [ex2_14]; rfl) (by decide) rfl (fun ls hl => ?_)
          refine lv_goto (tgt := 44) F.1 F.2.1 d_Model_wants_61 (by decide) ?_
          cases h
          have ho : P_44 _ := ho
          rw [eP_44] at ho
          exact ho H locs ls hw (lv_sub hl [1, 0] rfl)
      rw [eP_44] at hL_44
      exact hL_44 H locs ls hw (lv_sub hl [1, 0] rfl)
    obtain ⟨P_4, eP_4⟩ : ∃ P : (Int32 × Int32) → Prop, P = (fun q => ∀ (H : Heap) (locs : List Loc) (ls : Array Slot), Bw mw D ar A s.heap H locs ad S → lv_has ls 3 [(0, .ref (ad 0 0)), (1, .int q.1), (2, .int q.2)] → W p l e (RM 2 45) s m args below meth c H locs 0 0 Q (F0 m 4 ls [])) := ⟨_, rfl⟩
    have hL_4 : P_4 ((0 : Int32), (0 : Int32)) := by
      refine wh_gp (P := P_4) (X := X_4) hc_7 hX_4 ?_
      clear h
      intro q o h ho
      obtain ⟨x1, x2⟩ := q
      have h : Model_wants_l4 S x1 x2 = some o := h
      unfold Model_wants_l4 at h
      rw [eP_4]
      intro H locs ls hw hl
      refine lv_iload_n F.1 F.2.1 d_Model_wants_4 rfl (lv_at hl 2 rfl) ?_
      refine lv_aload_n F.1 F.2.1 d_Model_wants_5 rfl (lv_at hl 0 rfl) ?_
      refine mg_0_54 F hK hw lk_1065 d_Model_wants_6 ?_
      refine lv_icmp_ge (tgt := 32) F.1 F.2.1 d_Model_wants_9 (by decide) (fun c_1 => ?_) (fun c_1 => ?_)
      · replace h := ip c_1 h
        cases h
        have ho : X_4 _ := ho
        rw [eX_4] at ho
        exact ho H locs ls hw (lv_sub hl [0, 1] rfl)
      · replace h := iq c_1 h
        refine lv_iload_n F.1 F.2.1 d_Model_wants_12 rfl (lv_at hl 1 rfl) ?_
        refine lv_aload_n F.1 F.2.1 d_Model_wants_13 rfl (lv_at hl 0 rfl) ?_
        refine mg_0_48 F hK hw lk_1059 d_Model_wants_14 ?_
        refine lv_aload_n F.1 F.2.1 d_Model_wants_17 rfl (lv_at hl 0 rfl) ?_
        refine mg_0_55 F hK hw lk_1066 d_Model_wants_18 ?_
        refine lv_iload_n F.1 F.2.1 d_Model_wants_21 rfl (lv_at hl 2 rfl) ?_
        obtain ⟨hi_2, h⟩ := gd_ex h
        refine ml_0_55 F hK hw hi_2 d_Model_wants_22 ?_
        obtain ⟨hi_3, h⟩ := gd_ex h
        refine ml_0_48 F hK hw hi_3 d_Model_wants_23 ?_
        refine lv_ior F.1 F.2.1 d_Model_wants_24 ?_
        obtain ⟨x1_4, ex1_4, h⟩ := nm_ex h
        refine lv_nm ex1_4 ?_
        refine lv_istore_n (lv' := [(1, .int x1_4), (0, .ref (ad 0 0)), (2, .int x2)]) F.1 F.2.1 d_Model_wants_25 rfl hl (by decide) rfl (fun ls hl => ?_)
        obtain ⟨x2_5, ex2_5, h⟩ := nm_ex h
        refine lv_iinc (v := x2_5) (lv' := [(2, .int x2_5), (1, .int x1_4), (0, .ref (ad 0 0))]) F.1 F.2.1 d_Model_wants_26 hl (k := 2) rfl (by rw [ex2_5]; rfl) (by decide) rfl (fun ls hl => ?_)
        refine lv_goto (tgt := 4) F.1 F.2.1 d_Model_wants_29 (by decide) ?_
        cases h
        have ho : P_4 _ := ho
        rw [eP_4] at ho
        exact ho H locs ls hw (lv_sub hl [2, 1, 0] rfl)
    rw [eP_4] at hL_4
    exact hL_4 H locs ls hw (lv_sub hl [2, 1, 0] rfl)
  exact key _ _ hw _ h (by rw [eX_0]; exact fun H locs pc ls hd hw => hQ H locs pc ls ad rfl hd hw)
theorem d_Model_need_0 : decode b_Model_need 0 = .ok (.iconst 0, 1) := by decide +kernel
theorem d_Model_need_1 : decode b_Model_need 1 = .ok (.istore_n 3, 1) := by decide +kernel
theorem d_Model_need_2 : decode b_Model_need 2 = .ok (.iload_n 3, 1) := by decide +kernel
theorem d_Model_need_3 : decode b_Model_need 3 = .ok (.sipush 256, 3) := by decide +kernel
theorem d_Model_need_6 : decode b_Model_need 6 = .ok (.if_icmp .ge 25, 3) := by decide +kernel
theorem d_Model_need_9 : decode b_Model_need 9 = .ok (.aload_n 0, 1) := by decide +kernel
theorem d_Model_need_10 : decode b_Model_need 10 = .ok (.getfield 138, 3) := by decide +kernel
theorem d_Model_need_13 : decode b_Model_need 13 = .ok (.iload_n 3, 1) := by decide +kernel
theorem d_Model_need_14 : decode b_Model_need 14 = .ok (.iload_n 3, 1) := by decide +kernel
theorem d_Model_need_15 : decode b_Model_need 15 = .ok (.ifCond .ne 7, 3) := by decide +kernel
theorem d_Model_need_18 : decode b_Model_need 18 = .ok (.iconst 0, 1) := by decide +kernel
theorem d_Model_need_19 : decode b_Model_need 19 = .ok (.goto 5, 3) := by decide +kernel
theorem d_Model_need_22 : decode b_Model_need 22 = .ok (.bipush 9, 2) := by decide +kernel
theorem d_Model_need_24 : decode b_Model_need 24 = .ok (.iastore, 1) := by decide +kernel
theorem d_Model_need_25 : decode b_Model_need 25 = .ok (.iinc 3 1, 3) := by decide +kernel
theorem d_Model_need_28 : decode b_Model_need 28 = .ok (.goto (-26), 3) := by decide +kernel
theorem d_Model_need_31 : decode b_Model_need 31 = .ok (.iconst 1, 1) := by decide +kernel
theorem d_Model_need_32 : decode b_Model_need 32 = .ok (.istore_n 3, 1) := by decide +kernel
theorem d_Model_need_33 : decode b_Model_need 33 = .ok (.iload_n 3, 1) := by decide +kernel
theorem d_Model_need_34 : decode b_Model_need 34 = .ok (.sipush 256, 3) := by decide +kernel
theorem d_Model_need_37 : decode b_Model_need 37 = .ok (.if_icmp .ge 96, 3) := by decide +kernel
theorem d_Model_need_40 : decode b_Model_need 40 = .ok (.iload_n 3, 1) := by decide +kernel
theorem d_Model_need_41 : decode b_Model_need 41 = .ok (.iload_n 1, 1) := by decide +kernel
theorem d_Model_need_42 : decode b_Model_need 42 = .ok (.iconst (-1), 1) := by decide +kernel
theorem d_Model_need_43 : decode b_Model_need 43 = .ok (.ixor, 1) := by decide +kernel
theorem d_Model_need_44 : decode b_Model_need 44 = .ok (.iand, 1) := by decide +kernel
theorem d_Model_need_45 : decode b_Model_need 45 = .ok (.ifCond .eq 6, 3) := by decide +kernel
theorem d_Model_need_48 : decode b_Model_need 48 = .ok (.goto 79, 3) := by decide +kernel
theorem d_Model_need_51 : decode b_Model_need 51 = .ok (.iconst 1, 1) := by decide +kernel
theorem d_Model_need_52 : decode b_Model_need 52 = .ok (.istore 4, 2) := by decide +kernel
theorem d_Model_need_54 : decode b_Model_need 54 = .ok (.iload 4, 2) := by decide +kernel
theorem d_Model_need_56 : decode b_Model_need 56 = .ok (.sipush 256, 3) := by decide +kernel
theorem d_Model_need_59 : decode b_Model_need 59 = .ok (.if_icmp .ge 68, 3) := by decide +kernel
theorem d_Model_need_62 : decode b_Model_need 62 = .ok (.aload_n 0, 1) := by decide +kernel
theorem d_Model_need_63 : decode b_Model_need 63 = .ok (.getfield 135, 3) := by decide +kernel
theorem d_Model_need_66 : decode b_Model_need 66 = .ok (.iload 4, 2) := by decide +kernel
theorem d_Model_need_68 : decode b_Model_need 68 = .ok (.iaload, 1) := by decide +kernel
theorem d_Model_need_69 : decode b_Model_need 69 = .ok (.iload_n 2, 1) := by decide +kernel
theorem d_Model_need_70 : decode b_Model_need 70 = .ok (.if_icmp .le 51, 3) := by decide +kernel
theorem d_Model_need_73 : decode b_Model_need 73 = .ok (.iload 4, 2) := by decide +kernel
theorem d_Model_need_75 : decode b_Model_need 75 = .ok (.iload_n 3, 1) := by decide +kernel
theorem d_Model_need_76 : decode b_Model_need 76 = .ok (.iand, 1) := by decide +kernel
theorem d_Model_need_77 : decode b_Model_need 77 = .ok (.ifCond .eq 44, 3) := by decide +kernel
theorem d_Model_need_80 : decode b_Model_need 80 = .ok (.aload_n 0, 1) := by decide +kernel
theorem d_Model_need_81 : decode b_Model_need 81 = .ok (.getfield 138, 3) := by decide +kernel
theorem d_Model_need_84 : decode b_Model_need 84 = .ok (.iload_n 3, 1) := by decide +kernel
theorem d_Model_need_85 : decode b_Model_need 85 = .ok (.iload 4, 2) := by decide +kernel
theorem d_Model_need_87 : decode b_Model_need 87 = .ok (.iconst (-1), 1) := by decide +kernel
theorem d_Model_need_88 : decode b_Model_need 88 = .ok (.ixor, 1) := by decide +kernel
theorem d_Model_need_89 : decode b_Model_need 89 = .ok (.iand, 1) := by decide +kernel
theorem d_Model_need_90 : decode b_Model_need 90 = .ok (.iaload, 1) := by decide +kernel
theorem d_Model_need_91 : decode b_Model_need 91 = .ok (.iconst 1, 1) := by decide +kernel
theorem d_Model_need_92 : decode b_Model_need 92 = .ok (.iadd, 1) := by decide +kernel
theorem d_Model_need_93 : decode b_Model_need 93 = .ok (.aload_n 0, 1) := by decide +kernel
theorem d_Model_need_94 : decode b_Model_need 94 = .ok (.getfield 138, 3) := by decide +kernel
theorem d_Model_need_97 : decode b_Model_need 97 = .ok (.iload_n 3, 1) := by decide +kernel
theorem d_Model_need_98 : decode b_Model_need 98 = .ok (.iaload, 1) := by decide +kernel
theorem d_Model_need_99 : decode b_Model_need 99 = .ok (.if_icmp .ge 22, 3) := by decide +kernel
theorem d_Model_need_102 : decode b_Model_need 102 = .ok (.aload_n 0, 1) := by decide +kernel
theorem d_Model_need_103 : decode b_Model_need 103 = .ok (.getfield 138, 3) := by decide +kernel
theorem d_Model_need_106 : decode b_Model_need 106 = .ok (.iload_n 3, 1) := by decide +kernel
theorem d_Model_need_107 : decode b_Model_need 107 = .ok (.aload_n 0, 1) := by decide +kernel
theorem d_Model_need_108 : decode b_Model_need 108 = .ok (.getfield 138, 3) := by decide +kernel
theorem d_Model_need_111 : decode b_Model_need 111 = .ok (.iload_n 3, 1) := by decide +kernel
theorem d_Model_need_112 : decode b_Model_need 112 = .ok (.iload 4, 2) := by decide +kernel
theorem d_Model_need_114 : decode b_Model_need 114 = .ok (.iconst (-1), 1) := by decide +kernel
theorem d_Model_need_115 : decode b_Model_need 115 = .ok (.ixor, 1) := by decide +kernel
theorem d_Model_need_116 : decode b_Model_need 116 = .ok (.iand, 1) := by decide +kernel
theorem d_Model_need_117 : decode b_Model_need 117 = .ok (.iaload, 1) := by decide +kernel
theorem d_Model_need_118 : decode b_Model_need 118 = .ok (.iconst 1, 1) := by decide +kernel
theorem d_Model_need_119 : decode b_Model_need 119 = .ok (.iadd, 1) := by decide +kernel
theorem d_Model_need_120 : decode b_Model_need 120 = .ok (.iastore, 1) := by decide +kernel
theorem d_Model_need_121 : decode b_Model_need 121 = .ok (.iinc 4 1, 3) := by decide +kernel
theorem d_Model_need_124 : decode b_Model_need 124 = .ok (.goto (-70), 3) := by decide +kernel
theorem d_Model_need_127 : decode b_Model_need 127 = .ok (.iinc 3 1, 3) := by decide +kernel
theorem d_Model_need_130 : decode b_Model_need 130 = .ok (.goto (-97), 3) := by decide +kernel
theorem d_Model_need_133 : decode b_Model_need 133 = .ok (.aload_n 0, 1) := by decide +kernel
theorem d_Model_need_134 : decode b_Model_need 134 = .ok (.getfield 138, 3) := by decide +kernel
theorem d_Model_need_137 : decode b_Model_need 137 = .ok (.iload_n 1, 1) := by decide +kernel
theorem d_Model_need_138 : decode b_Model_need 138 = .ok (.iaload, 1) := by decide +kernel
theorem d_Model_need_139 : decode b_Model_need 139 = .ok (.ireturn, 1) := by decide +kernel
set_option maxHeartbeats 4000000 in
set_option maxRecDepth 100000 in
theorem c_Model_need (l : Launch) {S : St} {x1 : Int32} {x2 : Int32} {S' : St} {r : Int32} (h : f_Model_need S x1 x2 = some (r, S')) : MI mw l y_Model_need b_Model_need 5 (some .int) 0 0 0 0 (fun ad => [.ref (ad 0 0), .int x1, .int x2]) aT aE S r S' := by
  refine MI_of "LawfulLotsModel" rfl (by decide) (fun _ => Nat.le_of_ble_eq_true rfl) ?_
  intro p e s m args below meth c D ar ad A Q ls hP F hK hA hw hl hQ
  have hl : lv_has ls 5 [(0, .ref (ad 0 0)), (1, .int x1), (2, .int x2)] := hl
  obtain ⟨X_0, eX_0⟩ : ∃ X : (Int32 × St) → Prop, X = (fun q => ∀ (H : Heap) (locs : List Loc) (pc : Nat) (ls : Array Slot), decode b_Model_need pc = .ok (.ireturn, 1) → Bw mw D ar A s.heap H locs ad q.2 → W p l e (RM 0 0) s m args below meth c H locs 0 0 Q (F0 m pc ls [.int q.1])) := ⟨_, rfl⟩
  have key : ∀ (H : Heap) (locs : List Loc), Bw mw D ar A s.heap H locs ad S → ∀ o, f_Model_need S x1 x2 = some o → X_0 o → W p l e (RM 0 0) s m args below meth c H locs 0 0 Q (F0 m 0 ls []) := by
    intro H locs hw o h ho
    unfold f_Model_need at h
    refine lv_iconst (v := 0) F.1 F.2.1 d_Model_need_0 (by decide) ?_
    refine lv_istore_n (lv' := [(3, .int (0 : Int32)), (0, .ref (ad 0 0)), (1, .int x1), (2, .int x2)]) F.1 F.2.1 d_Model_need_1 rfl hl (by decide) rfl (fun ls hl => ?_)
    obtain ⟨S_6, hc_7, h⟩ := bd_ex h
    obtain ⟨X_2, eX_2⟩ : ∃ X : St → Prop, X = (fun q => ∀ (H : Heap) (locs : List Loc) (ls : Array Slot), Bw mw D ar A s.heap H locs ad q → lv_has ls 5 [(0, .ref (ad 0 0)), (1, .int x1), (2, .int x2)] → W p l e (RM 0 0) s m args below meth c H locs 0 0 Q (F0 m 31 ls [])) := ⟨_, rfl⟩
    have hX_2 : X_2 S_6 := by
      rw [eX_2]
      intro H locs ls hw hl
      refine lv_iconst (v := 1) F.1 F.2.1 d_Model_need_31 (by decide) ?_
      refine lv_istore_n (lv' := [(3, .int (1 : Int32)), (0, .ref (ad 0 0)), (1, .int x1), (2, .int x2)]) F.1 F.2.1 d_Model_need_32 rfl hl (by decide) rfl (fun ls hl => ?_)
      obtain ⟨S_24, hc_25, h⟩ := bd_ex h
      obtain ⟨X_33, eX_33⟩ : ∃ X : St → Prop, X = (fun q => ∀ (H : Heap) (locs : List Loc) (ls : Array Slot), Bw mw D ar A s.heap H locs ad q → lv_has ls 5 [(0, .ref (ad 0 0)), (1, .int x1)] → W p l e (RM 0 0) s m args below meth c H locs 0 0 Q (F0 m 133 ls [])) := ⟨_, rfl⟩
      have hX_33 : X_33 S_24 := by
        rw [eX_33]
        intro H locs ls hw hl
        refine lv_aload_n F.1 F.2.1 d_Model_need_133 rfl (lv_at hl 0 rfl) ?_
        refine mg_0_61 F hK hw lk_1072 d_Model_need_134 ?_
        refine lv_iload_n F.1 F.2.1 d_Model_need_137 rfl (lv_at hl 1 rfl) ?_
        obtain ⟨hi_26, h⟩ := gd_ex h
        refine ml_0_61 F hK hw hi_26 d_Model_need_138 ?_
        cases h
        have ho : X_0 _ := ho
        rw [eX_0] at ho
        exact ho H locs _ ls d_Model_need_139 hw
      obtain ⟨P_33, eP_33⟩ : ∃ P : (St × Int32) → Prop, P = (fun q => ∀ (H : Heap) (locs : List Loc) (ls : Array Slot), Bw mw D ar A s.heap H locs ad q.1 → lv_has ls 5 [(0, .ref (ad 0 0)), (1, .int x1), (2, .int x2), (3, .int q.2)] → W p l e (RM 0 0) s m args below meth c H locs 0 0 Q (F0 m 33 ls [])) := ⟨_, rfl⟩
      have hL_33 : P_33 (S_6, (1 : Int32)) := by
        refine wh_gp (P := P_33) (X := X_33) hc_25 hX_33 ?_
        clear h
        intro q o h ho
        obtain ⟨S, x3⟩ := q
        have h : Model_need_l33 x1 x2 S x3 = some o := h
        unfold Model_need_l33 at h
        rw [eP_33]
        intro H locs ls hw hl
        have J_127_l33 : ∀ (S : St) (x3 : Int32) (H : Heap) (locs : List Loc) (ls : Array Slot), Bw mw D ar A s.heap H locs ad S → lv_has ls 5 [(0, .ref (ad 0 0)), (1, .int x1), (2, .int x2), (3, .int x3)] → ∀ o, Model_need_j127_l33 S x1 x2 x3 = some o → (Sum.elim P_33 X_33) o → W p l e (RM 0 0) s m args below meth c H locs 0 0 Q (F0 m 127 ls []) := by
          intro S x3 H locs ls hw hl o h ho
          unfold Model_need_j127_l33 at h
          obtain ⟨x3_23, ex3_23, h⟩ := nm_ex h
          refine lv_iinc (v := x3_23) (lv' := [(3, .int x3_23), (0, .ref (ad 0 0)), (1, .int x1), (2, .int x2)]) F.1 F.2.1 d_Model_need_127 hl (k := 3) rfl (by rw [ex3_23]; rfl) (by decide) rfl (fun ls hl => ?_)
          refine lv_goto (tgt := 33) F.1 F.2.1 d_Model_need_130 (by decide) ?_
          cases h
          have ho : P_33 _ := ho
          rw [eP_33] at ho
          exact ho H locs ls hw (lv_sub hl [1, 2, 3, 0] rfl)
        refine lv_iload_n F.1 F.2.1 d_Model_need_33 rfl (lv_at hl 3 rfl) ?_
        refine lv_sipush (v := 256) F.1 F.2.1 d_Model_need_34 (by decide) ?_
        refine lv_icmp_ge (tgt := 133) F.1 F.2.1 d_Model_need_37 (by decide) (fun c_8 => ?_) (fun c_8 => ?_)
        · replace h := ip c_8 h
          cases h
          have ho : X_33 _ := ho
          rw [eX_33] at ho
          exact ho H locs ls hw (lv_sub hl [0, 1] rfl)
        · replace h := iq c_8 h
          refine lv_iload_n F.1 F.2.1 d_Model_need_40 rfl (lv_at hl 3 rfl) ?_
          refine lv_iload_n F.1 F.2.1 d_Model_need_41 rfl (lv_at hl 1 rfl) ?_
          refine lv_iconst (v := -1) F.1 F.2.1 d_Model_need_42 (by decide) ?_
          refine lv_ixor F.1 F.2.1 d_Model_need_43 ?_
          refine lv_iand F.1 F.2.1 d_Model_need_44 ?_
          refine lv_if_eq (tgt := 51) F.1 F.2.1 d_Model_need_45 (by decide) (fun c_9 => ?_) (fun c_9 => ?_)
          · replace h := ip c_9 h
            refine lv_iconst (v := 1) F.1 F.2.1 d_Model_need_51 (by decide) ?_
            refine lv_istore (lv' := [(4, .int (1 : Int32)), (0, .ref (ad 0 0)), (1, .int x1), (2, .int x2), (3, .int x3)]) F.1 F.2.1 d_Model_need_52 hl (by decide) rfl (fun ls hl => ?_)
            obtain ⟨S_21, hc_22, h⟩ := bd_ex h
            obtain ⟨X_54, eX_54⟩ : ∃ X : St → Prop, X = (fun q => ∀ (H : Heap) (locs : List Loc) (ls : Array Slot), Bw mw D ar A s.heap H locs ad q → lv_has ls 5 [(0, .ref (ad 0 0)), (1, .int x1), (2, .int x2), (3, .int x3)] → W p l e (RM 0 0) s m args below meth c H locs 0 0 Q (F0 m 127 ls [])) := ⟨_, rfl⟩
            have hX_54 : X_54 S_21 := by
              rw [eX_54]
              intro H locs ls hw hl
              exact J_127_l33 S_21 x3 H locs ls hw (lv_sub hl [0, 1, 2, 3] rfl) o h ho
            obtain ⟨P_54, eP_54⟩ : ∃ P : (St × Int32) → Prop, P = (fun q => ∀ (H : Heap) (locs : List Loc) (ls : Array Slot), Bw mw D ar A s.heap H locs ad q.1 → lv_has ls 5 [(0, .ref (ad 0 0)), (1, .int x1), (2, .int x2), (3, .int x3), (4, .int q.2)] → W p l e (RM 0 0) s m args below meth c H locs 0 0 Q (F0 m 54 ls [])) := ⟨_, rfl⟩
            have hL_54 : P_54 (S, (1 : Int32)) := by
              refine wh_gp (P := P_54) (X := X_54) hc_22 hX_54 ?_
              clear h
              intro q o h ho
              obtain ⟨S, x4⟩ := q
              have h : Model_need_l54 x1 x2 x3 S x4 = some o := h
              unfold Model_need_l54 at h
              rw [eP_54]
              intro H locs ls hw hl
              have J_121_l54 : ∀ (S : St) (x4 : Int32) (H : Heap) (locs : List Loc) (ls : Array Slot), Bw mw D ar A s.heap H locs ad S → lv_has ls 5 [(0, .ref (ad 0 0)), (1, .int x1), (2, .int x2), (3, .int x3), (4, .int x4)] → ∀ o, Model_need_j121_l54 S x1 x2 x3 x4 = some o → (Sum.elim P_54 X_54) o → W p l e (RM 0 0) s m args below meth c H locs 0 0 Q (F0 m 121 ls []) := by
                intro S x4 H locs ls hw hl o h ho
                unfold Model_need_j121_l54 at h
                obtain ⟨x4_20, ex4_20, h⟩ := nm_ex h
                refine lv_iinc (v := x4_20) (lv' := [(4, .int x4_20), (0, .ref (ad 0 0)), (1, .int x1), (2, .int x2), (3, .int x3)]) F.1 F.2.1 d_Model_need_121 hl (k := 4) rfl (by rw [ex4_20]; rfl) (by decide) rfl (fun ls hl => ?_)
                refine lv_goto (tgt := 54) F.1 F.2.1 d_Model_need_124 (by decide) ?_
                cases h
                have ho : P_54 _ := ho
                rw [eP_54] at ho
                exact ho H locs ls hw (lv_sub hl [1, 2, 3, 4, 0] rfl)
              refine lv_iload F.1 F.2.1 d_Model_need_54 (lv_at hl 4 rfl) ?_
              refine lv_sipush (v := 256) F.1 F.2.1 d_Model_need_56 (by decide) ?_
              refine lv_icmp_ge (tgt := 127) F.1 F.2.1 d_Model_need_59 (by decide) (fun c_10 => ?_) (fun c_10 => ?_)
              · replace h := ip c_10 h
                cases h
                have ho : X_54 _ := ho
                rw [eX_54] at ho
                exact ho H locs ls hw (lv_sub hl [0, 1, 2, 3] rfl)
              · replace h := iq c_10 h
                refine lv_aload_n F.1 F.2.1 d_Model_need_62 rfl (lv_at hl 0 rfl) ?_
                refine mg_0_60 F hK hw lk_1071 d_Model_need_63 ?_
                refine lv_iload F.1 F.2.1 d_Model_need_66 (lv_at hl 4 rfl) ?_
                obtain ⟨hi_11, h⟩ := gd_ex h
                refine ml_0_60 F hK hw hi_11 d_Model_need_68 ?_
                refine lv_iload_n F.1 F.2.1 d_Model_need_69 rfl (lv_at hl 2 rfl) ?_
                refine lv_icmp_le (tgt := 121) F.1 F.2.1 d_Model_need_70 (by decide) (fun c_12 => ?_) (fun c_12 => ?_)
                · replace h := ip c_12 h
                  exact J_121_l54 S x4 H locs ls hw (lv_sub hl [0, 1, 2, 3, 4] rfl) o h ho
                · replace h := iq c_12 h
                  refine lv_iload F.1 F.2.1 d_Model_need_73 (lv_at hl 4 rfl) ?_
                  refine lv_iload_n F.1 F.2.1 d_Model_need_75 rfl (lv_at hl 3 rfl) ?_
                  refine lv_iand F.1 F.2.1 d_Model_need_76 ?_
                  refine lv_if_eq (tgt := 121) F.1 F.2.1 d_Model_need_77 (by decide) (fun c_13 => ?_) (fun c_13 => ?_)
                  · replace h := ip c_13 h
                    exact J_121_l54 S x4 H locs ls hw (lv_sub hl [0, 1, 2, 3, 4] rfl) o h ho
                  · replace h := iq c_13 h
                    refine lv_aload_n F.1 F.2.1 d_Model_need_80 rfl (lv_at hl 0 rfl) ?_
                    refine mg_0_61 F hK hw lk_1072 d_Model_need_81 ?_
                    refine lv_iload_n F.1 F.2.1 d_Model_need_84 rfl (lv_at hl 3 rfl) ?_
                    refine lv_iload F.1 F.2.1 d_Model_need_85 (lv_at hl 4 rfl) ?_
                    refine lv_iconst (v := -1) F.1 F.2.1 d_Model_need_87 (by decide) ?_
                    refine lv_ixor F.1 F.2.1 d_Model_need_88 ?_
                    refine lv_iand F.1 F.2.1 d_Model_need_89 ?_
                    obtain ⟨hi_14, h⟩ := gd_ex h
                    refine ml_0_61 F hK hw hi_14 d_Model_need_90 ?_
                    refine lv_iconst (v := 1) F.1 F.2.1 d_Model_need_91 (by decide) ?_
                    refine lv_iadd F.1 F.2.1 d_Model_need_92 ?_
                    refine lv_aload_n F.1 F.2.1 d_Model_need_93 rfl (lv_at hl 0 rfl) ?_
                    refine mg_0_61 F hK hw lk_1072 d_Model_need_94 ?_
                    refine lv_iload_n F.1 F.2.1 d_Model_need_97 rfl (lv_at hl 3 rfl) ?_
                    obtain ⟨hi_15, h⟩ := gd_ex h
                    refine ml_0_61 F hK hw hi_15 d_Model_need_98 ?_
                    refine lv_icmp_ge (tgt := 121) F.1 F.2.1 d_Model_need_99 (by decide) (fun c_16 => ?_) (fun c_16 => ?_)
                    · replace h := ip c_16 h
                      exact J_121_l54 S x4 H locs ls hw (lv_sub hl [0, 1, 2, 3, 4] rfl) o h ho
                    · replace h := iq c_16 h
                      refine lv_aload_n F.1 F.2.1 d_Model_need_102 rfl (lv_at hl 0 rfl) ?_
                      refine mg_0_61 F hK hw lk_1072 d_Model_need_103 ?_
                      refine lv_iload_n F.1 F.2.1 d_Model_need_106 rfl (lv_at hl 3 rfl) ?_
                      refine lv_aload_n F.1 F.2.1 d_Model_need_107 rfl (lv_at hl 0 rfl) ?_
                      refine mg_0_61 F hK hw lk_1072 d_Model_need_108 ?_
                      refine lv_iload_n F.1 F.2.1 d_Model_need_111 rfl (lv_at hl 3 rfl) ?_
                      refine lv_iload F.1 F.2.1 d_Model_need_112 (lv_at hl 4 rfl) ?_
                      refine lv_iconst (v := -1) F.1 F.2.1 d_Model_need_114 (by decide) ?_
                      refine lv_ixor F.1 F.2.1 d_Model_need_115 ?_
                      refine lv_iand F.1 F.2.1 d_Model_need_116 ?_
                      obtain ⟨hi_17, h⟩ := gd_ex h
                      refine ml_0_61 F hK hw hi_17 d_Model_need_117 ?_
                      refine lv_iconst (v := 1) F.1 F.2.1 d_Model_need_118 (by decide) ?_
                      refine lv_iadd F.1 F.2.1 d_Model_need_119 ?_
                      obtain ⟨hi_18, h⟩ := gd_ex h
                      obtain ⟨S_19, eS_19, h⟩ := nm_ex h
                      refine ms_0_61 F hK hw hi_18 d_Model_need_120 eS_19 (fun H locs hw => ?_)
                      exact J_121_l54 S_19 x4 H locs ls hw (lv_sub hl [0, 1, 2, 3, 4] rfl) o h ho
            rw [eP_54] at hL_54
            exact hL_54 H locs ls hw (lv_sub hl [1, 2, 3, 4, 0] rfl)
          · replace h := iq c_9 h
            refine lv_goto (tgt := 127) F.1 F.2.1 d_Model_need_48 (by decide) ?_
            exact J_127_l33 S x3 H locs ls hw (lv_sub hl [0, 1, 2, 3] rfl) o h ho
      rw [eP_33] at hL_33
      exact hL_33 H locs ls hw (lv_sub hl [1, 2, 3, 0] rfl)
    obtain ⟨P_2, eP_2⟩ : ∃ P : (St × Int32) → Prop, P = (fun q => ∀ (H : Heap) (locs : List Loc) (ls : Array Slot), Bw mw D ar A s.heap H locs ad q.1 → lv_has ls 5 [(0, .ref (ad 0 0)), (1, .int x1), (2, .int x2), (3, .int q.2)] → W p l e (RM 0 0) s m args below meth c H locs 0 0 Q (F0 m 2 ls [])) := ⟨_, rfl⟩
    have hL_2 : P_2 (S, (0 : Int32)) := by
      refine wh_gp (P := P_2) (X := X_2) hc_7 hX_2 ?_
      clear h
      intro q o h ho
      obtain ⟨S, x3⟩ := q
      have h : Model_need_l2 x1 x2 S x3 = some o := h
      unfold Model_need_l2 at h
      rw [eP_2]
      intro H locs ls hw hl
      have J_24_l2 : ∀ (S : St) (x3 : Int32) (t1 : Int32) (t2 : Int32) (H : Heap) (locs : List Loc) (ls : Array Slot), Bw mw D ar A s.heap H locs ad S → lv_has ls 5 [(0, .ref (ad 0 0)), (1, .int x1), (2, .int x2), (3, .int x3)] → ∀ o, Model_need_j24_l2 S x1 x2 x3 t1 t2 = some o → (Sum.elim P_2 X_2) o → W p l e (RM 0 0) s m args below meth c H locs 0 0 Q (F0 m 24 ls [.int t2, .int t1, .ref (ad 0 62)]) := by
        intro S x3 t1 t2 H locs ls hw hl o h ho
        unfold Model_need_j24_l2 at h
        obtain ⟨hi_3, h⟩ := gd_ex h
        obtain ⟨S_4, eS_4, h⟩ := nm_ex h
        refine ms_0_61 F hK hw hi_3 d_Model_need_24 eS_4 (fun H locs hw => ?_)
        obtain ⟨x3_5, ex3_5, h⟩ := nm_ex h
        refine lv_iinc (v := x3_5) (lv' := [(3, .int x3_5), (0, .ref (ad 0 0)), (1, .int x1), (2, .int x2)]) F.1 F.2.1 d_Model_need_25 hl (k := 3) rfl (by rw [ex3_5]; rfl) (by decide) rfl (fun ls hl => ?_)
        refine lv_goto (tgt := 2) F.1 F.2.1 d_Model_need_28 (by decide) ?_
        cases h
        have ho : P_2 _ := ho
        rw [eP_2] at ho
        exact ho H locs ls hw (lv_sub hl [1, 2, 3, 0] rfl)
      refine lv_iload_n F.1 F.2.1 d_Model_need_2 rfl (lv_at hl 3 rfl) ?_
      refine lv_sipush (v := 256) F.1 F.2.1 d_Model_need_3 (by decide) ?_
      refine lv_icmp_ge (tgt := 31) F.1 F.2.1 d_Model_need_6 (by decide) (fun c_1 => ?_) (fun c_1 => ?_)
      · replace h := ip c_1 h
        cases h
        have ho : X_2 _ := ho
        rw [eX_2] at ho
        exact ho H locs ls hw (lv_sub hl [0, 1, 2] rfl)
      · replace h := iq c_1 h
        refine lv_aload_n F.1 F.2.1 d_Model_need_9 rfl (lv_at hl 0 rfl) ?_
        refine mg_0_61 F hK hw lk_1072 d_Model_need_10 ?_
        refine lv_iload_n F.1 F.2.1 d_Model_need_13 rfl (lv_at hl 3 rfl) ?_
        refine lv_iload_n F.1 F.2.1 d_Model_need_14 rfl (lv_at hl 3 rfl) ?_
        refine lv_if_ne (tgt := 22) F.1 F.2.1 d_Model_need_15 (by decide) (fun c_2 => ?_) (fun c_2 => ?_)
        · replace h := iq c_2 h
          refine lv_bipush (v := 9) F.1 F.2.1 d_Model_need_22 (by decide) ?_
          exact J_24_l2 S x3 x3 (9 : Int32) H locs ls hw (lv_sub hl [0, 1, 2, 3] rfl) o h ho
        · replace h := ip c_2 h
          refine lv_iconst (v := 0) F.1 F.2.1 d_Model_need_18 (by decide) ?_
          refine lv_goto (tgt := 24) F.1 F.2.1 d_Model_need_19 (by decide) ?_
          exact J_24_l2 S x3 x3 (0 : Int32) H locs ls hw (lv_sub hl [0, 1, 2, 3] rfl) o h ho
    rw [eP_2] at hL_2
    exact hL_2 H locs ls hw (lv_sub hl [1, 2, 3, 0] rfl)
  exact key _ _ hw _ h (by rw [eX_0]; exact fun H locs pc ls hd hw => hQ H locs pc ls ad rfl hd hw)
theorem d_Model_fill_0 : decode b_Model_fill 0 = .ok (.aload_n 0, 1) := by decide +kernel
theorem d_Model_fill_1 : decode b_Model_fill 1 = .ok (.invokevirtual 369, 3) := by decide +kernel
theorem d_Model_fill_4 : decode b_Model_fill 4 = .ok (.aload_n 0, 1) := by decide +kernel
theorem d_Model_fill_5 : decode b_Model_fill 5 = .ok (.aload_n 0, 1) := by decide +kernel
theorem d_Model_fill_6 : decode b_Model_fill 6 = .ok (.getfield 366, 3) := by decide +kernel
theorem d_Model_fill_9 : decode b_Model_fill 9 = .ok (.iconst (-1), 1) := by decide +kernel
theorem d_Model_fill_10 : decode b_Model_fill 10 = .ok (.invokevirtual 372, 3) := by decide +kernel
theorem d_Model_fill_13 : decode b_Model_fill 13 = .ok (.ireturn, 1) := by decide +kernel
set_option maxHeartbeats 4000000 in
set_option maxRecDepth 100000 in
theorem c_Model_fill (l : Launch) {S : St} {S' : St} {r : Int32} (h : f_Model_fill S = some (r, S')) : MI mw l y_Model_fill b_Model_fill 1 (some .int) 3 67 0 0 (fun ad => [.ref (ad 0 0)]) aT aE S r S' := by
  refine MI_of "LawfulLotsModel" rfl (by decide) (fun _ => Nat.le_of_ble_eq_true rfl) ?_
  intro p e s m args below meth c D ar ad A Q ls hP F hK hA hw hl hQ
  have hl : lv_has ls 1 [(0, .ref (ad 0 0))] := hl
  obtain ⟨X_0, eX_0⟩ : ∃ X : (Int32 × St) → Prop, X = (fun q => ∀ (H : Heap) (locs : List Loc) (pc : Nat) (ls : Array Slot), decode b_Model_fill pc = .ok (.ireturn, 1) → Bw mw D ar A s.heap H locs ad q.2 → W p l e (RM 3 67) s m args below meth c H locs 0 0 Q (F0 m pc ls [.int q.1])) := ⟨_, rfl⟩
  have key : ∀ (H : Heap) (locs : List Loc), Bw mw D ar A s.heap H locs ad S → ∀ o, f_Model_fill S = some o → X_0 o → W p l e (RM 3 67) s m args below meth c H locs 0 0 Q (F0 m 0 ls []) := by
    intro H locs hw o h ho
    unfold f_Model_fill at h
    refine lv_aload_n F.1 F.2.1 d_Model_fill_0 rfl (lv_at hl 0 rfl) ?_
    obtain ⟨S_2, hc_1, h⟩ := bd_ex h
    refine cV_v F hA rfl hK hw (c_Model_wants l hc_1) trivial rfl (good_V lk_1400 lk_1402 ls_81 lk_10 lk_1403) (mr_0 hK hw) hd_Model_wants ⟨Nat.le_of_ble_eq_true rfl, Nat.le_of_ble_eq_true rfl⟩ rfl hl.1 rfl (Nat.le_of_ble_eq_true rfl) d_Model_fill_1 ⟨(Nat.zero_le _), (Nat.zero_le _)⟩ (fun H locs hw => ?_)
    refine lv_aload_n F.1 F.2.1 d_Model_fill_4 rfl (lv_at hl 0 rfl) ?_
    refine lv_aload_n F.1 F.2.1 d_Model_fill_5 rfl (lv_at hl 0 rfl) ?_
    refine mg_0_62 F hK hw lk_1073 d_Model_fill_6 ?_
    refine lv_iconst (v := -1) F.1 F.2.1 d_Model_fill_9 (by decide) ?_
    obtain ⟨v_4, S_5, hc_3, h⟩ := bd2_ex h
    refine cV_i F hA rfl hK hw (c_Model_need l hc_3) trivial rfl (good_V lk_1408 lk_1410 ls_83 lk_10 lk_1411) (mr_0 hK hw) hd_Model_need ⟨Nat.le_of_ble_eq_true rfl, Nat.le_of_ble_eq_true rfl⟩ rfl hl.1 rfl (Nat.le_of_ble_eq_true rfl) d_Model_fill_10 ⟨(Nat.zero_le _), (Nat.zero_le _)⟩ (fun H locs hw => ?_)
    cases h
    have ho : X_0 _ := ho
    rw [eX_0] at ho
    exact ho H locs _ ls d_Model_fill_13 hw
  exact key _ _ hw _ h (by rw [eX_0]; exact fun H locs pc ls hd hw => hQ H locs pc ls ad rfl hd hw)
theorem d_Model_fills_0 : decode b_Model_fills 0 = .ok (.aload_n 0, 1) := by decide +kernel
theorem d_Model_fills_1 : decode b_Model_fills 1 = .ok (.invokevirtual 369, 3) := by decide +kernel
theorem d_Model_fills_4 : decode b_Model_fills 4 = .ok (.aload_n 0, 1) := by decide +kernel
theorem d_Model_fills_5 : decode b_Model_fills 5 = .ok (.aload_n 0, 1) := by decide +kernel
theorem d_Model_fills_6 : decode b_Model_fills 6 = .ok (.getfield 366, 3) := by decide +kernel
theorem d_Model_fills_9 : decode b_Model_fills 9 = .ok (.iconst (-1), 1) := by decide +kernel
theorem d_Model_fills_10 : decode b_Model_fills 10 = .ok (.invokevirtual 372, 3) := by decide +kernel
theorem d_Model_fills_13 : decode b_Model_fills 13 = .ok (.istore_n 2, 1) := by decide +kernel
theorem d_Model_fills_14 : decode b_Model_fills 14 = .ok (.iload_n 1, 1) := by decide +kernel
theorem d_Model_fills_15 : decode b_Model_fills 15 = .ok (.ifCond .lt 8, 3) := by decide +kernel
theorem d_Model_fills_18 : decode b_Model_fills 18 = .ok (.iload_n 1, 1) := by decide +kernel
theorem d_Model_fills_19 : decode b_Model_fills 19 = .ok (.iload_n 2, 1) := by decide +kernel
theorem d_Model_fills_20 : decode b_Model_fills 20 = .ok (.if_icmp .lt 5, 3) := by decide +kernel
theorem d_Model_fills_23 : decode b_Model_fills 23 = .ok (.iconst (-1), 1) := by decide +kernel
theorem d_Model_fills_24 : decode b_Model_fills 24 = .ok (.ireturn, 1) := by decide +kernel
theorem d_Model_fills_25 : decode b_Model_fills 25 = .ok (.aload_n 0, 1) := by decide +kernel
theorem d_Model_fills_26 : decode b_Model_fills 26 = .ok (.getfield 366, 3) := by decide +kernel
theorem d_Model_fills_29 : decode b_Model_fills 29 = .ok (.istore_n 3, 1) := by decide +kernel
theorem d_Model_fills_30 : decode b_Model_fills 30 = .ok (.iconst (-1), 1) := by decide +kernel
theorem d_Model_fills_31 : decode b_Model_fills 31 = .ok (.istore 4, 2) := by decide +kernel
theorem d_Model_fills_33 : decode b_Model_fills 33 = .ok (.iconst 0, 1) := by decide +kernel
theorem d_Model_fills_34 : decode b_Model_fills 34 = .ok (.istore 5, 2) := by decide +kernel
theorem d_Model_fills_36 : decode b_Model_fills 36 = .ok (.iload 5, 2) := by decide +kernel
theorem d_Model_fills_38 : decode b_Model_fills 38 = .ok (.iload_n 1, 1) := by decide +kernel
theorem d_Model_fills_39 : decode b_Model_fills 39 = .ok (.if_icmp .gt 147, 3) := by decide +kernel
theorem d_Model_fills_42 : decode b_Model_fills 42 = .ok (.iconst 0, 1) := by decide +kernel
theorem d_Model_fills_43 : decode b_Model_fills 43 = .ok (.istore 6, 2) := by decide +kernel
theorem d_Model_fills_45 : decode b_Model_fills 45 = .ok (.iload 6, 2) := by decide +kernel
theorem d_Model_fills_47 : decode b_Model_fills 47 = .ok (.sipush 256, 3) := by decide +kernel
theorem d_Model_fills_50 : decode b_Model_fills 50 = .ok (.if_icmp .ge 17, 3) := by decide +kernel
theorem d_Model_fills_53 : decode b_Model_fills 53 = .ok (.aload_n 0, 1) := by decide +kernel
theorem d_Model_fills_54 : decode b_Model_fills 54 = .ok (.getfield 144, 3) := by decide +kernel
theorem d_Model_fills_57 : decode b_Model_fills 57 = .ok (.iload 6, 2) := by decide +kernel
theorem d_Model_fills_59 : decode b_Model_fills 59 = .ok (.iconst 0, 1) := by decide +kernel
theorem d_Model_fills_60 : decode b_Model_fills 60 = .ok (.bastore, 1) := by decide +kernel
theorem d_Model_fills_61 : decode b_Model_fills 61 = .ok (.iinc 6 1, 3) := by decide +kernel
theorem d_Model_fills_64 : decode b_Model_fills 64 = .ok (.goto (-19), 3) := by decide +kernel
theorem d_Model_fills_67 : decode b_Model_fills 67 = .ok (.iconst 0, 1) := by decide +kernel
theorem d_Model_fills_68 : decode b_Model_fills 68 = .ok (.istore 6, 2) := by decide +kernel
theorem d_Model_fills_70 : decode b_Model_fills 70 = .ok (.iload 6, 2) := by decide +kernel
theorem d_Model_fills_72 : decode b_Model_fills 72 = .ok (.ifCond .ne 77, 3) := by decide +kernel
theorem d_Model_fills_75 : decode b_Model_fills 75 = .ok (.iinc 4 1, 3) := by decide +kernel
theorem d_Model_fills_78 : decode b_Model_fills 78 = .ok (.aload_n 0, 1) := by decide +kernel
theorem d_Model_fills_79 : decode b_Model_fills 79 = .ok (.getfield 111, 3) := by decide +kernel
theorem d_Model_fills_82 : decode b_Model_fills 82 = .ok (.aload_n 0, 1) := by decide +kernel
theorem d_Model_fills_83 : decode b_Model_fills 83 = .ok (.getfield 126, 3) := by decide +kernel
theorem d_Model_fills_86 : decode b_Model_fills 86 = .ok (.iload 4, 2) := by decide +kernel
theorem d_Model_fills_88 : decode b_Model_fills 88 = .ok (.iaload, 1) := by decide +kernel
theorem d_Model_fills_89 : decode b_Model_fills 89 = .ok (.iaload, 1) := by decide +kernel
theorem d_Model_fills_90 : decode b_Model_fills 90 = .ok (.aload_n 0, 1) := by decide +kernel
theorem d_Model_fills_91 : decode b_Model_fills 91 = .ok (.getfield 366, 3) := by decide +kernel
theorem d_Model_fills_94 : decode b_Model_fills 94 = .ok (.iand, 1) := by decide +kernel
theorem d_Model_fills_95 : decode b_Model_fills 95 = .ok (.istore 7, 2) := by decide +kernel
theorem d_Model_fills_97 : decode b_Model_fills 97 = .ok (.aload_n 0, 1) := by decide +kernel
theorem d_Model_fills_98 : decode b_Model_fills 98 = .ok (.getfield 144, 3) := by decide +kernel
theorem d_Model_fills_101 : decode b_Model_fills 101 = .ok (.iload 7, 2) := by decide +kernel
theorem d_Model_fills_103 : decode b_Model_fills 103 = .ok (.baload, 1) := by decide +kernel
theorem d_Model_fills_104 : decode b_Model_fills 104 = .ok (.ifCond .eq 6, 3) := by decide +kernel
theorem d_Model_fills_107 : decode b_Model_fills 107 = .ok (.goto (-37), 3) := by decide +kernel
theorem d_Model_fills_110 : decode b_Model_fills 110 = .ok (.aload_n 0, 1) := by decide +kernel
theorem d_Model_fills_111 : decode b_Model_fills 111 = .ok (.getfield 144, 3) := by decide +kernel
theorem d_Model_fills_114 : decode b_Model_fills 114 = .ok (.iload 7, 2) := by decide +kernel
theorem d_Model_fills_116 : decode b_Model_fills 116 = .ok (.iconst 1, 1) := by decide +kernel
theorem d_Model_fills_117 : decode b_Model_fills 117 = .ok (.bastore, 1) := by decide +kernel
theorem d_Model_fills_118 : decode b_Model_fills 118 = .ok (.aload_n 0, 1) := by decide +kernel
theorem d_Model_fills_119 : decode b_Model_fills 119 = .ok (.iload_n 3, 1) := by decide +kernel
theorem d_Model_fills_120 : decode b_Model_fills 120 = .ok (.iload 7, 2) := by decide +kernel
theorem d_Model_fills_122 : decode b_Model_fills 122 = .ok (.iconst (-1), 1) := by decide +kernel
theorem d_Model_fills_123 : decode b_Model_fills 123 = .ok (.ixor, 1) := by decide +kernel
theorem d_Model_fills_124 : decode b_Model_fills 124 = .ok (.iand, 1) := by decide +kernel
theorem d_Model_fills_125 : decode b_Model_fills 125 = .ok (.iload 4, 2) := by decide +kernel
theorem d_Model_fills_127 : decode b_Model_fills 127 = .ok (.invokevirtual 372, 3) := by decide +kernel
theorem d_Model_fills_130 : decode b_Model_fills 130 = .ok (.iload_n 2, 1) := by decide +kernel
theorem d_Model_fills_131 : decode b_Model_fills 131 = .ok (.iload 5, 2) := by decide +kernel
theorem d_Model_fills_133 : decode b_Model_fills 133 = .ok (.isub, 1) := by decide +kernel
theorem d_Model_fills_134 : decode b_Model_fills 134 = .ok (.iconst 1, 1) := by decide +kernel
theorem d_Model_fills_135 : decode b_Model_fills 135 = .ok (.isub, 1) := by decide +kernel
theorem d_Model_fills_136 : decode b_Model_fills 136 = .ok (.if_icmp .gt 7, 3) := by decide +kernel
theorem d_Model_fills_139 : decode b_Model_fills 139 = .ok (.iconst 1, 1) := by decide +kernel
theorem d_Model_fills_140 : decode b_Model_fills 140 = .ok (.goto 4, 3) := by decide +kernel
theorem d_Model_fills_143 : decode b_Model_fills 143 = .ok (.iconst 0, 1) := by decide +kernel
theorem d_Model_fills_144 : decode b_Model_fills 144 = .ok (.istore 6, 2) := by decide +kernel
theorem d_Model_fills_146 : decode b_Model_fills 146 = .ok (.goto (-76), 3) := by decide +kernel
theorem d_Model_fills_149 : decode b_Model_fills 149 = .ok (.iload_n 3, 1) := by decide +kernel
theorem d_Model_fills_150 : decode b_Model_fills 150 = .ok (.aload_n 0, 1) := by decide +kernel
theorem d_Model_fills_151 : decode b_Model_fills 151 = .ok (.getfield 111, 3) := by decide +kernel
theorem d_Model_fills_154 : decode b_Model_fills 154 = .ok (.aload_n 0, 1) := by decide +kernel
theorem d_Model_fills_155 : decode b_Model_fills 155 = .ok (.getfield 126, 3) := by decide +kernel
theorem d_Model_fills_158 : decode b_Model_fills 158 = .ok (.iload 4, 2) := by decide +kernel
theorem d_Model_fills_160 : decode b_Model_fills 160 = .ok (.iaload, 1) := by decide +kernel
theorem d_Model_fills_161 : decode b_Model_fills 161 = .ok (.iaload, 1) := by decide +kernel
theorem d_Model_fills_162 : decode b_Model_fills 162 = .ok (.aload_n 0, 1) := by decide +kernel
theorem d_Model_fills_163 : decode b_Model_fills 163 = .ok (.getfield 366, 3) := by decide +kernel
theorem d_Model_fills_166 : decode b_Model_fills 166 = .ok (.iand, 1) := by decide +kernel
theorem d_Model_fills_167 : decode b_Model_fills 167 = .ok (.iconst (-1), 1) := by decide +kernel
theorem d_Model_fills_168 : decode b_Model_fills 168 = .ok (.ixor, 1) := by decide +kernel
theorem d_Model_fills_169 : decode b_Model_fills 169 = .ok (.iand, 1) := by decide +kernel
theorem d_Model_fills_170 : decode b_Model_fills 170 = .ok (.istore_n 3, 1) := by decide +kernel
theorem d_Model_fills_171 : decode b_Model_fills 171 = .ok (.aload_n 0, 1) := by decide +kernel
theorem d_Model_fills_172 : decode b_Model_fills 172 = .ok (.getfield 141, 3) := by decide +kernel
theorem d_Model_fills_175 : decode b_Model_fills 175 = .ok (.iload 5, 2) := by decide +kernel
theorem d_Model_fills_177 : decode b_Model_fills 177 = .ok (.iload 4, 2) := by decide +kernel
theorem d_Model_fills_179 : decode b_Model_fills 179 = .ok (.iastore, 1) := by decide +kernel
theorem d_Model_fills_180 : decode b_Model_fills 180 = .ok (.iinc 5 1, 3) := by decide +kernel
theorem d_Model_fills_183 : decode b_Model_fills 183 = .ok (.goto (-147), 3) := by decide +kernel
theorem d_Model_fills_186 : decode b_Model_fills 186 = .ok (.aload_n 0, 1) := by decide +kernel
theorem d_Model_fills_187 : decode b_Model_fills 187 = .ok (.getfield 141, 3) := by decide +kernel
theorem d_Model_fills_190 : decode b_Model_fills 190 = .ok (.iload_n 1, 1) := by decide +kernel
theorem d_Model_fills_191 : decode b_Model_fills 191 = .ok (.iaload, 1) := by decide +kernel
theorem d_Model_fills_192 : decode b_Model_fills 192 = .ok (.ireturn, 1) := by decide +kernel
set_option maxHeartbeats 4000000 in
set_option maxRecDepth 100000 in
theorem c_Model_fills (l : Launch) {S : St} {x1 : Int32} {S' : St} {r : Int32} (h : f_Model_fills S x1 = some (r, S')) : MI mw l y_Model_fills b_Model_fills 8 (some .int) 3 67 0 0 (fun ad => [.ref (ad 0 0), .int x1]) aT aE S r S' := by
  refine MI_of "LawfulLotsModel" rfl (by decide) (fun _ => Nat.le_of_ble_eq_true rfl) ?_
  intro p e s m args below meth c D ar ad A Q ls hP F hK hA hw hl hQ
  have hl : lv_has ls 8 [(0, .ref (ad 0 0)), (1, .int x1)] := hl
  obtain ⟨X_0, eX_0⟩ : ∃ X : (Int32 × St) → Prop, X = (fun q => ∀ (H : Heap) (locs : List Loc) (pc : Nat) (ls : Array Slot), decode b_Model_fills pc = .ok (.ireturn, 1) → Bw mw D ar A s.heap H locs ad q.2 → W p l e (RM 3 67) s m args below meth c H locs 0 0 Q (F0 m pc ls [.int q.1])) := ⟨_, rfl⟩
  have key : ∀ (H : Heap) (locs : List Loc), Bw mw D ar A s.heap H locs ad S → ∀ o, f_Model_fills S x1 = some o → X_0 o → W p l e (RM 3 67) s m args below meth c H locs 0 0 Q (F0 m 0 ls []) := by
    intro H locs hw o h ho
    unfold f_Model_fills at h
    have J_23 : ∀ (S : St) (H : Heap) (locs : List Loc) (ls : Array Slot), Bw mw D ar A s.heap H locs ad S → lv_has ls 8 [] → ∀ o, Model_fills_j23 S = some o → X_0 o → W p l e (RM 3 67) s m args below meth c H locs 0 0 Q (F0 m 23 ls []) := by
      intro S H locs ls hw hl o h ho
      unfold Model_fills_j23 at h
      refine lv_iconst (v := -1) F.1 F.2.1 d_Model_fills_23 (by decide) ?_
      cases h
      have ho : X_0 _ := ho
      rw [eX_0] at ho
      exact ho H locs _ ls d_Model_fills_24 hw
    refine lv_aload_n F.1 F.2.1 d_Model_fills_0 rfl (lv_at hl 0 rfl) ?_
    obtain ⟨S_2, hc_1, h⟩ := bd_ex h
    refine cV_v F hA rfl hK hw (c_Model_wants l hc_1) trivial rfl (good_V lk_1400 lk_1402 ls_81 lk_10 lk_1403) (mr_0 hK hw) hd_Model_wants ⟨Nat.le_of_ble_eq_true rfl, Nat.le_of_ble_eq_true rfl⟩ rfl hl.1 rfl (Nat.le_of_ble_eq_true rfl) d_Model_fills_1 ⟨(Nat.zero_le _), (Nat.zero_le _)⟩ (fun H locs hw => ?_)
    refine lv_aload_n F.1 F.2.1 d_Model_fills_4 rfl (lv_at hl 0 rfl) ?_
    refine lv_aload_n F.1 F.2.1 d_Model_fills_5 rfl (lv_at hl 0 rfl) ?_
    refine mg_0_62 F hK hw lk_1073 d_Model_fills_6 ?_
    refine lv_iconst (v := -1) F.1 F.2.1 d_Model_fills_9 (by decide) ?_
    obtain ⟨v_4, S_5, hc_3, h⟩ := bd2_ex h
    refine cV_i F hA rfl hK hw (c_Model_need l hc_3) trivial rfl (good_V lk_1408 lk_1410 ls_83 lk_10 lk_1411) (mr_0 hK hw) hd_Model_need ⟨Nat.le_of_ble_eq_true rfl, Nat.le_of_ble_eq_true rfl⟩ rfl hl.1 rfl (Nat.le_of_ble_eq_true rfl) d_Model_fills_10 ⟨(Nat.zero_le _), (Nat.zero_le _)⟩ (fun H locs hw => ?_)
    refine lv_istore_n (lv' := [(2, .int v_4), (0, .ref (ad 0 0)), (1, .int x1)]) F.1 F.2.1 d_Model_fills_13 rfl hl (by decide) rfl (fun ls hl => ?_)
    refine lv_iload_n F.1 F.2.1 d_Model_fills_14 rfl (lv_at hl 2 rfl) ?_
    refine lv_if_lt (tgt := 23) F.1 F.2.1 d_Model_fills_15 (by decide) (fun c_6 => ?_) (fun c_6 => ?_)
    · replace h := ip c_6 h
      exact J_23 S_5 H locs ls hw (lv_sub hl [] rfl) o h ho
    · replace h := iq c_6 h
      refine lv_iload_n F.1 F.2.1 d_Model_fills_18 rfl (lv_at hl 2 rfl) ?_
      refine lv_iload_n F.1 F.2.1 d_Model_fills_19 rfl (lv_at hl 0 rfl) ?_
      refine lv_icmp_lt (tgt := 25) F.1 F.2.1 d_Model_fills_20 (by decide) (fun c_7 => ?_) (fun c_7 => ?_)
      · replace h := ip c_7 h
        refine lv_aload_n F.1 F.2.1 d_Model_fills_25 rfl (lv_at hl 1 rfl) ?_
        refine mg_0_62 F hK hw lk_1073 d_Model_fills_26 ?_
        obtain ⟨x3_8, ex3_8, h⟩ := nm_ex h
        refine lv_nm ex3_8 ?_
        refine lv_istore_n (lv' := [(3, .int x3_8), (2, .int v_4), (0, .ref (ad 0 0)), (1, .int x1)]) F.1 F.2.1 d_Model_fills_29 rfl hl (by decide) rfl (fun ls hl => ?_)
        refine lv_iconst (v := -1) F.1 F.2.1 d_Model_fills_30 (by decide) ?_
        refine lv_istore (lv' := [(4, .int (-1 : Int32)), (3, .int x3_8), (2, .int v_4), (0, .ref (ad 0 0)), (1, .int x1)]) F.1 F.2.1 d_Model_fills_31 hl (by decide) rfl (fun ls hl => ?_)
        refine lv_iconst (v := 0) F.1 F.2.1 d_Model_fills_33 (by decide) ?_
        refine lv_istore (lv' := [(5, .int (0 : Int32)), (4, .int (-1 : Int32)), (3, .int x3_8), (2, .int v_4), (0, .ref (ad 0 0)), (1, .int x1)]) F.1 F.2.1 d_Model_fills_34 hl (by decide) rfl (fun ls hl => ?_)
        obtain ⟨S_38, hc_39, h⟩ := bd_ex h
        obtain ⟨X_36, eX_36⟩ : ∃ X : St → Prop, X = (fun q => ∀ (H : Heap) (locs : List Loc) (ls : Array Slot), Bw mw D ar A s.heap H locs ad q → lv_has ls 8 [(0, .ref (ad 0 0)), (1, .int x1)] → W p l e (RM 3 67) s m args below meth c H locs 0 0 Q (F0 m 186 ls [])) := ⟨_, rfl⟩
        have hX_36 : X_36 S_38 := by
          rw [eX_36]
          intro H locs ls hw hl
          refine lv_aload_n F.1 F.2.1 d_Model_fills_186 rfl (lv_at hl 0 rfl) ?_
          refine mg_0_63 F hK hw lk_1074 d_Model_fills_187 ?_
          refine lv_iload_n F.1 F.2.1 d_Model_fills_190 rfl (lv_at hl 1 rfl) ?_
          obtain ⟨hi_40, h⟩ := gd_ex h
          refine ml_0_63 F hK hw hi_40 d_Model_fills_191 ?_
          cases h
          have ho : X_0 _ := ho
          rw [eX_0] at ho
          exact ho H locs _ ls d_Model_fills_192 hw
        obtain ⟨P_36, eP_36⟩ : ∃ P : (St × Int32 × Int32 × Int32) → Prop, P = (fun q => ∀ (H : Heap) (locs : List Loc) (ls : Array Slot), Bw mw D ar A s.heap H locs ad q.1 → lv_has ls 8 [(0, .ref (ad 0 0)), (1, .int x1), (2, .int v_4), (3, .int q.2.1), (4, .int q.2.2.1), (5, .int q.2.2.2)] → W p l e (RM 3 67) s m args below meth c H locs 0 0 Q (F0 m 36 ls [])) := ⟨_, rfl⟩
        have hL_36 : P_36 (S_5, x3_8, (-1 : Int32), (0 : Int32)) := by
          refine wh_gp (P := P_36) (X := X_36) hc_39 hX_36 ?_
          clear h
          intro q o h ho
          obtain ⟨S, x3, x4, x5⟩ := q
          have h : Model_fills_l36 x1 v_4 S x3 x4 x5 = some o := h
          unfold Model_fills_l36 at h
          rw [eP_36]
          intro H locs ls hw hl
          refine lv_iload F.1 F.2.1 d_Model_fills_36 (lv_at hl 5 rfl) ?_
          refine lv_iload_n F.1 F.2.1 d_Model_fills_38 rfl (lv_at hl 1 rfl) ?_
          refine lv_icmp_gt (tgt := 186) F.1 F.2.1 d_Model_fills_39 (by decide) (fun c_9 => ?_) (fun c_9 => ?_)
          · replace h := ip c_9 h
            cases h
            have ho : X_36 _ := ho
            rw [eX_36] at ho
            exact ho H locs ls hw (lv_sub hl [0, 1] rfl)
          · replace h := iq c_9 h
            refine lv_iconst (v := 0) F.1 F.2.1 d_Model_fills_42 (by decide) ?_
            refine lv_istore (lv' := [(6, .int (0 : Int32)), (0, .ref (ad 0 0)), (1, .int x1), (2, .int v_4), (3, .int x3), (4, .int x4), (5, .int x5)]) F.1 F.2.1 d_Model_fills_43 hl (by decide) rfl (fun ls hl => ?_)
            obtain ⟨S_14, hc_15, h⟩ := bd_ex h
            obtain ⟨X_45, eX_45⟩ : ∃ X : St → Prop, X = (fun q => ∀ (H : Heap) (locs : List Loc) (ls : Array Slot), Bw mw D ar A s.heap H locs ad q → lv_has ls 8 [(0, .ref (ad 0 0)), (1, .int x1), (2, .int v_4), (3, .int x3), (4, .int x4), (5, .int x5)] → W p l e (RM 3 67) s m args below meth c H locs 0 0 Q (F0 m 67 ls [])) := ⟨_, rfl⟩
            have hX_45 : X_45 S_14 := by
              rw [eX_45]
              intro H locs ls hw hl
              refine lv_iconst (v := 0) F.1 F.2.1 d_Model_fills_67 (by decide) ?_
              refine lv_istore (lv' := [(6, .int (0 : Int32)), (0, .ref (ad 0 0)), (1, .int x1), (2, .int v_4), (3, .int x3), (4, .int x4), (5, .int x5)]) F.1 F.2.1 d_Model_fills_68 hl (by decide) rfl (fun ls hl => ?_)
              obtain ⟨S_29, x4_30, hc_31, h⟩ := bd2_ex h
              obtain ⟨X_70, eX_70⟩ : ∃ X : (St × Int32) → Prop, X = (fun q => ∀ (H : Heap) (locs : List Loc) (ls : Array Slot), Bw mw D ar A s.heap H locs ad q.1 → lv_has ls 8 [(0, .ref (ad 0 0)), (1, .int x1), (2, .int v_4), (3, .int x3), (4, .int q.2), (5, .int x5)] → W p l e (RM 3 67) s m args below meth c H locs 0 0 Q (F0 m 149 ls [])) := ⟨_, rfl⟩
              have hX_70 : X_70 (S_29, x4_30) := by
                rw [eX_70]
                intro H locs ls hw hl
                refine lv_iload_n F.1 F.2.1 d_Model_fills_149 rfl (lv_at hl 3 rfl) ?_
                refine lv_aload_n F.1 F.2.1 d_Model_fills_150 rfl (lv_at hl 0 rfl) ?_
                refine mg_0_48 F hK hw lk_1059 d_Model_fills_151 ?_
                refine lv_aload_n F.1 F.2.1 d_Model_fills_154 rfl (lv_at hl 0 rfl) ?_
                refine mg_0_55 F hK hw lk_1066 d_Model_fills_155 ?_
                refine lv_iload F.1 F.2.1 d_Model_fills_158 (lv_at hl 4 rfl) ?_
                obtain ⟨hi_32, h⟩ := gd_ex h
                refine ml_0_55 F hK hw hi_32 d_Model_fills_160 ?_
                obtain ⟨hi_33, h⟩ := gd_ex h
                refine ml_0_48 F hK hw hi_33 d_Model_fills_161 ?_
                refine lv_aload_n F.1 F.2.1 d_Model_fills_162 rfl (lv_at hl 0 rfl) ?_
                refine mg_0_62 F hK hw lk_1073 d_Model_fills_163 ?_
                refine lv_iand F.1 F.2.1 d_Model_fills_166 ?_
                refine lv_iconst (v := -1) F.1 F.2.1 d_Model_fills_167 (by decide) ?_
                refine lv_ixor F.1 F.2.1 d_Model_fills_168 ?_
                refine lv_iand F.1 F.2.1 d_Model_fills_169 ?_
                obtain ⟨x3_34, ex3_34, h⟩ := nm_ex h
                refine lv_nm ex3_34 ?_
                refine lv_istore_n (lv' := [(3, .int x3_34), (0, .ref (ad 0 0)), (1, .int x1), (2, .int v_4), (4, .int x4_30), (5, .int x5)]) F.1 F.2.1 d_Model_fills_170 rfl hl (by decide) rfl (fun ls hl => ?_)
                refine lv_aload_n F.1 F.2.1 d_Model_fills_171 rfl (lv_at hl 1 rfl) ?_
                refine mg_0_63 F hK hw lk_1074 d_Model_fills_172 ?_
                refine lv_iload F.1 F.2.1 d_Model_fills_175 (lv_at hl 5 rfl) ?_
                refine lv_iload F.1 F.2.1 d_Model_fills_177 (lv_at hl 4 rfl) ?_
                obtain ⟨hi_35, h⟩ := gd_ex h
                obtain ⟨S_36, eS_36, h⟩ := nm_ex h
                refine ms_0_63 F hK hw hi_35 d_Model_fills_179 eS_36 (fun H locs hw => ?_)
                obtain ⟨x5_37, ex5_37, h⟩ := nm_ex h
                refine lv_iinc (v := x5_37) (lv' := [(5, .int x5_37), (3, .int x3_34), (0, .ref (ad 0 0)), (1, .int x1), (2, .int v_4), (4, .int x4_30)]) F.1 F.2.1 d_Model_fills_180 hl (k := 5) rfl (by rw [ex5_37]; rfl) (by decide) rfl (fun ls hl => ?_)
                refine lv_goto (tgt := 36) F.1 F.2.1 d_Model_fills_183 (by decide) ?_
                cases h
                have ho : P_36 _ := ho
                rw [eP_36] at ho
                exact ho H locs ls hw (lv_sub hl [2, 3, 4, 1, 5, 0] rfl)
              obtain ⟨P_70, eP_70⟩ : ∃ P : (St × Int32 × Int32) → Prop, P = (fun q => ∀ (H : Heap) (locs : List Loc) (ls : Array Slot), Bw mw D ar A s.heap H locs ad q.1 → lv_has ls 8 [(0, .ref (ad 0 0)), (1, .int x1), (2, .int v_4), (3, .int x3), (4, .int q.2.1), (5, .int x5), (6, .int q.2.2)] → W p l e (RM 3 67) s m args below meth c H locs 0 0 Q (F0 m 70 ls [])) := ⟨_, rfl⟩
              have hL_70 : P_70 (S_14, x4, (0 : Int32)) := by
                refine wh_gp (P := P_70) (X := X_70) hc_31 hX_70 ?_
                clear h
                intro q o h ho
                obtain ⟨S, x4, x6⟩ := q
                have h : Model_fills_l70 x1 v_4 x3 x5 S x4 x6 = some o := h
                unfold Model_fills_l70 at h
                rw [eP_70]
                intro H locs ls hw hl
                have J_144_l70 : ∀ (S : St) (x4 : Int32) (t0 : Int32) (H : Heap) (locs : List Loc) (ls : Array Slot), Bw mw D ar A s.heap H locs ad S → lv_has ls 8 [(0, .ref (ad 0 0)), (1, .int x1), (2, .int v_4), (3, .int x3), (4, .int x4), (5, .int x5)] → ∀ o, Model_fills_j144_l70 S x1 v_4 x3 x4 x5 t0 = some o → (Sum.elim P_70 X_70) o → W p l e (RM 3 67) s m args below meth c H locs 0 0 Q (F0 m 144 ls [.int t0]) := by
                  intro S x4 t0 H locs ls hw hl o h ho
                  unfold Model_fills_j144_l70 at h
                  refine lv_istore (lv' := [(6, .int t0), (0, .ref (ad 0 0)), (1, .int x1), (2, .int v_4), (3, .int x3), (4, .int x4), (5, .int x5)]) F.1 F.2.1 d_Model_fills_144 hl (by decide) rfl (fun ls hl => ?_)
                  refine lv_goto (tgt := 70) F.1 F.2.1 d_Model_fills_146 (by decide) ?_
                  cases h
                  have ho : P_70 _ := ho
                  rw [eP_70] at ho
                  exact ho H locs ls hw (lv_sub hl [1, 2, 3, 4, 5, 6, 0] rfl)
                refine lv_iload F.1 F.2.1 d_Model_fills_70 (lv_at hl 6 rfl) ?_
                refine lv_if_ne (tgt := 149) F.1 F.2.1 d_Model_fills_72 (by decide) (fun c_16 => ?_) (fun c_16 => ?_)
                · replace h := iq c_16 h
                  cases h
                  have ho : X_70 _ := ho
                  rw [eX_70] at ho
                  exact ho H locs ls hw (lv_sub hl [0, 1, 2, 3, 4, 5] rfl)
                · replace h := ip c_16 h
                  obtain ⟨x4_17, ex4_17, h⟩ := nm_ex h
                  refine lv_iinc (v := x4_17) (lv' := [(4, .int x4_17), (0, .ref (ad 0 0)), (1, .int x1), (2, .int v_4), (3, .int x3), (5, .int x5), (6, .int x6)]) F.1 F.2.1 d_Model_fills_75 hl (k := 4) rfl (by rw [ex4_17]; rfl) (by decide) rfl (fun ls hl => ?_)
                  refine lv_aload_n F.1 F.2.1 d_Model_fills_78 rfl (lv_at hl 1 rfl) ?_
                  refine mg_0_48 F hK hw lk_1059 d_Model_fills_79 ?_
                  refine lv_aload_n F.1 F.2.1 d_Model_fills_82 rfl (lv_at hl 1 rfl) ?_
                  refine mg_0_55 F hK hw lk_1066 d_Model_fills_83 ?_
                  refine lv_iload F.1 F.2.1 d_Model_fills_86 (lv_at hl 0 rfl) ?_
                  obtain ⟨hi_18, h⟩ := gd_ex h
                  refine ml_0_55 F hK hw hi_18 d_Model_fills_88 ?_
                  obtain ⟨hi_19, h⟩ := gd_ex h
                  refine ml_0_48 F hK hw hi_19 d_Model_fills_89 ?_
                  refine lv_aload_n F.1 F.2.1 d_Model_fills_90 rfl (lv_at hl 1 rfl) ?_
                  refine mg_0_62 F hK hw lk_1073 d_Model_fills_91 ?_
                  refine lv_iand F.1 F.2.1 d_Model_fills_94 ?_
                  obtain ⟨x7_20, ex7_20, h⟩ := nm_ex h
                  refine lv_nm ex7_20 ?_
                  refine lv_istore (lv' := [(7, .int x7_20), (4, .int x4_17), (0, .ref (ad 0 0)), (1, .int x1), (2, .int v_4), (3, .int x3), (5, .int x5), (6, .int x6)]) F.1 F.2.1 d_Model_fills_95 hl (by decide) rfl (fun ls hl => ?_)
                  refine lv_aload_n F.1 F.2.1 d_Model_fills_97 rfl (lv_at hl 2 rfl) ?_
                  refine mg_0_64 F hK hw lk_1075 d_Model_fills_98 ?_
                  refine lv_iload F.1 F.2.1 d_Model_fills_101 (lv_at hl 0 rfl) ?_
                  obtain ⟨hi_21, h⟩ := gd_ex h
                  refine ml_0_64 F hK hw hi_21 d_Model_fills_103 ?_
                  refine lv_if_eq (tgt := 110) F.1 F.2.1 d_Model_fills_104 (by decide) (fun c_22 => ?_) (fun c_22 => ?_)
                  · replace h := ip c_22 h
                    refine lv_aload_n F.1 F.2.1 d_Model_fills_110 rfl (lv_at hl 2 rfl) ?_
                    refine mg_0_64 F hK hw lk_1075 d_Model_fills_111 ?_
                    refine lv_iload F.1 F.2.1 d_Model_fills_114 (lv_at hl 0 rfl) ?_
                    refine lv_iconst (v := 1) F.1 F.2.1 d_Model_fills_116 (by decide) ?_
                    obtain ⟨hi_23, h⟩ := gd_ex h
                    obtain ⟨S_24, eS_24, h⟩ := nm_ex h
                    refine ms_0_64 F hK hw hi_23 d_Model_fills_117 eS_24 (fun H locs hw => ?_)
                    refine lv_aload_n F.1 F.2.1 d_Model_fills_118 rfl (lv_at hl 2 rfl) ?_
                    refine lv_iload_n F.1 F.2.1 d_Model_fills_119 rfl (lv_at hl 5 rfl) ?_
                    refine lv_iload F.1 F.2.1 d_Model_fills_120 (lv_at hl 0 rfl) ?_
                    refine lv_iconst (v := -1) F.1 F.2.1 d_Model_fills_122 (by decide) ?_
                    refine lv_ixor F.1 F.2.1 d_Model_fills_123 ?_
                    refine lv_iand F.1 F.2.1 d_Model_fills_124 ?_
                    refine lv_iload F.1 F.2.1 d_Model_fills_125 (lv_at hl 1 rfl) ?_
                    obtain ⟨v_26, S_27, hc_25, h⟩ := bd2_ex h
                    refine cV_i F hA rfl hK hw (c_Model_need l hc_25) trivial rfl (good_V lk_1408 lk_1410 ls_83 lk_10 lk_1411) (mr_0 hK hw) hd_Model_need ⟨Nat.le_of_ble_eq_true rfl, Nat.le_of_ble_eq_true rfl⟩ rfl hl.1 rfl (Nat.le_of_ble_eq_true rfl) d_Model_fills_127 ⟨(Nat.zero_le _), (Nat.zero_le _)⟩ (fun H locs hw => ?_)
                    refine lv_iload_n F.1 F.2.1 d_Model_fills_130 rfl (lv_at hl 4 rfl) ?_
                    refine lv_iload F.1 F.2.1 d_Model_fills_131 (lv_at hl 6 rfl) ?_
                    refine lv_isub F.1 F.2.1 d_Model_fills_133 ?_
                    refine lv_iconst (v := 1) F.1 F.2.1 d_Model_fills_134 (by decide) ?_
                    refine lv_isub F.1 F.2.1 d_Model_fills_135 ?_
                    refine lv_icmp_gt (tgt := 143) F.1 F.2.1 d_Model_fills_136 (by decide) (fun c_28 => ?_) (fun c_28 => ?_)
                    · replace h := ip c_28 h
                      refine lv_iconst (v := 0) F.1 F.2.1 d_Model_fills_143 (by decide) ?_
                      exact J_144_l70 S_27 x4_17 (0 : Int32) H locs ls hw (lv_sub hl [2, 3, 4, 5, 1, 6] rfl) o h ho
                    · replace h := iq c_28 h
                      refine lv_iconst (v := 1) F.1 F.2.1 d_Model_fills_139 (by decide) ?_
                      refine lv_goto (tgt := 144) F.1 F.2.1 d_Model_fills_140 (by decide) ?_
                      exact J_144_l70 S_27 x4_17 (1 : Int32) H locs ls hw (lv_sub hl [2, 3, 4, 5, 1, 6] rfl) o h ho
                  · replace h := iq c_22 h
                    refine lv_goto (tgt := 70) F.1 F.2.1 d_Model_fills_107 (by decide) ?_
                    cases h
                    have ho : P_70 _ := ho
                    rw [eP_70] at ho
                    exact ho H locs ls hw (lv_sub hl [2, 3, 4, 5, 1, 6, 7] rfl)
              rw [eP_70] at hL_70
              exact hL_70 H locs ls hw (lv_sub hl [1, 2, 3, 4, 5, 6, 0] rfl)
            obtain ⟨P_45, eP_45⟩ : ∃ P : (St × Int32) → Prop, P = (fun q => ∀ (H : Heap) (locs : List Loc) (ls : Array Slot), Bw mw D ar A s.heap H locs ad q.1 → lv_has ls 8 [(0, .ref (ad 0 0)), (1, .int x1), (2, .int v_4), (3, .int x3), (4, .int x4), (5, .int x5), (6, .int q.2)] → W p l e (RM 3 67) s m args below meth c H locs 0 0 Q (F0 m 45 ls [])) := ⟨_, rfl⟩
            have hL_45 : P_45 (S, (0 : Int32)) := by
              refine wh_gp (P := P_45) (X := X_45) hc_15 hX_45 ?_
              clear h
              intro q o h ho
              obtain ⟨S, x6⟩ := q
              have h : Model_fills_l45 x1 v_4 x3 x4 x5 S x6 = some o := h
              unfold Model_fills_l45 at h
              rw [eP_45]
              intro H locs ls hw hl
              refine lv_iload F.1 F.2.1 d_Model_fills_45 (lv_at hl 6 rfl) ?_
              refine lv_sipush (v := 256) F.1 F.2.1 d_Model_fills_47 (by decide) ?_
              refine lv_icmp_ge (tgt := 67) F.1 F.2.1 d_Model_fills_50 (by decide) (fun c_10 => ?_) (fun c_10 => ?_)
              · replace h := ip c_10 h
                cases h
                have ho : X_45 _ := ho
                rw [eX_45] at ho
                exact ho H locs ls hw (lv_sub hl [0, 1, 2, 3, 4, 5] rfl)
              · replace h := iq c_10 h
                refine lv_aload_n F.1 F.2.1 d_Model_fills_53 rfl (lv_at hl 0 rfl) ?_
                refine mg_0_64 F hK hw lk_1075 d_Model_fills_54 ?_
                refine lv_iload F.1 F.2.1 d_Model_fills_57 (lv_at hl 6 rfl) ?_
                refine lv_iconst (v := 0) F.1 F.2.1 d_Model_fills_59 (by decide) ?_
                obtain ⟨hi_11, h⟩ := gd_ex h
                obtain ⟨S_12, eS_12, h⟩ := nm_ex h
                refine ms_0_64 F hK hw hi_11 d_Model_fills_60 eS_12 (fun H locs hw => ?_)
                obtain ⟨x6_13, ex6_13, h⟩ := nm_ex h
                refine lv_iinc (v := x6_13) (lv' := [(6, .int x6_13), (0, .ref (ad 0 0)), (1, .int x1), (2, .int v_4), (3, .int x3), (4, .int x4), (5, .int x5)]) F.1 F.2.1 d_Model_fills_61 hl (k := 6) rfl (by rw [ex6_13]; rfl) (by decide) rfl (fun ls hl => ?_)
                refine lv_goto (tgt := 45) F.1 F.2.1 d_Model_fills_64 (by decide) ?_
                cases h
                have ho : P_45 _ := ho
                rw [eP_45] at ho
                exact ho H locs ls hw (lv_sub hl [1, 2, 3, 4, 5, 6, 0] rfl)
            rw [eP_45] at hL_45
            exact hL_45 H locs ls hw (lv_sub hl [1, 2, 3, 4, 5, 6, 0] rfl)
        rw [eP_36] at hL_36
        exact hL_36 H locs ls hw (lv_sub hl [4, 5, 3, 2, 1, 0] rfl)
      · replace h := iq c_7 h
        exact J_23 S_5 H locs ls hw (lv_sub hl [] rfl) o h ho
  exact key _ _ hw _ h (by rw [eX_0]; exact fun H locs pc ls hd hw => hQ H locs pc ls ad rfl hd hw)
theorem d_Model_best_0 : decode b_Model_best 0 = .ok (.aload_n 0, 1) := by decide +kernel
theorem d_Model_best_1 : decode b_Model_best 1 = .ok (.invokevirtual 363, 3) := by decide +kernel
theorem d_Model_best_4 : decode b_Model_best 4 = .ok (.istore_n 1, 1) := by decide +kernel
theorem d_Model_best_5 : decode b_Model_best 5 = .ok (.iconst (-1), 1) := by decide +kernel
theorem d_Model_best_6 : decode b_Model_best 6 = .ok (.istore_n 2, 1) := by decide +kernel
theorem d_Model_best_7 : decode b_Model_best 7 = .ok (.iconst 0, 1) := by decide +kernel
theorem d_Model_best_8 : decode b_Model_best 8 = .ok (.istore_n 3, 1) := by decide +kernel
theorem d_Model_best_9 : decode b_Model_best 9 = .ok (.iconst 0, 1) := by decide +kernel
theorem d_Model_best_10 : decode b_Model_best 10 = .ok (.istore 4, 2) := by decide +kernel
theorem d_Model_best_12 : decode b_Model_best 12 = .ok (.iload 4, 2) := by decide +kernel
theorem d_Model_best_14 : decode b_Model_best 14 = .ok (.aload_n 0, 1) := by decide +kernel
theorem d_Model_best_15 : decode b_Model_best 15 = .ok (.getfield 326, 3) := by decide +kernel
theorem d_Model_best_18 : decode b_Model_best 18 = .ok (.if_icmp .ge 48, 3) := by decide +kernel
theorem d_Model_best_21 : decode b_Model_best 21 = .ok (.aload_n 0, 1) := by decide +kernel
theorem d_Model_best_22 : decode b_Model_best 22 = .ok (.getfield 111, 3) := by decide +kernel
theorem d_Model_best_25 : decode b_Model_best 25 = .ok (.aload_n 0, 1) := by decide +kernel
theorem d_Model_best_26 : decode b_Model_best 26 = .ok (.getfield 126, 3) := by decide +kernel
theorem d_Model_best_29 : decode b_Model_best 29 = .ok (.iload 4, 2) := by decide +kernel
theorem d_Model_best_31 : decode b_Model_best 31 = .ok (.iaload, 1) := by decide +kernel
theorem d_Model_best_32 : decode b_Model_best 32 = .ok (.iaload, 1) := by decide +kernel
theorem d_Model_best_33 : decode b_Model_best 33 = .ok (.iload_n 1, 1) := by decide +kernel
theorem d_Model_best_34 : decode b_Model_best 34 = .ok (.iand, 1) := by decide +kernel
theorem d_Model_best_35 : decode b_Model_best 35 = .ok (.invokestatic 351, 3) := by decide +kernel
theorem d_Model_best_38 : decode b_Model_best 38 = .ok (.istore 5, 2) := by decide +kernel
theorem d_Model_best_40 : decode b_Model_best 40 = .ok (.iload_n 2, 1) := by decide +kernel
theorem d_Model_best_41 : decode b_Model_best 41 = .ok (.iconst (-1), 1) := by decide +kernel
theorem d_Model_best_42 : decode b_Model_best 42 = .ok (.if_icmp .eq 12, 3) := by decide +kernel
theorem d_Model_best_45 : decode b_Model_best 45 = .ok (.iload 5, 2) := by decide +kernel
theorem d_Model_best_47 : decode b_Model_best 47 = .ok (.iload_n 3, 1) := by decide +kernel
theorem d_Model_best_48 : decode b_Model_best 48 = .ok (.if_icmp .gt 6, 3) := by decide +kernel
theorem d_Model_best_51 : decode b_Model_best 51 = .ok (.goto 9, 3) := by decide +kernel
theorem d_Model_best_54 : decode b_Model_best 54 = .ok (.iload 4, 2) := by decide +kernel
theorem d_Model_best_56 : decode b_Model_best 56 = .ok (.istore_n 2, 1) := by decide +kernel
theorem d_Model_best_57 : decode b_Model_best 57 = .ok (.iload 5, 2) := by decide +kernel
theorem d_Model_best_59 : decode b_Model_best 59 = .ok (.istore_n 3, 1) := by decide +kernel
theorem d_Model_best_60 : decode b_Model_best 60 = .ok (.iinc 4 1, 3) := by decide +kernel
theorem d_Model_best_63 : decode b_Model_best 63 = .ok (.goto (-51), 3) := by decide +kernel
theorem d_Model_best_66 : decode b_Model_best 66 = .ok (.iload_n 2, 1) := by decide +kernel
theorem d_Model_best_67 : decode b_Model_best 67 = .ok (.ireturn, 1) := by decide +kernel
set_option maxHeartbeats 4000000 in
set_option maxRecDepth 100000 in
theorem c_Model_best (l : Launch) {S : St} {r : Int32} (h : f_Model_best S = some r) : MI mw l y_Model_best b_Model_best 6 (some .int) 2 45 0 0 (fun ad => [.ref (ad 0 0)]) aT aE S r S := by
  refine MI_of "LawfulLotsModel" rfl (by decide) (fun _ => Nat.le_of_ble_eq_true rfl) ?_
  intro p e s m args below meth c D ar ad A Q ls hP F hK hA hw hl hQ
  have hl : lv_has ls 6 [(0, .ref (ad 0 0))] := hl
  obtain ⟨X_0, eX_0⟩ : ∃ X : Int32 → Prop, X = (fun q => ∀ (H : Heap) (locs : List Loc) (pc : Nat) (ls : Array Slot), decode b_Model_best pc = .ok (.ireturn, 1) → Bw mw D ar A s.heap H locs ad S → W p l e (RM 2 45) s m args below meth c H locs 0 0 Q (F0 m pc ls [.int q])) := ⟨_, rfl⟩
  have key : ∀ (H : Heap) (locs : List Loc), Bw mw D ar A s.heap H locs ad S → ∀ o, f_Model_best S = some o → X_0 o → W p l e (RM 2 45) s m args below meth c H locs 0 0 Q (F0 m 0 ls []) := by
    intro H locs hw o h ho
    unfold f_Model_best at h
    refine lv_aload_n F.1 F.2.1 d_Model_best_0 rfl (lv_at hl 0 rfl) ?_
    obtain ⟨v_2, hc_1, h⟩ := bd_ex h
    refine cV_i F hA rfl hK hw (c_Model_without l hc_1) trivial rfl (good_V lk_1404 lk_1406 ls_82 lk_10 lk_1407) (mr_0 hK hw) hd_Model_without ⟨Nat.le_of_ble_eq_true rfl, Nat.le_of_ble_eq_true rfl⟩ rfl hl.1 rfl (Nat.le_of_ble_eq_true rfl) d_Model_best_1 ⟨(Nat.zero_le _), (Nat.zero_le _)⟩ (fun H locs hw => ?_)
    refine lv_istore_n (lv' := [(1, .int v_2), (0, .ref (ad 0 0))]) F.1 F.2.1 d_Model_best_4 rfl hl (by decide) rfl (fun ls hl => ?_)
    refine lv_iconst (v := -1) F.1 F.2.1 d_Model_best_5 (by decide) ?_
    refine lv_istore_n (lv' := [(2, .int (-1 : Int32)), (1, .int v_2), (0, .ref (ad 0 0))]) F.1 F.2.1 d_Model_best_6 rfl hl (by decide) rfl (fun ls hl => ?_)
    refine lv_iconst (v := 0) F.1 F.2.1 d_Model_best_7 (by decide) ?_
    refine lv_istore_n (lv' := [(3, .int (0 : Int32)), (2, .int (-1 : Int32)), (1, .int v_2), (0, .ref (ad 0 0))]) F.1 F.2.1 d_Model_best_8 rfl hl (by decide) rfl (fun ls hl => ?_)
    refine lv_iconst (v := 0) F.1 F.2.1 d_Model_best_9 (by decide) ?_
    refine lv_istore (lv' := [(4, .int (0 : Int32)), (3, .int (0 : Int32)), (2, .int (-1 : Int32)), (1, .int v_2), (0, .ref (ad 0 0))]) F.1 F.2.1 d_Model_best_10 hl (by decide) rfl (fun ls hl => ?_)
    obtain ⟨x2_11, hc_12, h⟩ := bd_ex h
    obtain ⟨X_12, eX_12⟩ : ∃ X : Int32 → Prop, X = (fun q => ∀ (H : Heap) (locs : List Loc) (ls : Array Slot), Bw mw D ar A s.heap H locs ad S → lv_has ls 6 [(2, .int q)] → W p l e (RM 2 45) s m args below meth c H locs 0 0 Q (F0 m 66 ls [])) := ⟨_, rfl⟩
    have hX_12 : X_12 x2_11 := by
      rw [eX_12]
      intro H locs ls hw hl
      refine lv_iload_n F.1 F.2.1 d_Model_best_66 rfl (lv_at hl 0 rfl) ?_
      cases h
      have ho : X_0 _ := ho
      rw [eX_0] at ho
      exact ho H locs _ ls d_Model_best_67 hw
    obtain ⟨P_12, eP_12⟩ : ∃ P : (Int32 × Int32 × Int32) → Prop, P = (fun q => ∀ (H : Heap) (locs : List Loc) (ls : Array Slot), Bw mw D ar A s.heap H locs ad S → lv_has ls 6 [(0, .ref (ad 0 0)), (1, .int v_2), (2, .int q.1), (3, .int q.2.1), (4, .int q.2.2)] → W p l e (RM 2 45) s m args below meth c H locs 0 0 Q (F0 m 12 ls [])) := ⟨_, rfl⟩
    have hL_12 : P_12 ((-1 : Int32), (0 : Int32), (0 : Int32)) := by
      refine wh_gp (P := P_12) (X := X_12) hc_12 hX_12 ?_
      clear h
      intro q o h ho
      obtain ⟨x2, x3, x4⟩ := q
      have h : Model_best_l12 S v_2 x2 x3 x4 = some o := h
      unfold Model_best_l12 at h
      rw [eP_12]
      intro H locs ls hw hl
      have J_60_l12 : ∀ (x2 : Int32) (x3 : Int32) (x4 : Int32) (H : Heap) (locs : List Loc) (ls : Array Slot), Bw mw D ar A s.heap H locs ad S → lv_has ls 6 [(0, .ref (ad 0 0)), (1, .int v_2), (2, .int x2), (3, .int x3), (4, .int x4)] → ∀ o, Model_best_j60_l12 S v_2 x2 x3 x4 = some o → (Sum.elim P_12 X_12) o → W p l e (RM 2 45) s m args below meth c H locs 0 0 Q (F0 m 60 ls []) := by
        intro x2 x3 x4 H locs ls hw hl o h ho
        unfold Model_best_j60_l12 at h
        obtain ⟨x4_10, ex4_10, h⟩ := nm_ex h
        refine lv_iinc (v := x4_10) (lv' := [(4, .int x4_10), (0, .ref (ad 0 0)), (1, .int v_2), (2, .int x2), (3, .int x3)]) F.1 F.2.1 d_Model_best_60 hl (k := 4) rfl (by rw [ex4_10]; rfl) (by decide) rfl (fun ls hl => ?_)
        refine lv_goto (tgt := 12) F.1 F.2.1 d_Model_best_63 (by decide) ?_
        cases h
        have ho : P_12 _ := ho
        rw [eP_12] at ho
        exact ho H locs ls hw (lv_sub hl [1, 2, 3, 4, 0] rfl)
      have J_54_l12 : ∀ (x4 : Int32) (x5 : Int32) (H : Heap) (locs : List Loc) (ls : Array Slot), Bw mw D ar A s.heap H locs ad S → lv_has ls 6 [(0, .ref (ad 0 0)), (1, .int v_2), (4, .int x4), (5, .int x5)] → ∀ o, Model_best_j54_l12 S v_2 x4 x5 = some o → (Sum.elim P_12 X_12) o → W p l e (RM 2 45) s m args below meth c H locs 0 0 Q (F0 m 54 ls []) := by
        intro x4 x5 H locs ls hw hl o h ho
        unfold Model_best_j54_l12 at h
        refine lv_iload F.1 F.2.1 d_Model_best_54 (lv_at hl 2 rfl) ?_
        refine lv_istore_n (lv' := [(2, .int x4), (0, .ref (ad 0 0)), (1, .int v_2), (4, .int x4), (5, .int x5)]) F.1 F.2.1 d_Model_best_56 rfl hl (by decide) rfl (fun ls hl => ?_)
        refine lv_iload F.1 F.2.1 d_Model_best_57 (lv_at hl 4 rfl) ?_
        refine lv_istore_n (lv' := [(3, .int x5), (2, .int x4), (0, .ref (ad 0 0)), (1, .int v_2), (4, .int x4), (5, .int x5)]) F.1 F.2.1 d_Model_best_59 rfl hl (by decide) rfl (fun ls hl => ?_)
        exact J_60_l12 x4 x5 x4 H locs ls hw (lv_sub hl [2, 3, 1, 0, 4] rfl) o h ho
      refine lv_iload F.1 F.2.1 d_Model_best_12 (lv_at hl 4 rfl) ?_
      refine lv_aload_n F.1 F.2.1 d_Model_best_14 rfl (lv_at hl 0 rfl) ?_
      refine mg_0_54 F hK hw lk_1065 d_Model_best_15 ?_
      refine lv_icmp_ge (tgt := 66) F.1 F.2.1 d_Model_best_18 (by decide) (fun c_3 => ?_) (fun c_3 => ?_)
      · replace h := ip c_3 h
        cases h
        have ho : X_12 _ := ho
        rw [eX_12] at ho
        exact ho H locs ls hw (lv_sub hl [2] rfl)
      · replace h := iq c_3 h
        refine lv_aload_n F.1 F.2.1 d_Model_best_21 rfl (lv_at hl 0 rfl) ?_
        refine mg_0_48 F hK hw lk_1059 d_Model_best_22 ?_
        refine lv_aload_n F.1 F.2.1 d_Model_best_25 rfl (lv_at hl 0 rfl) ?_
        refine mg_0_55 F hK hw lk_1066 d_Model_best_26 ?_
        refine lv_iload F.1 F.2.1 d_Model_best_29 (lv_at hl 4 rfl) ?_
        obtain ⟨hi_4, h⟩ := gd_ex h
        refine ml_0_55 F hK hw hi_4 d_Model_best_31 ?_
        obtain ⟨hi_5, h⟩ := gd_ex h
        refine ml_0_48 F hK hw hi_5 d_Model_best_32 ?_
        refine lv_iload_n F.1 F.2.1 d_Model_best_33 rfl (lv_at hl 1 rfl) ?_
        refine lv_iand F.1 F.2.1 d_Model_best_34 ?_
        obtain ⟨v_7, hc_6, h⟩ := bd_ex h
        refine cS_i F hA rfl hK hw (c_Model_bits l S hc_6) trivial rfl (good_S lk_1365 lk_1366 lk_10 lk_1367) hd_Model_bits ⟨Nat.le_of_ble_eq_true rfl, Nat.le_of_ble_eq_true rfl⟩ rfl hl.1 rfl (Nat.le_of_ble_eq_true rfl) d_Model_best_35 ⟨(Nat.zero_le _), (Nat.zero_le _)⟩ (fun H locs hw => ?_)
        refine lv_istore (lv' := [(5, .int v_7), (0, .ref (ad 0 0)), (1, .int v_2), (2, .int x2), (3, .int x3), (4, .int x4)]) F.1 F.2.1 d_Model_best_38 hl (by decide) rfl (fun ls hl => ?_)
        refine lv_iload_n F.1 F.2.1 d_Model_best_40 rfl (lv_at hl 3 rfl) ?_
        refine lv_iconst (v := -1) F.1 F.2.1 d_Model_best_41 (by decide) ?_
        refine lv_icmp_eq (tgt := 54) F.1 F.2.1 d_Model_best_42 (by decide) (fun c_8 => ?_) (fun c_8 => ?_)
        · replace h := ip c_8 h
          exact J_54_l12 x4 v_7 H locs ls hw (lv_sub hl [1, 2, 5, 0] rfl) o h ho
        · replace h := iq c_8 h
          refine lv_iload F.1 F.2.1 d_Model_best_45 (lv_at hl 0 rfl) ?_
          refine lv_iload_n F.1 F.2.1 d_Model_best_47 rfl (lv_at hl 4 rfl) ?_
          refine lv_icmp_gt (tgt := 54) F.1 F.2.1 d_Model_best_48 (by decide) (fun c_9 => ?_) (fun c_9 => ?_)
          · replace h := ip c_9 h
            exact J_54_l12 x4 v_7 H locs ls hw (lv_sub hl [1, 2, 5, 0] rfl) o h ho
          · replace h := iq c_9 h
            refine lv_goto (tgt := 60) F.1 F.2.1 d_Model_best_51 (by decide) ?_
            exact J_60_l12 x2 x3 x4 H locs ls hw (lv_sub hl [1, 2, 3, 4, 5] rfl) o h ho
    rw [eP_12] at hL_12
    exact hL_12 H locs ls hw (lv_sub hl [4, 3, 2, 1, 0] rfl)
  exact key _ _ hw _ h (by rw [eX_0]; exact fun H locs pc ls hd hw => hQ H locs pc ls ad rfl hd hw)
theorem d_Model_least_0 : decode b_Model_least 0 = .ok (.aload_n 0, 1) := by decide +kernel
theorem d_Model_least_1 : decode b_Model_least 1 = .ok (.iload_n 1, 1) := by decide +kernel
theorem d_Model_least_2 : decode b_Model_least 2 = .ok (.invokevirtual 354, 3) := by decide +kernel
theorem d_Model_least_5 : decode b_Model_least 5 = .ok (.ifCond .ne 5, 3) := by decide +kernel
theorem d_Model_least_8 : decode b_Model_least 8 = .ok (.iconst (-1), 1) := by decide +kernel
theorem d_Model_least_9 : decode b_Model_least 9 = .ok (.ireturn, 1) := by decide +kernel
theorem d_Model_least_10 : decode b_Model_least 10 = .ok (.iconst (-1), 1) := by decide +kernel
theorem d_Model_least_11 : decode b_Model_least 11 = .ok (.istore_n 2, 1) := by decide +kernel
theorem d_Model_least_12 : decode b_Model_least 12 = .ok (.iconst 0, 1) := by decide +kernel
theorem d_Model_least_13 : decode b_Model_least 13 = .ok (.istore_n 3, 1) := by decide +kernel
theorem d_Model_least_14 : decode b_Model_least 14 = .ok (.iconst 0, 1) := by decide +kernel
theorem d_Model_least_15 : decode b_Model_least 15 = .ok (.istore 4, 2) := by decide +kernel
theorem d_Model_least_17 : decode b_Model_least 17 = .ok (.iload 4, 2) := by decide +kernel
theorem d_Model_least_19 : decode b_Model_least 19 = .ok (.aload_n 0, 1) := by decide +kernel
theorem d_Model_least_20 : decode b_Model_least 20 = .ok (.getfield 326, 3) := by decide +kernel
theorem d_Model_least_23 : decode b_Model_least 23 = .ok (.if_icmp .ge 111, 3) := by decide +kernel
theorem d_Model_least_26 : decode b_Model_least 26 = .ok (.aload_n 0, 1) := by decide +kernel
theorem d_Model_least_27 : decode b_Model_least 27 = .ok (.getfield 111, 3) := by decide +kernel
theorem d_Model_least_30 : decode b_Model_least 30 = .ok (.aload_n 0, 1) := by decide +kernel
theorem d_Model_least_31 : decode b_Model_least 31 = .ok (.getfield 126, 3) := by decide +kernel
theorem d_Model_least_34 : decode b_Model_least 34 = .ok (.iload 4, 2) := by decide +kernel
theorem d_Model_least_36 : decode b_Model_least 36 = .ok (.iaload, 1) := by decide +kernel
theorem d_Model_least_37 : decode b_Model_least 37 = .ok (.iaload, 1) := by decide +kernel
theorem d_Model_least_38 : decode b_Model_least 38 = .ok (.iload_n 1, 1) := by decide +kernel
theorem d_Model_least_39 : decode b_Model_least 39 = .ok (.ishr, 1) := by decide +kernel
theorem d_Model_least_40 : decode b_Model_least 40 = .ok (.iconst 1, 1) := by decide +kernel
theorem d_Model_least_41 : decode b_Model_least 41 = .ok (.iand, 1) := by decide +kernel
theorem d_Model_least_42 : decode b_Model_least 42 = .ok (.ifCond .ne 6, 3) := by decide +kernel
theorem d_Model_least_45 : decode b_Model_least 45 = .ok (.goto 83, 3) := by decide +kernel
theorem d_Model_least_48 : decode b_Model_least 48 = .ok (.iconst 0, 1) := by decide +kernel
theorem d_Model_least_49 : decode b_Model_least 49 = .ok (.istore 5, 2) := by decide +kernel
theorem d_Model_least_51 : decode b_Model_least 51 = .ok (.iconst 0, 1) := by decide +kernel
theorem d_Model_least_52 : decode b_Model_least 52 = .ok (.istore 6, 2) := by decide +kernel
theorem d_Model_least_54 : decode b_Model_least 54 = .ok (.iload 6, 2) := by decide +kernel
theorem d_Model_least_56 : decode b_Model_least 56 = .ok (.aload_n 0, 1) := by decide +kernel
theorem d_Model_least_57 : decode b_Model_least 57 = .ok (.getfield 40, 3) := by decide +kernel
theorem d_Model_least_60 : decode b_Model_least 60 = .ok (.aload_n 0, 1) := by decide +kernel
theorem d_Model_least_61 : decode b_Model_least 61 = .ok (.getfield 228, 3) := by decide +kernel
theorem d_Model_least_64 : decode b_Model_least 64 = .ok (.iaload, 1) := by decide +kernel
theorem d_Model_least_65 : decode b_Model_least 65 = .ok (.if_icmp .ge 43, 3) := by decide +kernel
theorem d_Model_least_68 : decode b_Model_least 68 = .ok (.iload 5, 2) := by decide +kernel
theorem d_Model_least_70 : decode b_Model_least 70 = .ok (.aload_n 0, 1) := by decide +kernel
theorem d_Model_least_71 : decode b_Model_least 71 = .ok (.aload_n 0, 1) := by decide +kernel
theorem d_Model_least_72 : decode b_Model_least 72 = .ok (.getfield 126, 3) := by decide +kernel
theorem d_Model_least_75 : decode b_Model_least 75 = .ok (.iload 4, 2) := by decide +kernel
theorem d_Model_least_77 : decode b_Model_least 77 = .ok (.iaload, 1) := by decide +kernel
theorem d_Model_least_78 : decode b_Model_least 78 = .ok (.iload 6, 2) := by decide +kernel
theorem d_Model_least_80 : decode b_Model_least 80 = .ok (.invokevirtual 291, 3) := by decide +kernel
theorem d_Model_least_83 : decode b_Model_least 83 = .ok (.aload_n 0, 1) := by decide +kernel
theorem d_Model_least_84 : decode b_Model_least 84 = .ok (.getfield 46, 3) := by decide +kernel
theorem d_Model_least_87 : decode b_Model_least 87 = .ok (.bipush 6, 2) := by decide +kernel
theorem d_Model_least_89 : decode b_Model_least 89 = .ok (.aload_n 0, 1) := by decide +kernel
theorem d_Model_least_90 : decode b_Model_least 90 = .ok (.getfield 228, 3) := by decide +kernel
theorem d_Model_least_93 : decode b_Model_least 93 = .ok (.imul, 1) := by decide +kernel
theorem d_Model_least_94 : decode b_Model_least 94 = .ok (.iload 6, 2) := by decide +kernel
theorem d_Model_least_96 : decode b_Model_least 96 = .ok (.iadd, 1) := by decide +kernel
theorem d_Model_least_97 : decode b_Model_least 97 = .ok (.iaload, 1) := by decide +kernel
theorem d_Model_least_98 : decode b_Model_least 98 = .ok (.isub, 1) := by decide +kernel
theorem d_Model_least_99 : decode b_Model_least 99 = .ok (.iadd, 1) := by decide +kernel
theorem d_Model_least_100 : decode b_Model_least 100 = .ok (.istore 5, 2) := by decide +kernel
theorem d_Model_least_102 : decode b_Model_least 102 = .ok (.iinc 6 1, 3) := by decide +kernel
theorem d_Model_least_105 : decode b_Model_least 105 = .ok (.goto (-51), 3) := by decide +kernel
theorem d_Model_least_108 : decode b_Model_least 108 = .ok (.iload_n 2, 1) := by decide +kernel
theorem d_Model_least_109 : decode b_Model_least 109 = .ok (.iconst (-1), 1) := by decide +kernel
theorem d_Model_least_110 : decode b_Model_least 110 = .ok (.if_icmp .eq 12, 3) := by decide +kernel
theorem d_Model_least_113 : decode b_Model_least 113 = .ok (.iload 5, 2) := by decide +kernel
theorem d_Model_least_115 : decode b_Model_least 115 = .ok (.iload_n 3, 1) := by decide +kernel
theorem d_Model_least_116 : decode b_Model_least 116 = .ok (.if_icmp .lt 6, 3) := by decide +kernel
theorem d_Model_least_119 : decode b_Model_least 119 = .ok (.goto 9, 3) := by decide +kernel
theorem d_Model_least_122 : decode b_Model_least 122 = .ok (.iload 4, 2) := by decide +kernel
theorem d_Model_least_124 : decode b_Model_least 124 = .ok (.istore_n 2, 1) := by decide +kernel
theorem d_Model_least_125 : decode b_Model_least 125 = .ok (.iload 5, 2) := by decide +kernel
theorem d_Model_least_127 : decode b_Model_least 127 = .ok (.istore_n 3, 1) := by decide +kernel
theorem d_Model_least_128 : decode b_Model_least 128 = .ok (.iinc 4 1, 3) := by decide +kernel
theorem d_Model_least_131 : decode b_Model_least 131 = .ok (.goto (-114), 3) := by decide +kernel
theorem d_Model_least_134 : decode b_Model_least 134 = .ok (.iload_n 2, 1) := by decide +kernel
theorem d_Model_least_135 : decode b_Model_least 135 = .ok (.ireturn, 1) := by decide +kernel
set_option maxHeartbeats 4000000 in
set_option maxRecDepth 100000 in
theorem c_Model_least (l : Launch) {S : St} {x1 : Int32} {r : Int32} (h : f_Model_least S x1 = some r) : MI mw l y_Model_least b_Model_least 7 (some .int) 2 42 0 0 (fun ad => [.ref (ad 0 0), .int x1]) aT aE S r S := by
  refine MI_of "LawfulLotsModel" rfl (by decide) (fun _ => Nat.le_of_ble_eq_true rfl) ?_
  intro p e s m args below meth c D ar ad A Q ls hP F hK hA hw hl hQ
  have hl : lv_has ls 7 [(0, .ref (ad 0 0)), (1, .int x1)] := hl
  obtain ⟨X_0, eX_0⟩ : ∃ X : Int32 → Prop, X = (fun q => ∀ (H : Heap) (locs : List Loc) (pc : Nat) (ls : Array Slot), decode b_Model_least pc = .ok (.ireturn, 1) → Bw mw D ar A s.heap H locs ad S → W p l e (RM 2 42) s m args below meth c H locs 0 0 Q (F0 m pc ls [.int q])) := ⟨_, rfl⟩
  have key : ∀ (H : Heap) (locs : List Loc), Bw mw D ar A s.heap H locs ad S → ∀ o, f_Model_least S x1 = some o → X_0 o → W p l e (RM 2 42) s m args below meth c H locs 0 0 Q (F0 m 0 ls []) := by
    intro H locs hw o h ho
    unfold f_Model_least at h
    refine lv_aload_n F.1 F.2.1 d_Model_least_0 rfl (lv_at hl 0 rfl) ?_
    refine lv_iload_n F.1 F.2.1 d_Model_least_1 rfl (lv_at hl 1 rfl) ?_
    obtain ⟨v_2, hc_1, h⟩ := bd_ex h
    refine cV_i F hA rfl hK hw (c_Model_isBin l hc_1) trivial rfl (good_V lk_1376 lk_1378 ls_78 lk_10 lk_1379) (mr_0 hK hw) hd_Model_isBin ⟨Nat.le_of_ble_eq_true rfl, Nat.le_of_ble_eq_true rfl⟩ rfl hl.1 rfl (Nat.le_of_ble_eq_true rfl) d_Model_least_2 ⟨(Nat.zero_le _), (Nat.zero_le _)⟩ (fun H locs hw => ?_)
    refine lv_if_ne (tgt := 10) F.1 F.2.1 d_Model_least_5 (by decide) (fun c_3 => ?_) (fun c_3 => ?_)
    · replace h := iq c_3 h
      refine lv_iconst (v := -1) F.1 F.2.1 d_Model_least_10 (by decide) ?_
      refine lv_istore_n (lv' := [(2, .int (-1 : Int32)), (0, .ref (ad 0 0)), (1, .int x1)]) F.1 F.2.1 d_Model_least_11 rfl hl (by decide) rfl (fun ls hl => ?_)
      refine lv_iconst (v := 0) F.1 F.2.1 d_Model_least_12 (by decide) ?_
      refine lv_istore_n (lv' := [(3, .int (0 : Int32)), (2, .int (-1 : Int32)), (0, .ref (ad 0 0)), (1, .int x1)]) F.1 F.2.1 d_Model_least_13 rfl hl (by decide) rfl (fun ls hl => ?_)
      refine lv_iconst (v := 0) F.1 F.2.1 d_Model_least_14 (by decide) ?_
      refine lv_istore (lv' := [(4, .int (0 : Int32)), (3, .int (0 : Int32)), (2, .int (-1 : Int32)), (0, .ref (ad 0 0)), (1, .int x1)]) F.1 F.2.1 d_Model_least_15 hl (by decide) rfl (fun ls hl => ?_)
      obtain ⟨x2_21, hc_22, h⟩ := bd_ex h
      obtain ⟨X_17, eX_17⟩ : ∃ X : Int32 → Prop, X = (fun q => ∀ (H : Heap) (locs : List Loc) (ls : Array Slot), Bw mw D ar A s.heap H locs ad S → lv_has ls 7 [(2, .int q)] → W p l e (RM 2 42) s m args below meth c H locs 0 0 Q (F0 m 134 ls [])) := ⟨_, rfl⟩
      have hX_17 : X_17 x2_21 := by
        rw [eX_17]
        intro H locs ls hw hl
        refine lv_iload_n F.1 F.2.1 d_Model_least_134 rfl (lv_at hl 0 rfl) ?_
        cases h
        have ho : X_0 _ := ho
        rw [eX_0] at ho
        exact ho H locs _ ls d_Model_least_135 hw
      obtain ⟨P_17, eP_17⟩ : ∃ P : (Int32 × Int32 × Int32) → Prop, P = (fun q => ∀ (H : Heap) (locs : List Loc) (ls : Array Slot), Bw mw D ar A s.heap H locs ad S → lv_has ls 7 [(0, .ref (ad 0 0)), (1, .int x1), (2, .int q.1), (3, .int q.2.1), (4, .int q.2.2)] → W p l e (RM 2 42) s m args below meth c H locs 0 0 Q (F0 m 17 ls [])) := ⟨_, rfl⟩
      have hL_17 : P_17 ((-1 : Int32), (0 : Int32), (0 : Int32)) := by
        refine wh_gp (P := P_17) (X := X_17) hc_22 hX_17 ?_
        clear h
        intro q o h ho
        obtain ⟨x2, x3, x4⟩ := q
        have h : Model_least_l17 S x1 x2 x3 x4 = some o := h
        unfold Model_least_l17 at h
        rw [eP_17]
        intro H locs ls hw hl
        have J_128_l17 : ∀ (x2 : Int32) (x3 : Int32) (x4 : Int32) (H : Heap) (locs : List Loc) (ls : Array Slot), Bw mw D ar A s.heap H locs ad S → lv_has ls 7 [(0, .ref (ad 0 0)), (1, .int x1), (2, .int x2), (3, .int x3), (4, .int x4)] → ∀ o, Model_least_j128_l17 S x1 x2 x3 x4 = some o → (Sum.elim P_17 X_17) o → W p l e (RM 2 42) s m args below meth c H locs 0 0 Q (F0 m 128 ls []) := by
          intro x2 x3 x4 H locs ls hw hl o h ho
          unfold Model_least_j128_l17 at h
          obtain ⟨x4_20, ex4_20, h⟩ := nm_ex h
          refine lv_iinc (v := x4_20) (lv' := [(4, .int x4_20), (0, .ref (ad 0 0)), (1, .int x1), (2, .int x2), (3, .int x3)]) F.1 F.2.1 d_Model_least_128 hl (k := 4) rfl (by rw [ex4_20]; rfl) (by decide) rfl (fun ls hl => ?_)
          refine lv_goto (tgt := 17) F.1 F.2.1 d_Model_least_131 (by decide) ?_
          cases h
          have ho : P_17 _ := ho
          rw [eP_17] at ho
          exact ho H locs ls hw (lv_sub hl [1, 2, 3, 4, 0] rfl)
        have J_122_l17 : ∀ (x4 : Int32) (x5 : Int32) (H : Heap) (locs : List Loc) (ls : Array Slot), Bw mw D ar A s.heap H locs ad S → lv_has ls 7 [(0, .ref (ad 0 0)), (1, .int x1), (4, .int x4), (5, .int x5)] → ∀ o, Model_least_j122_l17 S x1 x4 x5 = some o → (Sum.elim P_17 X_17) o → W p l e (RM 2 42) s m args below meth c H locs 0 0 Q (F0 m 122 ls []) := by
          intro x4 x5 H locs ls hw hl o h ho
          unfold Model_least_j122_l17 at h
          refine lv_iload F.1 F.2.1 d_Model_least_122 (lv_at hl 2 rfl) ?_
          refine lv_istore_n (lv' := [(2, .int x4), (0, .ref (ad 0 0)), (1, .int x1), (4, .int x4), (5, .int x5)]) F.1 F.2.1 d_Model_least_124 rfl hl (by decide) rfl (fun ls hl => ?_)
          refine lv_iload F.1 F.2.1 d_Model_least_125 (lv_at hl 4 rfl) ?_
          refine lv_istore_n (lv' := [(3, .int x5), (2, .int x4), (0, .ref (ad 0 0)), (1, .int x1), (4, .int x4), (5, .int x5)]) F.1 F.2.1 d_Model_least_127 rfl hl (by decide) rfl (fun ls hl => ?_)
          exact J_128_l17 x4 x5 x4 H locs ls hw (lv_sub hl [2, 3, 1, 0, 4] rfl) o h ho
        refine lv_iload F.1 F.2.1 d_Model_least_17 (lv_at hl 4 rfl) ?_
        refine lv_aload_n F.1 F.2.1 d_Model_least_19 rfl (lv_at hl 0 rfl) ?_
        refine mg_0_54 F hK hw lk_1065 d_Model_least_20 ?_
        refine lv_icmp_ge (tgt := 134) F.1 F.2.1 d_Model_least_23 (by decide) (fun c_4 => ?_) (fun c_4 => ?_)
        · replace h := ip c_4 h
          cases h
          have ho : X_17 _ := ho
          rw [eX_17] at ho
          exact ho H locs ls hw (lv_sub hl [2] rfl)
        · replace h := iq c_4 h
          refine lv_aload_n F.1 F.2.1 d_Model_least_26 rfl (lv_at hl 0 rfl) ?_
          refine mg_0_48 F hK hw lk_1059 d_Model_least_27 ?_
          refine lv_aload_n F.1 F.2.1 d_Model_least_30 rfl (lv_at hl 0 rfl) ?_
          refine mg_0_55 F hK hw lk_1066 d_Model_least_31 ?_
          refine lv_iload F.1 F.2.1 d_Model_least_34 (lv_at hl 4 rfl) ?_
          obtain ⟨hi_5, h⟩ := gd_ex h
          refine ml_0_55 F hK hw hi_5 d_Model_least_36 ?_
          obtain ⟨hi_6, h⟩ := gd_ex h
          refine ml_0_48 F hK hw hi_6 d_Model_least_37 ?_
          refine lv_iload_n F.1 F.2.1 d_Model_least_38 rfl (lv_at hl 1 rfl) ?_
          refine lv_ishr F.1 F.2.1 d_Model_least_39 ?_
          refine lv_iconst (v := 1) F.1 F.2.1 d_Model_least_40 (by decide) ?_
          refine lv_iand F.1 F.2.1 d_Model_least_41 ?_
          refine lv_if_ne (tgt := 48) F.1 F.2.1 d_Model_least_42 (by decide) (fun c_7 => ?_) (fun c_7 => ?_)
          · replace h := iq c_7 h
            refine lv_iconst (v := 0) F.1 F.2.1 d_Model_least_48 (by decide) ?_
            refine lv_istore (lv' := [(5, .int (0 : Int32)), (0, .ref (ad 0 0)), (1, .int x1), (2, .int x2), (3, .int x3), (4, .int x4)]) F.1 F.2.1 d_Model_least_49 hl (by decide) rfl (fun ls hl => ?_)
            refine lv_iconst (v := 0) F.1 F.2.1 d_Model_least_51 (by decide) ?_
            refine lv_istore (lv' := [(6, .int (0 : Int32)), (5, .int (0 : Int32)), (0, .ref (ad 0 0)), (1, .int x1), (2, .int x2), (3, .int x3), (4, .int x4)]) F.1 F.2.1 d_Model_least_52 hl (by decide) rfl (fun ls hl => ?_)
            obtain ⟨x5_16, hc_17, h⟩ := bd_ex h
            obtain ⟨X_54, eX_54⟩ : ∃ X : Int32 → Prop, X = (fun q => ∀ (H : Heap) (locs : List Loc) (ls : Array Slot), Bw mw D ar A s.heap H locs ad S → lv_has ls 7 [(0, .ref (ad 0 0)), (1, .int x1), (2, .int x2), (3, .int x3), (4, .int x4), (5, .int q)] → W p l e (RM 2 42) s m args below meth c H locs 0 0 Q (F0 m 108 ls [])) := ⟨_, rfl⟩
            have hX_54 : X_54 x5_16 := by
              rw [eX_54]
              intro H locs ls hw hl
              refine lv_iload_n F.1 F.2.1 d_Model_least_108 rfl (lv_at hl 2 rfl) ?_
              refine lv_iconst (v := -1) F.1 F.2.1 d_Model_least_109 (by decide) ?_
              refine lv_icmp_eq (tgt := 122) F.1 F.2.1 d_Model_least_110 (by decide) (fun c_18 => ?_) (fun c_18 => ?_)
              · replace h := ip c_18 h
                exact J_122_l17 x4 x5_16 H locs ls hw (lv_sub hl [0, 1, 4, 5] rfl) o h ho
              · replace h := iq c_18 h
                refine lv_iload F.1 F.2.1 d_Model_least_113 (lv_at hl 5 rfl) ?_
                refine lv_iload_n F.1 F.2.1 d_Model_least_115 rfl (lv_at hl 3 rfl) ?_
                refine lv_icmp_lt (tgt := 122) F.1 F.2.1 d_Model_least_116 (by decide) (fun c_19 => ?_) (fun c_19 => ?_)
                · replace h := ip c_19 h
                  exact J_122_l17 x4 x5_16 H locs ls hw (lv_sub hl [0, 1, 4, 5] rfl) o h ho
                · replace h := iq c_19 h
                  refine lv_goto (tgt := 128) F.1 F.2.1 d_Model_least_119 (by decide) ?_
                  exact J_128_l17 x2 x3 x4 H locs ls hw (lv_sub hl [0, 1, 2, 3, 4] rfl) o h ho
            obtain ⟨P_54, eP_54⟩ : ∃ P : (Int32 × Int32) → Prop, P = (fun q => ∀ (H : Heap) (locs : List Loc) (ls : Array Slot), Bw mw D ar A s.heap H locs ad S → lv_has ls 7 [(0, .ref (ad 0 0)), (1, .int x1), (2, .int x2), (3, .int x3), (4, .int x4), (5, .int q.1), (6, .int q.2)] → W p l e (RM 2 42) s m args below meth c H locs 0 0 Q (F0 m 54 ls [])) := ⟨_, rfl⟩
            have hL_54 : P_54 ((0 : Int32), (0 : Int32)) := by
              refine wh_gp (P := P_54) (X := X_54) hc_17 hX_54 ?_
              clear h
              intro q o h ho
              obtain ⟨x5, x6⟩ := q
              have h : Model_least_l54 S x1 x2 x3 x4 x5 x6 = some o := h
              unfold Model_least_l54 at h
              rw [eP_54]
              intro H locs ls hw hl
              refine lv_iload F.1 F.2.1 d_Model_least_54 (lv_at hl 6 rfl) ?_
              refine lv_aload_n F.1 F.2.1 d_Model_least_56 rfl (lv_at hl 0 rfl) ?_
              refine mg_0_20 F hK hw lk_1031 d_Model_least_57 ?_
              refine lv_aload_n F.1 F.2.1 d_Model_least_60 rfl (lv_at hl 0 rfl) ?_
              refine mg_0_18 F hK hw lk_1029 d_Model_least_61 ?_
              obtain ⟨hi_8, h⟩ := gd_ex h
              refine ml_0_20 F hK hw hi_8 d_Model_least_64 ?_
              refine lv_icmp_ge (tgt := 108) F.1 F.2.1 d_Model_least_65 (by decide) (fun c_9 => ?_) (fun c_9 => ?_)
              · replace h := ip c_9 h
                cases h
                have ho : X_54 _ := ho
                rw [eX_54] at ho
                exact ho H locs ls hw (lv_sub hl [0, 1, 2, 3, 4, 5] rfl)
              · replace h := iq c_9 h
                refine lv_iload F.1 F.2.1 d_Model_least_68 (lv_at hl 5 rfl) ?_
                refine lv_aload_n F.1 F.2.1 d_Model_least_70 rfl (lv_at hl 0 rfl) ?_
                refine lv_aload_n F.1 F.2.1 d_Model_least_71 rfl (lv_at hl 0 rfl) ?_
                refine mg_0_55 F hK hw lk_1066 d_Model_least_72 ?_
                refine lv_iload F.1 F.2.1 d_Model_least_75 (lv_at hl 4 rfl) ?_
                obtain ⟨hi_10, h⟩ := gd_ex h
                refine ml_0_55 F hK hw hi_10 d_Model_least_77 ?_
                refine lv_iload F.1 F.2.1 d_Model_least_78 (lv_at hl 6 rfl) ?_
                obtain ⟨v_12, hc_11, h⟩ := bd_ex h
                refine cV_i F hA rfl hK hw (c_Model_valueOf l hc_11) trivial rfl (good_V lk_968 lk_970 ls_46 lk_10 lk_971) (mr_0 hK hw) hd_Model_valueOf ⟨Nat.le_of_ble_eq_true rfl, Nat.le_of_ble_eq_true rfl⟩ rfl hl.1 rfl (Nat.le_of_ble_eq_true rfl) d_Model_least_80 ⟨(Nat.zero_le _), (Nat.zero_le _)⟩ (fun H locs hw => ?_)
                refine lv_aload_n F.1 F.2.1 d_Model_least_83 rfl (lv_at hl 0 rfl) ?_
                refine mg_0_22 F hK hw lk_1033 d_Model_least_84 ?_
                refine lv_bipush (v := 6) F.1 F.2.1 d_Model_least_87 (by decide) ?_
                refine lv_aload_n F.1 F.2.1 d_Model_least_89 rfl (lv_at hl 0 rfl) ?_
                refine mg_0_18 F hK hw lk_1029 d_Model_least_90 ?_
                refine lv_imul F.1 F.2.1 d_Model_least_93 ?_
                refine lv_iload F.1 F.2.1 d_Model_least_94 (lv_at hl 6 rfl) ?_
                refine lv_iadd F.1 F.2.1 d_Model_least_96 ?_
                obtain ⟨hi_13, h⟩ := gd_ex h
                refine ml_0_22 F hK hw hi_13 d_Model_least_97 ?_
                refine lv_isub F.1 F.2.1 d_Model_least_98 ?_
                refine lv_iadd F.1 F.2.1 d_Model_least_99 ?_
                obtain ⟨x5_14, ex5_14, h⟩ := nm_ex h
                refine lv_nm ex5_14 ?_
                refine lv_istore (lv' := [(5, .int x5_14), (0, .ref (ad 0 0)), (1, .int x1), (2, .int x2), (3, .int x3), (4, .int x4), (6, .int x6)]) F.1 F.2.1 d_Model_least_100 hl (by decide) rfl (fun ls hl => ?_)
                obtain ⟨x6_15, ex6_15, h⟩ := nm_ex h
                refine lv_iinc (v := x6_15) (lv' := [(6, .int x6_15), (5, .int x5_14), (0, .ref (ad 0 0)), (1, .int x1), (2, .int x2), (3, .int x3), (4, .int x4)]) F.1 F.2.1 d_Model_least_102 hl (k := 6) rfl (by rw [ex6_15]; rfl) (by decide) rfl (fun ls hl => ?_)
                refine lv_goto (tgt := 54) F.1 F.2.1 d_Model_least_105 (by decide) ?_
                cases h
                have ho : P_54 _ := ho
                rw [eP_54] at ho
                exact ho H locs ls hw (lv_sub hl [2, 3, 4, 5, 6, 1, 0] rfl)
            rw [eP_54] at hL_54
            exact hL_54 H locs ls hw (lv_sub hl [2, 3, 4, 5, 6, 1, 0] rfl)
          · replace h := ip c_7 h
            refine lv_goto (tgt := 128) F.1 F.2.1 d_Model_least_45 (by decide) ?_
            exact J_128_l17 x2 x3 x4 H locs ls hw (lv_sub hl [0, 1, 2, 3, 4] rfl) o h ho
      rw [eP_17] at hL_17
      exact hL_17 H locs ls hw (lv_sub hl [3, 4, 2, 1, 0] rfl)
    · replace h := ip c_3 h
      refine lv_iconst (v := -1) F.1 F.2.1 d_Model_least_8 (by decide) ?_
      cases h
      have ho : X_0 _ := ho
      rw [eX_0] at ho
      exact ho H locs _ ls d_Model_least_9 hw
  exact key _ _ hw _ h (by rw [eX_0]; exact fun H locs pc ls hd hw => hQ H locs pc ls ad rfl hd hw)
