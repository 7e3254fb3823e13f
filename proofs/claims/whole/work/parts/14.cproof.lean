theorem d_Book_reachOf_0 : decode b_Book_reachOf 0 = .ok (.iload_n 1, 1) := by decide +kernel
theorem d_Book_reachOf_1 : decode b_Book_reachOf 1 = .ok (.ifCond .lt 18, 3) := by decide +kernel
theorem d_Book_reachOf_4 : decode b_Book_reachOf 4 = .ok (.iload_n 1, 1) := by decide +kernel
theorem d_Book_reachOf_5 : decode b_Book_reachOf 5 = .ok (.bipush 48, 2) := by decide +kernel
theorem d_Book_reachOf_7 : decode b_Book_reachOf 7 = .ok (.if_icmp .ge 12, 3) := by decide +kernel
theorem d_Book_reachOf_10 : decode b_Book_reachOf 10 = .ok (.aload_n 0, 1) := by decide +kernel
theorem d_Book_reachOf_11 : decode b_Book_reachOf 11 = .ok (.getfield 40, 3) := by decide +kernel
theorem d_Book_reachOf_14 : decode b_Book_reachOf 14 = .ok (.iload_n 1, 1) := by decide +kernel
theorem d_Book_reachOf_15 : decode b_Book_reachOf 15 = .ok (.iaload, 1) := by decide +kernel
theorem d_Book_reachOf_16 : decode b_Book_reachOf 16 = .ok (.goto 4, 3) := by decide +kernel
theorem d_Book_reachOf_19 : decode b_Book_reachOf 19 = .ok (.iconst (-1), 1) := by decide +kernel
theorem d_Book_reachOf_20 : decode b_Book_reachOf 20 = .ok (.ireturn, 1) := by decide +kernel
set_option maxHeartbeats 4000000 in
set_option maxRecDepth 100000 in
theorem c_Book_reachOf (l : Launch) {S : St} {x1 : Int32} {r : Int32} (h : f_Book_reachOf S x1 = some r) : MI cw l y_Book_reachOf b_Book_reachOf 2 (some .int) 0 0 0 0 (fun ad => [.ref (ad 5 0), .int x1]) aT aE S r S := by
  refine MI_of "LawfulLots$Book" rfl (by decide) (fun _ => Nat.le_of_ble_eq_true rfl) ?_
  intro p e s m args below meth c D ar ad A Q ls hP F hK hA hw hl hQ
  have hl : lv_has ls 2 [(0, .ref (ad 5 0)), (1, .int x1)] := hl
  obtain ⟨X_0, eX_0⟩ : ∃ X : Int32 → Prop, X = (fun q => ∀ (H : Heap) (locs : List Loc) (pc : Nat) (ls : Array Slot), decode b_Book_reachOf pc = .ok (.ireturn, 1) → Bw cw D ar A s.heap H locs ad S → W p l e (RM 0 0) s m args below meth c H locs 0 0 Q (F0 m pc ls [.int q])) := ⟨_, rfl⟩
  have key : ∀ (H : Heap) (locs : List Loc), Bw cw D ar A s.heap H locs ad S → ∀ o, f_Book_reachOf S x1 = some o → X_0 o → W p l e (RM 0 0) s m args below meth c H locs 0 0 Q (F0 m 0 ls []) := by
    intro H locs hw o h ho
    unfold f_Book_reachOf at h
    have J_20 : ∀ (t0 : Int32) (H : Heap) (locs : List Loc) (ls : Array Slot), Bw cw D ar A s.heap H locs ad S → lv_has ls 2 [] → ∀ o, Book_reachOf_j20 S t0 = some o → X_0 o → W p l e (RM 0 0) s m args below meth c H locs 0 0 Q (F0 m 20 ls [.int t0]) := by
      intro t0 H locs ls hw hl o h ho
      unfold Book_reachOf_j20 at h
      cases h
      have ho : X_0 _ := ho
      rw [eX_0] at ho
      exact ho H locs _ ls d_Book_reachOf_20 hw
    have J_19 : ∀ (H : Heap) (locs : List Loc) (ls : Array Slot), Bw cw D ar A s.heap H locs ad S → lv_has ls 2 [] → ∀ o, Book_reachOf_j19 S = some o → X_0 o → W p l e (RM 0 0) s m args below meth c H locs 0 0 Q (F0 m 19 ls []) := by
      intro H locs ls hw hl o h ho
      unfold Book_reachOf_j19 at h
      refine lv_iconst (v := -1) F.1 F.2.1 d_Book_reachOf_19 (by decide) ?_
      exact J_20 (-1 : Int32) H locs ls hw (lv_sub hl [] rfl) o h ho
    refine lv_iload_n F.1 F.2.1 d_Book_reachOf_0 rfl (lv_at hl 1 rfl) ?_
    refine lv_if_lt (tgt := 19) F.1 F.2.1 d_Book_reachOf_1 (by decide) (fun c_1 => ?_) (fun c_1 => ?_)
    · replace h := ip c_1 h
      exact J_19 H locs ls hw (lv_sub hl [] rfl) o h ho
    · replace h := iq c_1 h
      refine lv_iload_n F.1 F.2.1 d_Book_reachOf_4 rfl (lv_at hl 1 rfl) ?_
      refine lv_bipush (v := 48) F.1 F.2.1 d_Book_reachOf_5 (by decide) ?_
      refine lv_icmp_ge (tgt := 19) F.1 F.2.1 d_Book_reachOf_7 (by decide) (fun c_2 => ?_) (fun c_2 => ?_)
      · replace h := ip c_2 h
        exact J_19 H locs ls hw (lv_sub hl [] rfl) o h ho
      · replace h := iq c_2 h
        refine lv_aload_n F.1 F.2.1 d_Book_reachOf_10 rfl (lv_at hl 0 rfl) ?_
        refine cg_5_9 F hK hw lk_80 d_Book_reachOf_11 ?_
        refine lv_iload_n F.1 F.2.1 d_Book_reachOf_14 rfl (lv_at hl 1 rfl) ?_
        obtain ⟨hi_3, h⟩ := gd_ex h
        refine cl_5_9 F hK hw hi_3 d_Book_reachOf_15 ?_
        refine lv_goto (tgt := 20) F.1 F.2.1 d_Book_reachOf_16 (by decide) ?_
        exact J_20 (gA S 5 9 x1.toNatClampNeg) H locs ls hw (lv_sub hl [] rfl) o h ho
  exact key _ _ hw _ h (by rw [eX_0]; exact fun H locs pc ls hd hw => hQ H locs pc ls ad rfl hd hw)
theorem d_Chart_reachOfShares_0 : decode b_Chart_reachOfShares 0 = .ok (.iconst (-1), 1) := by decide +kernel
theorem d_Chart_reachOfShares_1 : decode b_Chart_reachOfShares 1 = .ok (.istore_n 1, 1) := by decide +kernel
theorem d_Chart_reachOfShares_2 : decode b_Chart_reachOfShares 2 = .ok (.iconst 0, 1) := by decide +kernel
theorem d_Chart_reachOfShares_3 : decode b_Chart_reachOfShares 3 = .ok (.istore_n 2, 1) := by decide +kernel
theorem d_Chart_reachOfShares_4 : decode b_Chart_reachOfShares 4 = .ok (.iload_n 2, 1) := by decide +kernel
theorem d_Chart_reachOfShares_5 : decode b_Chart_reachOfShares 5 = .ok (.aload_n 0, 1) := by decide +kernel
theorem d_Chart_reachOfShares_6 : decode b_Chart_reachOfShares 6 = .ok (.getfield 43, 3) := by decide +kernel
theorem d_Chart_reachOfShares_9 : decode b_Chart_reachOfShares 9 = .ok (.iconst 4, 1) := by decide +kernel
theorem d_Chart_reachOfShares_10 : decode b_Chart_reachOfShares 10 = .ok (.invokevirtual 76, 3) := by decide +kernel
theorem d_Chart_reachOfShares_13 : decode b_Chart_reachOfShares 13 = .ok (.if_icmp .ge 41, 3) := by decide +kernel
theorem d_Chart_reachOfShares_16 : decode b_Chart_reachOfShares 16 = .ok (.iload_n 1, 1) := by decide +kernel
theorem d_Chart_reachOfShares_17 : decode b_Chart_reachOfShares 17 = .ok (.aload_n 0, 1) := by decide +kernel
theorem d_Chart_reachOfShares_18 : decode b_Chart_reachOfShares 18 = .ok (.getfield 43, 3) := by decide +kernel
theorem d_Chart_reachOfShares_21 : decode b_Chart_reachOfShares 21 = .ok (.bipush 32, 2) := by decide +kernel
theorem d_Chart_reachOfShares_23 : decode b_Chart_reachOfShares 23 = .ok (.iload_n 2, 1) := by decide +kernel
theorem d_Chart_reachOfShares_24 : decode b_Chart_reachOfShares 24 = .ok (.iadd, 1) := by decide +kernel
theorem d_Chart_reachOfShares_25 : decode b_Chart_reachOfShares 25 = .ok (.invokevirtual 165, 3) := by decide +kernel
theorem d_Chart_reachOfShares_28 : decode b_Chart_reachOfShares 28 = .ok (.invokestatic 168, 3) := by decide +kernel
theorem d_Chart_reachOfShares_31 : decode b_Chart_reachOfShares 31 = .ok (.istore_n 1, 1) := by decide +kernel
theorem d_Chart_reachOfShares_32 : decode b_Chart_reachOfShares 32 = .ok (.iload_n 1, 1) := by decide +kernel
theorem d_Chart_reachOfShares_33 : decode b_Chart_reachOfShares 33 = .ok (.aload_n 0, 1) := by decide +kernel
theorem d_Chart_reachOfShares_34 : decode b_Chart_reachOfShares 34 = .ok (.getfield 43, 3) := by decide +kernel
theorem d_Chart_reachOfShares_37 : decode b_Chart_reachOfShares 37 = .ok (.bipush 40, 2) := by decide +kernel
theorem d_Chart_reachOfShares_39 : decode b_Chart_reachOfShares 39 = .ok (.iload_n 2, 1) := by decide +kernel
theorem d_Chart_reachOfShares_40 : decode b_Chart_reachOfShares 40 = .ok (.iadd, 1) := by decide +kernel
theorem d_Chart_reachOfShares_41 : decode b_Chart_reachOfShares 41 = .ok (.invokevirtual 165, 3) := by decide +kernel
theorem d_Chart_reachOfShares_44 : decode b_Chart_reachOfShares 44 = .ok (.invokestatic 168, 3) := by decide +kernel
theorem d_Chart_reachOfShares_47 : decode b_Chart_reachOfShares 47 = .ok (.istore_n 1, 1) := by decide +kernel
theorem d_Chart_reachOfShares_48 : decode b_Chart_reachOfShares 48 = .ok (.iinc 2 1, 3) := by decide +kernel
theorem d_Chart_reachOfShares_51 : decode b_Chart_reachOfShares 51 = .ok (.goto (-47), 3) := by decide +kernel
theorem d_Chart_reachOfShares_54 : decode b_Chart_reachOfShares 54 = .ok (.iload_n 1, 1) := by decide +kernel
theorem d_Chart_reachOfShares_55 : decode b_Chart_reachOfShares 55 = .ok (.ireturn, 1) := by decide +kernel
set_option maxHeartbeats 4000000 in
set_option maxRecDepth 100000 in
theorem c_Chart_reachOfShares (l : Launch) {S : St} {r : Int32} (h : f_Chart_reachOfShares S = some r) : MI cw l y_Chart_reachOfShares b_Chart_reachOfShares 3 (some .int) 1 21 0 0 (fun ad => [.ref (ad 4 0)]) aT aE S r S := by
  refine MI_of "LawfulLots$Chart" rfl (by decide) (fun _ => Nat.le_of_ble_eq_true rfl) ?_
  intro p e s m args below meth c D ar ad A Q ls hP F hK hA hw hl hQ
  have hl : lv_has ls 3 [(0, .ref (ad 4 0))] := hl
  obtain ⟨X_0, eX_0⟩ : ∃ X : Int32 → Prop, X = (fun q => ∀ (H : Heap) (locs : List Loc) (pc : Nat) (ls : Array Slot), decode b_Chart_reachOfShares pc = .ok (.ireturn, 1) → Bw cw D ar A s.heap H locs ad S → W p l e (RM 1 21) s m args below meth c H locs 0 0 Q (F0 m pc ls [.int q])) := ⟨_, rfl⟩
  have key : ∀ (H : Heap) (locs : List Loc), Bw cw D ar A s.heap H locs ad S → ∀ o, f_Chart_reachOfShares S = some o → X_0 o → W p l e (RM 1 21) s m args below meth c H locs 0 0 Q (F0 m 0 ls []) := by
    intro H locs hw o h ho
    unfold f_Chart_reachOfShares at h
    refine lv_iconst (v := -1) F.1 F.2.1 d_Chart_reachOfShares_0 (by decide) ?_
    refine lv_istore_n (lv' := [(1, .int (-1 : Int32)), (0, .ref (ad 4 0))]) F.1 F.2.1 d_Chart_reachOfShares_1 rfl hl (by decide) rfl (fun ls hl => ?_)
    refine lv_iconst (v := 0) F.1 F.2.1 d_Chart_reachOfShares_2 (by decide) ?_
    refine lv_istore_n (lv' := [(2, .int (0 : Int32)), (1, .int (-1 : Int32)), (0, .ref (ad 4 0))]) F.1 F.2.1 d_Chart_reachOfShares_3 rfl hl (by decide) rfl (fun ls hl => ?_)
    obtain ⟨x1_11, hc_12, h⟩ := bd_ex h
    obtain ⟨X_4, eX_4⟩ : ∃ X : Int32 → Prop, X = (fun q => ∀ (H : Heap) (locs : List Loc) (ls : Array Slot), Bw cw D ar A s.heap H locs ad S → lv_has ls 3 [(1, .int q)] → W p l e (RM 1 21) s m args below meth c H locs 0 0 Q (F0 m 54 ls [])) := ⟨_, rfl⟩
    have hX_4 : X_4 x1_11 := by
      rw [eX_4]
      intro H locs ls hw hl
      refine lv_iload_n F.1 F.2.1 d_Chart_reachOfShares_54 rfl (lv_at hl 0 rfl) ?_
      cases h
      have ho : X_0 _ := ho
      rw [eX_0] at ho
      exact ho H locs _ ls d_Chart_reachOfShares_55 hw
    obtain ⟨P_4, eP_4⟩ : ∃ P : (Int32 × Int32) → Prop, P = (fun q => ∀ (H : Heap) (locs : List Loc) (ls : Array Slot), Bw cw D ar A s.heap H locs ad S → lv_has ls 3 [(0, .ref (ad 4 0)), (1, .int q.1), (2, .int q.2)] → W p l e (RM 1 21) s m args below meth c H locs 0 0 Q (F0 m 4 ls [])) := ⟨_, rfl⟩
    have hL_4 : P_4 ((-1 : Int32), (0 : Int32)) := by
      refine wh_gp (P := P_4) (X := X_4) hc_12 hX_4 ?_
      clear h
      intro q o h ho
      obtain ⟨x1, x2⟩ := q
      have h : Chart_reachOfShares_l4 S x1 x2 = some o := h
      unfold Chart_reachOfShares_l4 at h
      rw [eP_4]
      intro H locs ls hw hl
      refine lv_iload_n F.1 F.2.1 d_Chart_reachOfShares_4 rfl (lv_at hl 2 rfl) ?_
      refine lv_aload_n F.1 F.2.1 d_Chart_reachOfShares_5 rfl (lv_at hl 0 rfl) ?_
      refine cg_4_8 F hK hw lk_199 d_Chart_reachOfShares_6 ?_
      refine lv_iconst (v := 4) F.1 F.2.1 d_Chart_reachOfShares_9 (by decide) ?_
      obtain ⟨v_2, hc_1, h⟩ := bd_ex h
      refine cV_i F hA rfl hK hw (c_Book_toldOf_5 l hc_1) trivial rfl (good_V lk_556 lk_452 lk_453 lk_4 lk_454) (cr_5 hK hw) hd_Book_toldOf ⟨Nat.le_of_ble_eq_true rfl, Nat.le_of_ble_eq_true rfl⟩ rfl hl.1 rfl (Nat.le_of_ble_eq_true rfl) d_Chart_reachOfShares_10 ⟨(Nat.zero_le _), (Nat.zero_le _)⟩ (fun H locs hw => ?_)
      refine lv_icmp_ge (tgt := 54) F.1 F.2.1 d_Chart_reachOfShares_13 (by decide) (fun c_3 => ?_) (fun c_3 => ?_)
      · replace h := ip c_3 h
        cases h
        have ho : X_4 _ := ho
        rw [eX_4] at ho
        exact ho H locs ls hw (lv_sub hl [1] rfl)
      · replace h := iq c_3 h
        refine lv_iload_n F.1 F.2.1 d_Chart_reachOfShares_16 rfl (lv_at hl 1 rfl) ?_
        refine lv_aload_n F.1 F.2.1 d_Chart_reachOfShares_17 rfl (lv_at hl 0 rfl) ?_
        refine cg_4_8 F hK hw lk_199 d_Chart_reachOfShares_18 ?_
        refine lv_bipush (v := 32) F.1 F.2.1 d_Chart_reachOfShares_21 (by decide) ?_
        refine lv_iload_n F.1 F.2.1 d_Chart_reachOfShares_23 rfl (lv_at hl 2 rfl) ?_
        refine lv_iadd F.1 F.2.1 d_Chart_reachOfShares_24 ?_
        obtain ⟨v_5, hc_4, h⟩ := bd_ex h
        refine cV_i F hA rfl hK hw (c_Book_reachOf l hc_4) trivial rfl (good_V lk_685 lk_686 lk_687 lk_4 lk_688) (cr_5 hK hw) hd_Book_reachOf ⟨Nat.le_of_ble_eq_true rfl, Nat.le_of_ble_eq_true rfl⟩ rfl hl.1 rfl (Nat.le_of_ble_eq_true rfl) d_Chart_reachOfShares_25 ⟨(Nat.zero_le _), (Nat.zero_le _)⟩ (fun H locs hw => ?_)
        refine va_mmax F.1 F.2.1 (F.2.2.1.trans hl.1.symm) F.2.2.2.1 (F.2.2.2.2 _ lk_689) (F.2.2.2.2 _ lk_400) (F.2.2.2.2 _ lk_12) (F.2.2.2.2 _ lk_401) (Nat.le_of_ble_eq_true rfl) (Nat.le_of_ble_eq_true rfl) (Nat.zero_le _) (Nat.zero_le _) d_Chart_reachOfShares_28 ?_
        obtain ⟨x1_6, ex1_6, h⟩ := nm_ex h
        refine lv_nm ex1_6 ?_
        refine lv_istore_n (lv' := [(1, .int x1_6), (0, .ref (ad 4 0)), (2, .int x2)]) F.1 F.2.1 d_Chart_reachOfShares_31 rfl hl (by decide) rfl (fun ls hl => ?_)
        refine lv_iload_n F.1 F.2.1 d_Chart_reachOfShares_32 rfl (lv_at hl 0 rfl) ?_
        refine lv_aload_n F.1 F.2.1 d_Chart_reachOfShares_33 rfl (lv_at hl 1 rfl) ?_
        refine cg_4_8 F hK hw lk_199 d_Chart_reachOfShares_34 ?_
        refine lv_bipush (v := 40) F.1 F.2.1 d_Chart_reachOfShares_37 (by decide) ?_
        refine lv_iload_n F.1 F.2.1 d_Chart_reachOfShares_39 rfl (lv_at hl 2 rfl) ?_
        refine lv_iadd F.1 F.2.1 d_Chart_reachOfShares_40 ?_
        obtain ⟨v_8, hc_7, h⟩ := bd_ex h
        refine cV_i F hA rfl hK hw (c_Book_reachOf l hc_7) trivial rfl (good_V lk_685 lk_686 lk_687 lk_4 lk_688) (cr_5 hK hw) hd_Book_reachOf ⟨Nat.le_of_ble_eq_true rfl, Nat.le_of_ble_eq_true rfl⟩ rfl hl.1 rfl (Nat.le_of_ble_eq_true rfl) d_Chart_reachOfShares_41 ⟨(Nat.zero_le _), (Nat.zero_le _)⟩ (fun H locs hw => ?_)
        refine va_mmax F.1 F.2.1 (F.2.2.1.trans hl.1.symm) F.2.2.2.1 (F.2.2.2.2 _ lk_689) (F.2.2.2.2 _ lk_400) (F.2.2.2.2 _ lk_12) (F.2.2.2.2 _ lk_401) (Nat.le_of_ble_eq_true rfl) (Nat.le_of_ble_eq_true rfl) (Nat.zero_le _) (Nat.zero_le _) d_Chart_reachOfShares_44 ?_
        obtain ⟨x1_9, ex1_9, h⟩ := nm_ex h
        refine lv_nm ex1_9 ?_
        refine lv_istore_n (lv' := [(1, .int x1_9), (0, .ref (ad 4 0)), (2, .int x2)]) F.1 F.2.1 d_Chart_reachOfShares_47 rfl hl (by decide) rfl (fun ls hl => ?_)
        obtain ⟨x2_10, ex2_10, h⟩ := nm_ex h
        refine lv_iinc (v := x2_10) (lv' := [(2, .int x2_10), (1, .int x1_9), (0, .ref (ad 4 0))]) F.1 F.2.1 d_Chart_reachOfShares_48 hl (k := 2) rfl (by rw [ex2_10]; rfl) (by decide) rfl (fun ls hl => ?_)
        refine lv_goto (tgt := 4) F.1 F.2.1 d_Chart_reachOfShares_51 (by decide) ?_
        cases h
        have ho : P_4 _ := ho
        rw [eP_4] at ho
        exact ho H locs ls hw (lv_sub hl [2, 1, 0] rfl)
    rw [eP_4] at hL_4
    exact hL_4 H locs ls hw (lv_sub hl [2, 1, 0] rfl)
  exact key _ _ hw _ h (by rw [eX_0]; exact fun H locs pc ls hd hw => hQ H locs pc ls ad rfl hd hw)
theorem d_Book_isEmpty_0 : decode b_Book_isEmpty 0 = .ok (.iload_n 1, 1) := by decide +kernel
theorem d_Book_isEmpty_1 : decode b_Book_isEmpty 1 = .ok (.ifCond .lt 24, 3) := by decide +kernel
theorem d_Book_isEmpty_4 : decode b_Book_isEmpty 4 = .ok (.iload_n 1, 1) := by decide +kernel
theorem d_Book_isEmpty_5 : decode b_Book_isEmpty 5 = .ok (.bipush 48, 2) := by decide +kernel
theorem d_Book_isEmpty_7 : decode b_Book_isEmpty 7 = .ok (.if_icmp .ge 18, 3) := by decide +kernel
theorem d_Book_isEmpty_10 : decode b_Book_isEmpty 10 = .ok (.aload_n 0, 1) := by decide +kernel
theorem d_Book_isEmpty_11 : decode b_Book_isEmpty 11 = .ok (.getfield 34, 3) := by decide +kernel
theorem d_Book_isEmpty_14 : decode b_Book_isEmpty 14 = .ok (.iload_n 1, 1) := by decide +kernel
theorem d_Book_isEmpty_15 : decode b_Book_isEmpty 15 = .ok (.iaload, 1) := by decide +kernel
theorem d_Book_isEmpty_16 : decode b_Book_isEmpty 16 = .ok (.aload_n 0, 1) := by decide +kernel
theorem d_Book_isEmpty_17 : decode b_Book_isEmpty 17 = .ok (.getfield 37, 3) := by decide +kernel
theorem d_Book_isEmpty_20 : decode b_Book_isEmpty 20 = .ok (.iload_n 1, 1) := by decide +kernel
theorem d_Book_isEmpty_21 : decode b_Book_isEmpty 21 = .ok (.iaload, 1) := by decide +kernel
theorem d_Book_isEmpty_22 : decode b_Book_isEmpty 22 = .ok (.if_icmp .ne 7, 3) := by decide +kernel
theorem d_Book_isEmpty_25 : decode b_Book_isEmpty 25 = .ok (.iconst 1, 1) := by decide +kernel
theorem d_Book_isEmpty_26 : decode b_Book_isEmpty 26 = .ok (.goto 4, 3) := by decide +kernel
theorem d_Book_isEmpty_29 : decode b_Book_isEmpty 29 = .ok (.iconst 0, 1) := by decide +kernel
theorem d_Book_isEmpty_30 : decode b_Book_isEmpty 30 = .ok (.ireturn, 1) := by decide +kernel
set_option maxHeartbeats 4000000 in
set_option maxRecDepth 100000 in
theorem c_Book_isEmpty (l : Launch) {S : St} {x1 : Int32} {r : Int32} (h : f_Book_isEmpty S x1 = some r) : MI cw l y_Book_isEmpty b_Book_isEmpty 2 (some .boolean) 0 0 0 0 (fun ad => [.ref (ad 5 0), .int x1]) aT aE S r S := by
  refine MZ_of "LawfulLots$Book" rfl (by decide) (fun _ => Nat.le_of_ble_eq_true rfl) ?_
  intro p e s m args below meth c D ar ad A Q ls hP F hK hA hw hl hQ
  have hl : lv_has ls 2 [(0, .ref (ad 5 0)), (1, .int x1)] := hl
  obtain ⟨X_0, eX_0⟩ : ∃ X : Int32 → Prop, X = (fun q => ∀ (H : Heap) (locs : List Loc) (pc : Nat) (ls : Array Slot), isB q = true → decode b_Book_isEmpty pc = .ok (.ireturn, 1) → Bw cw D ar A s.heap H locs ad S → W p l e (RM 0 0) s m args below meth c H locs 0 0 Q (F0 m pc ls [.int q])) := ⟨_, rfl⟩
  have key : ∀ (H : Heap) (locs : List Loc), Bw cw D ar A s.heap H locs ad S → ∀ o, f_Book_isEmpty S x1 = some o → X_0 o → W p l e (RM 0 0) s m args below meth c H locs 0 0 Q (F0 m 0 ls []) := by
    intro H locs hw o h ho
    unfold f_Book_isEmpty at h
    have J_30 : ∀ (t0 : Int32) (H : Heap) (locs : List Loc) (ls : Array Slot), Bw cw D ar A s.heap H locs ad S → lv_has ls 2 [] → ∀ o, Book_isEmpty_j30 S t0 = some o → X_0 o → W p l e (RM 0 0) s m args below meth c H locs 0 0 Q (F0 m 30 ls [.int t0]) := by
      intro t0 H locs ls hw hl o h ho
      unfold Book_isEmpty_j30 at h
      obtain ⟨hb_6, h⟩ := gd_ex h
      cases h
      have ho : X_0 _ := ho
      rw [eX_0] at ho
      exact ho H locs _ ls hb_6 d_Book_isEmpty_30 hw
    have J_25 : ∀ (H : Heap) (locs : List Loc) (ls : Array Slot), Bw cw D ar A s.heap H locs ad S → lv_has ls 2 [] → ∀ o, Book_isEmpty_j25 S = some o → X_0 o → W p l e (RM 0 0) s m args below meth c H locs 0 0 Q (F0 m 25 ls []) := by
      intro H locs ls hw hl o h ho
      unfold Book_isEmpty_j25 at h
      refine lv_iconst (v := 1) F.1 F.2.1 d_Book_isEmpty_25 (by decide) ?_
      refine lv_goto (tgt := 30) F.1 F.2.1 d_Book_isEmpty_26 (by decide) ?_
      exact J_30 (1 : Int32) H locs ls hw (lv_sub hl [] rfl) o h ho
    refine lv_iload_n F.1 F.2.1 d_Book_isEmpty_0 rfl (lv_at hl 1 rfl) ?_
    refine lv_if_lt (tgt := 25) F.1 F.2.1 d_Book_isEmpty_1 (by decide) (fun c_1 => ?_) (fun c_1 => ?_)
    · replace h := ip c_1 h
      exact J_25 H locs ls hw (lv_sub hl [] rfl) o h ho
    · replace h := iq c_1 h
      refine lv_iload_n F.1 F.2.1 d_Book_isEmpty_4 rfl (lv_at hl 1 rfl) ?_
      refine lv_bipush (v := 48) F.1 F.2.1 d_Book_isEmpty_5 (by decide) ?_
      refine lv_icmp_ge (tgt := 25) F.1 F.2.1 d_Book_isEmpty_7 (by decide) (fun c_2 => ?_) (fun c_2 => ?_)
      · replace h := ip c_2 h
        exact J_25 H locs ls hw (lv_sub hl [] rfl) o h ho
      · replace h := iq c_2 h
        refine lv_aload_n F.1 F.2.1 d_Book_isEmpty_10 rfl (lv_at hl 0 rfl) ?_
        refine cg_5_7 F hK hw lk_76 d_Book_isEmpty_11 ?_
        refine lv_iload_n F.1 F.2.1 d_Book_isEmpty_14 rfl (lv_at hl 1 rfl) ?_
        obtain ⟨hi_3, h⟩ := gd_ex h
        refine cl_5_7 F hK hw hi_3 d_Book_isEmpty_15 ?_
        refine lv_aload_n F.1 F.2.1 d_Book_isEmpty_16 rfl (lv_at hl 0 rfl) ?_
        refine cg_5_8 F hK hw lk_78 d_Book_isEmpty_17 ?_
        refine lv_iload_n F.1 F.2.1 d_Book_isEmpty_20 rfl (lv_at hl 1 rfl) ?_
        obtain ⟨hi_4, h⟩ := gd_ex h
        refine cl_5_8 F hK hw hi_4 d_Book_isEmpty_21 ?_
        refine lv_icmp_ne (tgt := 29) F.1 F.2.1 d_Book_isEmpty_22 (by decide) (fun c_5 => ?_) (fun c_5 => ?_)
        · replace h := iq c_5 h
          refine lv_iconst (v := 0) F.1 F.2.1 d_Book_isEmpty_29 (by decide) ?_
          exact J_30 (0 : Int32) H locs ls hw (lv_sub hl [] rfl) o h ho
        · replace h := ip c_5 h
          exact J_25 H locs ls hw (lv_sub hl [] rfl) o h ho
  exact key _ _ hw _ h (by rw [eX_0]; exact fun H locs pc ls hb hd hw => hQ H locs pc ls ad hb rfl hd hw)
theorem d_Chart_shareNow_0 : decode b_Chart_shareNow 0 = .ok (.iconst 0, 1) := by decide +kernel
theorem d_Chart_shareNow_1 : decode b_Chart_shareNow 1 = .ok (.istore_n 1, 1) := by decide +kernel
theorem d_Chart_shareNow_2 : decode b_Chart_shareNow 2 = .ok (.iload_n 1, 1) := by decide +kernel
theorem d_Chart_shareNow_3 : decode b_Chart_shareNow 3 = .ok (.aload_n 0, 1) := by decide +kernel
theorem d_Chart_shareNow_4 : decode b_Chart_shareNow 4 = .ok (.getfield 43, 3) := by decide +kernel
theorem d_Chart_shareNow_7 : decode b_Chart_shareNow 7 = .ok (.iconst 4, 1) := by decide +kernel
theorem d_Chart_shareNow_8 : decode b_Chart_shareNow 8 = .ok (.invokevirtual 76, 3) := by decide +kernel
theorem d_Chart_shareNow_11 : decode b_Chart_shareNow 11 = .ok (.if_icmp .ge 84, 3) := by decide +kernel
theorem d_Chart_shareNow_14 : decode b_Chart_shareNow 14 = .ok (.bipush 40, 2) := by decide +kernel
theorem d_Chart_shareNow_16 : decode b_Chart_shareNow 16 = .ok (.iload_n 1, 1) := by decide +kernel
theorem d_Chart_shareNow_17 : decode b_Chart_shareNow 17 = .ok (.iadd, 1) := by decide +kernel
theorem d_Chart_shareNow_18 : decode b_Chart_shareNow 18 = .ok (.istore_n 2, 1) := by decide +kernel
theorem d_Chart_shareNow_19 : decode b_Chart_shareNow 19 = .ok (.aload_n 0, 1) := by decide +kernel
theorem d_Chart_shareNow_20 : decode b_Chart_shareNow 20 = .ok (.getfield 43, 3) := by decide +kernel
theorem d_Chart_shareNow_23 : decode b_Chart_shareNow 23 = .ok (.iload_n 2, 1) := by decide +kernel
theorem d_Chart_shareNow_24 : decode b_Chart_shareNow 24 = .ok (.invokevirtual 171, 3) := by decide +kernel
theorem d_Chart_shareNow_27 : decode b_Chart_shareNow 27 = .ok (.ifCond .ne 26, 3) := by decide +kernel
theorem d_Chart_shareNow_30 : decode b_Chart_shareNow 30 = .ok (.aload_n 0, 1) := by decide +kernel
theorem d_Chart_shareNow_31 : decode b_Chart_shareNow 31 = .ok (.getfield 12, 3) := by decide +kernel
theorem d_Chart_shareNow_34 : decode b_Chart_shareNow 34 = .ok (.aload_n 0, 1) := by decide +kernel
theorem d_Chart_shareNow_35 : decode b_Chart_shareNow 35 = .ok (.getfield 43, 3) := by decide +kernel
theorem d_Chart_shareNow_38 : decode b_Chart_shareNow 38 = .ok (.iload_n 2, 1) := by decide +kernel
theorem d_Chart_shareNow_39 : decode b_Chart_shareNow 39 = .ok (.aload_n 0, 1) := by decide +kernel
theorem d_Chart_shareNow_40 : decode b_Chart_shareNow 40 = .ok (.getfield 18, 3) := by decide +kernel
theorem d_Chart_shareNow_43 : decode b_Chart_shareNow 43 = .ok (.aload_n 0, 1) := by decide +kernel
theorem d_Chart_shareNow_44 : decode b_Chart_shareNow 44 = .ok (.getfield 18, 3) := by decide +kernel
theorem d_Chart_shareNow_47 : decode b_Chart_shareNow 47 = .ok (.invokevirtual 125, 3) := by decide +kernel
theorem d_Chart_shareNow_50 : decode b_Chart_shareNow 50 = .ok (.ifCond .eq 39, 3) := by decide +kernel
theorem d_Chart_shareNow_53 : decode b_Chart_shareNow 53 = .ok (.aload_n 0, 1) := by decide +kernel
theorem d_Chart_shareNow_54 : decode b_Chart_shareNow 54 = .ok (.getfield 12, 3) := by decide +kernel
theorem d_Chart_shareNow_57 : decode b_Chart_shareNow 57 = .ok (.aload_n 0, 1) := by decide +kernel
theorem d_Chart_shareNow_58 : decode b_Chart_shareNow 58 = .ok (.getfield 43, 3) := by decide +kernel
theorem d_Chart_shareNow_61 : decode b_Chart_shareNow 61 = .ok (.bipush 32, 2) := by decide +kernel
theorem d_Chart_shareNow_63 : decode b_Chart_shareNow 63 = .ok (.iload_n 1, 1) := by decide +kernel
theorem d_Chart_shareNow_64 : decode b_Chart_shareNow 64 = .ok (.iadd, 1) := by decide +kernel
theorem d_Chart_shareNow_65 : decode b_Chart_shareNow 65 = .ok (.aload_n 0, 1) := by decide +kernel
theorem d_Chart_shareNow_66 : decode b_Chart_shareNow 66 = .ok (.getfield 18, 3) := by decide +kernel
theorem d_Chart_shareNow_69 : decode b_Chart_shareNow 69 = .ok (.aload_n 0, 1) := by decide +kernel
theorem d_Chart_shareNow_70 : decode b_Chart_shareNow 70 = .ok (.getfield 18, 3) := by decide +kernel
theorem d_Chart_shareNow_73 : decode b_Chart_shareNow 73 = .ok (.invokevirtual 125, 3) := by decide +kernel
theorem d_Chart_shareNow_76 : decode b_Chart_shareNow 76 = .ok (.istore_n 3, 1) := by decide +kernel
theorem d_Chart_shareNow_77 : decode b_Chart_shareNow 77 = .ok (.iconst 0, 1) := by decide +kernel
theorem d_Chart_shareNow_78 : decode b_Chart_shareNow 78 = .ok (.sipush 1000, 3) := by decide +kernel
theorem d_Chart_shareNow_81 : decode b_Chart_shareNow 81 = .ok (.iload_n 3, 1) := by decide +kernel
theorem d_Chart_shareNow_82 : decode b_Chart_shareNow 82 = .ok (.invokestatic 112, 3) := by decide +kernel
theorem d_Chart_shareNow_85 : decode b_Chart_shareNow 85 = .ok (.invokestatic 168, 3) := by decide +kernel
theorem d_Chart_shareNow_88 : decode b_Chart_shareNow 88 = .ok (.ireturn, 1) := by decide +kernel
theorem d_Chart_shareNow_89 : decode b_Chart_shareNow 89 = .ok (.iinc 1 1, 3) := by decide +kernel
theorem d_Chart_shareNow_92 : decode b_Chart_shareNow 92 = .ok (.goto (-90), 3) := by decide +kernel
theorem d_Chart_shareNow_95 : decode b_Chart_shareNow 95 = .ok (.iconst 1, 1) := by decide +kernel
theorem d_Chart_shareNow_96 : decode b_Chart_shareNow 96 = .ok (.ireturn, 1) := by decide +kernel
set_option maxHeartbeats 4000000 in
set_option maxRecDepth 100000 in
theorem c_Chart_shareNow (l : Launch) {S : St} {S' : St} {r : Int32} (h : f_Chart_shareNow S = some (r, S')) : MI cw l y_Chart_shareNow b_Chart_shareNow 4 (some .int) 1 30 0 0 (fun ad => [.ref (ad 4 0)]) aT aE S r S' := by
  refine MI_of "LawfulLots$Chart" rfl (by decide) (fun _ => Nat.le_of_ble_eq_true rfl) ?_
  intro p e s m args below meth c D ar ad A Q ls hP F hK hA hw hl hQ
  have hl : lv_has ls 4 [(0, .ref (ad 4 0))] := hl
  obtain ⟨X_0, eX_0⟩ : ∃ X : (Int32 × St) → Prop, X = (fun q => ∀ (H : Heap) (locs : List Loc) (pc : Nat) (ls : Array Slot), decode b_Chart_shareNow pc = .ok (.ireturn, 1) → Bw cw D ar A s.heap H locs ad q.2 → W p l e (RM 1 30) s m args below meth c H locs 0 0 Q (F0 m pc ls [.int q.1])) := ⟨_, rfl⟩
  have key : ∀ (H : Heap) (locs : List Loc), Bw cw D ar A s.heap H locs ad S → ∀ o, f_Chart_shareNow S = some o → X_0 o → W p l e (RM 1 30) s m args below meth c H locs 0 0 Q (F0 m 0 ls []) := by
    intro H locs hw o h ho
    unfold f_Chart_shareNow at h
    refine lv_iconst (v := 0) F.1 F.2.1 d_Chart_shareNow_0 (by decide) ?_
    refine lv_istore_n (lv' := [(1, .int (0 : Int32)), (0, .ref (ad 4 0))]) F.1 F.2.1 d_Chart_shareNow_1 rfl hl (by decide) rfl (fun ls hl => ?_)
    obtain ⟨P_2, eP_2⟩ : ∃ P : (St × Int32) → Prop, P = (fun q => ∀ (H : Heap) (locs : List Loc) (ls : Array Slot), Bw cw D ar A s.heap H locs ad q.1 → lv_has ls 4 [(0, .ref (ad 4 0)), (1, .int q.2)] → W p l e (RM 1 30) s m args below meth c H locs 0 0 Q (F0 m 2 ls [])) := ⟨_, rfl⟩
    have hL_2 : P_2 (S, (0 : Int32)) := by
      refine wh_gp (P := P_2) (X := X_0) h ho ?_
      clear h ho
      intro q o h ho
      obtain ⟨S, x1⟩ := q
      have h : Chart_shareNow_l2 S x1 = some o := h
      unfold Chart_shareNow_l2 at h
      rw [eP_2]
      intro H locs ls hw hl
      have J_53_l2 : ∀ (S : St) (x1 : Int32) (H : Heap) (locs : List Loc) (ls : Array Slot), Bw cw D ar A s.heap H locs ad S → lv_has ls 4 [(0, .ref (ad 4 0)), (1, .int x1)] → ∀ o, Chart_shareNow_j53_l2 S x1 = some o → (Sum.elim P_2 X_0) o → W p l e (RM 1 30) s m args below meth c H locs 0 0 Q (F0 m 53 ls []) := by
        intro S x1 H locs ls hw hl o h ho
        unfold Chart_shareNow_j53_l2 at h
        refine lv_aload_n F.1 F.2.1 d_Chart_shareNow_53 rfl (lv_at hl 0 rfl) ?_
        refine cg_4_0 F hK hw lk_191 d_Chart_shareNow_54 ?_
        refine lv_aload_n F.1 F.2.1 d_Chart_shareNow_57 rfl (lv_at hl 0 rfl) ?_
        refine cg_4_8 F hK hw lk_199 d_Chart_shareNow_58 ?_
        refine lv_bipush (v := 32) F.1 F.2.1 d_Chart_shareNow_61 (by decide) ?_
        refine lv_iload_n F.1 F.2.1 d_Chart_shareNow_63 rfl (lv_at hl 1 rfl) ?_
        refine lv_iadd F.1 F.2.1 d_Chart_shareNow_64 ?_
        refine lv_aload_n F.1 F.2.1 d_Chart_shareNow_65 rfl (lv_at hl 0 rfl) ?_
        refine cg_4_1 F hK hw lk_192 d_Chart_shareNow_66 ?_
        refine lv_aload_n F.1 F.2.1 d_Chart_shareNow_69 rfl (lv_at hl 0 rfl) ?_
        refine cg_4_1 F hK hw lk_192 d_Chart_shareNow_70 ?_
        obtain ⟨v_14, S_15, hc_13, h⟩ := bd2_ex h
        refine cV_i F hA rfl hK hw (c_Machine_run_6_4_1_4_1 l hc_13) trivial rfl (good_V lk_612 lk_613 lk_614 lk_6 lk_615) (cr_6 hK hw) hd_Machine_run ⟨Nat.le_of_ble_eq_true rfl, Nat.le_of_ble_eq_true rfl⟩ rfl hl.1 rfl (Nat.le_of_ble_eq_true rfl) d_Chart_shareNow_73 ⟨(Nat.zero_le _), (Nat.zero_le _)⟩ (fun H locs hw => ?_)
        refine lv_istore_n (lv' := [(3, .int v_14), (0, .ref (ad 4 0)), (1, .int x1)]) F.1 F.2.1 d_Chart_shareNow_76 rfl hl (by decide) rfl (fun ls hl => ?_)
        refine lv_iconst (v := 0) F.1 F.2.1 d_Chart_shareNow_77 (by decide) ?_
        refine lv_sipush (v := 1000) F.1 F.2.1 d_Chart_shareNow_78 (by decide) ?_
        refine lv_iload_n F.1 F.2.1 d_Chart_shareNow_81 rfl (lv_at hl 0 rfl) ?_
        refine va_mmin F.1 F.2.1 (F.2.2.1.trans hl.1.symm) F.2.2.2.1 (F.2.2.2.2 _ lk_607) (F.2.2.2.2 _ lk_397) (F.2.2.2.2 _ lk_12) (F.2.2.2.2 _ lk_398) (Nat.le_of_ble_eq_true rfl) (Nat.le_of_ble_eq_true rfl) (Nat.zero_le _) (Nat.zero_le _) d_Chart_shareNow_82 ?_
        refine va_mmax F.1 F.2.1 (F.2.2.1.trans hl.1.symm) F.2.2.2.1 (F.2.2.2.2 _ lk_689) (F.2.2.2.2 _ lk_400) (F.2.2.2.2 _ lk_12) (F.2.2.2.2 _ lk_401) (Nat.le_of_ble_eq_true rfl) (Nat.le_of_ble_eq_true rfl) (Nat.zero_le _) (Nat.zero_le _) d_Chart_shareNow_85 ?_
        cases h
        have ho : X_0 _ := ho
        rw [eX_0] at ho
        exact ho H locs _ ls d_Chart_shareNow_88 hw
      refine lv_iload_n F.1 F.2.1 d_Chart_shareNow_2 rfl (lv_at hl 1 rfl) ?_
      refine lv_aload_n F.1 F.2.1 d_Chart_shareNow_3 rfl (lv_at hl 0 rfl) ?_
      refine cg_4_8 F hK hw lk_199 d_Chart_shareNow_4 ?_
      refine lv_iconst (v := 4) F.1 F.2.1 d_Chart_shareNow_7 (by decide) ?_
      obtain ⟨v_2, hc_1, h⟩ := bd_ex h
      refine cV_i F hA rfl hK hw (c_Book_toldOf_5 l hc_1) trivial rfl (good_V lk_556 lk_452 lk_453 lk_4 lk_454) (cr_5 hK hw) hd_Book_toldOf ⟨Nat.le_of_ble_eq_true rfl, Nat.le_of_ble_eq_true rfl⟩ rfl hl.1 rfl (Nat.le_of_ble_eq_true rfl) d_Chart_shareNow_8 ⟨(Nat.zero_le _), (Nat.zero_le _)⟩ (fun H locs hw => ?_)
      refine lv_icmp_ge (tgt := 95) F.1 F.2.1 d_Chart_shareNow_11 (by decide) (fun c_3 => ?_) (fun c_3 => ?_)
      · replace h := ip c_3 h
        refine lv_iconst (v := 1) F.1 F.2.1 d_Chart_shareNow_95 (by decide) ?_
        cases h
        have ho : X_0 _ := ho
        rw [eX_0] at ho
        exact ho H locs _ ls d_Chart_shareNow_96 hw
      · replace h := iq c_3 h
        refine lv_bipush (v := 40) F.1 F.2.1 d_Chart_shareNow_14 (by decide) ?_
        refine lv_iload_n F.1 F.2.1 d_Chart_shareNow_16 rfl (lv_at hl 1 rfl) ?_
        refine lv_iadd F.1 F.2.1 d_Chart_shareNow_17 ?_
        obtain ⟨x2_4, ex2_4, h⟩ := nm_ex h
        refine lv_nm ex2_4 ?_
        refine lv_istore_n (lv' := [(2, .int x2_4), (0, .ref (ad 4 0)), (1, .int x1)]) F.1 F.2.1 d_Chart_shareNow_18 rfl hl (by decide) rfl (fun ls hl => ?_)
        refine lv_aload_n F.1 F.2.1 d_Chart_shareNow_19 rfl (lv_at hl 1 rfl) ?_
        refine cg_4_8 F hK hw lk_199 d_Chart_shareNow_20 ?_
        refine lv_iload_n F.1 F.2.1 d_Chart_shareNow_23 rfl (lv_at hl 0 rfl) ?_
        obtain ⟨v_6, hc_5, h⟩ := bd_ex h
        refine cV_i F hA rfl hK hw (c_Book_isEmpty l hc_5) trivial rfl (good_V lk_694 lk_695 lk_696 lk_4 lk_697) (cr_5 hK hw) hd_Book_isEmpty ⟨Nat.le_of_ble_eq_true rfl, Nat.le_of_ble_eq_true rfl⟩ rfl hl.1 rfl (Nat.le_of_ble_eq_true rfl) d_Chart_shareNow_24 ⟨(Nat.zero_le _), (Nat.zero_le _)⟩ (fun H locs hw => ?_)
        refine lv_if_ne (tgt := 53) F.1 F.2.1 d_Chart_shareNow_27 (by decide) (fun c_7 => ?_) (fun c_7 => ?_)
        · replace h := iq c_7 h
          exact J_53_l2 S x1 H locs ls hw (lv_sub hl [1, 2] rfl) o h ho
        · replace h := ip c_7 h
          refine lv_aload_n F.1 F.2.1 d_Chart_shareNow_30 rfl (lv_at hl 1 rfl) ?_
          refine cg_4_0 F hK hw lk_191 d_Chart_shareNow_31 ?_
          refine lv_aload_n F.1 F.2.1 d_Chart_shareNow_34 rfl (lv_at hl 1 rfl) ?_
          refine cg_4_8 F hK hw lk_199 d_Chart_shareNow_35 ?_
          refine lv_iload_n F.1 F.2.1 d_Chart_shareNow_38 rfl (lv_at hl 0 rfl) ?_
          refine lv_aload_n F.1 F.2.1 d_Chart_shareNow_39 rfl (lv_at hl 1 rfl) ?_
          refine cg_4_1 F hK hw lk_192 d_Chart_shareNow_40 ?_
          refine lv_aload_n F.1 F.2.1 d_Chart_shareNow_43 rfl (lv_at hl 1 rfl) ?_
          refine cg_4_1 F hK hw lk_192 d_Chart_shareNow_44 ?_
          obtain ⟨v_9, S_10, hc_8, h⟩ := bd2_ex h
          refine cV_i F hA rfl hK hw (c_Machine_run_6_4_1_4_1 l hc_8) trivial rfl (good_V lk_612 lk_613 lk_614 lk_6 lk_615) (cr_6 hK hw) hd_Machine_run ⟨Nat.le_of_ble_eq_true rfl, Nat.le_of_ble_eq_true rfl⟩ rfl hl.1 rfl (Nat.le_of_ble_eq_true rfl) d_Chart_shareNow_47 ⟨(Nat.zero_le _), (Nat.zero_le _)⟩ (fun H locs hw => ?_)
          refine lv_if_eq (tgt := 89) F.1 F.2.1 d_Chart_shareNow_50 (by decide) (fun c_11 => ?_) (fun c_11 => ?_)
          · replace h := ip c_11 h
            obtain ⟨x1_12, ex1_12, h⟩ := nm_ex h
            refine lv_iinc (v := x1_12) (lv' := [(1, .int x1_12), (2, .int x2_4), (0, .ref (ad 4 0))]) F.1 F.2.1 d_Chart_shareNow_89 hl (k := 2) rfl (by rw [ex1_12]; rfl) (by decide) rfl (fun ls hl => ?_)
            refine lv_goto (tgt := 2) F.1 F.2.1 d_Chart_shareNow_92 (by decide) ?_
            cases h
            have ho : P_2 _ := ho
            rw [eP_2] at ho
            exact ho H locs ls hw (lv_sub hl [2, 0] rfl)
          · replace h := iq c_11 h
            exact J_53_l2 S_10 x1 H locs ls hw (lv_sub hl [1, 2] rfl) o h ho
    rw [eP_2] at hL_2
    exact hL_2 H locs ls hw (lv_sub hl [1, 0] rfl)
  exact key _ _ hw _ h (by rw [eX_0]; exact fun H locs pc ls hd hw => hQ H locs pc ls ad rfl hd hw)
theorem d_Chart_shareOf_0 : decode b_Chart_shareOf 0 = .ok (.aload_n 0, 1) := by decide +kernel
theorem d_Chart_shareOf_1 : decode b_Chart_shareOf 1 = .ok (.iload_n 1, 1) := by decide +kernel
theorem d_Chart_shareOf_2 : decode b_Chart_shareOf 2 = .ok (.invokevirtual 177, 3) := by decide +kernel
theorem d_Chart_shareOf_5 : decode b_Chart_shareOf 5 = .ok (.istore_n 2, 1) := by decide +kernel
theorem d_Chart_shareOf_6 : decode b_Chart_shareOf 6 = .ok (.iload_n 2, 1) := by decide +kernel
theorem d_Chart_shareOf_7 : decode b_Chart_shareOf 7 = .ok (.ifCond .lt 21, 3) := by decide +kernel
theorem d_Chart_shareOf_10 : decode b_Chart_shareOf 10 = .ok (.iload_n 2, 1) := by decide +kernel
theorem d_Chart_shareOf_11 : decode b_Chart_shareOf 11 = .ok (.aload_n 0, 1) := by decide +kernel
theorem d_Chart_shareOf_12 : decode b_Chart_shareOf 12 = .ok (.getfield 34, 3) := by decide +kernel
theorem d_Chart_shareOf_15 : decode b_Chart_shareOf 15 = .ok (.arraylength, 1) := by decide +kernel
theorem d_Chart_shareOf_16 : decode b_Chart_shareOf 16 = .ok (.if_icmp .ge 12, 3) := by decide +kernel
theorem d_Chart_shareOf_19 : decode b_Chart_shareOf 19 = .ok (.aload_n 0, 1) := by decide +kernel
theorem d_Chart_shareOf_20 : decode b_Chart_shareOf 20 = .ok (.getfield 34, 3) := by decide +kernel
theorem d_Chart_shareOf_23 : decode b_Chart_shareOf 23 = .ok (.iload_n 2, 1) := by decide +kernel
theorem d_Chart_shareOf_24 : decode b_Chart_shareOf 24 = .ok (.iaload, 1) := by decide +kernel
theorem d_Chart_shareOf_25 : decode b_Chart_shareOf 25 = .ok (.goto 4, 3) := by decide +kernel
theorem d_Chart_shareOf_28 : decode b_Chart_shareOf 28 = .ok (.iconst 0, 1) := by decide +kernel
theorem d_Chart_shareOf_29 : decode b_Chart_shareOf 29 = .ok (.ireturn, 1) := by decide +kernel
set_option maxHeartbeats 4000000 in
set_option maxRecDepth 100000 in
theorem c_Chart_shareOf (l : Launch) {S : St} {x1 : Int32} {r : Int32} (h : f_Chart_shareOf S x1 = some r) : MI cw l y_Chart_shareOf b_Chart_shareOf 3 (some .int) 1 21 0 0 (fun ad => [.ref (ad 4 0), .int x1]) aT aE S r S := by
  refine MI_of "LawfulLots$Chart" rfl (by decide) (fun _ => Nat.le_of_ble_eq_true rfl) ?_
  intro p e s m args below meth c D ar ad A Q ls hP F hK hA hw hl hQ
  have hl : lv_has ls 3 [(0, .ref (ad 4 0)), (1, .int x1)] := hl
  obtain ⟨X_0, eX_0⟩ : ∃ X : Int32 → Prop, X = (fun q => ∀ (H : Heap) (locs : List Loc) (pc : Nat) (ls : Array Slot), decode b_Chart_shareOf pc = .ok (.ireturn, 1) → Bw cw D ar A s.heap H locs ad S → W p l e (RM 1 21) s m args below meth c H locs 0 0 Q (F0 m pc ls [.int q])) := ⟨_, rfl⟩
  have key : ∀ (H : Heap) (locs : List Loc), Bw cw D ar A s.heap H locs ad S → ∀ o, f_Chart_shareOf S x1 = some o → X_0 o → W p l e (RM 1 21) s m args below meth c H locs 0 0 Q (F0 m 0 ls []) := by
    intro H locs hw o h ho
    unfold f_Chart_shareOf at h
    have J_29 : ∀ (t0 : Int32) (H : Heap) (locs : List Loc) (ls : Array Slot), Bw cw D ar A s.heap H locs ad S → lv_has ls 3 [] → ∀ o, Chart_shareOf_j29 S t0 = some o → X_0 o → W p l e (RM 1 21) s m args below meth c H locs 0 0 Q (F0 m 29 ls [.int t0]) := by
      intro t0 H locs ls hw hl o h ho
      unfold Chart_shareOf_j29 at h
      cases h
      have ho : X_0 _ := ho
      rw [eX_0] at ho
      exact ho H locs _ ls d_Chart_shareOf_29 hw
    have J_28 : ∀ (H : Heap) (locs : List Loc) (ls : Array Slot), Bw cw D ar A s.heap H locs ad S → lv_has ls 3 [] → ∀ o, Chart_shareOf_j28 S = some o → X_0 o → W p l e (RM 1 21) s m args below meth c H locs 0 0 Q (F0 m 28 ls []) := by
      intro H locs ls hw hl o h ho
      unfold Chart_shareOf_j28 at h
      refine lv_iconst (v := 0) F.1 F.2.1 d_Chart_shareOf_28 (by decide) ?_
      exact J_29 (0 : Int32) H locs ls hw (lv_sub hl [] rfl) o h ho
    refine lv_aload_n F.1 F.2.1 d_Chart_shareOf_0 rfl (lv_at hl 0 rfl) ?_
    refine lv_iload_n F.1 F.2.1 d_Chart_shareOf_1 rfl (lv_at hl 1 rfl) ?_
    obtain ⟨v_2, hc_1, h⟩ := bd_ex h
    refine cV_i F hA rfl hK hw (c_Chart_inputOf l hc_1) trivial rfl (good_V lk_706 lk_661 lk_662 lk_5 lk_663) (cr_4 hK hw) hd_Chart_inputOf ⟨Nat.le_of_ble_eq_true rfl, Nat.le_of_ble_eq_true rfl⟩ rfl hl.1 rfl (Nat.le_of_ble_eq_true rfl) d_Chart_shareOf_2 ⟨(Nat.zero_le _), (Nat.zero_le _)⟩ (fun H locs hw => ?_)
    refine lv_istore_n (lv' := [(2, .int v_2), (0, .ref (ad 4 0)), (1, .int x1)]) F.1 F.2.1 d_Chart_shareOf_5 rfl hl (by decide) rfl (fun ls hl => ?_)
    refine lv_iload_n F.1 F.2.1 d_Chart_shareOf_6 rfl (lv_at hl 0 rfl) ?_
    refine lv_if_lt (tgt := 28) F.1 F.2.1 d_Chart_shareOf_7 (by decide) (fun c_3 => ?_) (fun c_3 => ?_)
    · replace h := ip c_3 h
      exact J_28 H locs ls hw (lv_sub hl [] rfl) o h ho
    · replace h := iq c_3 h
      refine lv_iload_n F.1 F.2.1 d_Chart_shareOf_10 rfl (lv_at hl 0 rfl) ?_
      refine lv_aload_n F.1 F.2.1 d_Chart_shareOf_11 rfl (lv_at hl 1 rfl) ?_
      refine cg_4_6 F hK hw lk_197 d_Chart_shareOf_12 ?_
      refine cn_4_6 F hK hw d_Chart_shareOf_15 ?_
      refine lv_icmp_ge (tgt := 28) F.1 F.2.1 d_Chart_shareOf_16 (by decide) (fun c_4 => ?_) (fun c_4 => ?_)
      · replace h := ip c_4 h
        exact J_28 H locs ls hw (lv_sub hl [] rfl) o h ho
      · replace h := iq c_4 h
        refine lv_aload_n F.1 F.2.1 d_Chart_shareOf_19 rfl (lv_at hl 1 rfl) ?_
        refine cg_4_6 F hK hw lk_197 d_Chart_shareOf_20 ?_
        refine lv_iload_n F.1 F.2.1 d_Chart_shareOf_23 rfl (lv_at hl 0 rfl) ?_
        obtain ⟨hi_5, h⟩ := gd_ex h
        refine cl_4_6 F hK hw hi_5 d_Chart_shareOf_24 ?_
        refine lv_goto (tgt := 29) F.1 F.2.1 d_Chart_shareOf_25 (by decide) ?_
        exact J_29 (gA S 4 6 v_2.toNatClampNeg) H locs ls hw (lv_sub hl [] rfl) o h ho
  exact key _ _ hw _ h (by rw [eX_0]; exact fun H locs pc ls hd hw => hQ H locs pc ls ad rfl hd hw)
theorem d_Chart_addShares_0 : decode b_Chart_addShares 0 = .ok (.aload_n 0, 1) := by decide +kernel
theorem d_Chart_addShares_1 : decode b_Chart_addShares 1 = .ok (.iconst 0, 1) := by decide +kernel
theorem d_Chart_addShares_2 : decode b_Chart_addShares 2 = .ok (.putfield 54, 3) := by decide +kernel
theorem d_Chart_addShares_5 : decode b_Chart_addShares 5 = .ok (.iconst 0, 1) := by decide +kernel
theorem d_Chart_addShares_6 : decode b_Chart_addShares 6 = .ok (.istore_n 1, 1) := by decide +kernel
theorem d_Chart_addShares_7 : decode b_Chart_addShares 7 = .ok (.iload_n 1, 1) := by decide +kernel
theorem d_Chart_addShares_8 : decode b_Chart_addShares 8 = .ok (.aload_n 0, 1) := by decide +kernel
theorem d_Chart_addShares_9 : decode b_Chart_addShares 9 = .ok (.getfield 47, 3) := by decide +kernel
theorem d_Chart_addShares_12 : decode b_Chart_addShares 12 = .ok (.if_icmp .ge 46, 3) := by decide +kernel
theorem d_Chart_addShares_15 : decode b_Chart_addShares 15 = .ok (.aload_n 0, 1) := by decide +kernel
theorem d_Chart_addShares_16 : decode b_Chart_addShares 16 = .ok (.dup, 1) := by decide +kernel
theorem d_Chart_addShares_17 : decode b_Chart_addShares 17 = .ok (.getfield 54, 3) := by decide +kernel
theorem d_Chart_addShares_20 : decode b_Chart_addShares 20 = .ok (.aload_n 0, 1) := by decide +kernel
theorem d_Chart_addShares_21 : decode b_Chart_addShares 21 = .ok (.iload_n 1, 1) := by decide +kernel
theorem d_Chart_addShares_22 : decode b_Chart_addShares 22 = .ok (.invokevirtual 174, 3) := by decide +kernel
theorem d_Chart_addShares_25 : decode b_Chart_addShares 25 = .ok (.iadd, 1) := by decide +kernel
theorem d_Chart_addShares_26 : decode b_Chart_addShares 26 = .ok (.putfield 54, 3) := by decide +kernel
theorem d_Chart_addShares_29 : decode b_Chart_addShares 29 = .ok (.iload_n 1, 1) := by decide +kernel
theorem d_Chart_addShares_30 : decode b_Chart_addShares 30 = .ok (.bipush 64, 2) := by decide +kernel
theorem d_Chart_addShares_32 : decode b_Chart_addShares 32 = .ok (.idiv, 1) := by decide +kernel
theorem d_Chart_addShares_33 : decode b_Chart_addShares 33 = .ok (.sipush 512, 3) := by decide +kernel
theorem d_Chart_addShares_36 : decode b_Chart_addShares 36 = .ok (.if_icmp .ge 16, 3) := by decide +kernel
theorem d_Chart_addShares_39 : decode b_Chart_addShares 39 = .ok (.aload_n 0, 1) := by decide +kernel
theorem d_Chart_addShares_40 : decode b_Chart_addShares 40 = .ok (.getfield 28, 3) := by decide +kernel
theorem d_Chart_addShares_43 : decode b_Chart_addShares 43 = .ok (.iload_n 1, 1) := by decide +kernel
theorem d_Chart_addShares_44 : decode b_Chart_addShares 44 = .ok (.bipush 64, 2) := by decide +kernel
theorem d_Chart_addShares_46 : decode b_Chart_addShares 46 = .ok (.idiv, 1) := by decide +kernel
theorem d_Chart_addShares_47 : decode b_Chart_addShares 47 = .ok (.aload_n 0, 1) := by decide +kernel
theorem d_Chart_addShares_48 : decode b_Chart_addShares 48 = .ok (.getfield 54, 3) := by decide +kernel
theorem d_Chart_addShares_51 : decode b_Chart_addShares 51 = .ok (.iastore, 1) := by decide +kernel
theorem d_Chart_addShares_52 : decode b_Chart_addShares 52 = .ok (.iinc 1 1, 3) := by decide +kernel
theorem d_Chart_addShares_55 : decode b_Chart_addShares 55 = .ok (.goto (-48), 3) := by decide +kernel
theorem d_Chart_addShares_58 : decode b_Chart_addShares 58 = .ok (.return_, 1) := by decide +kernel
set_option maxHeartbeats 4000000 in
set_option maxRecDepth 100000 in
theorem c_Chart_addShares (l : Launch) {S : St} {S' : St} (h : f_Chart_addShares S = some S') : MV cw l y_Chart_addShares b_Chart_addShares 2 none 2 43 0 0 (fun ad => [.ref (ad 4 0)]) aT aE S S' := by
  refine MV_of "LawfulLots$Chart" rfl (by decide) (fun _ => Nat.le_of_ble_eq_true rfl) ?_
  intro p e s m args below meth c D ar ad A Q ls hP F hK hA hw hl hQ
  have hl : lv_has ls 2 [(0, .ref (ad 4 0))] := hl
  obtain ⟨X_0, eX_0⟩ : ∃ X : St → Prop, X = (fun q => ∀ (H : Heap) (locs : List Loc) (pc : Nat) (ls : Array Slot), decode b_Chart_addShares pc = .ok (.return_, 1) → Bw cw D ar A s.heap H locs ad q → W p l e (RM 2 43) s m args below meth c H locs 0 0 Q (F0 m pc ls [])) := ⟨_, rfl⟩
  have key : ∀ (H : Heap) (locs : List Loc), Bw cw D ar A s.heap H locs ad S → ∀ o, f_Chart_addShares S = some o → X_0 o → W p l e (RM 2 43) s m args below meth c H locs 0 0 Q (F0 m 0 ls []) := by
    intro H locs hw o h ho
    unfold f_Chart_addShares at h
    refine lv_aload_n F.1 F.2.1 d_Chart_addShares_0 rfl (lv_at hl 0 rfl) ?_
    refine lv_iconst (v := 0) F.1 F.2.1 d_Chart_addShares_1 (by decide) ?_
    obtain ⟨S_1, eS_1, h⟩ := nm_ex h
    refine cp_4_11 F hK hw lk_209 d_Chart_addShares_2 eS_1 (fun H locs hw => ?_)
    refine lv_iconst (v := 0) F.1 F.2.1 d_Chart_addShares_5 (by decide) ?_
    refine lv_istore_n (lv' := [(1, .int (0 : Int32)), (0, .ref (ad 4 0))]) F.1 F.2.1 d_Chart_addShares_6 rfl hl (by decide) rfl (fun ls hl => ?_)
    obtain ⟨S_12, hc_13, h⟩ := bd_ex h
    obtain ⟨X_7, eX_7⟩ : ∃ X : St → Prop, X = (fun q => ∀ (H : Heap) (locs : List Loc) (ls : Array Slot), Bw cw D ar A s.heap H locs ad q → lv_has ls 2 [] → W p l e (RM 2 43) s m args below meth c H locs 0 0 Q (F0 m 58 ls [])) := ⟨_, rfl⟩
    have hX_7 : X_7 S_12 := by
      rw [eX_7]
      intro H locs ls hw hl
      cases h
      have ho : X_0 _ := ho
      rw [eX_0] at ho
      exact ho H locs _ ls d_Chart_addShares_58 hw
    obtain ⟨P_7, eP_7⟩ : ∃ P : (St × Int32) → Prop, P = (fun q => ∀ (H : Heap) (locs : List Loc) (ls : Array Slot), Bw cw D ar A s.heap H locs ad q.1 → lv_has ls 2 [(0, .ref (ad 4 0)), (1, .int q.2)] → W p l e (RM 2 43) s m args below meth c H locs 0 0 Q (F0 m 7 ls [])) := ⟨_, rfl⟩
    have hL_7 : P_7 (S_1, (0 : Int32)) := by
      refine wh_gp (P := P_7) (X := X_7) hc_13 hX_7 ?_
      clear h
      intro q o h ho
      obtain ⟨S, x1⟩ := q
      have h : Chart_addShares_l7 S x1 = some o := h
      unfold Chart_addShares_l7 at h
      rw [eP_7]
      intro H locs ls hw hl
      have J_52_l7 : ∀ (S : St) (x1 : Int32) (H : Heap) (locs : List Loc) (ls : Array Slot), Bw cw D ar A s.heap H locs ad S → lv_has ls 2 [(0, .ref (ad 4 0)), (1, .int x1)] → ∀ o, Chart_addShares_j52_l7 S x1 = some o → (Sum.elim P_7 X_7) o → W p l e (RM 2 43) s m args below meth c H locs 0 0 Q (F0 m 52 ls []) := by
        intro S x1 H locs ls hw hl o h ho
        unfold Chart_addShares_j52_l7 at h
        obtain ⟨x1_11, ex1_11, h⟩ := nm_ex h
        refine lv_iinc (v := x1_11) (lv' := [(1, .int x1_11), (0, .ref (ad 4 0))]) F.1 F.2.1 d_Chart_addShares_52 hl (k := 1) rfl (by rw [ex1_11]; rfl) (by decide) rfl (fun ls hl => ?_)
        refine lv_goto (tgt := 7) F.1 F.2.1 d_Chart_addShares_55 (by decide) ?_
        cases h
        have ho : P_7 _ := ho
        rw [eP_7] at ho
        exact ho H locs ls hw (lv_sub hl [1, 0] rfl)
      refine lv_iload_n F.1 F.2.1 d_Chart_addShares_7 rfl (lv_at hl 1 rfl) ?_
      refine lv_aload_n F.1 F.2.1 d_Chart_addShares_8 rfl (lv_at hl 0 rfl) ?_
      refine cg_4_9 F hK hw lk_203 d_Chart_addShares_9 ?_
      refine lv_icmp_ge (tgt := 58) F.1 F.2.1 d_Chart_addShares_12 (by decide) (fun c_2 => ?_) (fun c_2 => ?_)
      · replace h := ip c_2 h
        cases h
        have ho : X_7 _ := ho
        rw [eX_7] at ho
        exact ho H locs ls hw (lv_sub hl [] rfl)
      · replace h := iq c_2 h
        refine lv_aload_n F.1 F.2.1 d_Chart_addShares_15 rfl (lv_at hl 0 rfl) ?_
        refine lv_dup F.1 F.2.1 d_Chart_addShares_16 rfl ?_
        refine cg_4_11 F hK hw lk_209 d_Chart_addShares_17 ?_
        refine lv_aload_n F.1 F.2.1 d_Chart_addShares_20 rfl (lv_at hl 0 rfl) ?_
        refine lv_iload_n F.1 F.2.1 d_Chart_addShares_21 rfl (lv_at hl 1 rfl) ?_
        obtain ⟨v_4, hc_3, h⟩ := bd_ex h
        refine cV_i F hA rfl hK hw (c_Chart_shareOf l hc_3) trivial rfl (good_V lk_702 lk_703 lk_704 lk_5 lk_705) (cr_4 hK hw) hd_Chart_shareOf ⟨Nat.le_of_ble_eq_true rfl, Nat.le_of_ble_eq_true rfl⟩ rfl hl.1 rfl (Nat.le_of_ble_eq_true rfl) d_Chart_addShares_22 ⟨(Nat.zero_le _), (Nat.zero_le _)⟩ (fun H locs hw => ?_)
        refine lv_iadd F.1 F.2.1 d_Chart_addShares_25 ?_
        obtain ⟨S_5, eS_5, h⟩ := nm_ex h
        refine cp_4_11 F hK hw lk_209 d_Chart_addShares_26 eS_5 (fun H locs hw => ?_)
        refine lv_iload_n F.1 F.2.1 d_Chart_addShares_29 rfl (lv_at hl 1 rfl) ?_
        refine lv_bipush (v := 64) F.1 F.2.1 d_Chart_addShares_30 (by decide) ?_
        obtain ⟨hz_6, h⟩ := gd_ex h
        refine lv_idiv F.1 F.2.1 d_Chart_addShares_32 (of_decide_eq_true hz_6) ?_
        refine lv_sipush (v := 512) F.1 F.2.1 d_Chart_addShares_33 (by decide) ?_
        refine lv_icmp_ge (tgt := 52) F.1 F.2.1 d_Chart_addShares_36 (by decide) (fun c_7 => ?_) (fun c_7 => ?_)
        · replace h := ip c_7 h
          exact J_52_l7 S_5 x1 H locs ls hw (lv_sub hl [0, 1] rfl) o h ho
        · replace h := iq c_7 h
          refine lv_aload_n F.1 F.2.1 d_Chart_addShares_39 rfl (lv_at hl 0 rfl) ?_
          refine cg_4_4 F hK hw lk_195 d_Chart_addShares_40 ?_
          refine lv_iload_n F.1 F.2.1 d_Chart_addShares_43 rfl (lv_at hl 1 rfl) ?_
          refine lv_bipush (v := 64) F.1 F.2.1 d_Chart_addShares_44 (by decide) ?_
          obtain ⟨hz_8, h⟩ := gd_ex h
          refine lv_idiv F.1 F.2.1 d_Chart_addShares_46 (of_decide_eq_true hz_8) ?_
          refine lv_aload_n F.1 F.2.1 d_Chart_addShares_47 rfl (lv_at hl 0 rfl) ?_
          refine cg_4_11 F hK hw lk_209 d_Chart_addShares_48 ?_
          obtain ⟨hi_9, h⟩ := gd_ex h
          obtain ⟨S_10, eS_10, h⟩ := nm_ex h
          refine cs_4_4 F hK hw hi_9 d_Chart_addShares_51 eS_10 (fun H locs hw => ?_)
          exact J_52_l7 S_10 x1 H locs ls hw (lv_sub hl [0, 1] rfl) o h ho
    rw [eP_7] at hL_7
    exact hL_7 H locs ls hw (lv_sub hl [1, 0] rfl)
  exact key _ _ hw _ h (by rw [eX_0]; exact fun H locs pc ls hd hw => hQ H locs pc ls ad rfl hd hw)
theorem d_Chart_drawnBy_0 : decode b_Chart_drawnBy 0 = .ok (.iload_n 1, 1) := by decide +kernel
theorem d_Chart_drawnBy_1 : decode b_Chart_drawnBy 1 = .ok (.ifCond .lt 11, 3) := by decide +kernel
theorem d_Chart_drawnBy_4 : decode b_Chart_drawnBy 4 = .ok (.iload_n 1, 1) := by decide +kernel
theorem d_Chart_drawnBy_5 : decode b_Chart_drawnBy 5 = .ok (.aload_n 0, 1) := by decide +kernel
theorem d_Chart_drawnBy_6 : decode b_Chart_drawnBy 6 = .ok (.getfield 54, 3) := by decide +kernel
theorem d_Chart_drawnBy_9 : decode b_Chart_drawnBy 9 = .ok (.if_icmp .lt 5, 3) := by decide +kernel
theorem d_Chart_drawnBy_12 : decode b_Chart_drawnBy 12 = .ok (.iconst (-1), 1) := by decide +kernel
theorem d_Chart_drawnBy_13 : decode b_Chart_drawnBy 13 = .ok (.ireturn, 1) := by decide +kernel
theorem d_Chart_drawnBy_14 : decode b_Chart_drawnBy 14 = .ok (.iconst 0, 1) := by decide +kernel
theorem d_Chart_drawnBy_15 : decode b_Chart_drawnBy 15 = .ok (.istore_n 2, 1) := by decide +kernel
theorem d_Chart_drawnBy_16 : decode b_Chart_drawnBy 16 = .ok (.iload_n 2, 1) := by decide +kernel
theorem d_Chart_drawnBy_17 : decode b_Chart_drawnBy 17 = .ok (.sipush 511, 3) := by decide +kernel
theorem d_Chart_drawnBy_20 : decode b_Chart_drawnBy 20 = .ok (.if_icmp .ge 19, 3) := by decide +kernel
theorem d_Chart_drawnBy_23 : decode b_Chart_drawnBy 23 = .ok (.aload_n 0, 1) := by decide +kernel
theorem d_Chart_drawnBy_24 : decode b_Chart_drawnBy 24 = .ok (.getfield 28, 3) := by decide +kernel
theorem d_Chart_drawnBy_27 : decode b_Chart_drawnBy 27 = .ok (.iload_n 2, 1) := by decide +kernel
theorem d_Chart_drawnBy_28 : decode b_Chart_drawnBy 28 = .ok (.iaload, 1) := by decide +kernel
theorem d_Chart_drawnBy_29 : decode b_Chart_drawnBy 29 = .ok (.iload_n 1, 1) := by decide +kernel
theorem d_Chart_drawnBy_30 : decode b_Chart_drawnBy 30 = .ok (.if_icmp .gt 9, 3) := by decide +kernel
theorem d_Chart_drawnBy_33 : decode b_Chart_drawnBy 33 = .ok (.iinc 2 1, 3) := by decide +kernel
theorem d_Chart_drawnBy_36 : decode b_Chart_drawnBy 36 = .ok (.goto (-20), 3) := by decide +kernel
theorem d_Chart_drawnBy_39 : decode b_Chart_drawnBy 39 = .ok (.iload_n 2, 1) := by decide +kernel
theorem d_Chart_drawnBy_40 : decode b_Chart_drawnBy 40 = .ok (.ifCond .le 16, 3) := by decide +kernel
theorem d_Chart_drawnBy_43 : decode b_Chart_drawnBy 43 = .ok (.iload_n 1, 1) := by decide +kernel
theorem d_Chart_drawnBy_44 : decode b_Chart_drawnBy 44 = .ok (.aload_n 0, 1) := by decide +kernel
theorem d_Chart_drawnBy_45 : decode b_Chart_drawnBy 45 = .ok (.getfield 28, 3) := by decide +kernel
theorem d_Chart_drawnBy_48 : decode b_Chart_drawnBy 48 = .ok (.iload_n 2, 1) := by decide +kernel
theorem d_Chart_drawnBy_49 : decode b_Chart_drawnBy 49 = .ok (.iconst 1, 1) := by decide +kernel
theorem d_Chart_drawnBy_50 : decode b_Chart_drawnBy 50 = .ok (.isub, 1) := by decide +kernel
theorem d_Chart_drawnBy_51 : decode b_Chart_drawnBy 51 = .ok (.iaload, 1) := by decide +kernel
theorem d_Chart_drawnBy_52 : decode b_Chart_drawnBy 52 = .ok (.isub, 1) := by decide +kernel
theorem d_Chart_drawnBy_53 : decode b_Chart_drawnBy 53 = .ok (.goto 4, 3) := by decide +kernel
theorem d_Chart_drawnBy_56 : decode b_Chart_drawnBy 56 = .ok (.iload_n 1, 1) := by decide +kernel
theorem d_Chart_drawnBy_57 : decode b_Chart_drawnBy 57 = .ok (.istore_n 3, 1) := by decide +kernel
theorem d_Chart_drawnBy_58 : decode b_Chart_drawnBy 58 = .ok (.iload_n 2, 1) := by decide +kernel
theorem d_Chart_drawnBy_59 : decode b_Chart_drawnBy 59 = .ok (.bipush 64, 2) := by decide +kernel
theorem d_Chart_drawnBy_61 : decode b_Chart_drawnBy 61 = .ok (.imul, 1) := by decide +kernel
theorem d_Chart_drawnBy_62 : decode b_Chart_drawnBy 62 = .ok (.istore 4, 2) := by decide +kernel
theorem d_Chart_drawnBy_64 : decode b_Chart_drawnBy 64 = .ok (.iload 4, 2) := by decide +kernel
theorem d_Chart_drawnBy_66 : decode b_Chart_drawnBy 66 = .ok (.aload_n 0, 1) := by decide +kernel
theorem d_Chart_drawnBy_67 : decode b_Chart_drawnBy 67 = .ok (.getfield 47, 3) := by decide +kernel
theorem d_Chart_drawnBy_70 : decode b_Chart_drawnBy 70 = .ok (.if_icmp .ge 25, 3) := by decide +kernel
theorem d_Chart_drawnBy_73 : decode b_Chart_drawnBy 73 = .ok (.iload_n 3, 1) := by decide +kernel
theorem d_Chart_drawnBy_74 : decode b_Chart_drawnBy 74 = .ok (.aload_n 0, 1) := by decide +kernel
theorem d_Chart_drawnBy_75 : decode b_Chart_drawnBy 75 = .ok (.iload 4, 2) := by decide +kernel
theorem d_Chart_drawnBy_77 : decode b_Chart_drawnBy 77 = .ok (.invokevirtual 174, 3) := by decide +kernel
theorem d_Chart_drawnBy_80 : decode b_Chart_drawnBy 80 = .ok (.isub, 1) := by decide +kernel
theorem d_Chart_drawnBy_81 : decode b_Chart_drawnBy 81 = .ok (.istore_n 3, 1) := by decide +kernel
theorem d_Chart_drawnBy_82 : decode b_Chart_drawnBy 82 = .ok (.iload_n 3, 1) := by decide +kernel
theorem d_Chart_drawnBy_83 : decode b_Chart_drawnBy 83 = .ok (.ifCond .ge 6, 3) := by decide +kernel
theorem d_Chart_drawnBy_86 : decode b_Chart_drawnBy 86 = .ok (.iload 4, 2) := by decide +kernel
theorem d_Chart_drawnBy_88 : decode b_Chart_drawnBy 88 = .ok (.ireturn, 1) := by decide +kernel
theorem d_Chart_drawnBy_89 : decode b_Chart_drawnBy 89 = .ok (.iinc 4 1, 3) := by decide +kernel
theorem d_Chart_drawnBy_92 : decode b_Chart_drawnBy 92 = .ok (.goto (-28), 3) := by decide +kernel
theorem d_Chart_drawnBy_95 : decode b_Chart_drawnBy 95 = .ok (.iconst (-1), 1) := by decide +kernel
theorem d_Chart_drawnBy_96 : decode b_Chart_drawnBy 96 = .ok (.ireturn, 1) := by decide +kernel
set_option maxHeartbeats 4000000 in
set_option maxRecDepth 100000 in
theorem c_Chart_drawnBy (l : Launch) {S : St} {x1 : Int32} {r : Int32} (h : f_Chart_drawnBy S x1 = some r) : MI cw l y_Chart_drawnBy b_Chart_drawnBy 5 (some .int) 2 43 0 0 (fun ad => [.ref (ad 4 0), .int x1]) aT aE S r S := by
  refine MI_of "LawfulLots$Chart" rfl (by decide) (fun _ => Nat.le_of_ble_eq_true rfl) ?_
  intro p e s m args below meth c D ar ad A Q ls hP F hK hA hw hl hQ
  have hl : lv_has ls 5 [(0, .ref (ad 4 0)), (1, .int x1)] := hl
  obtain ⟨X_0, eX_0⟩ : ∃ X : Int32 → Prop, X = (fun q => ∀ (H : Heap) (locs : List Loc) (pc : Nat) (ls : Array Slot), decode b_Chart_drawnBy pc = .ok (.ireturn, 1) → Bw cw D ar A s.heap H locs ad S → W p l e (RM 2 43) s m args below meth c H locs 0 0 Q (F0 m pc ls [.int q])) := ⟨_, rfl⟩
  have key : ∀ (H : Heap) (locs : List Loc), Bw cw D ar A s.heap H locs ad S → ∀ o, f_Chart_drawnBy S x1 = some o → X_0 o → W p l e (RM 2 43) s m args below meth c H locs 0 0 Q (F0 m 0 ls []) := by
    intro H locs hw o h ho
    unfold f_Chart_drawnBy at h
    have J_57 : ∀ (x2 : Int32) (t0 : Int32) (H : Heap) (locs : List Loc) (ls : Array Slot), Bw cw D ar A s.heap H locs ad S → lv_has ls 5 [(0, .ref (ad 4 0)), (2, .int x2)] → ∀ o, Chart_drawnBy_j57 S x2 t0 = some o → X_0 o → W p l e (RM 2 43) s m args below meth c H locs 0 0 Q (F0 m 57 ls [.int t0]) := by
      intro x2 t0 H locs ls hw hl o h ho
      unfold Chart_drawnBy_j57 at h
      refine lv_istore_n (lv' := [(3, .int t0), (0, .ref (ad 4 0)), (2, .int x2)]) F.1 F.2.1 d_Chart_drawnBy_57 rfl hl (by decide) rfl (fun ls hl => ?_)
      refine lv_iload_n F.1 F.2.1 d_Chart_drawnBy_58 rfl (lv_at hl 2 rfl) ?_
      refine lv_bipush (v := 64) F.1 F.2.1 d_Chart_drawnBy_59 (by decide) ?_
      refine lv_imul F.1 F.2.1 d_Chart_drawnBy_61 ?_
      obtain ⟨x4_11, ex4_11, h⟩ := nm_ex h
      refine lv_nm ex4_11 ?_
      refine lv_istore (lv' := [(4, .int x4_11), (3, .int t0), (0, .ref (ad 4 0)), (2, .int x2)]) F.1 F.2.1 d_Chart_drawnBy_62 hl (by decide) rfl (fun ls hl => ?_)
      obtain ⟨P_64, eP_64⟩ : ∃ P : (Int32 × Int32) → Prop, P = (fun q => ∀ (H : Heap) (locs : List Loc) (ls : Array Slot), Bw cw D ar A s.heap H locs ad S → lv_has ls 5 [(0, .ref (ad 4 0)), (3, .int q.1), (4, .int q.2)] → W p l e (RM 2 43) s m args below meth c H locs 0 0 Q (F0 m 64 ls [])) := ⟨_, rfl⟩
      have hL_64 : P_64 (t0, x4_11) := by
        refine wh_gp (P := P_64) (X := X_0) h ho ?_
        clear h ho
        intro q o h ho
        obtain ⟨x3, x4⟩ := q
        have h : Chart_drawnBy_l64 S x3 x4 = some o := h
        unfold Chart_drawnBy_l64 at h
        rw [eP_64]
        intro H locs ls hw hl
        refine lv_iload F.1 F.2.1 d_Chart_drawnBy_64 (lv_at hl 2 rfl) ?_
        refine lv_aload_n F.1 F.2.1 d_Chart_drawnBy_66 rfl (lv_at hl 0 rfl) ?_
        refine cg_4_9 F hK hw lk_203 d_Chart_drawnBy_67 ?_
        refine lv_icmp_ge (tgt := 95) F.1 F.2.1 d_Chart_drawnBy_70 (by decide) (fun c_12 => ?_) (fun c_12 => ?_)
        · replace h := ip c_12 h
          refine lv_iconst (v := -1) F.1 F.2.1 d_Chart_drawnBy_95 (by decide) ?_
          cases h
          have ho : X_0 _ := ho
          rw [eX_0] at ho
          exact ho H locs _ ls d_Chart_drawnBy_96 hw
        · replace h := iq c_12 h
          refine lv_iload_n F.1 F.2.1 d_Chart_drawnBy_73 rfl (lv_at hl 1 rfl) ?_
          refine lv_aload_n F.1 F.2.1 d_Chart_drawnBy_74 rfl (lv_at hl 0 rfl) ?_
          refine lv_iload F.1 F.2.1 d_Chart_drawnBy_75 (lv_at hl 2 rfl) ?_
          obtain ⟨v_14, hc_13, h⟩ := bd_ex h
          refine cV_i F hA rfl hK hw (c_Chart_shareOf l hc_13) trivial rfl (good_V lk_702 lk_703 lk_704 lk_5 lk_705) (cr_4 hK hw) hd_Chart_shareOf ⟨Nat.le_of_ble_eq_true rfl, Nat.le_of_ble_eq_true rfl⟩ rfl hl.1 rfl (Nat.le_of_ble_eq_true rfl) d_Chart_drawnBy_77 ⟨(Nat.zero_le _), (Nat.zero_le _)⟩ (fun H locs hw => ?_)
          refine lv_isub F.1 F.2.1 d_Chart_drawnBy_80 ?_
          obtain ⟨x3_15, ex3_15, h⟩ := nm_ex h
          refine lv_nm ex3_15 ?_
          refine lv_istore_n (lv' := [(3, .int x3_15), (0, .ref (ad 4 0)), (4, .int x4)]) F.1 F.2.1 d_Chart_drawnBy_81 rfl hl (by decide) rfl (fun ls hl => ?_)
          refine lv_iload_n F.1 F.2.1 d_Chart_drawnBy_82 rfl (lv_at hl 0 rfl) ?_
          refine lv_if_ge (tgt := 89) F.1 F.2.1 d_Chart_drawnBy_83 (by decide) (fun c_16 => ?_) (fun c_16 => ?_)
          · replace h := ip c_16 h
            obtain ⟨x4_17, ex4_17, h⟩ := nm_ex h
            refine lv_iinc (v := x4_17) (lv' := [(4, .int x4_17), (3, .int x3_15), (0, .ref (ad 4 0))]) F.1 F.2.1 d_Chart_drawnBy_89 hl (k := 2) rfl (by rw [ex4_17]; rfl) (by decide) rfl (fun ls hl => ?_)
            refine lv_goto (tgt := 64) F.1 F.2.1 d_Chart_drawnBy_92 (by decide) ?_
            cases h
            have ho : P_64 _ := ho
            rw [eP_64] at ho
            exact ho H locs ls hw (lv_sub hl [2, 1, 0] rfl)
          · replace h := iq c_16 h
            refine lv_iload F.1 F.2.1 d_Chart_drawnBy_86 (lv_at hl 2 rfl) ?_
            cases h
            have ho : X_0 _ := ho
            rw [eX_0] at ho
            exact ho H locs _ ls d_Chart_drawnBy_88 hw
      rw [eP_64] at hL_64
      exact hL_64 H locs ls hw (lv_sub hl [2, 1, 0] rfl)
    have J_39 : ∀ (x2 : Int32) (H : Heap) (locs : List Loc) (ls : Array Slot), Bw cw D ar A s.heap H locs ad S → lv_has ls 5 [(0, .ref (ad 4 0)), (1, .int x1), (2, .int x2)] → ∀ o, Chart_drawnBy_j39 S x1 x2 = some o → X_0 o → W p l e (RM 2 43) s m args below meth c H locs 0 0 Q (F0 m 39 ls []) := by
      intro x2 H locs ls hw hl o h ho
      unfold Chart_drawnBy_j39 at h
      refine lv_iload_n F.1 F.2.1 d_Chart_drawnBy_39 rfl (lv_at hl 2 rfl) ?_
      refine lv_if_le (tgt := 56) F.1 F.2.1 d_Chart_drawnBy_40 (by decide) (fun c_9 => ?_) (fun c_9 => ?_)
      · replace h := ip c_9 h
        refine lv_iload_n F.1 F.2.1 d_Chart_drawnBy_56 rfl (lv_at hl 1 rfl) ?_
        exact J_57 x2 x1 H locs ls hw (lv_sub hl [0, 2] rfl) o h ho
      · replace h := iq c_9 h
        refine lv_iload_n F.1 F.2.1 d_Chart_drawnBy_43 rfl (lv_at hl 1 rfl) ?_
        refine lv_aload_n F.1 F.2.1 d_Chart_drawnBy_44 rfl (lv_at hl 0 rfl) ?_
        refine cg_4_4 F hK hw lk_195 d_Chart_drawnBy_45 ?_
        refine lv_iload_n F.1 F.2.1 d_Chart_drawnBy_48 rfl (lv_at hl 2 rfl) ?_
        refine lv_iconst (v := 1) F.1 F.2.1 d_Chart_drawnBy_49 (by decide) ?_
        refine lv_isub F.1 F.2.1 d_Chart_drawnBy_50 ?_
        obtain ⟨hi_10, h⟩ := gd_ex h
        refine cl_4_4 F hK hw hi_10 d_Chart_drawnBy_51 ?_
        refine lv_isub F.1 F.2.1 d_Chart_drawnBy_52 ?_
        refine lv_goto (tgt := 57) F.1 F.2.1 d_Chart_drawnBy_53 (by decide) ?_
        exact J_57 x2 (x1 - (gA S 4 4 (x2 - (1 : Int32)).toNatClampNeg)) H locs ls hw (lv_sub hl [0, 2] rfl) o h ho
    have J_12 : ∀ (H : Heap) (locs : List Loc) (ls : Array Slot), Bw cw D ar A s.heap H locs ad S → lv_has ls 5 [] → ∀ o, Chart_drawnBy_j12 S = some o → X_0 o → W p l e (RM 2 43) s m args below meth c H locs 0 0 Q (F0 m 12 ls []) := by
      intro H locs ls hw hl o h ho
      unfold Chart_drawnBy_j12 at h
      refine lv_iconst (v := -1) F.1 F.2.1 d_Chart_drawnBy_12 (by decide) ?_
      cases h
      have ho : X_0 _ := ho
      rw [eX_0] at ho
      exact ho H locs _ ls d_Chart_drawnBy_13 hw
    refine lv_iload_n F.1 F.2.1 d_Chart_drawnBy_0 rfl (lv_at hl 1 rfl) ?_
    refine lv_if_lt (tgt := 12) F.1 F.2.1 d_Chart_drawnBy_1 (by decide) (fun c_1 => ?_) (fun c_1 => ?_)
    · replace h := ip c_1 h
      exact J_12 H locs ls hw (lv_sub hl [] rfl) o h ho
    · replace h := iq c_1 h
      refine lv_iload_n F.1 F.2.1 d_Chart_drawnBy_4 rfl (lv_at hl 1 rfl) ?_
      refine lv_aload_n F.1 F.2.1 d_Chart_drawnBy_5 rfl (lv_at hl 0 rfl) ?_
      refine cg_4_11 F hK hw lk_209 d_Chart_drawnBy_6 ?_
      refine lv_icmp_lt (tgt := 14) F.1 F.2.1 d_Chart_drawnBy_9 (by decide) (fun c_2 => ?_) (fun c_2 => ?_)
      · replace h := ip c_2 h
        refine lv_iconst (v := 0) F.1 F.2.1 d_Chart_drawnBy_14 (by decide) ?_
        refine lv_istore_n (lv' := [(2, .int (0 : Int32)), (0, .ref (ad 4 0)), (1, .int x1)]) F.1 F.2.1 d_Chart_drawnBy_15 rfl hl (by decide) rfl (fun ls hl => ?_)
        obtain ⟨x2_7, hc_8, h⟩ := bd_ex h
        obtain ⟨X_16, eX_16⟩ : ∃ X : Int32 → Prop, X = (fun q => ∀ (H : Heap) (locs : List Loc) (ls : Array Slot), Bw cw D ar A s.heap H locs ad S → lv_has ls 5 [(0, .ref (ad 4 0)), (1, .int x1), (2, .int q)] → W p l e (RM 2 43) s m args below meth c H locs 0 0 Q (F0 m 39 ls [])) := ⟨_, rfl⟩
        have hX_16 : X_16 x2_7 := by
          rw [eX_16]
          intro H locs ls hw hl
          exact J_39 x2_7 H locs ls hw (lv_sub hl [0, 1, 2] rfl) o h ho
        obtain ⟨P_16, eP_16⟩ : ∃ P : Int32 → Prop, P = (fun q => ∀ (H : Heap) (locs : List Loc) (ls : Array Slot), Bw cw D ar A s.heap H locs ad S → lv_has ls 5 [(0, .ref (ad 4 0)), (1, .int x1), (2, .int q)] → W p l e (RM 2 43) s m args below meth c H locs 0 0 Q (F0 m 16 ls [])) := ⟨_, rfl⟩
        have hL_16 : P_16 (0 : Int32) := by
          refine wh_gp (P := P_16) (X := X_16) hc_8 hX_16 ?_
          clear h
          intro x2 o h ho
          have h : Chart_drawnBy_l16 S x1 x2 = some o := h
          unfold Chart_drawnBy_l16 at h
          rw [eP_16]
          intro H locs ls hw hl
          refine lv_iload_n F.1 F.2.1 d_Chart_drawnBy_16 rfl (lv_at hl 2 rfl) ?_
          refine lv_sipush (v := 511) F.1 F.2.1 d_Chart_drawnBy_17 (by decide) ?_
          refine lv_icmp_ge (tgt := 39) F.1 F.2.1 d_Chart_drawnBy_20 (by decide) (fun c_3 => ?_) (fun c_3 => ?_)
          · replace h := ip c_3 h
            cases h
            have ho : X_16 _ := ho
            rw [eX_16] at ho
            exact ho H locs ls hw (lv_sub hl [0, 1, 2] rfl)
          · replace h := iq c_3 h
            refine lv_aload_n F.1 F.2.1 d_Chart_drawnBy_23 rfl (lv_at hl 0 rfl) ?_
            refine cg_4_4 F hK hw lk_195 d_Chart_drawnBy_24 ?_
            refine lv_iload_n F.1 F.2.1 d_Chart_drawnBy_27 rfl (lv_at hl 2 rfl) ?_
            obtain ⟨hi_4, h⟩ := gd_ex h
            refine cl_4_4 F hK hw hi_4 d_Chart_drawnBy_28 ?_
            refine lv_iload_n F.1 F.2.1 d_Chart_drawnBy_29 rfl (lv_at hl 1 rfl) ?_
            refine lv_icmp_gt (tgt := 39) F.1 F.2.1 d_Chart_drawnBy_30 (by decide) (fun c_5 => ?_) (fun c_5 => ?_)
            · replace h := ip c_5 h
              cases h
              have ho : X_16 _ := ho
              rw [eX_16] at ho
              exact ho H locs ls hw (lv_sub hl [0, 1, 2] rfl)
            · replace h := iq c_5 h
              obtain ⟨x2_6, ex2_6, h⟩ := nm_ex h
              refine lv_iinc (v := x2_6) (lv' := [(2, .int x2_6), (0, .ref (ad 4 0)), (1, .int x1)]) F.1 F.2.1 d_Chart_drawnBy_33 hl (k := 2) rfl (by rw [ex2_6]; rfl) (by decide) rfl (fun ls hl => ?_)
              refine lv_goto (tgt := 16) F.1 F.2.1 d_Chart_drawnBy_36 (by decide) ?_
              cases h
              have ho : P_16 _ := ho
              rw [eP_16] at ho
              exact ho H locs ls hw (lv_sub hl [1, 2, 0] rfl)
        rw [eP_16] at hL_16
        exact hL_16 H locs ls hw (lv_sub hl [1, 2, 0] rfl)
      · replace h := iq c_2 h
        exact J_12 H locs ls hw (lv_sub hl [] rfl) o h ho
  exact key _ _ hw _ h (by rw [eX_0]; exact fun H locs pc ls hd hw => hQ H locs pc ls ad rfl hd hw)
theorem d_Chart_refusedByAlone_0 : decode b_Chart_refusedByAlone 0 = .ok (.aload_n 0, 1) := by decide +kernel
theorem d_Chart_refusedByAlone_1 : decode b_Chart_refusedByAlone 1 = .ok (.getfield 22, 3) := by decide +kernel
theorem d_Chart_refusedByAlone_4 : decode b_Chart_refusedByAlone 4 = .ok (.aload_n 0, 1) := by decide +kernel
theorem d_Chart_refusedByAlone_5 : decode b_Chart_refusedByAlone 5 = .ok (.getfield 57, 3) := by decide +kernel
theorem d_Chart_refusedByAlone_8 : decode b_Chart_refusedByAlone 8 = .ok (.iconst 1, 1) := by decide +kernel
theorem d_Chart_refusedByAlone_9 : decode b_Chart_refusedByAlone 9 = .ok (.iload_n 1, 1) := by decide +kernel
theorem d_Chart_refusedByAlone_10 : decode b_Chart_refusedByAlone 10 = .ok (.ishl, 1) := by decide +kernel
theorem d_Chart_refusedByAlone_11 : decode b_Chart_refusedByAlone 11 = .ok (.iconst (-1), 1) := by decide +kernel
theorem d_Chart_refusedByAlone_12 : decode b_Chart_refusedByAlone 12 = .ok (.ixor, 1) := by decide +kernel
theorem d_Chart_refusedByAlone_13 : decode b_Chart_refusedByAlone 13 = .ok (.iand, 1) := by decide +kernel
theorem d_Chart_refusedByAlone_14 : decode b_Chart_refusedByAlone 14 = .ok (.sipush 255, 3) := by decide +kernel
theorem d_Chart_refusedByAlone_17 : decode b_Chart_refusedByAlone 17 = .ok (.iand, 1) := by decide +kernel
theorem d_Chart_refusedByAlone_18 : decode b_Chart_refusedByAlone 18 = .ok (.iaload, 1) := by decide +kernel
theorem d_Chart_refusedByAlone_19 : decode b_Chart_refusedByAlone 19 = .ok (.aload_n 0, 1) := by decide +kernel
theorem d_Chart_refusedByAlone_20 : decode b_Chart_refusedByAlone 20 = .ok (.getfield 22, 3) := by decide +kernel
theorem d_Chart_refusedByAlone_23 : decode b_Chart_refusedByAlone 23 = .ok (.aload_n 0, 1) := by decide +kernel
theorem d_Chart_refusedByAlone_24 : decode b_Chart_refusedByAlone 24 = .ok (.getfield 57, 3) := by decide +kernel
theorem d_Chart_refusedByAlone_27 : decode b_Chart_refusedByAlone 27 = .ok (.sipush 255, 3) := by decide +kernel
theorem d_Chart_refusedByAlone_30 : decode b_Chart_refusedByAlone 30 = .ok (.iand, 1) := by decide +kernel
theorem d_Chart_refusedByAlone_31 : decode b_Chart_refusedByAlone 31 = .ok (.iaload, 1) := by decide +kernel
theorem d_Chart_refusedByAlone_32 : decode b_Chart_refusedByAlone 32 = .ok (.isub, 1) := by decide +kernel
theorem d_Chart_refusedByAlone_33 : decode b_Chart_refusedByAlone 33 = .ok (.ireturn, 1) := by decide +kernel
set_option maxHeartbeats 4000000 in
set_option maxRecDepth 100000 in
theorem c_Chart_refusedByAlone (l : Launch) {S : St} {x1 : Int32} {r : Int32} (h : f_Chart_refusedByAlone S x1 = some r) : MI cw l y_Chart_refusedByAlone b_Chart_refusedByAlone 2 (some .int) 0 0 0 0 (fun ad => [.ref (ad 4 0), .int x1]) aT aE S r S := by
  refine MI_of "LawfulLots$Chart" rfl (by decide) (fun _ => Nat.le_of_ble_eq_true rfl) ?_
  intro p e s m args below meth c D ar ad A Q ls hP F hK hA hw hl hQ
  have hl : lv_has ls 2 [(0, .ref (ad 4 0)), (1, .int x1)] := hl
  obtain ⟨X_0, eX_0⟩ : ∃ X : Int32 → Prop, X = (fun q => ∀ (H : Heap) (locs : List Loc) (pc : Nat) (ls : Array Slot), decode b_Chart_refusedByAlone pc = .ok (.ireturn, 1) → Bw cw D ar A s.heap H locs ad S → W p l e (RM 0 0) s m args below meth c H locs 0 0 Q (F0 m pc ls [.int q])) := ⟨_, rfl⟩
  have key : ∀ (H : Heap) (locs : List Loc), Bw cw D ar A s.heap H locs ad S → ∀ o, f_Chart_refusedByAlone S x1 = some o → X_0 o → W p l e (RM 0 0) s m args below meth c H locs 0 0 Q (F0 m 0 ls []) := by
    intro H locs hw o h ho
    unfold f_Chart_refusedByAlone at h
    refine lv_aload_n F.1 F.2.1 d_Chart_refusedByAlone_0 rfl (lv_at hl 0 rfl) ?_
    refine cg_4_2 F hK hw lk_193 d_Chart_refusedByAlone_1 ?_
    refine lv_aload_n F.1 F.2.1 d_Chart_refusedByAlone_4 rfl (lv_at hl 0 rfl) ?_
    refine cg_4_12 F hK hw lk_211 d_Chart_refusedByAlone_5 ?_
    refine lv_iconst (v := 1) F.1 F.2.1 d_Chart_refusedByAlone_8 (by decide) ?_
    refine lv_iload_n F.1 F.2.1 d_Chart_refusedByAlone_9 rfl (lv_at hl 1 rfl) ?_
    refine lv_ishl F.1 F.2.1 d_Chart_refusedByAlone_10 ?_
    refine lv_iconst (v := -1) F.1 F.2.1 d_Chart_refusedByAlone_11 (by decide) ?_
    refine lv_ixor F.1 F.2.1 d_Chart_refusedByAlone_12 ?_
    refine lv_iand F.1 F.2.1 d_Chart_refusedByAlone_13 ?_
    refine lv_sipush (v := 255) F.1 F.2.1 d_Chart_refusedByAlone_14 (by decide) ?_
    refine lv_iand F.1 F.2.1 d_Chart_refusedByAlone_17 ?_
    obtain ⟨hi_1, h⟩ := gd_ex h
    refine cl_4_2 F hK hw hi_1 d_Chart_refusedByAlone_18 ?_
    refine lv_aload_n F.1 F.2.1 d_Chart_refusedByAlone_19 rfl (lv_at hl 0 rfl) ?_
    refine cg_4_2 F hK hw lk_193 d_Chart_refusedByAlone_20 ?_
    refine lv_aload_n F.1 F.2.1 d_Chart_refusedByAlone_23 rfl (lv_at hl 0 rfl) ?_
    refine cg_4_12 F hK hw lk_211 d_Chart_refusedByAlone_24 ?_
    refine lv_sipush (v := 255) F.1 F.2.1 d_Chart_refusedByAlone_27 (by decide) ?_
    refine lv_iand F.1 F.2.1 d_Chart_refusedByAlone_30 ?_
    obtain ⟨hi_2, h⟩ := gd_ex h
    refine cl_4_2 F hK hw hi_2 d_Chart_refusedByAlone_31 ?_
    refine lv_isub F.1 F.2.1 d_Chart_refusedByAlone_32 ?_
    cases h
    have ho : X_0 _ := ho
    rw [eX_0] at ho
    exact ho H locs _ ls d_Chart_refusedByAlone_33 hw
  exact key _ _ hw _ h (by rw [eX_0]; exact fun H locs pc ls hd hw => hQ H locs pc ls ad rfl hd hw)
theorem d_Chart_isAhead_0 : decode b_Chart_isAhead 0 = .ok (.iload_n 0, 1) := by decide +kernel
theorem d_Chart_isAhead_1 : decode b_Chart_isAhead 1 = .ok (.invokestatic 184, 3) := by decide +kernel
theorem d_Chart_isAhead_4 : decode b_Chart_isAhead 4 = .ok (.iload_n 1, 1) := by decide +kernel
theorem d_Chart_isAhead_5 : decode b_Chart_isAhead 5 = .ok (.invokestatic 184, 3) := by decide +kernel
theorem d_Chart_isAhead_8 : decode b_Chart_isAhead 8 = .ok (.isub, 1) := by decide +kernel
theorem d_Chart_isAhead_9 : decode b_Chart_isAhead 9 = .ok (.istore_n 2, 1) := by decide +kernel
theorem d_Chart_isAhead_10 : decode b_Chart_isAhead 10 = .ok (.iload_n 2, 1) := by decide +kernel
theorem d_Chart_isAhead_11 : decode b_Chart_isAhead 11 = .ok (.ifCond .lt 18, 3) := by decide +kernel
theorem d_Chart_isAhead_14 : decode b_Chart_isAhead 14 = .ok (.iload_n 2, 1) := by decide +kernel
theorem d_Chart_isAhead_15 : decode b_Chart_isAhead 15 = .ok (.ifCond .ne 18, 3) := by decide +kernel
theorem d_Chart_isAhead_18 : decode b_Chart_isAhead 18 = .ok (.iload_n 0, 1) := by decide +kernel
theorem d_Chart_isAhead_19 : decode b_Chart_isAhead 19 = .ok (.iload_n 0, 1) := by decide +kernel
theorem d_Chart_isAhead_20 : decode b_Chart_isAhead 20 = .ok (.iload_n 1, 1) := by decide +kernel
theorem d_Chart_isAhead_21 : decode b_Chart_isAhead 21 = .ok (.ixor, 1) := by decide +kernel
theorem d_Chart_isAhead_22 : decode b_Chart_isAhead 22 = .ok (.invokestatic 189, 3) := by decide +kernel
theorem d_Chart_isAhead_25 : decode b_Chart_isAhead 25 = .ok (.iand, 1) := by decide +kernel
theorem d_Chart_isAhead_26 : decode b_Chart_isAhead 26 = .ok (.ifCond .eq 7, 3) := by decide +kernel
theorem d_Chart_isAhead_29 : decode b_Chart_isAhead 29 = .ok (.iconst 1, 1) := by decide +kernel
theorem d_Chart_isAhead_30 : decode b_Chart_isAhead 30 = .ok (.goto 4, 3) := by decide +kernel
theorem d_Chart_isAhead_33 : decode b_Chart_isAhead 33 = .ok (.iconst 0, 1) := by decide +kernel
theorem d_Chart_isAhead_34 : decode b_Chart_isAhead 34 = .ok (.ireturn, 1) := by decide +kernel
set_option maxHeartbeats 4000000 in
set_option maxRecDepth 100000 in
theorem c_Chart_isAhead (l : Launch) (S : St) {x0 : Int32} {x1 : Int32} {r : Int32} (h : f_Chart_isAhead x0 x1 = some r) : MI cw l y_Chart_isAhead b_Chart_isAhead 3 (some .boolean) 1 20 0 0 (fun ad => [.int x0, .int x1]) aT aE S r S := by
  refine MZ_of "LawfulLots$Chart" rfl (by decide) (fun _ => Nat.le_of_ble_eq_true rfl) ?_
  intro p e s m args below meth c D ar ad A Q ls hP F hK hA hw hl hQ
  have hl : lv_has ls 3 [(0, .int x0), (1, .int x1)] := hl
  obtain ⟨X_0, eX_0⟩ : ∃ X : Int32 → Prop, X = (fun q => ∀ (H : Heap) (locs : List Loc) (pc : Nat) (ls : Array Slot), isB q = true → decode b_Chart_isAhead pc = .ok (.ireturn, 1) → Bw cw D ar A s.heap H locs ad S → W p l e (RM 1 20) s m args below meth c H locs 0 0 Q (F0 m pc ls [.int q])) := ⟨_, rfl⟩
  have key : ∀ (H : Heap) (locs : List Loc), Bw cw D ar A s.heap H locs ad S → ∀ o, f_Chart_isAhead x0 x1 = some o → X_0 o → W p l e (RM 1 20) s m args below meth c H locs 0 0 Q (F0 m 0 ls []) := by
    intro H locs hw o h ho
    unfold f_Chart_isAhead at h
    have J_34 : ∀ (t0 : Int32) (H : Heap) (locs : List Loc) (ls : Array Slot), Bw cw D ar A s.heap H locs ad S → lv_has ls 3 [] → ∀ o, Chart_isAhead_j34 t0 = some o → X_0 o → W p l e (RM 1 20) s m args below meth c H locs 0 0 Q (F0 m 34 ls [.int t0]) := by
      intro t0 H locs ls hw hl o h ho
      unfold Chart_isAhead_j34 at h
      obtain ⟨hb_11, h⟩ := gd_ex h
      cases h
      have ho : X_0 _ := ho
      rw [eX_0] at ho
      exact ho H locs _ ls hb_11 d_Chart_isAhead_34 hw
    have J_33 : ∀ (H : Heap) (locs : List Loc) (ls : Array Slot), Bw cw D ar A s.heap H locs ad S → lv_has ls 3 [] → ∀ o, Chart_isAhead_j33 = some o → X_0 o → W p l e (RM 1 20) s m args below meth c H locs 0 0 Q (F0 m 33 ls []) := by
      intro H locs ls hw hl o h ho
      unfold Chart_isAhead_j33 at h
      refine lv_iconst (v := 0) F.1 F.2.1 d_Chart_isAhead_33 (by decide) ?_
      exact J_34 (0 : Int32) H locs ls hw (lv_sub hl [] rfl) o h ho
    have J_29 : ∀ (H : Heap) (locs : List Loc) (ls : Array Slot), Bw cw D ar A s.heap H locs ad S → lv_has ls 3 [] → ∀ o, Chart_isAhead_j29 = some o → X_0 o → W p l e (RM 1 20) s m args below meth c H locs 0 0 Q (F0 m 29 ls []) := by
      intro H locs ls hw hl o h ho
      unfold Chart_isAhead_j29 at h
      refine lv_iconst (v := 1) F.1 F.2.1 d_Chart_isAhead_29 (by decide) ?_
      refine lv_goto (tgt := 34) F.1 F.2.1 d_Chart_isAhead_30 (by decide) ?_
      exact J_34 (1 : Int32) H locs ls hw (lv_sub hl [] rfl) o h ho
    refine lv_iload_n F.1 F.2.1 d_Chart_isAhead_0 rfl (lv_at hl 0 rfl) ?_
    obtain ⟨v_2, hc_1, h⟩ := bd_ex h
    refine cS_i F hA rfl hK hw (c_Integer_bitCount l S hc_1) trivial rfl (good_S lk_741 lk_742 lk_13 lk_743) hd_Integer_bitCount ⟨Nat.le_of_ble_eq_true rfl, Nat.le_of_ble_eq_true rfl⟩ rfl hl.1 rfl (Nat.le_of_ble_eq_true rfl) d_Chart_isAhead_1 ⟨(Nat.zero_le _), (Nat.zero_le _)⟩ (fun H locs hw => ?_)
    refine lv_iload_n F.1 F.2.1 d_Chart_isAhead_4 rfl (lv_at hl 1 rfl) ?_
    obtain ⟨v_4, hc_3, h⟩ := bd_ex h
    refine cS_i F hA rfl hK hw (c_Integer_bitCount l S hc_3) trivial rfl (good_S lk_741 lk_742 lk_13 lk_743) hd_Integer_bitCount ⟨Nat.le_of_ble_eq_true rfl, Nat.le_of_ble_eq_true rfl⟩ rfl hl.1 rfl (Nat.le_of_ble_eq_true rfl) d_Chart_isAhead_5 ⟨(Nat.zero_le _), (Nat.zero_le _)⟩ (fun H locs hw => ?_)
    refine lv_isub F.1 F.2.1 d_Chart_isAhead_8 ?_
    obtain ⟨x2_5, ex2_5, h⟩ := nm_ex h
    refine lv_nm ex2_5 ?_
    refine lv_istore_n (lv' := [(2, .int x2_5), (0, .int x0), (1, .int x1)]) F.1 F.2.1 d_Chart_isAhead_9 rfl hl (by decide) rfl (fun ls hl => ?_)
    refine lv_iload_n F.1 F.2.1 d_Chart_isAhead_10 rfl (lv_at hl 0 rfl) ?_
    refine lv_if_lt (tgt := 29) F.1 F.2.1 d_Chart_isAhead_11 (by decide) (fun c_6 => ?_) (fun c_6 => ?_)
    · replace h := ip c_6 h
      exact J_29 H locs ls hw (lv_sub hl [] rfl) o h ho
    · replace h := iq c_6 h
      refine lv_iload_n F.1 F.2.1 d_Chart_isAhead_14 rfl (lv_at hl 0 rfl) ?_
      refine lv_if_ne (tgt := 33) F.1 F.2.1 d_Chart_isAhead_15 (by decide) (fun c_7 => ?_) (fun c_7 => ?_)
      · replace h := iq c_7 h
        exact J_33 H locs ls hw (lv_sub hl [] rfl) o h ho
      · replace h := ip c_7 h
        refine lv_iload_n F.1 F.2.1 d_Chart_isAhead_18 rfl (lv_at hl 1 rfl) ?_
        refine lv_iload_n F.1 F.2.1 d_Chart_isAhead_19 rfl (lv_at hl 1 rfl) ?_
        refine lv_iload_n F.1 F.2.1 d_Chart_isAhead_20 rfl (lv_at hl 2 rfl) ?_
        refine lv_ixor F.1 F.2.1 d_Chart_isAhead_21 ?_
        obtain ⟨v_9, hc_8, h⟩ := bd_ex h
        refine cS_i F hA rfl hK hw (c_Integer_lowestOneBit l S hc_8) trivial rfl (good_S lk_747 lk_748 lk_13 lk_749) hd_Integer_lowestOneBit ⟨Nat.le_of_ble_eq_true rfl, Nat.le_of_ble_eq_true rfl⟩ rfl hl.1 rfl (Nat.le_of_ble_eq_true rfl) d_Chart_isAhead_22 ⟨(Nat.zero_le _), (Nat.zero_le _)⟩ (fun H locs hw => ?_)
        refine lv_iand F.1 F.2.1 d_Chart_isAhead_25 ?_
        refine lv_if_eq (tgt := 33) F.1 F.2.1 d_Chart_isAhead_26 (by decide) (fun c_10 => ?_) (fun c_10 => ?_)
        · replace h := ip c_10 h
          exact J_33 H locs ls hw (lv_sub hl [] rfl) o h ho
        · replace h := iq c_10 h
          exact J_29 H locs ls hw (lv_sub hl [] rfl) o h ho
  exact key _ _ hw _ h (by rw [eX_0]; exact fun H locs pc ls hb hd hw => hQ H locs pc ls ad hb rfl hd hw)
theorem d_Chart_smallestQuarrel_0 : decode b_Chart_smallestQuarrel 0 = .ok (.aload_n 0, 1) := by decide +kernel
theorem d_Chart_smallestQuarrel_1 : decode b_Chart_smallestQuarrel 1 = .ok (.getfield 22, 3) := by decide +kernel
theorem d_Chart_smallestQuarrel_4 : decode b_Chart_smallestQuarrel 4 = .ok (.aload_n 0, 1) := by decide +kernel
theorem d_Chart_smallestQuarrel_5 : decode b_Chart_smallestQuarrel 5 = .ok (.getfield 57, 3) := by decide +kernel
theorem d_Chart_smallestQuarrel_8 : decode b_Chart_smallestQuarrel 8 = .ok (.sipush 255, 3) := by decide +kernel
theorem d_Chart_smallestQuarrel_11 : decode b_Chart_smallestQuarrel 11 = .ok (.iand, 1) := by decide +kernel
theorem d_Chart_smallestQuarrel_12 : decode b_Chart_smallestQuarrel 12 = .ok (.iaload, 1) := by decide +kernel
theorem d_Chart_smallestQuarrel_13 : decode b_Chart_smallestQuarrel 13 = .ok (.ifCond .le 5, 3) := by decide +kernel
theorem d_Chart_smallestQuarrel_16 : decode b_Chart_smallestQuarrel 16 = .ok (.iconst (-1), 1) := by decide +kernel
theorem d_Chart_smallestQuarrel_17 : decode b_Chart_smallestQuarrel 17 = .ok (.ireturn, 1) := by decide +kernel
theorem d_Chart_smallestQuarrel_18 : decode b_Chart_smallestQuarrel 18 = .ok (.aload_n 0, 1) := by decide +kernel
theorem d_Chart_smallestQuarrel_19 : decode b_Chart_smallestQuarrel 19 = .ok (.getfield 57, 3) := by decide +kernel
theorem d_Chart_smallestQuarrel_22 : decode b_Chart_smallestQuarrel 22 = .ok (.istore_n 1, 1) := by decide +kernel
theorem d_Chart_smallestQuarrel_23 : decode b_Chart_smallestQuarrel 23 = .ok (.iconst 1, 1) := by decide +kernel
theorem d_Chart_smallestQuarrel_24 : decode b_Chart_smallestQuarrel 24 = .ok (.istore_n 2, 1) := by decide +kernel
theorem d_Chart_smallestQuarrel_25 : decode b_Chart_smallestQuarrel 25 = .ok (.iload_n 2, 1) := by decide +kernel
theorem d_Chart_smallestQuarrel_26 : decode b_Chart_smallestQuarrel 26 = .ok (.sipush 256, 3) := by decide +kernel
theorem d_Chart_smallestQuarrel_29 : decode b_Chart_smallestQuarrel 29 = .ok (.if_icmp .ge 39, 3) := by decide +kernel
theorem d_Chart_smallestQuarrel_32 : decode b_Chart_smallestQuarrel 32 = .ok (.iload_n 2, 1) := by decide +kernel
theorem d_Chart_smallestQuarrel_33 : decode b_Chart_smallestQuarrel 33 = .ok (.aload_n 0, 1) := by decide +kernel
theorem d_Chart_smallestQuarrel_34 : decode b_Chart_smallestQuarrel 34 = .ok (.getfield 57, 3) := by decide +kernel
theorem d_Chart_smallestQuarrel_37 : decode b_Chart_smallestQuarrel 37 = .ok (.iconst (-1), 1) := by decide +kernel
theorem d_Chart_smallestQuarrel_38 : decode b_Chart_smallestQuarrel 38 = .ok (.ixor, 1) := by decide +kernel
theorem d_Chart_smallestQuarrel_39 : decode b_Chart_smallestQuarrel 39 = .ok (.iand, 1) := by decide +kernel
theorem d_Chart_smallestQuarrel_40 : decode b_Chart_smallestQuarrel 40 = .ok (.ifCond .ne 22, 3) := by decide +kernel
theorem d_Chart_smallestQuarrel_43 : decode b_Chart_smallestQuarrel 43 = .ok (.aload_n 0, 1) := by decide +kernel
theorem d_Chart_smallestQuarrel_44 : decode b_Chart_smallestQuarrel 44 = .ok (.getfield 22, 3) := by decide +kernel
theorem d_Chart_smallestQuarrel_47 : decode b_Chart_smallestQuarrel 47 = .ok (.iload_n 2, 1) := by decide +kernel
theorem d_Chart_smallestQuarrel_48 : decode b_Chart_smallestQuarrel 48 = .ok (.iaload, 1) := by decide +kernel
theorem d_Chart_smallestQuarrel_49 : decode b_Chart_smallestQuarrel 49 = .ok (.ifCond .ne 13, 3) := by decide +kernel
theorem d_Chart_smallestQuarrel_52 : decode b_Chart_smallestQuarrel 52 = .ok (.iload_n 2, 1) := by decide +kernel
theorem d_Chart_smallestQuarrel_53 : decode b_Chart_smallestQuarrel 53 = .ok (.iload_n 1, 1) := by decide +kernel
theorem d_Chart_smallestQuarrel_54 : decode b_Chart_smallestQuarrel 54 = .ok (.invokestatic 180, 3) := by decide +kernel
theorem d_Chart_smallestQuarrel_57 : decode b_Chart_smallestQuarrel 57 = .ok (.ifCond .eq 5, 3) := by decide +kernel
theorem d_Chart_smallestQuarrel_60 : decode b_Chart_smallestQuarrel 60 = .ok (.iload_n 2, 1) := by decide +kernel
theorem d_Chart_smallestQuarrel_61 : decode b_Chart_smallestQuarrel 61 = .ok (.istore_n 1, 1) := by decide +kernel
theorem d_Chart_smallestQuarrel_62 : decode b_Chart_smallestQuarrel 62 = .ok (.iinc 2 1, 3) := by decide +kernel
theorem d_Chart_smallestQuarrel_65 : decode b_Chart_smallestQuarrel 65 = .ok (.goto (-40), 3) := by decide +kernel
theorem d_Chart_smallestQuarrel_68 : decode b_Chart_smallestQuarrel 68 = .ok (.iload_n 1, 1) := by decide +kernel
theorem d_Chart_smallestQuarrel_69 : decode b_Chart_smallestQuarrel 69 = .ok (.ireturn, 1) := by decide +kernel
set_option maxHeartbeats 4000000 in
set_option maxRecDepth 100000 in
theorem c_Chart_smallestQuarrel (l : Launch) {S : St} {r : Int32} (h : f_Chart_smallestQuarrel S = some r) : MI cw l y_Chart_smallestQuarrel b_Chart_smallestQuarrel 3 (some .int) 2 42 0 0 (fun ad => [.ref (ad 4 0)]) aT aE S r S := by
  refine MI_of "LawfulLots$Chart" rfl (by decide) (fun _ => Nat.le_of_ble_eq_true rfl) ?_
  intro p e s m args below meth c D ar ad A Q ls hP F hK hA hw hl hQ
  have hl : lv_has ls 3 [(0, .ref (ad 4 0))] := hl
  obtain ⟨X_0, eX_0⟩ : ∃ X : Int32 → Prop, X = (fun q => ∀ (H : Heap) (locs : List Loc) (pc : Nat) (ls : Array Slot), decode b_Chart_smallestQuarrel pc = .ok (.ireturn, 1) → Bw cw D ar A s.heap H locs ad S → W p l e (RM 2 42) s m args below meth c H locs 0 0 Q (F0 m pc ls [.int q])) := ⟨_, rfl⟩
  have key : ∀ (H : Heap) (locs : List Loc), Bw cw D ar A s.heap H locs ad S → ∀ o, f_Chart_smallestQuarrel S = some o → X_0 o → W p l e (RM 2 42) s m args below meth c H locs 0 0 Q (F0 m 0 ls []) := by
    intro H locs hw o h ho
    unfold f_Chart_smallestQuarrel at h
    refine lv_aload_n F.1 F.2.1 d_Chart_smallestQuarrel_0 rfl (lv_at hl 0 rfl) ?_
    refine cg_4_2 F hK hw lk_193 d_Chart_smallestQuarrel_1 ?_
    refine lv_aload_n F.1 F.2.1 d_Chart_smallestQuarrel_4 rfl (lv_at hl 0 rfl) ?_
    refine cg_4_12 F hK hw lk_211 d_Chart_smallestQuarrel_5 ?_
    refine lv_sipush (v := 255) F.1 F.2.1 d_Chart_smallestQuarrel_8 (by decide) ?_
    refine lv_iand F.1 F.2.1 d_Chart_smallestQuarrel_11 ?_
    obtain ⟨hi_1, h⟩ := gd_ex h
    refine cl_4_2 F hK hw hi_1 d_Chart_smallestQuarrel_12 ?_
    refine lv_if_le (tgt := 18) F.1 F.2.1 d_Chart_smallestQuarrel_13 (by decide) (fun c_2 => ?_) (fun c_2 => ?_)
    · replace h := ip c_2 h
      refine lv_aload_n F.1 F.2.1 d_Chart_smallestQuarrel_18 rfl (lv_at hl 0 rfl) ?_
      refine cg_4_12 F hK hw lk_211 d_Chart_smallestQuarrel_19 ?_
      obtain ⟨x1_3, ex1_3, h⟩ := nm_ex h
      refine lv_nm ex1_3 ?_
      refine lv_istore_n (lv' := [(1, .int x1_3), (0, .ref (ad 4 0))]) F.1 F.2.1 d_Chart_smallestQuarrel_22 rfl hl (by decide) rfl (fun ls hl => ?_)
      refine lv_iconst (v := 1) F.1 F.2.1 d_Chart_smallestQuarrel_23 (by decide) ?_
      refine lv_istore_n (lv' := [(2, .int (1 : Int32)), (1, .int x1_3), (0, .ref (ad 4 0))]) F.1 F.2.1 d_Chart_smallestQuarrel_24 rfl hl (by decide) rfl (fun ls hl => ?_)
      obtain ⟨x1_12, hc_13, h⟩ := bd_ex h
      obtain ⟨X_25, eX_25⟩ : ∃ X : Int32 → Prop, X = (fun q => ∀ (H : Heap) (locs : List Loc) (ls : Array Slot), Bw cw D ar A s.heap H locs ad S → lv_has ls 3 [(1, .int q)] → W p l e (RM 2 42) s m args below meth c H locs 0 0 Q (F0 m 68 ls [])) := ⟨_, rfl⟩
      have hX_25 : X_25 x1_12 := by
        rw [eX_25]
        intro H locs ls hw hl
        refine lv_iload_n F.1 F.2.1 d_Chart_smallestQuarrel_68 rfl (lv_at hl 0 rfl) ?_
        cases h
        have ho : X_0 _ := ho
        rw [eX_0] at ho
        exact ho H locs _ ls d_Chart_smallestQuarrel_69 hw
      obtain ⟨P_25, eP_25⟩ : ∃ P : (Int32 × Int32) → Prop, P = (fun q => ∀ (H : Heap) (locs : List Loc) (ls : Array Slot), Bw cw D ar A s.heap H locs ad S → lv_has ls 3 [(0, .ref (ad 4 0)), (1, .int q.1), (2, .int q.2)] → W p l e (RM 2 42) s m args below meth c H locs 0 0 Q (F0 m 25 ls [])) := ⟨_, rfl⟩
      have hL_25 : P_25 (x1_3, (1 : Int32)) := by
        refine wh_gp (P := P_25) (X := X_25) hc_13 hX_25 ?_
        clear h
        intro q o h ho
        obtain ⟨x1, x2⟩ := q
        have h : Chart_smallestQuarrel_l25 S x1 x2 = some o := h
        unfold Chart_smallestQuarrel_l25 at h
        rw [eP_25]
        intro H locs ls hw hl
        have J_62_l25 : ∀ (x1 : Int32) (x2 : Int32) (H : Heap) (locs : List Loc) (ls : Array Slot), Bw cw D ar A s.heap H locs ad S → lv_has ls 3 [(0, .ref (ad 4 0)), (1, .int x1), (2, .int x2)] → ∀ o, Chart_smallestQuarrel_j62_l25 S x1 x2 = some o → (Sum.elim P_25 X_25) o → W p l e (RM 2 42) s m args below meth c H locs 0 0 Q (F0 m 62 ls []) := by
          intro x1 x2 H locs ls hw hl o h ho
          unfold Chart_smallestQuarrel_j62_l25 at h
          obtain ⟨x2_11, ex2_11, h⟩ := nm_ex h
          refine lv_iinc (v := x2_11) (lv' := [(2, .int x2_11), (0, .ref (ad 4 0)), (1, .int x1)]) F.1 F.2.1 d_Chart_smallestQuarrel_62 hl (k := 2) rfl (by rw [ex2_11]; rfl) (by decide) rfl (fun ls hl => ?_)
          refine lv_goto (tgt := 25) F.1 F.2.1 d_Chart_smallestQuarrel_65 (by decide) ?_
          cases h
          have ho : P_25 _ := ho
          rw [eP_25] at ho
          exact ho H locs ls hw (lv_sub hl [1, 2, 0] rfl)
        refine lv_iload_n F.1 F.2.1 d_Chart_smallestQuarrel_25 rfl (lv_at hl 2 rfl) ?_
        refine lv_sipush (v := 256) F.1 F.2.1 d_Chart_smallestQuarrel_26 (by decide) ?_
        refine lv_icmp_ge (tgt := 68) F.1 F.2.1 d_Chart_smallestQuarrel_29 (by decide) (fun c_4 => ?_) (fun c_4 => ?_)
        · replace h := ip c_4 h
          cases h
          have ho : X_25 _ := ho
          rw [eX_25] at ho
          exact ho H locs ls hw (lv_sub hl [1] rfl)
        · replace h := iq c_4 h
          refine lv_iload_n F.1 F.2.1 d_Chart_smallestQuarrel_32 rfl (lv_at hl 2 rfl) ?_
          refine lv_aload_n F.1 F.2.1 d_Chart_smallestQuarrel_33 rfl (lv_at hl 0 rfl) ?_
          refine cg_4_12 F hK hw lk_211 d_Chart_smallestQuarrel_34 ?_
          refine lv_iconst (v := -1) F.1 F.2.1 d_Chart_smallestQuarrel_37 (by decide) ?_
          refine lv_ixor F.1 F.2.1 d_Chart_smallestQuarrel_38 ?_
          refine lv_iand F.1 F.2.1 d_Chart_smallestQuarrel_39 ?_
          refine lv_if_ne (tgt := 62) F.1 F.2.1 d_Chart_smallestQuarrel_40 (by decide) (fun c_5 => ?_) (fun c_5 => ?_)
          · replace h := iq c_5 h
            exact J_62_l25 x1 x2 H locs ls hw (lv_sub hl [0, 1, 2] rfl) o h ho
          · replace h := ip c_5 h
            refine lv_aload_n F.1 F.2.1 d_Chart_smallestQuarrel_43 rfl (lv_at hl 0 rfl) ?_
            refine cg_4_2 F hK hw lk_193 d_Chart_smallestQuarrel_44 ?_
            refine lv_iload_n F.1 F.2.1 d_Chart_smallestQuarrel_47 rfl (lv_at hl 2 rfl) ?_
            obtain ⟨hi_6, h⟩ := gd_ex h
            refine cl_4_2 F hK hw hi_6 d_Chart_smallestQuarrel_48 ?_
            refine lv_if_ne (tgt := 62) F.1 F.2.1 d_Chart_smallestQuarrel_49 (by decide) (fun c_7 => ?_) (fun c_7 => ?_)
            · replace h := iq c_7 h
              exact J_62_l25 x1 x2 H locs ls hw (lv_sub hl [0, 1, 2] rfl) o h ho
            · replace h := ip c_7 h
              refine lv_iload_n F.1 F.2.1 d_Chart_smallestQuarrel_52 rfl (lv_at hl 2 rfl) ?_
              refine lv_iload_n F.1 F.2.1 d_Chart_smallestQuarrel_53 rfl (lv_at hl 1 rfl) ?_
              obtain ⟨v_9, hc_8, h⟩ := bd_ex h
              refine cS_i F hA rfl hK hw (c_Chart_isAhead l S hc_8) trivial rfl (good_S lk_738 lk_739 lk_5 lk_740) hd_Chart_isAhead ⟨Nat.le_of_ble_eq_true rfl, Nat.le_of_ble_eq_true rfl⟩ rfl hl.1 rfl (Nat.le_of_ble_eq_true rfl) d_Chart_smallestQuarrel_54 ⟨(Nat.zero_le _), (Nat.zero_le _)⟩ (fun H locs hw => ?_)
              refine lv_if_eq (tgt := 62) F.1 F.2.1 d_Chart_smallestQuarrel_57 (by decide) (fun c_10 => ?_) (fun c_10 => ?_)
              · replace h := ip c_10 h
                exact J_62_l25 x1 x2 H locs ls hw (lv_sub hl [0, 1, 2] rfl) o h ho
              · replace h := iq c_10 h
                refine lv_iload_n F.1 F.2.1 d_Chart_smallestQuarrel_60 rfl (lv_at hl 2 rfl) ?_
                refine lv_istore_n (lv' := [(1, .int x2), (0, .ref (ad 4 0)), (2, .int x2)]) F.1 F.2.1 d_Chart_smallestQuarrel_61 rfl hl (by decide) rfl (fun ls hl => ?_)
                exact J_62_l25 x2 x2 H locs ls hw (lv_sub hl [1, 0, 2] rfl) o h ho
      rw [eP_25] at hL_25
      exact hL_25 H locs ls hw (lv_sub hl [2, 1, 0] rfl)
    · replace h := iq c_2 h
      refine lv_iconst (v := -1) F.1 F.2.1 d_Chart_smallestQuarrel_16 (by decide) ?_
      cases h
      have ho : X_0 _ := ho
      rw [eX_0] at ho
      exact ho H locs _ ls d_Chart_smallestQuarrel_17 hw
  exact key _ _ hw _ h (by rw [eX_0]; exact fun H locs pc ls hd hw => hQ H locs pc ls ad rfl hd hw)
theorem d_Log_add_0 : decode b_Log_add 0 = .ok (.aload_n 0, 1) := by decide +kernel
theorem d_Log_add_1 : decode b_Log_add 1 = .ok (.getfield 15, 3) := by decide +kernel
theorem d_Log_add_4 : decode b_Log_add 4 = .ok (.aload_n 0, 1) := by decide +kernel
theorem d_Log_add_5 : decode b_Log_add 5 = .ok (.getfield 9, 3) := by decide +kernel
theorem d_Log_add_8 : decode b_Log_add 8 = .ok (.arraylength, 1) := by decide +kernel
theorem d_Log_add_9 : decode b_Log_add 9 = .ok (.if_icmp .ge 23, 3) := by decide +kernel
theorem d_Log_add_12 : decode b_Log_add 12 = .ok (.aload_n 0, 1) := by decide +kernel
theorem d_Log_add_13 : decode b_Log_add 13 = .ok (.getfield 9, 3) := by decide +kernel
theorem d_Log_add_16 : decode b_Log_add 16 = .ok (.aload_n 0, 1) := by decide +kernel
theorem d_Log_add_17 : decode b_Log_add 17 = .ok (.getfield 15, 3) := by decide +kernel
theorem d_Log_add_20 : decode b_Log_add 20 = .ok (.iload_n 1, 1) := by decide +kernel
theorem d_Log_add_21 : decode b_Log_add 21 = .ok (.iastore, 1) := by decide +kernel
theorem d_Log_add_22 : decode b_Log_add 22 = .ok (.aload_n 0, 1) := by decide +kernel
theorem d_Log_add_23 : decode b_Log_add 23 = .ok (.dup, 1) := by decide +kernel
theorem d_Log_add_24 : decode b_Log_add 24 = .ok (.getfield 15, 3) := by decide +kernel
theorem d_Log_add_27 : decode b_Log_add 27 = .ok (.iconst 1, 1) := by decide +kernel
theorem d_Log_add_28 : decode b_Log_add 28 = .ok (.iadd, 1) := by decide +kernel
theorem d_Log_add_29 : decode b_Log_add 29 = .ok (.putfield 15, 3) := by decide +kernel
theorem d_Log_add_32 : decode b_Log_add 32 = .ok (.return_, 1) := by decide +kernel
set_option maxHeartbeats 4000000 in
set_option maxRecDepth 100000 in
theorem c_Log_add (l : Launch) {S : St} {x1 : Int32} {S' : St} (h : f_Log_add S x1 = some S') : MV cw l y_Log_add b_Log_add 2 none 0 0 0 0 (fun ad => [.ref (ad 7 0), .int x1]) aT aE S S' := by
  refine MV_of "LawfulLots$Log" rfl (by decide) (fun _ => Nat.le_of_ble_eq_true rfl) ?_
  intro p e s m args below meth c D ar ad A Q ls hP F hK hA hw hl hQ
  have hl : lv_has ls 2 [(0, .ref (ad 7 0)), (1, .int x1)] := hl
  obtain ⟨X_0, eX_0⟩ : ∃ X : St → Prop, X = (fun q => ∀ (H : Heap) (locs : List Loc) (pc : Nat) (ls : Array Slot), decode b_Log_add pc = .ok (.return_, 1) → Bw cw D ar A s.heap H locs ad q → W p l e (RM 0 0) s m args below meth c H locs 0 0 Q (F0 m pc ls [])) := ⟨_, rfl⟩
  have key : ∀ (H : Heap) (locs : List Loc), Bw cw D ar A s.heap H locs ad S → ∀ o, f_Log_add S x1 = some o → X_0 o → W p l e (RM 0 0) s m args below meth c H locs 0 0 Q (F0 m 0 ls []) := by
    intro H locs hw o h ho
    unfold f_Log_add at h
    have J_32 : ∀ (S : St) (H : Heap) (locs : List Loc) (ls : Array Slot), Bw cw D ar A s.heap H locs ad S → lv_has ls 2 [] → ∀ o, Log_add_j32 S = some o → X_0 o → W p l e (RM 0 0) s m args below meth c H locs 0 0 Q (F0 m 32 ls []) := by
      intro S H locs ls hw hl o h ho
      unfold Log_add_j32 at h
      cases h
      have ho : X_0 _ := ho
      rw [eX_0] at ho
      exact ho H locs _ ls d_Log_add_32 hw
    refine lv_aload_n F.1 F.2.1 d_Log_add_0 rfl (lv_at hl 0 rfl) ?_
    refine cg_7_1 F hK hw lk_261 d_Log_add_1 ?_
    refine lv_aload_n F.1 F.2.1 d_Log_add_4 rfl (lv_at hl 0 rfl) ?_
    refine cg_7_0 F hK hw lk_260 d_Log_add_5 ?_
    refine cn_7_0 F hK hw d_Log_add_8 ?_
    refine lv_icmp_ge (tgt := 32) F.1 F.2.1 d_Log_add_9 (by decide) (fun c_1 => ?_) (fun c_1 => ?_)
    · replace h := ip c_1 h
      exact J_32 S H locs ls hw (lv_sub hl [] rfl) o h ho
    · replace h := iq c_1 h
      refine lv_aload_n F.1 F.2.1 d_Log_add_12 rfl (lv_at hl 0 rfl) ?_
      refine cg_7_0 F hK hw lk_260 d_Log_add_13 ?_
      refine lv_aload_n F.1 F.2.1 d_Log_add_16 rfl (lv_at hl 0 rfl) ?_
      refine cg_7_1 F hK hw lk_261 d_Log_add_17 ?_
      refine lv_iload_n F.1 F.2.1 d_Log_add_20 rfl (lv_at hl 1 rfl) ?_
      obtain ⟨hi_2, h⟩ := gd_ex h
      obtain ⟨S_3, eS_3, h⟩ := nm_ex h
      refine cs_7_0 F hK hw hi_2 d_Log_add_21 eS_3 (fun H locs hw => ?_)
      refine lv_aload_n F.1 F.2.1 d_Log_add_22 rfl (lv_at hl 0 rfl) ?_
      refine lv_dup F.1 F.2.1 d_Log_add_23 rfl ?_
      refine cg_7_1 F hK hw lk_261 d_Log_add_24 ?_
      refine lv_iconst (v := 1) F.1 F.2.1 d_Log_add_27 (by decide) ?_
      refine lv_iadd F.1 F.2.1 d_Log_add_28 ?_
      obtain ⟨S_4, eS_4, h⟩ := nm_ex h
      refine cp_7_1 F hK hw lk_261 d_Log_add_29 eS_4 (fun H locs hw => ?_)
      exact J_32 S_4 H locs ls hw (lv_sub hl [] rfl) o h ho
  exact key _ _ hw _ h (by rw [eX_0]; exact fun H locs pc ls hd hw => hQ H locs pc ls ad rfl hd hw)
theorem d_Log_meeting_0 : decode b_Log_meeting 0 = .ok (.iconst 0, 1) := by decide +kernel
theorem d_Log_meeting_1 : decode b_Log_meeting 1 = .ok (.istore_n 3, 1) := by decide +kernel
theorem d_Log_meeting_2 : decode b_Log_meeting 2 = .ok (.iconst 0, 1) := by decide +kernel
theorem d_Log_meeting_3 : decode b_Log_meeting 3 = .ok (.istore 4, 2) := by decide +kernel
theorem d_Log_meeting_5 : decode b_Log_meeting 5 = .ok (.iload 4, 2) := by decide +kernel
theorem d_Log_meeting_7 : decode b_Log_meeting 7 = .ok (.aload_n 0, 1) := by decide +kernel
theorem d_Log_meeting_8 : decode b_Log_meeting 8 = .ok (.getfield 15, 3) := by decide +kernel
theorem d_Log_meeting_11 : decode b_Log_meeting 11 = .ok (.if_icmp .ge 26, 3) := by decide +kernel
theorem d_Log_meeting_14 : decode b_Log_meeting 14 = .ok (.iload_n 3, 1) := by decide +kernel
theorem d_Log_meeting_15 : decode b_Log_meeting 15 = .ok (.aload_n 1, 1) := by decide +kernel
theorem d_Log_meeting_16 : decode b_Log_meeting 16 = .ok (.aload_n 0, 1) := by decide +kernel
theorem d_Log_meeting_17 : decode b_Log_meeting 17 = .ok (.iload 4, 2) := by decide +kernel
theorem d_Log_meeting_19 : decode b_Log_meeting 19 = .ok (.invokevirtual 19, 3) := by decide +kernel
theorem d_Log_meeting_22 : decode b_Log_meeting 22 = .ok (.invokevirtual 23, 3) := by decide +kernel
theorem d_Log_meeting_25 : decode b_Log_meeting 25 = .ok (.iload_n 2, 1) := by decide +kernel
theorem d_Log_meeting_26 : decode b_Log_meeting 26 = .ok (.ishr, 1) := by decide +kernel
theorem d_Log_meeting_27 : decode b_Log_meeting 27 = .ok (.iconst 1, 1) := by decide +kernel
theorem d_Log_meeting_28 : decode b_Log_meeting 28 = .ok (.iand, 1) := by decide +kernel
theorem d_Log_meeting_29 : decode b_Log_meeting 29 = .ok (.iadd, 1) := by decide +kernel
theorem d_Log_meeting_30 : decode b_Log_meeting 30 = .ok (.istore_n 3, 1) := by decide +kernel
theorem d_Log_meeting_31 : decode b_Log_meeting 31 = .ok (.iinc 4 1, 3) := by decide +kernel
theorem d_Log_meeting_34 : decode b_Log_meeting 34 = .ok (.goto (-29), 3) := by decide +kernel
theorem d_Log_meeting_37 : decode b_Log_meeting 37 = .ok (.iload_n 3, 1) := by decide +kernel
theorem d_Log_meeting_38 : decode b_Log_meeting 38 = .ok (.ireturn, 1) := by decide +kernel
set_option maxHeartbeats 4000000 in
set_option maxRecDepth 100000 in
theorem c_Log_meeting (l : Launch) {S : St} {x2 : Int32} {r : Int32} (h : f_Log_meeting S x2 = some r) : MI cw l y_Log_meeting b_Log_meeting 5 (some .int) 2 42 0 0 (fun ad => [.ref (ad 7 0), .ref (ad 4 0), .int x2]) aT aE S r S := by
  refine MI_of "LawfulLots$Log" rfl (by decide) (fun _ => Nat.le_of_ble_eq_true rfl) ?_
  intro p e s m args below meth c D ar ad A Q ls hP F hK hA hw hl hQ
  have hl : lv_has ls 5 [(0, .ref (ad 7 0)), (1, .ref (ad 4 0)), (2, .int x2)] := hl
  obtain ⟨X_0, eX_0⟩ : ∃ X : Int32 → Prop, X = (fun q => ∀ (H : Heap) (locs : List Loc) (pc : Nat) (ls : Array Slot), decode b_Log_meeting pc = .ok (.ireturn, 1) → Bw cw D ar A s.heap H locs ad S → W p l e (RM 2 42) s m args below meth c H locs 0 0 Q (F0 m pc ls [.int q])) := ⟨_, rfl⟩
  have key : ∀ (H : Heap) (locs : List Loc), Bw cw D ar A s.heap H locs ad S → ∀ o, f_Log_meeting S x2 = some o → X_0 o → W p l e (RM 2 42) s m args below meth c H locs 0 0 Q (F0 m 0 ls []) := by
    intro H locs hw o h ho
    unfold f_Log_meeting at h
    refine lv_iconst (v := 0) F.1 F.2.1 d_Log_meeting_0 (by decide) ?_
    refine lv_istore_n (lv' := [(3, .int (0 : Int32)), (0, .ref (ad 7 0)), (1, .ref (ad 4 0)), (2, .int x2)]) F.1 F.2.1 d_Log_meeting_1 rfl hl (by decide) rfl (fun ls hl => ?_)
    refine lv_iconst (v := 0) F.1 F.2.1 d_Log_meeting_2 (by decide) ?_
    refine lv_istore (lv' := [(4, .int (0 : Int32)), (3, .int (0 : Int32)), (0, .ref (ad 7 0)), (1, .ref (ad 4 0)), (2, .int x2)]) F.1 F.2.1 d_Log_meeting_3 hl (by decide) rfl (fun ls hl => ?_)
    obtain ⟨x3_8, hc_9, h⟩ := bd_ex h
    obtain ⟨X_5, eX_5⟩ : ∃ X : Int32 → Prop, X = (fun q => ∀ (H : Heap) (locs : List Loc) (ls : Array Slot), Bw cw D ar A s.heap H locs ad S → lv_has ls 5 [(3, .int q)] → W p l e (RM 2 42) s m args below meth c H locs 0 0 Q (F0 m 37 ls [])) := ⟨_, rfl⟩
    have hX_5 : X_5 x3_8 := by
      rw [eX_5]
      intro H locs ls hw hl
      refine lv_iload_n F.1 F.2.1 d_Log_meeting_37 rfl (lv_at hl 0 rfl) ?_
      cases h
      have ho : X_0 _ := ho
      rw [eX_0] at ho
      exact ho H locs _ ls d_Log_meeting_38 hw
    obtain ⟨P_5, eP_5⟩ : ∃ P : (Int32 × Int32) → Prop, P = (fun q => ∀ (H : Heap) (locs : List Loc) (ls : Array Slot), Bw cw D ar A s.heap H locs ad S → lv_has ls 5 [(0, .ref (ad 7 0)), (1, .ref (ad 4 0)), (2, .int x2), (3, .int q.1), (4, .int q.2)] → W p l e (RM 2 42) s m args below meth c H locs 0 0 Q (F0 m 5 ls [])) := ⟨_, rfl⟩
    have hL_5 : P_5 ((0 : Int32), (0 : Int32)) := by
      refine wh_gp (P := P_5) (X := X_5) hc_9 hX_5 ?_
      clear h
      intro q o h ho
      obtain ⟨x3, x4⟩ := q
      have h : Log_meeting_l5 S x2 x3 x4 = some o := h
      unfold Log_meeting_l5 at h
      rw [eP_5]
      intro H locs ls hw hl
      refine lv_iload F.1 F.2.1 d_Log_meeting_5 (lv_at hl 4 rfl) ?_
      refine lv_aload_n F.1 F.2.1 d_Log_meeting_7 rfl (lv_at hl 0 rfl) ?_
      refine cg_7_1 F hK hw lk_261 d_Log_meeting_8 ?_
      refine lv_icmp_ge (tgt := 37) F.1 F.2.1 d_Log_meeting_11 (by decide) (fun c_1 => ?_) (fun c_1 => ?_)
      · replace h := ip c_1 h
        cases h
        have ho : X_5 _ := ho
        rw [eX_5] at ho
        exact ho H locs ls hw (lv_sub hl [3] rfl)
      · replace h := iq c_1 h
        refine lv_iload_n F.1 F.2.1 d_Log_meeting_14 rfl (lv_at hl 3 rfl) ?_
        refine lv_aload_n F.1 F.2.1 d_Log_meeting_15 rfl (lv_at hl 1 rfl) ?_
        refine lv_aload_n F.1 F.2.1 d_Log_meeting_16 rfl (lv_at hl 0 rfl) ?_
        refine lv_iload F.1 F.2.1 d_Log_meeting_17 (lv_at hl 4 rfl) ?_
        obtain ⟨v_3, hc_2, h⟩ := bd_ex h
        refine cV_i F hA rfl hK hw (c_Log_inputOf l hc_2) trivial rfl (good_V lk_798 lk_799 lk_800 lk_7 lk_801) (cr_7 hK hw) hd_Log_inputOf ⟨Nat.le_of_ble_eq_true rfl, Nat.le_of_ble_eq_true rfl⟩ rfl hl.1 rfl (Nat.le_of_ble_eq_true rfl) d_Log_meeting_19 ⟨(Nat.zero_le _), (Nat.zero_le _)⟩ (fun H locs hw => ?_)
        obtain ⟨v_5, hc_4, h⟩ := bd_ex h
        refine cV_i F hA rfl hK hw (c_Chart_binsOf l hc_4) trivial rfl (good_V lk_802 lk_777 lk_778 lk_5 lk_779) (cr_4 hK hw) hd_Chart_binsOf ⟨Nat.le_of_ble_eq_true rfl, Nat.le_of_ble_eq_true rfl⟩ rfl hl.1 rfl (Nat.le_of_ble_eq_true rfl) d_Log_meeting_22 ⟨(Nat.zero_le _), (Nat.zero_le _)⟩ (fun H locs hw => ?_)
        refine lv_iload_n F.1 F.2.1 d_Log_meeting_25 rfl (lv_at hl 2 rfl) ?_
        refine lv_ishr F.1 F.2.1 d_Log_meeting_26 ?_
        refine lv_iconst (v := 1) F.1 F.2.1 d_Log_meeting_27 (by decide) ?_
        refine lv_iand F.1 F.2.1 d_Log_meeting_28 ?_
        refine lv_iadd F.1 F.2.1 d_Log_meeting_29 ?_
        obtain ⟨x3_6, ex3_6, h⟩ := nm_ex h
        refine lv_nm ex3_6 ?_
        refine lv_istore_n (lv' := [(3, .int x3_6), (0, .ref (ad 7 0)), (1, .ref (ad 4 0)), (2, .int x2), (4, .int x4)]) F.1 F.2.1 d_Log_meeting_30 rfl hl (by decide) rfl (fun ls hl => ?_)
        obtain ⟨x4_7, ex4_7, h⟩ := nm_ex h
        refine lv_iinc (v := x4_7) (lv' := [(4, .int x4_7), (3, .int x3_6), (0, .ref (ad 7 0)), (1, .ref (ad 4 0)), (2, .int x2)]) F.1 F.2.1 d_Log_meeting_31 hl (k := 4) rfl (by rw [ex4_7]; rfl) (by decide) rfl (fun ls hl => ?_)
        refine lv_goto (tgt := 5) F.1 F.2.1 d_Log_meeting_34 (by decide) ?_
        cases h
        have ho : P_5 _ := ho
        rw [eP_5] at ho
        exact ho H locs ls hw (lv_sub hl [2, 3, 4, 1, 0] rfl)
    rw [eP_5] at hL_5
    exact hL_5 H locs ls hw (lv_sub hl [2, 3, 4, 1, 0] rfl)
  exact key _ _ hw _ h (by rw [eX_0]; exact fun H locs pc ls hd hw => hQ H locs pc ls ad rfl hd hw)
theorem d_Log_unlawful_0 : decode b_Log_unlawful 0 = .ok (.iconst 0, 1) := by decide +kernel
theorem d_Log_unlawful_1 : decode b_Log_unlawful 1 = .ok (.istore_n 3, 1) := by decide +kernel
theorem d_Log_unlawful_2 : decode b_Log_unlawful 2 = .ok (.iconst 0, 1) := by decide +kernel
theorem d_Log_unlawful_3 : decode b_Log_unlawful 3 = .ok (.istore 4, 2) := by decide +kernel
theorem d_Log_unlawful_5 : decode b_Log_unlawful 5 = .ok (.iload 4, 2) := by decide +kernel
theorem d_Log_unlawful_7 : decode b_Log_unlawful 7 = .ok (.aload_n 0, 1) := by decide +kernel
theorem d_Log_unlawful_8 : decode b_Log_unlawful 8 = .ok (.getfield 15, 3) := by decide +kernel
theorem d_Log_unlawful_11 : decode b_Log_unlawful 11 = .ok (.if_icmp .ge 37, 3) := by decide +kernel
theorem d_Log_unlawful_14 : decode b_Log_unlawful 14 = .ok (.iload_n 2, 1) := by decide +kernel
theorem d_Log_unlawful_15 : decode b_Log_unlawful 15 = .ok (.ifCond .lt 33, 3) := by decide +kernel
theorem d_Log_unlawful_18 : decode b_Log_unlawful 18 = .ok (.aload_n 1, 1) := by decide +kernel
theorem d_Log_unlawful_19 : decode b_Log_unlawful 19 = .ok (.aload_n 0, 1) := by decide +kernel
theorem d_Log_unlawful_20 : decode b_Log_unlawful 20 = .ok (.iload 4, 2) := by decide +kernel
theorem d_Log_unlawful_22 : decode b_Log_unlawful 22 = .ok (.invokevirtual 19, 3) := by decide +kernel
theorem d_Log_unlawful_25 : decode b_Log_unlawful 25 = .ok (.invokevirtual 28, 3) := by decide +kernel
theorem d_Log_unlawful_28 : decode b_Log_unlawful 28 = .ok (.ifCond .ne 14, 3) := by decide +kernel
theorem d_Log_unlawful_31 : decode b_Log_unlawful 31 = .ok (.iload_n 3, 1) := by decide +kernel
theorem d_Log_unlawful_32 : decode b_Log_unlawful 32 = .ok (.iload_n 2, 1) := by decide +kernel
theorem d_Log_unlawful_33 : decode b_Log_unlawful 33 = .ok (.if_icmp .ne 6, 3) := by decide +kernel
theorem d_Log_unlawful_36 : decode b_Log_unlawful 36 = .ok (.iload 4, 2) := by decide +kernel
theorem d_Log_unlawful_38 : decode b_Log_unlawful 38 = .ok (.ireturn, 1) := by decide +kernel
theorem d_Log_unlawful_39 : decode b_Log_unlawful 39 = .ok (.iinc 3 1, 3) := by decide +kernel
theorem d_Log_unlawful_42 : decode b_Log_unlawful 42 = .ok (.iinc 4 1, 3) := by decide +kernel
theorem d_Log_unlawful_45 : decode b_Log_unlawful 45 = .ok (.goto (-40), 3) := by decide +kernel
theorem d_Log_unlawful_48 : decode b_Log_unlawful 48 = .ok (.iconst (-1), 1) := by decide +kernel
theorem d_Log_unlawful_49 : decode b_Log_unlawful 49 = .ok (.ireturn, 1) := by decide +kernel
set_option maxHeartbeats 4000000 in
set_option maxRecDepth 100000 in
theorem c_Log_unlawful (l : Launch) {S : St} {x2 : Int32} {r : Int32} (h : f_Log_unlawful S x2 = some r) : MI cw l y_Log_unlawful b_Log_unlawful 5 (some .int) 2 43 0 0 (fun ad => [.ref (ad 7 0), .ref (ad 4 0), .int x2]) aT aE S r S := by
  refine MI_of "LawfulLots$Log" rfl (by decide) (fun _ => Nat.le_of_ble_eq_true rfl) ?_
  intro p e s m args below meth c D ar ad A Q ls hP F hK hA hw hl hQ
  have hl : lv_has ls 5 [(0, .ref (ad 7 0)), (1, .ref (ad 4 0)), (2, .int x2)] := hl
  obtain ⟨X_0, eX_0⟩ : ∃ X : Int32 → Prop, X = (fun q => ∀ (H : Heap) (locs : List Loc) (pc : Nat) (ls : Array Slot), decode b_Log_unlawful pc = .ok (.ireturn, 1) → Bw cw D ar A s.heap H locs ad S → W p l e (RM 2 43) s m args below meth c H locs 0 0 Q (F0 m pc ls [.int q])) := ⟨_, rfl⟩
  have key : ∀ (H : Heap) (locs : List Loc), Bw cw D ar A s.heap H locs ad S → ∀ o, f_Log_unlawful S x2 = some o → X_0 o → W p l e (RM 2 43) s m args below meth c H locs 0 0 Q (F0 m 0 ls []) := by
    intro H locs hw o h ho
    unfold f_Log_unlawful at h
    refine lv_iconst (v := 0) F.1 F.2.1 d_Log_unlawful_0 (by decide) ?_
    refine lv_istore_n (lv' := [(3, .int (0 : Int32)), (0, .ref (ad 7 0)), (1, .ref (ad 4 0)), (2, .int x2)]) F.1 F.2.1 d_Log_unlawful_1 rfl hl (by decide) rfl (fun ls hl => ?_)
    refine lv_iconst (v := 0) F.1 F.2.1 d_Log_unlawful_2 (by decide) ?_
    refine lv_istore (lv' := [(4, .int (0 : Int32)), (3, .int (0 : Int32)), (0, .ref (ad 7 0)), (1, .ref (ad 4 0)), (2, .int x2)]) F.1 F.2.1 d_Log_unlawful_3 hl (by decide) rfl (fun ls hl => ?_)
    obtain ⟨P_5, eP_5⟩ : ∃ P : (Int32 × Int32) → Prop, P = (fun q => ∀ (H : Heap) (locs : List Loc) (ls : Array Slot), Bw cw D ar A s.heap H locs ad S → lv_has ls 5 [(0, .ref (ad 7 0)), (1, .ref (ad 4 0)), (2, .int x2), (3, .int q.1), (4, .int q.2)] → W p l e (RM 2 43) s m args below meth c H locs 0 0 Q (F0 m 5 ls [])) := ⟨_, rfl⟩
    have hL_5 : P_5 ((0 : Int32), (0 : Int32)) := by
      refine wh_gp (P := P_5) (X := X_0) h ho ?_
      clear h ho
      intro q o h ho
      obtain ⟨x3, x4⟩ := q
      have h : Log_unlawful_l5 S x2 x3 x4 = some o := h
      unfold Log_unlawful_l5 at h
      rw [eP_5]
      intro H locs ls hw hl
      have J_48_l5 : ∀ (H : Heap) (locs : List Loc) (ls : Array Slot), Bw cw D ar A s.heap H locs ad S → lv_has ls 5 [] → ∀ o, Log_unlawful_j48_l5 S = some o → (Sum.elim P_5 X_0) o → W p l e (RM 2 43) s m args below meth c H locs 0 0 Q (F0 m 48 ls []) := by
        intro H locs ls hw hl o h ho
        unfold Log_unlawful_j48_l5 at h
        refine lv_iconst (v := -1) F.1 F.2.1 d_Log_unlawful_48 (by decide) ?_
        cases h
        have ho : X_0 _ := ho
        rw [eX_0] at ho
        exact ho H locs _ ls d_Log_unlawful_49 hw
      have J_42_l5 : ∀ (x3 : Int32) (x4 : Int32) (H : Heap) (locs : List Loc) (ls : Array Slot), Bw cw D ar A s.heap H locs ad S → lv_has ls 5 [(0, .ref (ad 7 0)), (1, .ref (ad 4 0)), (2, .int x2), (3, .int x3), (4, .int x4)] → ∀ o, Log_unlawful_j42_l5 S x2 x3 x4 = some o → (Sum.elim P_5 X_0) o → W p l e (RM 2 43) s m args below meth c H locs 0 0 Q (F0 m 42 ls []) := by
        intro x3 x4 H locs ls hw hl o h ho
        unfold Log_unlawful_j42_l5 at h
        obtain ⟨x4_10, ex4_10, h⟩ := nm_ex h
        refine lv_iinc (v := x4_10) (lv' := [(4, .int x4_10), (0, .ref (ad 7 0)), (1, .ref (ad 4 0)), (2, .int x2), (3, .int x3)]) F.1 F.2.1 d_Log_unlawful_42 hl (k := 4) rfl (by rw [ex4_10]; rfl) (by decide) rfl (fun ls hl => ?_)
        refine lv_goto (tgt := 5) F.1 F.2.1 d_Log_unlawful_45 (by decide) ?_
        cases h
        have ho : P_5 _ := ho
        rw [eP_5] at ho
        exact ho H locs ls hw (lv_sub hl [1, 2, 3, 4, 0] rfl)
      refine lv_iload F.1 F.2.1 d_Log_unlawful_5 (lv_at hl 4 rfl) ?_
      refine lv_aload_n F.1 F.2.1 d_Log_unlawful_7 rfl (lv_at hl 0 rfl) ?_
      refine cg_7_1 F hK hw lk_261 d_Log_unlawful_8 ?_
      refine lv_icmp_ge (tgt := 48) F.1 F.2.1 d_Log_unlawful_11 (by decide) (fun c_1 => ?_) (fun c_1 => ?_)
      · replace h := ip c_1 h
        exact J_48_l5 H locs ls hw (lv_sub hl [] rfl) o h ho
      · replace h := iq c_1 h
        refine lv_iload_n F.1 F.2.1 d_Log_unlawful_14 rfl (lv_at hl 2 rfl) ?_
        refine lv_if_lt (tgt := 48) F.1 F.2.1 d_Log_unlawful_15 (by decide) (fun c_2 => ?_) (fun c_2 => ?_)
        · replace h := ip c_2 h
          exact J_48_l5 H locs ls hw (lv_sub hl [] rfl) o h ho
        · replace h := iq c_2 h
          refine lv_aload_n F.1 F.2.1 d_Log_unlawful_18 rfl (lv_at hl 1 rfl) ?_
          refine lv_aload_n F.1 F.2.1 d_Log_unlawful_19 rfl (lv_at hl 0 rfl) ?_
          refine lv_iload F.1 F.2.1 d_Log_unlawful_20 (lv_at hl 4 rfl) ?_
          obtain ⟨v_4, hc_3, h⟩ := bd_ex h
          refine cV_i F hA rfl hK hw (c_Log_inputOf l hc_3) trivial rfl (good_V lk_798 lk_799 lk_800 lk_7 lk_801) (cr_7 hK hw) hd_Log_inputOf ⟨Nat.le_of_ble_eq_true rfl, Nat.le_of_ble_eq_true rfl⟩ rfl hl.1 rfl (Nat.le_of_ble_eq_true rfl) d_Log_unlawful_22 ⟨(Nat.zero_le _), (Nat.zero_le _)⟩ (fun H locs hw => ?_)
          obtain ⟨v_6, hc_5, h⟩ := bd_ex h
          refine cV_i F hA rfl hK hw (c_Chart_isLawful l hc_5) trivial rfl (good_V lk_883 lk_884 lk_885 lk_5 lk_886) (cr_4 hK hw) hd_Chart_isLawful ⟨Nat.le_of_ble_eq_true rfl, Nat.le_of_ble_eq_true rfl⟩ rfl hl.1 rfl (Nat.le_of_ble_eq_true rfl) d_Log_unlawful_25 ⟨(Nat.zero_le _), (Nat.zero_le _)⟩ (fun H locs hw => ?_)
          refine lv_if_ne (tgt := 42) F.1 F.2.1 d_Log_unlawful_28 (by decide) (fun c_7 => ?_) (fun c_7 => ?_)
          · replace h := iq c_7 h
            exact J_42_l5 x3 x4 H locs ls hw (lv_sub hl [0, 1, 2, 3, 4] rfl) o h ho
          · replace h := ip c_7 h
            refine lv_iload_n F.1 F.2.1 d_Log_unlawful_31 rfl (lv_at hl 3 rfl) ?_
            refine lv_iload_n F.1 F.2.1 d_Log_unlawful_32 rfl (lv_at hl 2 rfl) ?_
            refine lv_icmp_ne (tgt := 39) F.1 F.2.1 d_Log_unlawful_33 (by decide) (fun c_8 => ?_) (fun c_8 => ?_)
            · replace h := iq c_8 h
              obtain ⟨x3_9, ex3_9, h⟩ := nm_ex h
              refine lv_iinc (v := x3_9) (lv' := [(3, .int x3_9), (0, .ref (ad 7 0)), (1, .ref (ad 4 0)), (2, .int x2), (4, .int x4)]) F.1 F.2.1 d_Log_unlawful_39 hl (k := 3) rfl (by rw [ex3_9]; rfl) (by decide) rfl (fun ls hl => ?_)
              exact J_42_l5 x3_9 x4 H locs ls hw (lv_sub hl [1, 2, 3, 0, 4] rfl) o h ho
            · replace h := ip c_8 h
              refine lv_iload F.1 F.2.1 d_Log_unlawful_36 (lv_at hl 4 rfl) ?_
              cases h
              have ho : X_0 _ := ho
              rw [eX_0] at ho
              exact ho H locs _ ls d_Log_unlawful_38 hw
    rw [eP_5] at hL_5
    exact hL_5 H locs ls hw (lv_sub hl [2, 3, 4, 1, 0] rfl)
  exact key _ _ hw _ h (by rw [eX_0]; exact fun H locs pc ls hd hw => hQ H locs pc ls ad rfl hd hw)
theorem d_Reader_refuse_0 : decode b_Reader_refuse 0 = .ok (.aload_n 0, 1) := by decide +kernel
theorem d_Reader_refuse_1 : decode b_Reader_refuse 1 = .ok (.iload_n 1, 1) := by decide +kernel
theorem d_Reader_refuse_2 : decode b_Reader_refuse 2 = .ok (.putfield 33, 3) := by decide +kernel
theorem d_Reader_refuse_5 : decode b_Reader_refuse 5 = .ok (.aload_n 0, 1) := by decide +kernel
theorem d_Reader_refuse_6 : decode b_Reader_refuse 6 = .ok (.aload_n 0, 1) := by decide +kernel
theorem d_Reader_refuse_7 : decode b_Reader_refuse 7 = .ok (.getfield 12, 3) := by decide +kernel
theorem d_Reader_refuse_10 : decode b_Reader_refuse 10 = .ok (.getfield 98, 3) := by decide +kernel
theorem d_Reader_refuse_13 : decode b_Reader_refuse 13 = .ok (.putfield 29, 3) := by decide +kernel
theorem d_Reader_refuse_16 : decode b_Reader_refuse 16 = .ok (.return_, 1) := by decide +kernel
set_option maxHeartbeats 4000000 in
set_option maxRecDepth 100000 in
theorem c_Reader_refuse (l : Launch) {S : St} {x1 : Int32} {S' : St} (h : f_Reader_refuse S x1 = some S') : MV cw l y_Reader_refuse b_Reader_refuse 2 none 0 0 0 0 (fun ad => [.ref (ad 1 0), .int x1]) aT aE S S' := by
  refine MV_of "LawfulLots$Reader" rfl (by decide) (fun _ => Nat.le_of_ble_eq_true rfl) ?_
  intro p e s m args below meth c D ar ad A Q ls hP F hK hA hw hl hQ
  have hl : lv_has ls 2 [(0, .ref (ad 1 0)), (1, .int x1)] := hl
  obtain ⟨X_0, eX_0⟩ : ∃ X : St → Prop, X = (fun q => ∀ (H : Heap) (locs : List Loc) (pc : Nat) (ls : Array Slot), decode b_Reader_refuse pc = .ok (.return_, 1) → Bw cw D ar A s.heap H locs ad q → W p l e (RM 0 0) s m args below meth c H locs 0 0 Q (F0 m pc ls [])) := ⟨_, rfl⟩
  have key : ∀ (H : Heap) (locs : List Loc), Bw cw D ar A s.heap H locs ad S → ∀ o, f_Reader_refuse S x1 = some o → X_0 o → W p l e (RM 0 0) s m args below meth c H locs 0 0 Q (F0 m 0 ls []) := by
    intro H locs hw o h ho
    unfold f_Reader_refuse at h
    refine lv_aload_n F.1 F.2.1 d_Reader_refuse_0 rfl (lv_at hl 0 rfl) ?_
    refine lv_iload_n F.1 F.2.1 d_Reader_refuse_1 rfl (lv_at hl 1 rfl) ?_
    obtain ⟨S_1, eS_1, h⟩ := nm_ex h
    refine cp_1_4 F hK hw lk_125 d_Reader_refuse_2 eS_1 (fun H locs hw => ?_)
    refine lv_aload_n F.1 F.2.1 d_Reader_refuse_5 rfl (lv_at hl 0 rfl) ?_
    refine lv_aload_n F.1 F.2.1 d_Reader_refuse_6 rfl (lv_at hl 0 rfl) ?_
    refine cg_1_0 F hK hw lk_119 d_Reader_refuse_7 ?_
    refine cg_2_4 F hK hw lk_40 d_Reader_refuse_10 ?_
    obtain ⟨S_2, eS_2, h⟩ := nm_ex h
    refine cp_1_3 F hK hw lk_123 d_Reader_refuse_13 eS_2 (fun H locs hw => ?_)
    cases h
    have ho : X_0 _ := ho
    rw [eX_0] at ho
    exact ho H locs _ ls d_Reader_refuse_16 hw
  exact key _ _ hw _ h (by rw [eX_0]; exact fun H locs pc ls hd hw => hQ H locs pc ls ad rfl hd hw)
theorem d_Reader_blame_0 : decode b_Reader_blame 0 = .ok (.iload_n 2, 1) := by decide +kernel
theorem d_Reader_blame_1 : decode b_Reader_blame 1 = .ok (.aload_n 0, 1) := by decide +kernel
theorem d_Reader_blame_2 : decode b_Reader_blame 2 = .ok (.getfield 39, 3) := by decide +kernel
theorem d_Reader_blame_5 : decode b_Reader_blame 5 = .ok (.if_icmp .lt 19, 3) := by decide +kernel
theorem d_Reader_blame_8 : decode b_Reader_blame 8 = .ok (.iload_n 2, 1) := by decide +kernel
theorem d_Reader_blame_9 : decode b_Reader_blame 9 = .ok (.aload_n 0, 1) := by decide +kernel
theorem d_Reader_blame_10 : decode b_Reader_blame 10 = .ok (.getfield 39, 3) := by decide +kernel
theorem d_Reader_blame_13 : decode b_Reader_blame 13 = .ok (.if_icmp .ne 15, 3) := by decide +kernel
theorem d_Reader_blame_16 : decode b_Reader_blame 16 = .ok (.iload_n 1, 1) := by decide +kernel
theorem d_Reader_blame_17 : decode b_Reader_blame 17 = .ok (.aload_n 0, 1) := by decide +kernel
theorem d_Reader_blame_18 : decode b_Reader_blame 18 = .ok (.getfield 36, 3) := by decide +kernel
theorem d_Reader_blame_21 : decode b_Reader_blame 21 = .ok (.if_icmp .ge 7, 3) := by decide +kernel
theorem d_Reader_blame_24 : decode b_Reader_blame 24 = .ok (.iconst 1, 1) := by decide +kernel
theorem d_Reader_blame_25 : decode b_Reader_blame 25 = .ok (.goto 4, 3) := by decide +kernel
theorem d_Reader_blame_28 : decode b_Reader_blame 28 = .ok (.iconst 0, 1) := by decide +kernel
theorem d_Reader_blame_29 : decode b_Reader_blame 29 = .ok (.istore_n 3, 1) := by decide +kernel
theorem d_Reader_blame_30 : decode b_Reader_blame 30 = .ok (.aload_n 0, 1) := by decide +kernel
theorem d_Reader_blame_31 : decode b_Reader_blame 31 = .ok (.getfield 36, 3) := by decide +kernel
theorem d_Reader_blame_34 : decode b_Reader_blame 34 = .ok (.ifCond .eq 7, 3) := by decide +kernel
theorem d_Reader_blame_37 : decode b_Reader_blame 37 = .ok (.iload_n 3, 1) := by decide +kernel
theorem d_Reader_blame_38 : decode b_Reader_blame 38 = .ok (.ifCond .eq 13, 3) := by decide +kernel
theorem d_Reader_blame_41 : decode b_Reader_blame 41 = .ok (.aload_n 0, 1) := by decide +kernel
theorem d_Reader_blame_42 : decode b_Reader_blame 42 = .ok (.iload_n 1, 1) := by decide +kernel
theorem d_Reader_blame_43 : decode b_Reader_blame 43 = .ok (.putfield 36, 3) := by decide +kernel
theorem d_Reader_blame_46 : decode b_Reader_blame 46 = .ok (.aload_n 0, 1) := by decide +kernel
theorem d_Reader_blame_47 : decode b_Reader_blame 47 = .ok (.iload_n 2, 1) := by decide +kernel
theorem d_Reader_blame_48 : decode b_Reader_blame 48 = .ok (.putfield 39, 3) := by decide +kernel
theorem d_Reader_blame_51 : decode b_Reader_blame 51 = .ok (.return_, 1) := by decide +kernel
set_option maxHeartbeats 4000000 in
set_option maxRecDepth 100000 in
theorem c_Reader_blame (l : Launch) {S : St} {x1 : Int32} {x2 : Int32} {S' : St} (h : f_Reader_blame S x1 x2 = some S') : MV cw l y_Reader_blame b_Reader_blame 4 none 0 0 0 0 (fun ad => [.ref (ad 1 0), .int x1, .int x2]) aT aE S S' := by
  refine MV_of "LawfulLots$Reader" rfl (by decide) (fun _ => Nat.le_of_ble_eq_true rfl) ?_
  intro p e s m args below meth c D ar ad A Q ls hP F hK hA hw hl hQ
  have hl : lv_has ls 4 [(0, .ref (ad 1 0)), (1, .int x1), (2, .int x2)] := hl
  obtain ⟨X_0, eX_0⟩ : ∃ X : St → Prop, X = (fun q => ∀ (H : Heap) (locs : List Loc) (pc : Nat) (ls : Array Slot), decode b_Reader_blame pc = .ok (.return_, 1) → Bw cw D ar A s.heap H locs ad q → W p l e (RM 0 0) s m args below meth c H locs 0 0 Q (F0 m pc ls [])) := ⟨_, rfl⟩
  have key : ∀ (H : Heap) (locs : List Loc), Bw cw D ar A s.heap H locs ad S → ∀ o, f_Reader_blame S x1 x2 = some o → X_0 o → W p l e (RM 0 0) s m args below meth c H locs 0 0 Q (F0 m 0 ls []) := by
    intro H locs hw o h ho
    unfold f_Reader_blame at h
    have J_51 : ∀ (S : St) (H : Heap) (locs : List Loc) (ls : Array Slot), Bw cw D ar A s.heap H locs ad S → lv_has ls 4 [] → ∀ o, Reader_blame_j51 S = some o → X_0 o → W p l e (RM 0 0) s m args below meth c H locs 0 0 Q (F0 m 51 ls []) := by
      intro S H locs ls hw hl o h ho
      unfold Reader_blame_j51 at h
      cases h
      have ho : X_0 _ := ho
      rw [eX_0] at ho
      exact ho H locs _ ls d_Reader_blame_51 hw
    have J_41 : ∀ (S : St) (H : Heap) (locs : List Loc) (ls : Array Slot), Bw cw D ar A s.heap H locs ad S → lv_has ls 4 [(0, .ref (ad 1 0)), (1, .int x1), (2, .int x2)] → ∀ o, Reader_blame_j41 S x1 x2 = some o → X_0 o → W p l e (RM 0 0) s m args below meth c H locs 0 0 Q (F0 m 41 ls []) := by
      intro S H locs ls hw hl o h ho
      unfold Reader_blame_j41 at h
      refine lv_aload_n F.1 F.2.1 d_Reader_blame_41 rfl (lv_at hl 0 rfl) ?_
      refine lv_iload_n F.1 F.2.1 d_Reader_blame_42 rfl (lv_at hl 1 rfl) ?_
      obtain ⟨S_6, eS_6, h⟩ := nm_ex h
      refine cp_1_5 F hK hw lk_126 d_Reader_blame_43 eS_6 (fun H locs hw => ?_)
      refine lv_aload_n F.1 F.2.1 d_Reader_blame_46 rfl (lv_at hl 0 rfl) ?_
      refine lv_iload_n F.1 F.2.1 d_Reader_blame_47 rfl (lv_at hl 2 rfl) ?_
      obtain ⟨S_7, eS_7, h⟩ := nm_ex h
      refine cp_1_6 F hK hw lk_127 d_Reader_blame_48 eS_7 (fun H locs hw => ?_)
      exact J_51 S_7 H locs ls hw (lv_sub hl [] rfl) o h ho
    have J_29 : ∀ (S : St) (t0 : Int32) (H : Heap) (locs : List Loc) (ls : Array Slot), Bw cw D ar A s.heap H locs ad S → lv_has ls 4 [(0, .ref (ad 1 0)), (1, .int x1), (2, .int x2)] → ∀ o, Reader_blame_j29 S x1 x2 t0 = some o → X_0 o → W p l e (RM 0 0) s m args below meth c H locs 0 0 Q (F0 m 29 ls [.int t0]) := by
      intro S t0 H locs ls hw hl o h ho
      unfold Reader_blame_j29 at h
      refine lv_istore_n (lv' := [(3, .int t0), (0, .ref (ad 1 0)), (1, .int x1), (2, .int x2)]) F.1 F.2.1 d_Reader_blame_29 rfl hl (by decide) rfl (fun ls hl => ?_)
      refine lv_aload_n F.1 F.2.1 d_Reader_blame_30 rfl (lv_at hl 1 rfl) ?_
      refine cg_1_5 F hK hw lk_126 d_Reader_blame_31 ?_
      refine lv_if_eq (tgt := 41) F.1 F.2.1 d_Reader_blame_34 (by decide) (fun c_4 => ?_) (fun c_4 => ?_)
      · replace h := ip c_4 h
        exact J_41 S H locs ls hw (lv_sub hl [1, 2, 3] rfl) o h ho
      · replace h := iq c_4 h
        refine lv_iload_n F.1 F.2.1 d_Reader_blame_37 rfl (lv_at hl 0 rfl) ?_
        refine lv_if_eq (tgt := 51) F.1 F.2.1 d_Reader_blame_38 (by decide) (fun c_5 => ?_) (fun c_5 => ?_)
        · replace h := ip c_5 h
          exact J_51 S H locs ls hw (lv_sub hl [] rfl) o h ho
        · replace h := iq c_5 h
          exact J_41 S H locs ls hw (lv_sub hl [1, 2, 3] rfl) o h ho
    have J_28 : ∀ (S : St) (H : Heap) (locs : List Loc) (ls : Array Slot), Bw cw D ar A s.heap H locs ad S → lv_has ls 4 [(0, .ref (ad 1 0)), (1, .int x1), (2, .int x2)] → ∀ o, Reader_blame_j28 S x1 x2 = some o → X_0 o → W p l e (RM 0 0) s m args below meth c H locs 0 0 Q (F0 m 28 ls []) := by
      intro S H locs ls hw hl o h ho
      unfold Reader_blame_j28 at h
      refine lv_iconst (v := 0) F.1 F.2.1 d_Reader_blame_28 (by decide) ?_
      exact J_29 S (0 : Int32) H locs ls hw (lv_sub hl [0, 1, 2] rfl) o h ho
    have J_24 : ∀ (S : St) (H : Heap) (locs : List Loc) (ls : Array Slot), Bw cw D ar A s.heap H locs ad S → lv_has ls 4 [(0, .ref (ad 1 0)), (1, .int x1), (2, .int x2)] → ∀ o, Reader_blame_j24 S x1 x2 = some o → X_0 o → W p l e (RM 0 0) s m args below meth c H locs 0 0 Q (F0 m 24 ls []) := by
      intro S H locs ls hw hl o h ho
      unfold Reader_blame_j24 at h
      refine lv_iconst (v := 1) F.1 F.2.1 d_Reader_blame_24 (by decide) ?_
      refine lv_goto (tgt := 29) F.1 F.2.1 d_Reader_blame_25 (by decide) ?_
      exact J_29 S (1 : Int32) H locs ls hw (lv_sub hl [0, 1, 2] rfl) o h ho
    refine lv_iload_n F.1 F.2.1 d_Reader_blame_0 rfl (lv_at hl 2 rfl) ?_
    refine lv_aload_n F.1 F.2.1 d_Reader_blame_1 rfl (lv_at hl 0 rfl) ?_
    refine cg_1_6 F hK hw lk_127 d_Reader_blame_2 ?_
    refine lv_icmp_lt (tgt := 24) F.1 F.2.1 d_Reader_blame_5 (by decide) (fun c_1 => ?_) (fun c_1 => ?_)
    · replace h := ip c_1 h
      exact J_24 S H locs ls hw (lv_sub hl [0, 1, 2] rfl) o h ho
    · replace h := iq c_1 h
      refine lv_iload_n F.1 F.2.1 d_Reader_blame_8 rfl (lv_at hl 2 rfl) ?_
      refine lv_aload_n F.1 F.2.1 d_Reader_blame_9 rfl (lv_at hl 0 rfl) ?_
      refine cg_1_6 F hK hw lk_127 d_Reader_blame_10 ?_
      refine lv_icmp_ne (tgt := 28) F.1 F.2.1 d_Reader_blame_13 (by decide) (fun c_2 => ?_) (fun c_2 => ?_)
      · replace h := iq c_2 h
        exact J_28 S H locs ls hw (lv_sub hl [0, 1, 2] rfl) o h ho
      · replace h := ip c_2 h
        refine lv_iload_n F.1 F.2.1 d_Reader_blame_16 rfl (lv_at hl 1 rfl) ?_
        refine lv_aload_n F.1 F.2.1 d_Reader_blame_17 rfl (lv_at hl 0 rfl) ?_
        refine cg_1_5 F hK hw lk_126 d_Reader_blame_18 ?_
        refine lv_icmp_ge (tgt := 28) F.1 F.2.1 d_Reader_blame_21 (by decide) (fun c_3 => ?_) (fun c_3 => ?_)
        · replace h := ip c_3 h
          exact J_28 S H locs ls hw (lv_sub hl [0, 1, 2] rfl) o h ho
        · replace h := iq c_3 h
          exact J_24 S H locs ls hw (lv_sub hl [0, 1, 2] rfl) o h ho
  exact key _ _ hw _ h (by rw [eX_0]; exact fun H locs pc ls hd hw => hQ H locs pc ls ad rfl hd hw)
set_option maxHeartbeats 4000000 in
set_option maxRecDepth 100000 in
theorem c_Book_toldOf_3 (l : Launch) {S : St} {x1 : Int32} {r : Int32} (h : f_Book_toldOf 3 S x1 = some r) : MI cw l y_Book_toldOf b_Book_toldOf 2 (some .int) 0 0 0 0 (fun ad => [.ref (ad 3 0), .int x1]) aT aE S r S := by
  refine MI_of "LawfulLots$Book" rfl (by decide) (fun _ => Nat.le_of_ble_eq_true rfl) ?_
  intro p e s m args below meth c D ar ad A Q ls hP F hK hA hw hl hQ
  have hl : lv_has ls 2 [(0, .ref (ad 3 0)), (1, .int x1)] := hl
  obtain ⟨X_0, eX_0⟩ : ∃ X : Int32 → Prop, X = (fun q => ∀ (H : Heap) (locs : List Loc) (pc : Nat) (ls : Array Slot), decode b_Book_toldOf pc = .ok (.ireturn, 1) → Bw cw D ar A s.heap H locs ad S → W p l e (RM 0 0) s m args below meth c H locs 0 0 Q (F0 m pc ls [.int q])) := ⟨_, rfl⟩
  have key : ∀ (H : Heap) (locs : List Loc), Bw cw D ar A s.heap H locs ad S → ∀ o, f_Book_toldOf 3 S x1 = some o → X_0 o → W p l e (RM 0 0) s m args below meth c H locs 0 0 Q (F0 m 0 ls []) := by
    intro H locs hw o h ho
    unfold f_Book_toldOf at h
    have J_23 : ∀ (t0 : Int32) (H : Heap) (locs : List Loc) (ls : Array Slot), Bw cw D ar A s.heap H locs ad S → lv_has ls 2 [] → ∀ o, Book_toldOf_j23 3 S t0 = some o → X_0 o → W p l e (RM 0 0) s m args below meth c H locs 0 0 Q (F0 m 23 ls [.int t0]) := by
      intro t0 H locs ls hw hl o h ho
      unfold Book_toldOf_j23 at h
      cases h
      have ho : X_0 _ := ho
      rw [eX_0] at ho
      exact ho H locs _ ls d_Book_toldOf_23 hw
    have J_22 : ∀ (H : Heap) (locs : List Loc) (ls : Array Slot), Bw cw D ar A s.heap H locs ad S → lv_has ls 2 [] → ∀ o, Book_toldOf_j22 3 S = some o → X_0 o → W p l e (RM 0 0) s m args below meth c H locs 0 0 Q (F0 m 22 ls []) := by
      intro H locs ls hw hl o h ho
      unfold Book_toldOf_j22 at h
      refine lv_iconst (v := 0) F.1 F.2.1 d_Book_toldOf_22 (by decide) ?_
      exact J_23 (0 : Int32) H locs ls hw (lv_sub hl [] rfl) o h ho
    refine lv_iload_n F.1 F.2.1 d_Book_toldOf_0 rfl (lv_at hl 1 rfl) ?_
    refine lv_if_lt (tgt := 22) F.1 F.2.1 d_Book_toldOf_1 (by decide) (fun c_1 => ?_) (fun c_1 => ?_)
    · replace h := ip c_1 h
      exact J_22 H locs ls hw (lv_sub hl [] rfl) o h ho
    · replace h := iq c_1 h
      refine lv_iload_n F.1 F.2.1 d_Book_toldOf_4 rfl (lv_at hl 1 rfl) ?_
      refine lv_aload_n F.1 F.2.1 d_Book_toldOf_5 rfl (lv_at hl 0 rfl) ?_
      refine cg_3_4 F hK hw lk_71 d_Book_toldOf_6 ?_
      refine cn_3_4 F hK hw d_Book_toldOf_9 ?_
      refine lv_icmp_ge (tgt := 22) F.1 F.2.1 d_Book_toldOf_10 (by decide) (fun c_2 => ?_) (fun c_2 => ?_)
      · replace h := ip c_2 h
        exact J_22 H locs ls hw (lv_sub hl [] rfl) o h ho
      · replace h := iq c_2 h
        refine lv_aload_n F.1 F.2.1 d_Book_toldOf_13 rfl (lv_at hl 0 rfl) ?_
        refine cg_3_4 F hK hw lk_71 d_Book_toldOf_14 ?_
        refine lv_iload_n F.1 F.2.1 d_Book_toldOf_17 rfl (lv_at hl 1 rfl) ?_
        obtain ⟨hi_3, h⟩ := gd_ex h
        refine cl_3_4 F hK hw hi_3 d_Book_toldOf_18 ?_
        refine lv_goto (tgt := 23) F.1 F.2.1 d_Book_toldOf_19 (by decide) ?_
        exact J_23 (gA S 3 4 x1.toNatClampNeg) H locs ls hw (lv_sub hl [] rfl) o h ho
  exact key _ _ hw _ h (by rw [eX_0]; exact fun H locs pc ls hd hw => hQ H locs pc ls ad rfl hd hw)
theorem d_Book_open_0 : decode b_Book_open 0 = .ok (.iload_n 1, 1) := by decide +kernel
theorem d_Book_open_1 : decode b_Book_open 1 = .ok (.ifCond .lt 36, 3) := by decide +kernel
theorem d_Book_open_4 : decode b_Book_open 4 = .ok (.iload_n 1, 1) := by decide +kernel
theorem d_Book_open_5 : decode b_Book_open 5 = .ok (.bipush 48, 2) := by decide +kernel
theorem d_Book_open_7 : decode b_Book_open 7 = .ok (.if_icmp .ge 30, 3) := by decide +kernel
theorem d_Book_open_10 : decode b_Book_open 10 = .ok (.aload_n 0, 1) := by decide +kernel
theorem d_Book_open_11 : decode b_Book_open 11 = .ok (.getfield 34, 3) := by decide +kernel
theorem d_Book_open_14 : decode b_Book_open 14 = .ok (.iload_n 1, 1) := by decide +kernel
theorem d_Book_open_15 : decode b_Book_open 15 = .ok (.aload_n 0, 1) := by decide +kernel
theorem d_Book_open_16 : decode b_Book_open 16 = .ok (.getfield 50, 3) := by decide +kernel
theorem d_Book_open_19 : decode b_Book_open 19 = .ok (.iastore, 1) := by decide +kernel
theorem d_Book_open_20 : decode b_Book_open 20 = .ok (.aload_n 0, 1) := by decide +kernel
theorem d_Book_open_21 : decode b_Book_open 21 = .ok (.getfield 37, 3) := by decide +kernel
theorem d_Book_open_24 : decode b_Book_open 24 = .ok (.iload_n 1, 1) := by decide +kernel
theorem d_Book_open_25 : decode b_Book_open 25 = .ok (.aload_n 0, 1) := by decide +kernel
theorem d_Book_open_26 : decode b_Book_open 26 = .ok (.getfield 50, 3) := by decide +kernel
theorem d_Book_open_29 : decode b_Book_open 29 = .ok (.iastore, 1) := by decide +kernel
theorem d_Book_open_30 : decode b_Book_open 30 = .ok (.aload_n 0, 1) := by decide +kernel
theorem d_Book_open_31 : decode b_Book_open 31 = .ok (.getfield 40, 3) := by decide +kernel
theorem d_Book_open_34 : decode b_Book_open 34 = .ok (.iload_n 1, 1) := by decide +kernel
theorem d_Book_open_35 : decode b_Book_open 35 = .ok (.iconst (-1), 1) := by decide +kernel
theorem d_Book_open_36 : decode b_Book_open 36 = .ok (.iastore, 1) := by decide +kernel
theorem d_Book_open_37 : decode b_Book_open 37 = .ok (.return_, 1) := by decide +kernel
set_option maxHeartbeats 4000000 in
set_option maxRecDepth 100000 in
theorem c_Book_open (l : Launch) {S : St} {x1 : Int32} {S' : St} (h : f_Book_open S x1 = some S') : MV cw l y_Book_open b_Book_open 2 none 0 0 0 0 (fun ad => [.ref (ad 3 0), .int x1]) aT aE S S' := by
  refine MV_of "LawfulLots$Book" rfl (by decide) (fun _ => Nat.le_of_ble_eq_true rfl) ?_
  intro p e s m args below meth c D ar ad A Q ls hP F hK hA hw hl hQ
  have hl : lv_has ls 2 [(0, .ref (ad 3 0)), (1, .int x1)] := hl
  obtain ⟨X_0, eX_0⟩ : ∃ X : St → Prop, X = (fun q => ∀ (H : Heap) (locs : List Loc) (pc : Nat) (ls : Array Slot), decode b_Book_open pc = .ok (.return_, 1) → Bw cw D ar A s.heap H locs ad q → W p l e (RM 0 0) s m args below meth c H locs 0 0 Q (F0 m pc ls [])) := ⟨_, rfl⟩
  have key : ∀ (H : Heap) (locs : List Loc), Bw cw D ar A s.heap H locs ad S → ∀ o, f_Book_open S x1 = some o → X_0 o → W p l e (RM 0 0) s m args below meth c H locs 0 0 Q (F0 m 0 ls []) := by
    intro H locs hw o h ho
    unfold f_Book_open at h
    have J_37 : ∀ (S : St) (H : Heap) (locs : List Loc) (ls : Array Slot), Bw cw D ar A s.heap H locs ad S → lv_has ls 2 [] → ∀ o, Book_open_j37 S = some o → X_0 o → W p l e (RM 0 0) s m args below meth c H locs 0 0 Q (F0 m 37 ls []) := by
      intro S H locs ls hw hl o h ho
      unfold Book_open_j37 at h
      cases h
      have ho : X_0 _ := ho
      rw [eX_0] at ho
      exact ho H locs _ ls d_Book_open_37 hw
    refine lv_iload_n F.1 F.2.1 d_Book_open_0 rfl (lv_at hl 1 rfl) ?_
    refine lv_if_lt (tgt := 37) F.1 F.2.1 d_Book_open_1 (by decide) (fun c_1 => ?_) (fun c_1 => ?_)
    · replace h := ip c_1 h
      exact J_37 S H locs ls hw (lv_sub hl [] rfl) o h ho
    · replace h := iq c_1 h
      refine lv_iload_n F.1 F.2.1 d_Book_open_4 rfl (lv_at hl 1 rfl) ?_
      refine lv_bipush (v := 48) F.1 F.2.1 d_Book_open_5 (by decide) ?_
      refine lv_icmp_ge (tgt := 37) F.1 F.2.1 d_Book_open_7 (by decide) (fun c_2 => ?_) (fun c_2 => ?_)
      · replace h := ip c_2 h
        exact J_37 S H locs ls hw (lv_sub hl [] rfl) o h ho
      · replace h := iq c_2 h
        refine lv_aload_n F.1 F.2.1 d_Book_open_10 rfl (lv_at hl 0 rfl) ?_
        refine cg_3_7 F hK hw lk_76 d_Book_open_11 ?_
        refine lv_iload_n F.1 F.2.1 d_Book_open_14 rfl (lv_at hl 1 rfl) ?_
        refine lv_aload_n F.1 F.2.1 d_Book_open_15 rfl (lv_at hl 0 rfl) ?_
        refine cg_3_12 F hK hw lk_89 d_Book_open_16 ?_
        obtain ⟨hi_3, h⟩ := gd_ex h
        obtain ⟨S_4, eS_4, h⟩ := nm_ex h
        refine cs_3_7 F hK hw hi_3 d_Book_open_19 eS_4 (fun H locs hw => ?_)
        refine lv_aload_n F.1 F.2.1 d_Book_open_20 rfl (lv_at hl 0 rfl) ?_
        refine cg_3_8 F hK hw lk_78 d_Book_open_21 ?_
        refine lv_iload_n F.1 F.2.1 d_Book_open_24 rfl (lv_at hl 1 rfl) ?_
        refine lv_aload_n F.1 F.2.1 d_Book_open_25 rfl (lv_at hl 0 rfl) ?_
        refine cg_3_12 F hK hw lk_89 d_Book_open_26 ?_
        obtain ⟨hi_5, h⟩ := gd_ex h
        obtain ⟨S_6, eS_6, h⟩ := nm_ex h
        refine cs_3_8 F hK hw hi_5 d_Book_open_29 eS_6 (fun H locs hw => ?_)
        refine lv_aload_n F.1 F.2.1 d_Book_open_30 rfl (lv_at hl 0 rfl) ?_
        refine cg_3_9 F hK hw lk_80 d_Book_open_31 ?_
        refine lv_iload_n F.1 F.2.1 d_Book_open_34 rfl (lv_at hl 1 rfl) ?_
        refine lv_iconst (v := -1) F.1 F.2.1 d_Book_open_35 (by decide) ?_
        obtain ⟨hi_7, h⟩ := gd_ex h
        obtain ⟨S_8, eS_8, h⟩ := nm_ex h
        refine cs_3_9 F hK hw hi_7 d_Book_open_36 eS_8 (fun H locs hw => ?_)
        exact J_37 S_8 H locs ls hw (lv_sub hl [] rfl) o h ho
  exact key _ _ hw _ h (by rw [eX_0]; exact fun H locs pc ls hd hw => hQ H locs pc ls ad rfl hd hw)
theorem d_Book_addTold_0 : decode b_Book_addTold 0 = .ok (.iload_n 1, 1) := by decide +kernel
theorem d_Book_addTold_1 : decode b_Book_addTold 1 = .ok (.ifCond .lt 22, 3) := by decide +kernel
theorem d_Book_addTold_4 : decode b_Book_addTold 4 = .ok (.iload_n 1, 1) := by decide +kernel
theorem d_Book_addTold_5 : decode b_Book_addTold 5 = .ok (.aload_n 0, 1) := by decide +kernel
theorem d_Book_addTold_6 : decode b_Book_addTold 6 = .ok (.getfield 25, 3) := by decide +kernel
theorem d_Book_addTold_9 : decode b_Book_addTold 9 = .ok (.arraylength, 1) := by decide +kernel
theorem d_Book_addTold_10 : decode b_Book_addTold 10 = .ok (.if_icmp .ge 13, 3) := by decide +kernel
theorem d_Book_addTold_13 : decode b_Book_addTold 13 = .ok (.aload_n 0, 1) := by decide +kernel
theorem d_Book_addTold_14 : decode b_Book_addTold 14 = .ok (.getfield 25, 3) := by decide +kernel
theorem d_Book_addTold_17 : decode b_Book_addTold 17 = .ok (.iload_n 1, 1) := by decide +kernel
theorem d_Book_addTold_18 : decode b_Book_addTold 18 = .ok (.dup2, 1) := by decide +kernel
theorem d_Book_addTold_19 : decode b_Book_addTold 19 = .ok (.iaload, 1) := by decide +kernel
theorem d_Book_addTold_20 : decode b_Book_addTold 20 = .ok (.iconst 1, 1) := by decide +kernel
theorem d_Book_addTold_21 : decode b_Book_addTold 21 = .ok (.iadd, 1) := by decide +kernel
theorem d_Book_addTold_22 : decode b_Book_addTold 22 = .ok (.iastore, 1) := by decide +kernel
theorem d_Book_addTold_23 : decode b_Book_addTold 23 = .ok (.return_, 1) := by decide +kernel
set_option maxHeartbeats 4000000 in
set_option maxRecDepth 100000 in
theorem c_Book_addTold (l : Launch) {S : St} {x1 : Int32} {S' : St} (h : f_Book_addTold S x1 = some S') : MV cw l y_Book_addTold b_Book_addTold 2 none 0 0 0 0 (fun ad => [.ref (ad 3 0), .int x1]) aT aE S S' := by
  refine MV_of "LawfulLots$Book" rfl (by decide) (fun _ => Nat.le_of_ble_eq_true rfl) ?_
  intro p e s m args below meth c D ar ad A Q ls hP F hK hA hw hl hQ
  have hl : lv_has ls 2 [(0, .ref (ad 3 0)), (1, .int x1)] := hl
  obtain ⟨X_0, eX_0⟩ : ∃ X : St → Prop, X = (fun q => ∀ (H : Heap) (locs : List Loc) (pc : Nat) (ls : Array Slot), decode b_Book_addTold pc = .ok (.return_, 1) → Bw cw D ar A s.heap H locs ad q → W p l e (RM 0 0) s m args below meth c H locs 0 0 Q (F0 m pc ls [])) := ⟨_, rfl⟩
  have key : ∀ (H : Heap) (locs : List Loc), Bw cw D ar A s.heap H locs ad S → ∀ o, f_Book_addTold S x1 = some o → X_0 o → W p l e (RM 0 0) s m args below meth c H locs 0 0 Q (F0 m 0 ls []) := by
    intro H locs hw o h ho
    unfold f_Book_addTold at h
    have J_23 : ∀ (S : St) (H : Heap) (locs : List Loc) (ls : Array Slot), Bw cw D ar A s.heap H locs ad S → lv_has ls 2 [] → ∀ o, Book_addTold_j23 S = some o → X_0 o → W p l e (RM 0 0) s m args below meth c H locs 0 0 Q (F0 m 23 ls []) := by
      intro S H locs ls hw hl o h ho
      unfold Book_addTold_j23 at h
      cases h
      have ho : X_0 _ := ho
      rw [eX_0] at ho
      exact ho H locs _ ls d_Book_addTold_23 hw
    refine lv_iload_n F.1 F.2.1 d_Book_addTold_0 rfl (lv_at hl 1 rfl) ?_
    refine lv_if_lt (tgt := 23) F.1 F.2.1 d_Book_addTold_1 (by decide) (fun c_1 => ?_) (fun c_1 => ?_)
    · replace h := ip c_1 h
      exact J_23 S H locs ls hw (lv_sub hl [] rfl) o h ho
    · replace h := iq c_1 h
      refine lv_iload_n F.1 F.2.1 d_Book_addTold_4 rfl (lv_at hl 1 rfl) ?_
      refine lv_aload_n F.1 F.2.1 d_Book_addTold_5 rfl (lv_at hl 0 rfl) ?_
      refine cg_3_4 F hK hw lk_71 d_Book_addTold_6 ?_
      refine cn_3_4 F hK hw d_Book_addTold_9 ?_
      refine lv_icmp_ge (tgt := 23) F.1 F.2.1 d_Book_addTold_10 (by decide) (fun c_2 => ?_) (fun c_2 => ?_)
      · replace h := ip c_2 h
        exact J_23 S H locs ls hw (lv_sub hl [] rfl) o h ho
      · replace h := iq c_2 h
        refine lv_aload_n F.1 F.2.1 d_Book_addTold_13 rfl (lv_at hl 0 rfl) ?_
        refine cg_3_4 F hK hw lk_71 d_Book_addTold_14 ?_
        refine lv_iload_n F.1 F.2.1 d_Book_addTold_17 rfl (lv_at hl 1 rfl) ?_
        refine lv_dup2_11 F.1 F.2.1 d_Book_addTold_18 rfl rfl ?_
        obtain ⟨hi_3, h⟩ := gd_ex h
        refine cl_3_4 F hK hw hi_3 d_Book_addTold_19 ?_
        refine lv_iconst (v := 1) F.1 F.2.1 d_Book_addTold_20 (by decide) ?_
        refine lv_iadd F.1 F.2.1 d_Book_addTold_21 ?_
        obtain ⟨hi_4, h⟩ := gd_ex h
        obtain ⟨S_5, eS_5, h⟩ := nm_ex h
        refine cs_3_4 F hK hw hi_4 d_Book_addTold_22 eS_5 (fun H locs hw => ?_)
        exact J_23 S_5 H locs ls hw (lv_sub hl [] rfl) o h ho
  exact key _ _ hw _ h (by rw [eX_0]; exact fun H locs pc ls hd hw => hQ H locs pc ls ad rfl hd hw)
theorem d_Reader_beginSort_0 : decode b_Reader_beginSort 0 = .ok (.aload_n 0, 1) := by decide +kernel
theorem d_Reader_beginSort_1 : decode b_Reader_beginSort 1 = .ok (.getfield 25, 3) := by decide +kernel
theorem d_Reader_beginSort_4 : decode b_Reader_beginSort 4 = .ok (.iload_n 1, 1) := by decide +kernel
theorem d_Reader_beginSort_5 : decode b_Reader_beginSort 5 = .ok (.invokevirtual 136, 3) := by decide +kernel
theorem d_Reader_beginSort_8 : decode b_Reader_beginSort 8 = .ok (.istore_n 3, 1) := by decide +kernel
theorem d_Reader_beginSort_9 : decode b_Reader_beginSort 9 = .ok (.aload_n 0, 1) := by decide +kernel
theorem d_Reader_beginSort_10 : decode b_Reader_beginSort 10 = .ok (.iload_n 3, 1) := by decide +kernel
theorem d_Reader_beginSort_11 : decode b_Reader_beginSort 11 = .ok (.bipush 8, 2) := by decide +kernel
theorem d_Reader_beginSort_13 : decode b_Reader_beginSort 13 = .ok (.if_icmp .lt 7, 3) := by decide +kernel
theorem d_Reader_beginSort_16 : decode b_Reader_beginSort 16 = .ok (.iconst 1, 1) := by decide +kernel
theorem d_Reader_beginSort_17 : decode b_Reader_beginSort 17 = .ok (.goto 4, 3) := by decide +kernel
theorem d_Reader_beginSort_20 : decode b_Reader_beginSort 20 = .ok (.iconst 0, 1) := by decide +kernel
theorem d_Reader_beginSort_21 : decode b_Reader_beginSort 21 = .ok (.putfield 60, 3) := by decide +kernel
theorem d_Reader_beginSort_24 : decode b_Reader_beginSort 24 = .ok (.aload_n 0, 1) := by decide +kernel
theorem d_Reader_beginSort_25 : decode b_Reader_beginSort 25 = .ok (.getfield 60, 3) := by decide +kernel
theorem d_Reader_beginSort_28 : decode b_Reader_beginSort 28 = .ok (.ifCond .ne 56, 3) := by decide +kernel
theorem d_Reader_beginSort_31 : decode b_Reader_beginSort 31 = .ok (.aload_n 0, 1) := by decide +kernel
theorem d_Reader_beginSort_32 : decode b_Reader_beginSort 32 = .ok (.iload_n 1, 1) := by decide +kernel
theorem d_Reader_beginSort_33 : decode b_Reader_beginSort 33 = .ok (.putfield 48, 3) := by decide +kernel
theorem d_Reader_beginSort_36 : decode b_Reader_beginSort 36 = .ok (.aload_n 0, 1) := by decide +kernel
theorem d_Reader_beginSort_37 : decode b_Reader_beginSort 37 = .ok (.iload_n 1, 1) := by decide +kernel
theorem d_Reader_beginSort_38 : decode b_Reader_beginSort 38 = .ok (.iconst 4, 1) := by decide +kernel
theorem d_Reader_beginSort_39 : decode b_Reader_beginSort 39 = .ok (.if_icmp .ne 7, 3) := by decide +kernel
theorem d_Reader_beginSort_42 : decode b_Reader_beginSort 42 = .ok (.iconst 0, 1) := by decide +kernel
theorem d_Reader_beginSort_43 : decode b_Reader_beginSort 43 = .ok (.goto 4, 3) := by decide +kernel
theorem d_Reader_beginSort_46 : decode b_Reader_beginSort 46 = .ok (.iconst 1, 1) := by decide +kernel
theorem d_Reader_beginSort_47 : decode b_Reader_beginSort 47 = .ok (.putfield 45, 3) := by decide +kernel
theorem d_Reader_beginSort_50 : decode b_Reader_beginSort 50 = .ok (.aload_n 0, 1) := by decide +kernel
theorem d_Reader_beginSort_51 : decode b_Reader_beginSort 51 = .ok (.iload_n 1, 1) := by decide +kernel
theorem d_Reader_beginSort_52 : decode b_Reader_beginSort 52 = .ok (.bipush 8, 2) := by decide +kernel
theorem d_Reader_beginSort_54 : decode b_Reader_beginSort 54 = .ok (.imul, 1) := by decide +kernel
theorem d_Reader_beginSort_55 : decode b_Reader_beginSort 55 = .ok (.iload_n 3, 1) := by decide +kernel
theorem d_Reader_beginSort_56 : decode b_Reader_beginSort 56 = .ok (.iadd, 1) := by decide +kernel
theorem d_Reader_beginSort_57 : decode b_Reader_beginSort 57 = .ok (.putfield 51, 3) := by decide +kernel
theorem d_Reader_beginSort_60 : decode b_Reader_beginSort 60 = .ok (.aload_n 0, 1) := by decide +kernel
theorem d_Reader_beginSort_61 : decode b_Reader_beginSort 61 = .ok (.iconst 0, 1) := by decide +kernel
theorem d_Reader_beginSort_62 : decode b_Reader_beginSort 62 = .ok (.putfield 54, 3) := by decide +kernel
theorem d_Reader_beginSort_65 : decode b_Reader_beginSort 65 = .ok (.aload_n 0, 1) := by decide +kernel
theorem d_Reader_beginSort_66 : decode b_Reader_beginSort 66 = .ok (.getfield 25, 3) := by decide +kernel
theorem d_Reader_beginSort_69 : decode b_Reader_beginSort 69 = .ok (.aload_n 0, 1) := by decide +kernel
theorem d_Reader_beginSort_70 : decode b_Reader_beginSort 70 = .ok (.getfield 51, 3) := by decide +kernel
theorem d_Reader_beginSort_73 : decode b_Reader_beginSort 73 = .ok (.invokevirtual 139, 3) := by decide +kernel
theorem d_Reader_beginSort_76 : decode b_Reader_beginSort 76 = .ok (.aload_n 0, 1) := by decide +kernel
theorem d_Reader_beginSort_77 : decode b_Reader_beginSort 77 = .ok (.getfield 25, 3) := by decide +kernel
theorem d_Reader_beginSort_80 : decode b_Reader_beginSort 80 = .ok (.iload_n 1, 1) := by decide +kernel
theorem d_Reader_beginSort_81 : decode b_Reader_beginSort 81 = .ok (.invokevirtual 142, 3) := by decide +kernel
theorem d_Reader_beginSort_84 : decode b_Reader_beginSort 84 = .ok (.iload_n 2, 1) := by decide +kernel
theorem d_Reader_beginSort_85 : decode b_Reader_beginSort 85 = .ok (.ireturn, 1) := by decide +kernel
set_option maxHeartbeats 4000000 in
set_option maxRecDepth 100000 in
theorem c_Reader_beginSort (l : Launch) {S : St} {x1 : Int32} {x2 : Int32} {S' : St} {r : Int32} (h : f_Reader_beginSort S x1 x2 = some (r, S')) : MI cw l y_Reader_beginSort b_Reader_beginSort 4 (some .int) 1 21 0 0 (fun ad => [.ref (ad 1 0), .int x1, .int x2]) aT aE S r S' := by
  refine MI_of "LawfulLots$Reader" rfl (by decide) (fun _ => Nat.le_of_ble_eq_true rfl) ?_
  intro p e s m args below meth c D ar ad A Q ls hP F hK hA hw hl hQ
  have hl : lv_has ls 4 [(0, .ref (ad 1 0)), (1, .int x1), (2, .int x2)] := hl
  obtain ⟨X_0, eX_0⟩ : ∃ X : (Int32 × St) → Prop, X = (fun q => ∀ (H : Heap) (locs : List Loc) (pc : Nat) (ls : Array Slot), decode b_Reader_beginSort pc = .ok (.ireturn, 1) → Bw cw D ar A s.heap H locs ad q.2 → W p l e (RM 1 21) s m args below meth c H locs 0 0 Q (F0 m pc ls [.int q.1])) := ⟨_, rfl⟩
  have key : ∀ (H : Heap) (locs : List Loc), Bw cw D ar A s.heap H locs ad S → ∀ o, f_Reader_beginSort S x1 x2 = some o → X_0 o → W p l e (RM 1 21) s m args below meth c H locs 0 0 Q (F0 m 0 ls []) := by
    intro H locs hw o h ho
    unfold f_Reader_beginSort at h
    have J_84 : ∀ (S : St) (H : Heap) (locs : List Loc) (ls : Array Slot), Bw cw D ar A s.heap H locs ad S → lv_has ls 4 [(2, .int x2)] → ∀ o, Reader_beginSort_j84 S x2 = some o → X_0 o → W p l e (RM 1 21) s m args below meth c H locs 0 0 Q (F0 m 84 ls []) := by
      intro S H locs ls hw hl o h ho
      unfold Reader_beginSort_j84 at h
      refine lv_iload_n F.1 F.2.1 d_Reader_beginSort_84 rfl (lv_at hl 0 rfl) ?_
      cases h
      have ho : X_0 _ := ho
      rw [eX_0] at ho
      exact ho H locs _ ls d_Reader_beginSort_85 hw
    have J_47 : ∀ (S : St) (x3 : Int32) (t1 : Int32) (H : Heap) (locs : List Loc) (ls : Array Slot), Bw cw D ar A s.heap H locs ad S → lv_has ls 4 [(0, .ref (ad 1 0)), (1, .int x1), (2, .int x2), (3, .int x3)] → ∀ o, Reader_beginSort_j47 S x1 x2 x3 t1 = some o → X_0 o → W p l e (RM 1 21) s m args below meth c H locs 0 0 Q (F0 m 47 ls [.int t1, .ref (ad 1 0)]) := by
      intro S x3 t1 H locs ls hw hl o h ho
      unfold Reader_beginSort_j47 at h
      obtain ⟨S_9, eS_9, h⟩ := nm_ex h
      refine cp_1_8 F hK hw lk_129 d_Reader_beginSort_47 eS_9 (fun H locs hw => ?_)
      refine lv_aload_n F.1 F.2.1 d_Reader_beginSort_50 rfl (lv_at hl 0 rfl) ?_
      refine lv_iload_n F.1 F.2.1 d_Reader_beginSort_51 rfl (lv_at hl 1 rfl) ?_
      refine lv_bipush (v := 8) F.1 F.2.1 d_Reader_beginSort_52 (by decide) ?_
      refine lv_imul F.1 F.2.1 d_Reader_beginSort_54 ?_
      refine lv_iload_n F.1 F.2.1 d_Reader_beginSort_55 rfl (lv_at hl 3 rfl) ?_
      refine lv_iadd F.1 F.2.1 d_Reader_beginSort_56 ?_
      obtain ⟨S_10, eS_10, h⟩ := nm_ex h
      refine cp_1_10 F hK hw lk_131 d_Reader_beginSort_57 eS_10 (fun H locs hw => ?_)
      refine lv_aload_n F.1 F.2.1 d_Reader_beginSort_60 rfl (lv_at hl 0 rfl) ?_
      refine lv_iconst (v := 0) F.1 F.2.1 d_Reader_beginSort_61 (by decide) ?_
      obtain ⟨S_11, eS_11, h⟩ := nm_ex h
      refine cp_1_11 F hK hw lk_132 d_Reader_beginSort_62 eS_11 (fun H locs hw => ?_)
      refine lv_aload_n F.1 F.2.1 d_Reader_beginSort_65 rfl (lv_at hl 0 rfl) ?_
      refine cg_1_2 F hK hw lk_121 d_Reader_beginSort_66 ?_
      refine lv_aload_n F.1 F.2.1 d_Reader_beginSort_69 rfl (lv_at hl 0 rfl) ?_
      refine cg_1_10 F hK hw lk_131 d_Reader_beginSort_70 ?_
      obtain ⟨S_13, hc_12, h⟩ := bd_ex h
      refine cV_v F hA rfl hK hw (c_Book_open l hc_12) trivial rfl (good_V lk_455 lk_456 lk_457 lk_4 lk_458) (cr_3 hK hw) hd_Book_open ⟨Nat.le_of_ble_eq_true rfl, Nat.le_of_ble_eq_true rfl⟩ rfl hl.1 rfl (Nat.le_of_ble_eq_true rfl) d_Reader_beginSort_73 ⟨(Nat.zero_le _), (Nat.zero_le _)⟩ (fun H locs hw => ?_)
      refine lv_aload_n F.1 F.2.1 d_Reader_beginSort_76 rfl (lv_at hl 0 rfl) ?_
      refine cg_1_2 F hK hw lk_121 d_Reader_beginSort_77 ?_
      refine lv_iload_n F.1 F.2.1 d_Reader_beginSort_80 rfl (lv_at hl 1 rfl) ?_
      obtain ⟨S_15, hc_14, h⟩ := bd_ex h
      refine cV_v F hA rfl hK hw (c_Book_addTold l hc_14) trivial rfl (good_V lk_459 lk_460 lk_461 lk_4 lk_462) (cr_3 hK hw) hd_Book_addTold ⟨Nat.le_of_ble_eq_true rfl, Nat.le_of_ble_eq_true rfl⟩ rfl hl.1 rfl (Nat.le_of_ble_eq_true rfl) d_Reader_beginSort_81 ⟨(Nat.zero_le _), (Nat.zero_le _)⟩ (fun H locs hw => ?_)
      exact J_84 S_15 H locs ls hw (lv_sub hl [2] rfl) o h ho
    have J_21 : ∀ (S : St) (x3 : Int32) (t1 : Int32) (H : Heap) (locs : List Loc) (ls : Array Slot), Bw cw D ar A s.heap H locs ad S → lv_has ls 4 [(0, .ref (ad 1 0)), (1, .int x1), (2, .int x2), (3, .int x3)] → ∀ o, Reader_beginSort_j21 S x1 x2 x3 t1 = some o → X_0 o → W p l e (RM 1 21) s m args below meth c H locs 0 0 Q (F0 m 21 ls [.int t1, .ref (ad 1 0)]) := by
      intro S x3 t1 H locs ls hw hl o h ho
      unfold Reader_beginSort_j21 at h
      obtain ⟨hb_4, h⟩ := gd_ex h
      obtain ⟨S_5, eS_5, h⟩ := nm_ex h
      refine cp_1_13 F hK hw hb_4 lk_134 d_Reader_beginSort_21 eS_5 (fun H locs hw => ?_)
      refine lv_aload_n F.1 F.2.1 d_Reader_beginSort_24 rfl (lv_at hl 0 rfl) ?_
      refine cg_1_13 F hK hw lk_134 d_Reader_beginSort_25 ?_
      refine lv_if_ne (tgt := 84) F.1 F.2.1 d_Reader_beginSort_28 (by decide) (fun c_6 => ?_) (fun c_6 => ?_)
      · replace h := iq c_6 h
        exact J_84 S_5 H locs ls hw (lv_sub hl [2] rfl) o h ho
      · replace h := ip c_6 h
        refine lv_aload_n F.1 F.2.1 d_Reader_beginSort_31 rfl (lv_at hl 0 rfl) ?_
        refine lv_iload_n F.1 F.2.1 d_Reader_beginSort_32 rfl (lv_at hl 1 rfl) ?_
        obtain ⟨S_7, eS_7, h⟩ := nm_ex h
        refine cp_1_9 F hK hw lk_130 d_Reader_beginSort_33 eS_7 (fun H locs hw => ?_)
        refine lv_aload_n F.1 F.2.1 d_Reader_beginSort_36 rfl (lv_at hl 0 rfl) ?_
        refine lv_iload_n F.1 F.2.1 d_Reader_beginSort_37 rfl (lv_at hl 1 rfl) ?_
        refine lv_iconst (v := 4) F.1 F.2.1 d_Reader_beginSort_38 (by decide) ?_
        refine lv_icmp_ne (tgt := 46) F.1 F.2.1 d_Reader_beginSort_39 (by decide) (fun c_8 => ?_) (fun c_8 => ?_)
        · replace h := iq c_8 h
          refine lv_iconst (v := 1) F.1 F.2.1 d_Reader_beginSort_46 (by decide) ?_
          exact J_47 S_7 x3 (1 : Int32) H locs ls hw (lv_sub hl [0, 1, 2, 3] rfl) o h ho
        · replace h := ip c_8 h
          refine lv_iconst (v := 0) F.1 F.2.1 d_Reader_beginSort_42 (by decide) ?_
          refine lv_goto (tgt := 47) F.1 F.2.1 d_Reader_beginSort_43 (by decide) ?_
          exact J_47 S_7 x3 (0 : Int32) H locs ls hw (lv_sub hl [0, 1, 2, 3] rfl) o h ho
    refine lv_aload_n F.1 F.2.1 d_Reader_beginSort_0 rfl (lv_at hl 0 rfl) ?_
    refine cg_1_2 F hK hw lk_121 d_Reader_beginSort_1 ?_
    refine lv_iload_n F.1 F.2.1 d_Reader_beginSort_4 rfl (lv_at hl 1 rfl) ?_
    obtain ⟨v_2, hc_1, h⟩ := bd_ex h
    refine cV_i F hA rfl hK hw (c_Book_toldOf_3 l hc_1) trivial rfl (good_V lk_451 lk_452 lk_453 lk_4 lk_454) (cr_3 hK hw) hd_Book_toldOf ⟨Nat.le_of_ble_eq_true rfl, Nat.le_of_ble_eq_true rfl⟩ rfl hl.1 rfl (Nat.le_of_ble_eq_true rfl) d_Reader_beginSort_5 ⟨(Nat.zero_le _), (Nat.zero_le _)⟩ (fun H locs hw => ?_)
    refine lv_istore_n (lv' := [(3, .int v_2), (0, .ref (ad 1 0)), (1, .int x1), (2, .int x2)]) F.1 F.2.1 d_Reader_beginSort_8 rfl hl (by decide) rfl (fun ls hl => ?_)
    refine lv_aload_n F.1 F.2.1 d_Reader_beginSort_9 rfl (lv_at hl 1 rfl) ?_
    refine lv_iload_n F.1 F.2.1 d_Reader_beginSort_10 rfl (lv_at hl 0 rfl) ?_
    refine lv_bipush (v := 8) F.1 F.2.1 d_Reader_beginSort_11 (by decide) ?_
    refine lv_icmp_lt (tgt := 20) F.1 F.2.1 d_Reader_beginSort_13 (by decide) (fun c_3 => ?_) (fun c_3 => ?_)
    · replace h := ip c_3 h
      refine lv_iconst (v := 0) F.1 F.2.1 d_Reader_beginSort_20 (by decide) ?_
      exact J_21 S v_2 (0 : Int32) H locs ls hw (lv_sub hl [1, 2, 3, 0] rfl) o h ho
    · replace h := iq c_3 h
      refine lv_iconst (v := 1) F.1 F.2.1 d_Reader_beginSort_16 (by decide) ?_
      refine lv_goto (tgt := 21) F.1 F.2.1 d_Reader_beginSort_17 (by decide) ?_
      exact J_21 S v_2 (1 : Int32) H locs ls hw (lv_sub hl [1, 2, 3, 0] rfl) o h ho
  exact key _ _ hw _ h (by rw [eX_0]; exact fun H locs pc ls hd hw => hQ H locs pc ls ad rfl hd hw)
theorem d_Reader_beginTell_0 : decode b_Reader_beginTell 0 = .ok (.iload_n 1, 1) := by decide +kernel
theorem d_Reader_beginTell_1 : decode b_Reader_beginTell 1 = .ok (.tableswitch 110 14 21 #[47, 110, 110, 70, 78, 86, 94, 102], 47) := by decide +kernel
theorem d_Reader_beginTell_48 : decode b_Reader_beginTell 48 = .ok (.aload_n 0, 1) := by decide +kernel
theorem d_Reader_beginTell_49 : decode b_Reader_beginTell 49 = .ok (.aload_n 0, 1) := by decide +kernel
theorem d_Reader_beginTell_50 : decode b_Reader_beginTell 50 = .ok (.getfield 25, 3) := by decide +kernel
theorem d_Reader_beginTell_53 : decode b_Reader_beginTell 53 = .ok (.getfield 129, 3) := by decide +kernel
theorem d_Reader_beginTell_56 : decode b_Reader_beginTell 56 = .ok (.bipush 6, 2) := by decide +kernel
theorem d_Reader_beginTell_58 : decode b_Reader_beginTell 58 = .ok (.if_icmp .lt 7, 3) := by decide +kernel
theorem d_Reader_beginTell_61 : decode b_Reader_beginTell 61 = .ok (.iconst 1, 1) := by decide +kernel
theorem d_Reader_beginTell_62 : decode b_Reader_beginTell 62 = .ok (.goto 4, 3) := by decide +kernel
theorem d_Reader_beginTell_65 : decode b_Reader_beginTell 65 = .ok (.iconst 0, 1) := by decide +kernel
theorem d_Reader_beginTell_66 : decode b_Reader_beginTell 66 = .ok (.putfield 60, 3) := by decide +kernel
theorem d_Reader_beginTell_69 : decode b_Reader_beginTell 69 = .ok (.iconst 1, 1) := by decide +kernel
theorem d_Reader_beginTell_70 : decode b_Reader_beginTell 70 = .ok (.ireturn, 1) := by decide +kernel
theorem d_Reader_beginTell_71 : decode b_Reader_beginTell 71 = .ok (.aload_n 0, 1) := by decide +kernel
theorem d_Reader_beginTell_72 : decode b_Reader_beginTell 72 = .ok (.iconst 0, 1) := by decide +kernel
theorem d_Reader_beginTell_73 : decode b_Reader_beginTell 73 = .ok (.bipush 8, 2) := by decide +kernel
theorem d_Reader_beginTell_75 : decode b_Reader_beginTell 75 = .ok (.invokevirtual 132, 3) := by decide +kernel
theorem d_Reader_beginTell_78 : decode b_Reader_beginTell 78 = .ok (.ireturn, 1) := by decide +kernel
theorem d_Reader_beginTell_79 : decode b_Reader_beginTell 79 = .ok (.aload_n 0, 1) := by decide +kernel
theorem d_Reader_beginTell_80 : decode b_Reader_beginTell 80 = .ok (.iconst 1, 1) := by decide +kernel
theorem d_Reader_beginTell_81 : decode b_Reader_beginTell 81 = .ok (.bipush 7, 2) := by decide +kernel
theorem d_Reader_beginTell_83 : decode b_Reader_beginTell 83 = .ok (.invokevirtual 132, 3) := by decide +kernel
theorem d_Reader_beginTell_86 : decode b_Reader_beginTell 86 = .ok (.ireturn, 1) := by decide +kernel
theorem d_Reader_beginTell_87 : decode b_Reader_beginTell 87 = .ok (.aload_n 0, 1) := by decide +kernel
theorem d_Reader_beginTell_88 : decode b_Reader_beginTell 88 = .ok (.iconst 2, 1) := by decide +kernel
theorem d_Reader_beginTell_89 : decode b_Reader_beginTell 89 = .ok (.bipush 8, 2) := by decide +kernel
theorem d_Reader_beginTell_91 : decode b_Reader_beginTell 91 = .ok (.invokevirtual 132, 3) := by decide +kernel
theorem d_Reader_beginTell_94 : decode b_Reader_beginTell 94 = .ok (.ireturn, 1) := by decide +kernel
theorem d_Reader_beginTell_95 : decode b_Reader_beginTell 95 = .ok (.aload_n 0, 1) := by decide +kernel
theorem d_Reader_beginTell_96 : decode b_Reader_beginTell 96 = .ok (.iconst 3, 1) := by decide +kernel
theorem d_Reader_beginTell_97 : decode b_Reader_beginTell 97 = .ok (.bipush 8, 2) := by decide +kernel
theorem d_Reader_beginTell_99 : decode b_Reader_beginTell 99 = .ok (.invokevirtual 132, 3) := by decide +kernel
theorem d_Reader_beginTell_102 : decode b_Reader_beginTell 102 = .ok (.ireturn, 1) := by decide +kernel
theorem d_Reader_beginTell_103 : decode b_Reader_beginTell 103 = .ok (.aload_n 0, 1) := by decide +kernel
theorem d_Reader_beginTell_104 : decode b_Reader_beginTell 104 = .ok (.iconst 4, 1) := by decide +kernel
theorem d_Reader_beginTell_105 : decode b_Reader_beginTell 105 = .ok (.bipush 9, 2) := by decide +kernel
theorem d_Reader_beginTell_107 : decode b_Reader_beginTell 107 = .ok (.invokevirtual 132, 3) := by decide +kernel
theorem d_Reader_beginTell_110 : decode b_Reader_beginTell 110 = .ok (.ireturn, 1) := by decide +kernel
theorem d_Reader_beginTell_111 : decode b_Reader_beginTell 111 = .ok (.iconst (-1), 1) := by decide +kernel
theorem d_Reader_beginTell_112 : decode b_Reader_beginTell 112 = .ok (.ireturn, 1) := by decide +kernel
set_option maxHeartbeats 4000000 in
set_option maxRecDepth 100000 in
theorem c_Reader_beginTell (l : Launch) {S : St} {x1 : Int32} {S' : St} {r : Int32} (h : f_Reader_beginTell S x1 = some (r, S')) : MI cw l y_Reader_beginTell b_Reader_beginTell 2 (some .int) 2 44 0 0 (fun ad => [.ref (ad 1 0), .int x1]) aT aE S r S' := by
  refine MI_of "LawfulLots$Reader" rfl (by decide) (fun _ => Nat.le_of_ble_eq_true rfl) ?_
  intro p e s m args below meth c D ar ad A Q ls hP F hK hA hw hl hQ
  have hl : lv_has ls 2 [(0, .ref (ad 1 0)), (1, .int x1)] := hl
  obtain ⟨X_0, eX_0⟩ : ∃ X : (Int32 × St) → Prop, X = (fun q => ∀ (H : Heap) (locs : List Loc) (pc : Nat) (ls : Array Slot), decode b_Reader_beginTell pc = .ok (.ireturn, 1) → Bw cw D ar A s.heap H locs ad q.2 → W p l e (RM 2 44) s m args below meth c H locs 0 0 Q (F0 m pc ls [.int q.1])) := ⟨_, rfl⟩
  have key : ∀ (H : Heap) (locs : List Loc), Bw cw D ar A s.heap H locs ad S → ∀ o, f_Reader_beginTell S x1 = some o → X_0 o → W p l e (RM 2 44) s m args below meth c H locs 0 0 Q (F0 m 0 ls []) := by
    intro H locs hw o h ho
    unfold f_Reader_beginTell at h
    have J_111 : ∀ (S : St) (H : Heap) (locs : List Loc) (ls : Array Slot), Bw cw D ar A s.heap H locs ad S → lv_has ls 2 [] → ∀ o, Reader_beginTell_j111 S = some o → X_0 o → W p l e (RM 2 44) s m args below meth c H locs 0 0 Q (F0 m 111 ls []) := by
      intro S H locs ls hw hl o h ho
      unfold Reader_beginTell_j111 at h
      refine lv_iconst (v := -1) F.1 F.2.1 d_Reader_beginTell_111 (by decide) ?_
      cases h
      have ho : X_0 _ := ho
      rw [eX_0] at ho
      exact ho H locs _ ls d_Reader_beginTell_112 hw
    have J_66 : ∀ (S : St) (t1 : Int32) (H : Heap) (locs : List Loc) (ls : Array Slot), Bw cw D ar A s.heap H locs ad S → lv_has ls 2 [] → ∀ o, Reader_beginTell_j66 S t1 = some o → X_0 o → W p l e (RM 2 44) s m args below meth c H locs 0 0 Q (F0 m 66 ls [.int t1, .ref (ad 1 0)]) := by
      intro S t1 H locs ls hw hl o h ho
      unfold Reader_beginTell_j66 at h
      obtain ⟨hb_25, h⟩ := gd_ex h
      obtain ⟨S_26, eS_26, h⟩ := nm_ex h
      refine cp_1_13 F hK hw hb_25 lk_134 d_Reader_beginTell_66 eS_26 (fun H locs hw => ?_)
      refine lv_iconst (v := 1) F.1 F.2.1 d_Reader_beginTell_69 (by decide) ?_
      cases h
      have ho : X_0 _ := ho
      rw [eX_0] at ho
      exact ho H locs _ ls d_Reader_beginTell_70 hw
    refine lv_iload_n F.1 F.2.1 d_Reader_beginTell_0 rfl (lv_at hl 1 rfl) ?_
    rcases Decidable.em (x1 = (14 : Int32)) with c_1 | c_1
    · replace h := ip c_1 h
      refine lv_tableIn (off := 47) (tgt := 48) F.1 F.2.1 d_Reader_beginTell_1 (by rw [c_1]; decide) (by rw [c_1]; decide) (by rw [c_1]; decide) (by decide) ?_
      refine lv_aload_n F.1 F.2.1 d_Reader_beginTell_48 rfl (lv_at hl 0 rfl) ?_
      refine lv_aload_n F.1 F.2.1 d_Reader_beginTell_49 rfl (lv_at hl 0 rfl) ?_
      refine cg_1_2 F hK hw lk_121 d_Reader_beginTell_50 ?_
      refine cg_3_10 F hK hw lk_83 d_Reader_beginTell_53 ?_
      refine lv_bipush (v := 6) F.1 F.2.1 d_Reader_beginTell_56 (by decide) ?_
      refine lv_icmp_lt (tgt := 65) F.1 F.2.1 d_Reader_beginTell_58 (by decide) (fun c_2 => ?_) (fun c_2 => ?_)
      · replace h := ip c_2 h
        refine lv_iconst (v := 0) F.1 F.2.1 d_Reader_beginTell_65 (by decide) ?_
        exact J_66 S (0 : Int32) H locs ls hw (lv_sub hl [] rfl) o h ho
      · replace h := iq c_2 h
        refine lv_iconst (v := 1) F.1 F.2.1 d_Reader_beginTell_61 (by decide) ?_
        refine lv_goto (tgt := 66) F.1 F.2.1 d_Reader_beginTell_62 (by decide) ?_
        exact J_66 S (1 : Int32) H locs ls hw (lv_sub hl [] rfl) o h ho
    replace h := iq c_1 h
    rcases Decidable.em (x1 = (15 : Int32)) with c_3 | c_3
    · replace h := ip c_3 h
      refine lv_tableIn (off := 110) (tgt := 111) F.1 F.2.1 d_Reader_beginTell_1 (by rw [c_3]; decide) (by rw [c_3]; decide) (by rw [c_3]; decide) (by decide) ?_
      exact J_111 S H locs ls hw (lv_sub hl [] rfl) o h ho
    replace h := iq c_3 h
    rcases Decidable.em (x1 = (16 : Int32)) with c_4 | c_4
    · replace h := ip c_4 h
      refine lv_tableIn (off := 110) (tgt := 111) F.1 F.2.1 d_Reader_beginTell_1 (by rw [c_4]; decide) (by rw [c_4]; decide) (by rw [c_4]; decide) (by decide) ?_
      exact J_111 S H locs ls hw (lv_sub hl [] rfl) o h ho
    replace h := iq c_4 h
    rcases Decidable.em (x1 = (17 : Int32)) with c_5 | c_5
    · replace h := ip c_5 h
      refine lv_tableIn (off := 70) (tgt := 71) F.1 F.2.1 d_Reader_beginTell_1 (by rw [c_5]; decide) (by rw [c_5]; decide) (by rw [c_5]; decide) (by decide) ?_
      refine lv_aload_n F.1 F.2.1 d_Reader_beginTell_71 rfl (lv_at hl 0 rfl) ?_
      refine lv_iconst (v := 0) F.1 F.2.1 d_Reader_beginTell_72 (by decide) ?_
      refine lv_bipush (v := 8) F.1 F.2.1 d_Reader_beginTell_73 (by decide) ?_
      obtain ⟨v_7, S_8, hc_6, h⟩ := bd2_ex h
      refine cV_i F hA rfl hK hw (c_Reader_beginSort l hc_6) trivial rfl (good_V lk_447 lk_449 ls_7 lk_2 lk_450) (cr_1 hK hw) hd_Reader_beginSort ⟨Nat.le_of_ble_eq_true rfl, Nat.le_of_ble_eq_true rfl⟩ rfl hl.1 rfl (Nat.le_of_ble_eq_true rfl) d_Reader_beginTell_75 ⟨(Nat.zero_le _), (Nat.zero_le _)⟩ (fun H locs hw => ?_)
      cases h
      have ho : X_0 _ := ho
      rw [eX_0] at ho
      exact ho H locs _ ls d_Reader_beginTell_78 hw
    replace h := iq c_5 h
    rcases Decidable.em (x1 = (18 : Int32)) with c_9 | c_9
    · replace h := ip c_9 h
      refine lv_tableIn (off := 78) (tgt := 79) F.1 F.2.1 d_Reader_beginTell_1 (by rw [c_9]; decide) (by rw [c_9]; decide) (by rw [c_9]; decide) (by decide) ?_
      refine lv_aload_n F.1 F.2.1 d_Reader_beginTell_79 rfl (lv_at hl 0 rfl) ?_
      refine lv_iconst (v := 1) F.1 F.2.1 d_Reader_beginTell_80 (by decide) ?_
      refine lv_bipush (v := 7) F.1 F.2.1 d_Reader_beginTell_81 (by decide) ?_
      obtain ⟨v_11, S_12, hc_10, h⟩ := bd2_ex h
      refine cV_i F hA rfl hK hw (c_Reader_beginSort l hc_10) trivial rfl (good_V lk_447 lk_449 ls_7 lk_2 lk_450) (cr_1 hK hw) hd_Reader_beginSort ⟨Nat.le_of_ble_eq_true rfl, Nat.le_of_ble_eq_true rfl⟩ rfl hl.1 rfl (Nat.le_of_ble_eq_true rfl) d_Reader_beginTell_83 ⟨(Nat.zero_le _), (Nat.zero_le _)⟩ (fun H locs hw => ?_)
      cases h
      have ho : X_0 _ := ho
      rw [eX_0] at ho
      exact ho H locs _ ls d_Reader_beginTell_86 hw
    replace h := iq c_9 h
    rcases Decidable.em (x1 = (19 : Int32)) with c_13 | c_13
    · replace h := ip c_13 h
      refine lv_tableIn (off := 86) (tgt := 87) F.1 F.2.1 d_Reader_beginTell_1 (by rw [c_13]; decide) (by rw [c_13]; decide) (by rw [c_13]; decide) (by decide) ?_
      refine lv_aload_n F.1 F.2.1 d_Reader_beginTell_87 rfl (lv_at hl 0 rfl) ?_
      refine lv_iconst (v := 2) F.1 F.2.1 d_Reader_beginTell_88 (by decide) ?_
      refine lv_bipush (v := 8) F.1 F.2.1 d_Reader_beginTell_89 (by decide) ?_
      obtain ⟨v_15, S_16, hc_14, h⟩ := bd2_ex h
      refine cV_i F hA rfl hK hw (c_Reader_beginSort l hc_14) trivial rfl (good_V lk_447 lk_449 ls_7 lk_2 lk_450) (cr_1 hK hw) hd_Reader_beginSort ⟨Nat.le_of_ble_eq_true rfl, Nat.le_of_ble_eq_true rfl⟩ rfl hl.1 rfl (Nat.le_of_ble_eq_true rfl) d_Reader_beginTell_91 ⟨(Nat.zero_le _), (Nat.zero_le _)⟩ (fun H locs hw => ?_)
      cases h
      have ho : X_0 _ := ho
      rw [eX_0] at ho
      exact ho H locs _ ls d_Reader_beginTell_94 hw
    replace h := iq c_13 h
    rcases Decidable.em (x1 = (20 : Int32)) with c_17 | c_17
    · replace h := ip c_17 h
      refine lv_tableIn (off := 94) (tgt := 95) F.1 F.2.1 d_Reader_beginTell_1 (by rw [c_17]; decide) (by rw [c_17]; decide) (by rw [c_17]; decide) (by decide) ?_
      refine lv_aload_n F.1 F.2.1 d_Reader_beginTell_95 rfl (lv_at hl 0 rfl) ?_
      refine lv_iconst (v := 3) F.1 F.2.1 d_Reader_beginTell_96 (by decide) ?_
      refine lv_bipush (v := 8) F.1 F.2.1 d_Reader_beginTell_97 (by decide) ?_
      obtain ⟨v_19, S_20, hc_18, h⟩ := bd2_ex h
      refine cV_i F hA rfl hK hw (c_Reader_beginSort l hc_18) trivial rfl (good_V lk_447 lk_449 ls_7 lk_2 lk_450) (cr_1 hK hw) hd_Reader_beginSort ⟨Nat.le_of_ble_eq_true rfl, Nat.le_of_ble_eq_true rfl⟩ rfl hl.1 rfl (Nat.le_of_ble_eq_true rfl) d_Reader_beginTell_99 ⟨(Nat.zero_le _), (Nat.zero_le _)⟩ (fun H locs hw => ?_)
      cases h
      have ho : X_0 _ := ho
      rw [eX_0] at ho
      exact ho H locs _ ls d_Reader_beginTell_102 hw
    replace h := iq c_17 h
    rcases Decidable.em (x1 = (21 : Int32)) with c_21 | c_21
    · replace h := ip c_21 h
      refine lv_tableIn (off := 102) (tgt := 103) F.1 F.2.1 d_Reader_beginTell_1 (by rw [c_21]; decide) (by rw [c_21]; decide) (by rw [c_21]; decide) (by decide) ?_
      refine lv_aload_n F.1 F.2.1 d_Reader_beginTell_103 rfl (lv_at hl 0 rfl) ?_
      refine lv_iconst (v := 4) F.1 F.2.1 d_Reader_beginTell_104 (by decide) ?_
      refine lv_bipush (v := 9) F.1 F.2.1 d_Reader_beginTell_105 (by decide) ?_
      obtain ⟨v_23, S_24, hc_22, h⟩ := bd2_ex h
      refine cV_i F hA rfl hK hw (c_Reader_beginSort l hc_22) trivial rfl (good_V lk_447 lk_449 ls_7 lk_2 lk_450) (cr_1 hK hw) hd_Reader_beginSort ⟨Nat.le_of_ble_eq_true rfl, Nat.le_of_ble_eq_true rfl⟩ rfl hl.1 rfl (Nat.le_of_ble_eq_true rfl) d_Reader_beginTell_107 ⟨(Nat.zero_le _), (Nat.zero_le _)⟩ (fun H locs hw => ?_)
      cases h
      have ho : X_0 _ := ho
      rw [eX_0] at ho
      exact ho H locs _ ls d_Reader_beginTell_110 hw
    replace h := iq c_21 h
    have zc_1 := lv_neT (a := 14) c_1 rfl
    have zc_3 := lv_neT (a := 15) c_3 rfl
    have zc_4 := lv_neT (a := 16) c_4 rfl
    have zc_5 := lv_neT (a := 17) c_5 rfl
    have zc_9 := lv_neT (a := 18) c_9 rfl
    have zc_13 := lv_neT (a := 19) c_13 rfl
    have zc_17 := lv_neT (a := 20) c_17 rfl
    have zc_21 := lv_neT (a := 21) c_21 rfl
    refine lv_tableOut (tgt := 111) F.1 F.2.1 d_Reader_beginTell_1 (by omega) (by decide) ?_
    exact J_111 S H locs ls hw (lv_sub hl [] rfl) o h ho
  exact key _ _ hw _ h (by rw [eX_0]; exact fun H locs pc ls hd hw => hQ H locs pc ls ad rfl hd hw)
theorem d_Book_fieldNamed_0 : decode b_Book_fieldNamed 0 = .ok (.iconst 0, 1) := by decide +kernel
theorem d_Book_fieldNamed_1 : decode b_Book_fieldNamed 1 = .ok (.istore_n 3, 1) := by decide +kernel
theorem d_Book_fieldNamed_2 : decode b_Book_fieldNamed 2 = .ok (.iload_n 3, 1) := by decide +kernel
theorem d_Book_fieldNamed_3 : decode b_Book_fieldNamed 3 = .ok (.aload_n 0, 1) := by decide +kernel
theorem d_Book_fieldNamed_4 : decode b_Book_fieldNamed 4 = .ok (.getfield 43, 3) := by decide +kernel
theorem d_Book_fieldNamed_7 : decode b_Book_fieldNamed 7 = .ok (.if_icmp .ge 31, 3) := by decide +kernel
theorem d_Book_fieldNamed_10 : decode b_Book_fieldNamed 10 = .ok (.iload_n 3, 1) := by decide +kernel
theorem d_Book_fieldNamed_11 : decode b_Book_fieldNamed 11 = .ok (.aload_n 0, 1) := by decide +kernel
theorem d_Book_fieldNamed_12 : decode b_Book_fieldNamed 12 = .ok (.getfield 9, 3) := by decide +kernel
theorem d_Book_fieldNamed_15 : decode b_Book_fieldNamed 15 = .ok (.arraylength, 1) := by decide +kernel
theorem d_Book_fieldNamed_16 : decode b_Book_fieldNamed 16 = .ok (.if_icmp .ge 22, 3) := by decide +kernel
theorem d_Book_fieldNamed_19 : decode b_Book_fieldNamed 19 = .ok (.aload_n 0, 1) := by decide +kernel
theorem d_Book_fieldNamed_20 : decode b_Book_fieldNamed 20 = .ok (.getfield 9, 3) := by decide +kernel
theorem d_Book_fieldNamed_23 : decode b_Book_fieldNamed 23 = .ok (.iload_n 3, 1) := by decide +kernel
theorem d_Book_fieldNamed_24 : decode b_Book_fieldNamed 24 = .ok (.laload, 1) := by decide +kernel
theorem d_Book_fieldNamed_25 : decode b_Book_fieldNamed 25 = .ok (.lload_n 1, 1) := by decide +kernel
theorem d_Book_fieldNamed_26 : decode b_Book_fieldNamed 26 = .ok (.lcmp, 1) := by decide +kernel
theorem d_Book_fieldNamed_27 : decode b_Book_fieldNamed 27 = .ok (.ifCond .ne 5, 3) := by decide +kernel
theorem d_Book_fieldNamed_30 : decode b_Book_fieldNamed 30 = .ok (.iload_n 3, 1) := by decide +kernel
theorem d_Book_fieldNamed_31 : decode b_Book_fieldNamed 31 = .ok (.ireturn, 1) := by decide +kernel
theorem d_Book_fieldNamed_32 : decode b_Book_fieldNamed 32 = .ok (.iinc 3 1, 3) := by decide +kernel
theorem d_Book_fieldNamed_35 : decode b_Book_fieldNamed 35 = .ok (.goto (-33), 3) := by decide +kernel
theorem d_Book_fieldNamed_38 : decode b_Book_fieldNamed 38 = .ok (.iconst (-1), 1) := by decide +kernel
theorem d_Book_fieldNamed_39 : decode b_Book_fieldNamed 39 = .ok (.ireturn, 1) := by decide +kernel
set_option maxHeartbeats 4000000 in
set_option maxRecDepth 100000 in
theorem c_Book_fieldNamed (l : Launch) {S : St} {x1 : Int64} {r : Int32} (h : f_Book_fieldNamed S x1 = some r) : MI cw l y_Book_fieldNamed b_Book_fieldNamed 4 (some .int) 0 0 0 0 (fun ad => [.ref (ad 3 0), .long x1]) aT aE S r S := by
  refine MI_of "LawfulLots$Book" rfl (by decide) (fun _ => Nat.le_of_ble_eq_true rfl) ?_
  intro p e s m args below meth c D ar ad A Q ls hP F hK hA hw hl hQ
  have hl : lv_has ls 4 [(0, .ref (ad 3 0)), (1, .long x1)] := hl
  obtain ⟨X_0, eX_0⟩ : ∃ X : Int32 → Prop, X = (fun q => ∀ (H : Heap) (locs : List Loc) (pc : Nat) (ls : Array Slot), decode b_Book_fieldNamed pc = .ok (.ireturn, 1) → Bw cw D ar A s.heap H locs ad S → W p l e (RM 0 0) s m args below meth c H locs 0 0 Q (F0 m pc ls [.int q])) := ⟨_, rfl⟩
  have key : ∀ (H : Heap) (locs : List Loc), Bw cw D ar A s.heap H locs ad S → ∀ o, f_Book_fieldNamed S x1 = some o → X_0 o → W p l e (RM 0 0) s m args below meth c H locs 0 0 Q (F0 m 0 ls []) := by
    intro H locs hw o h ho
    unfold f_Book_fieldNamed at h
    refine lv_iconst (v := 0) F.1 F.2.1 d_Book_fieldNamed_0 (by decide) ?_
    refine lv_istore_n (lv' := [(3, .int (0 : Int32)), (0, .ref (ad 3 0)), (1, .long x1)]) F.1 F.2.1 d_Book_fieldNamed_1 rfl hl (by decide) rfl (fun ls hl => ?_)
    obtain ⟨P_2, eP_2⟩ : ∃ P : Int32 → Prop, P = (fun q => ∀ (H : Heap) (locs : List Loc) (ls : Array Slot), Bw cw D ar A s.heap H locs ad S → lv_has ls 4 [(0, .ref (ad 3 0)), (1, .long x1), (3, .int q)] → W p l e (RM 0 0) s m args below meth c H locs 0 0 Q (F0 m 2 ls [])) := ⟨_, rfl⟩
    have hL_2 : P_2 (0 : Int32) := by
      refine wh_gp (P := P_2) (X := X_0) h ho ?_
      clear h ho
      intro x3 o h ho
      have h : Book_fieldNamed_l2 S x1 x3 = some o := h
      unfold Book_fieldNamed_l2 at h
      rw [eP_2]
      intro H locs ls hw hl
      have J_38_l2 : ∀ (H : Heap) (locs : List Loc) (ls : Array Slot), Bw cw D ar A s.heap H locs ad S → lv_has ls 4 [] → ∀ o, Book_fieldNamed_j38_l2 S = some o → (Sum.elim P_2 X_0) o → W p l e (RM 0 0) s m args below meth c H locs 0 0 Q (F0 m 38 ls []) := by
        intro H locs ls hw hl o h ho
        unfold Book_fieldNamed_j38_l2 at h
        refine lv_iconst (v := -1) F.1 F.2.1 d_Book_fieldNamed_38 (by decide) ?_
        cases h
        have ho : X_0 _ := ho
        rw [eX_0] at ho
        exact ho H locs _ ls d_Book_fieldNamed_39 hw
      refine lv_iload_n F.1 F.2.1 d_Book_fieldNamed_2 rfl (lv_at hl 2 rfl) ?_
      refine lv_aload_n F.1 F.2.1 d_Book_fieldNamed_3 rfl (lv_at hl 0 rfl) ?_
      refine cg_3_10 F hK hw lk_82 d_Book_fieldNamed_4 ?_
      refine lv_icmp_ge (tgt := 38) F.1 F.2.1 d_Book_fieldNamed_7 (by decide) (fun c_1 => ?_) (fun c_1 => ?_)
      · replace h := ip c_1 h
        exact J_38_l2 H locs ls hw (lv_sub hl [] rfl) o h ho
      · replace h := iq c_1 h
        refine lv_iload_n F.1 F.2.1 d_Book_fieldNamed_10 rfl (lv_at hl 2 rfl) ?_
        refine lv_aload_n F.1 F.2.1 d_Book_fieldNamed_11 rfl (lv_at hl 0 rfl) ?_
        refine cg_3_0 F hK hw lk_67 d_Book_fieldNamed_12 ?_
        refine cn_3_0 F hK hw d_Book_fieldNamed_15 ?_
        refine lv_icmp_ge (tgt := 38) F.1 F.2.1 d_Book_fieldNamed_16 (by decide) (fun c_2 => ?_) (fun c_2 => ?_)
        · replace h := ip c_2 h
          exact J_38_l2 H locs ls hw (lv_sub hl [] rfl) o h ho
        · replace h := iq c_2 h
          refine lv_aload_n F.1 F.2.1 d_Book_fieldNamed_19 rfl (lv_at hl 0 rfl) ?_
          refine cg_3_0 F hK hw lk_67 d_Book_fieldNamed_20 ?_
          refine lv_iload_n F.1 F.2.1 d_Book_fieldNamed_23 rfl (lv_at hl 2 rfl) ?_
          obtain ⟨hi_3, h⟩ := gd_ex h
          refine cl_3_0 F hK hw hi_3 d_Book_fieldNamed_24 ?_
          refine lv_lload_n F.1 F.2.1 d_Book_fieldNamed_25 rfl (lv_at hl 1 rfl) ?_
          refine W.lcmp F.1 F.2.1 d_Book_fieldNamed_26 ?_
          refine lv_if_ne (tgt := 32) F.1 F.2.1 d_Book_fieldNamed_27 (by decide) (fun c_4 => ?_) (fun c_4 => ?_)
          · replace h := iq c_4 h
            obtain ⟨x3_5, ex3_5, h⟩ := nm_ex h
            refine lv_iinc (v := x3_5) (lv' := [(3, .int x3_5), (0, .ref (ad 3 0)), (1, .long x1)]) F.1 F.2.1 d_Book_fieldNamed_32 hl (k := 2) rfl (by rw [ex3_5]; rfl) (by decide) rfl (fun ls hl => ?_)
            refine lv_goto (tgt := 2) F.1 F.2.1 d_Book_fieldNamed_35 (by decide) ?_
            cases h
            have ho : P_2 _ := ho
            rw [eP_2] at ho
            exact ho H locs ls hw (lv_sub hl [1, 2, 0] rfl)
          · replace h := ip c_4 h
            refine lv_iload_n F.1 F.2.1 d_Book_fieldNamed_30 rfl (lv_at hl 2 rfl) ?_
            cases h
            have ho : X_0 _ := ho
            rw [eX_0] at ho
            exact ho H locs _ ls d_Book_fieldNamed_31 hw
    rw [eP_2] at hL_2
    exact hL_2 H locs ls hw (lv_sub hl [1, 2, 0] rfl)
  exact key _ _ hw _ h (by rw [eX_0]; exact fun H locs pc ls hd hw => hQ H locs pc ls ad rfl hd hw)
theorem d_Book_addField_0 : decode b_Book_addField 0 = .ok (.aload_n 0, 1) := by decide +kernel
theorem d_Book_addField_1 : decode b_Book_addField 1 = .ok (.getfield 43, 3) := by decide +kernel
theorem d_Book_addField_4 : decode b_Book_addField 4 = .ok (.bipush 6, 2) := by decide +kernel
theorem d_Book_addField_6 : decode b_Book_addField 6 = .ok (.if_icmp .lt 4, 3) := by decide +kernel
theorem d_Book_addField_9 : decode b_Book_addField 9 = .ok (.return_, 1) := by decide +kernel
theorem d_Book_addField_10 : decode b_Book_addField 10 = .ok (.aload_n 0, 1) := by decide +kernel
theorem d_Book_addField_11 : decode b_Book_addField 11 = .ok (.getfield 9, 3) := by decide +kernel
theorem d_Book_addField_14 : decode b_Book_addField 14 = .ok (.aload_n 0, 1) := by decide +kernel
theorem d_Book_addField_15 : decode b_Book_addField 15 = .ok (.getfield 43, 3) := by decide +kernel
theorem d_Book_addField_18 : decode b_Book_addField 18 = .ok (.lload_n 1, 1) := by decide +kernel
theorem d_Book_addField_19 : decode b_Book_addField 19 = .ok (.lastore, 1) := by decide +kernel
theorem d_Book_addField_20 : decode b_Book_addField 20 = .ok (.aload_n 0, 1) := by decide +kernel
theorem d_Book_addField_21 : decode b_Book_addField 21 = .ok (.getfield 15, 3) := by decide +kernel
theorem d_Book_addField_24 : decode b_Book_addField 24 = .ok (.aload_n 0, 1) := by decide +kernel
theorem d_Book_addField_25 : decode b_Book_addField 25 = .ok (.getfield 43, 3) := by decide +kernel
theorem d_Book_addField_28 : decode b_Book_addField 28 = .ok (.iload_n 3, 1) := by decide +kernel
theorem d_Book_addField_29 : decode b_Book_addField 29 = .ok (.iastore, 1) := by decide +kernel
theorem d_Book_addField_30 : decode b_Book_addField 30 = .ok (.aload_n 0, 1) := by decide +kernel
theorem d_Book_addField_31 : decode b_Book_addField 31 = .ok (.getfield 19, 3) := by decide +kernel
theorem d_Book_addField_34 : decode b_Book_addField 34 = .ok (.aload_n 0, 1) := by decide +kernel
theorem d_Book_addField_35 : decode b_Book_addField 35 = .ok (.getfield 43, 3) := by decide +kernel
theorem d_Book_addField_38 : decode b_Book_addField 38 = .ok (.iload 4, 2) := by decide +kernel
theorem d_Book_addField_40 : decode b_Book_addField 40 = .ok (.iastore, 1) := by decide +kernel
theorem d_Book_addField_41 : decode b_Book_addField 41 = .ok (.aload_n 0, 1) := by decide +kernel
theorem d_Book_addField_42 : decode b_Book_addField 42 = .ok (.dup, 1) := by decide +kernel
theorem d_Book_addField_43 : decode b_Book_addField 43 = .ok (.getfield 43, 3) := by decide +kernel
theorem d_Book_addField_46 : decode b_Book_addField 46 = .ok (.iconst 1, 1) := by decide +kernel
theorem d_Book_addField_47 : decode b_Book_addField 47 = .ok (.iadd, 1) := by decide +kernel
theorem d_Book_addField_48 : decode b_Book_addField 48 = .ok (.putfield 43, 3) := by decide +kernel
theorem d_Book_addField_51 : decode b_Book_addField 51 = .ok (.aload_n 0, 1) := by decide +kernel
theorem d_Book_addField_52 : decode b_Book_addField 52 = .ok (.aload_n 0, 1) := by decide +kernel
theorem d_Book_addField_53 : decode b_Book_addField 53 = .ok (.getfield 47, 3) := by decide +kernel
theorem d_Book_addField_56 : decode b_Book_addField 56 = .ok (.iconst 1, 1) := by decide +kernel
theorem d_Book_addField_57 : decode b_Book_addField 57 = .ok (.iload 4, 2) := by decide +kernel
theorem d_Book_addField_59 : decode b_Book_addField 59 = .ok (.iload_n 3, 1) := by decide +kernel
theorem d_Book_addField_60 : decode b_Book_addField 60 = .ok (.isub, 1) := by decide +kernel
theorem d_Book_addField_61 : decode b_Book_addField 61 = .ok (.iconst 1, 1) := by decide +kernel
theorem d_Book_addField_62 : decode b_Book_addField 62 = .ok (.iadd, 1) := by decide +kernel
theorem d_Book_addField_63 : decode b_Book_addField 63 = .ok (.invokestatic 59, 3) := by decide +kernel
theorem d_Book_addField_66 : decode b_Book_addField 66 = .ok (.imul, 1) := by decide +kernel
theorem d_Book_addField_67 : decode b_Book_addField 67 = .ok (.ldc 65, 2) := by decide +kernel
theorem d_Book_addField_69 : decode b_Book_addField 69 = .ok (.invokestatic 66, 3) := by decide +kernel
theorem d_Book_addField_72 : decode b_Book_addField 72 = .ok (.putfield 47, 3) := by decide +kernel
theorem d_Book_addField_75 : decode b_Book_addField 75 = .ok (.return_, 1) := by decide +kernel
set_option maxHeartbeats 4000000 in
set_option maxRecDepth 100000 in
theorem c_Book_addField (l : Launch) {S : St} {x1 : Int64} {x3 : Int32} {x4 : Int32} {S' : St} (h : f_Book_addField S x1 x3 x4 = some S') : MV cw l y_Book_addField b_Book_addField 5 none 1 21 0 0 (fun ad => [.ref (ad 3 0), .long x1, .int x3, .int x4]) aT aE S S' := by
  refine MV_of "LawfulLots$Book" rfl (by decide) (fun _ => Nat.le_of_ble_eq_true rfl) ?_
  intro p e s m args below meth c D ar ad A Q ls hP F hK hA hw hl hQ
  have hl : lv_has ls 5 [(0, .ref (ad 3 0)), (1, .long x1), (3, .int x3), (4, .int x4)] := hl
  obtain ⟨X_0, eX_0⟩ : ∃ X : St → Prop, X = (fun q => ∀ (H : Heap) (locs : List Loc) (pc : Nat) (ls : Array Slot), decode b_Book_addField pc = .ok (.return_, 1) → Bw cw D ar A s.heap H locs ad q → W p l e (RM 1 21) s m args below meth c H locs 0 0 Q (F0 m pc ls [])) := ⟨_, rfl⟩
  have key : ∀ (H : Heap) (locs : List Loc), Bw cw D ar A s.heap H locs ad S → ∀ o, f_Book_addField S x1 x3 x4 = some o → X_0 o → W p l e (RM 1 21) s m args below meth c H locs 0 0 Q (F0 m 0 ls []) := by
    intro H locs hw o h ho
    unfold f_Book_addField at h
    refine lv_aload_n F.1 F.2.1 d_Book_addField_0 rfl (lv_at hl 0 rfl) ?_
    refine cg_3_10 F hK hw lk_82 d_Book_addField_1 ?_
    refine lv_bipush (v := 6) F.1 F.2.1 d_Book_addField_4 (by decide) ?_
    refine lv_icmp_lt (tgt := 10) F.1 F.2.1 d_Book_addField_6 (by decide) (fun c_1 => ?_) (fun c_1 => ?_)
    · replace h := ip c_1 h
      refine lv_aload_n F.1 F.2.1 d_Book_addField_10 rfl (lv_at hl 0 rfl) ?_
      refine cg_3_0 F hK hw lk_67 d_Book_addField_11 ?_
      refine lv_aload_n F.1 F.2.1 d_Book_addField_14 rfl (lv_at hl 0 rfl) ?_
      refine cg_3_10 F hK hw lk_82 d_Book_addField_15 ?_
      refine lv_lload_n F.1 F.2.1 d_Book_addField_18 rfl (lv_at hl 1 rfl) ?_
      obtain ⟨hi_2, h⟩ := gd_ex h
      obtain ⟨S_3, eS_3, h⟩ := nm_ex h
      refine cs_3_0 F hK hw hi_2 d_Book_addField_19 eS_3 (fun H locs hw => ?_)
      refine lv_aload_n F.1 F.2.1 d_Book_addField_20 rfl (lv_at hl 0 rfl) ?_
      refine cg_3_1 F hK hw lk_68 d_Book_addField_21 ?_
      refine lv_aload_n F.1 F.2.1 d_Book_addField_24 rfl (lv_at hl 0 rfl) ?_
      refine cg_3_10 F hK hw lk_82 d_Book_addField_25 ?_
      refine lv_iload_n F.1 F.2.1 d_Book_addField_28 rfl (lv_at hl 2 rfl) ?_
      obtain ⟨hi_4, h⟩ := gd_ex h
      obtain ⟨S_5, eS_5, h⟩ := nm_ex h
      refine cs_3_1 F hK hw hi_4 d_Book_addField_29 eS_5 (fun H locs hw => ?_)
      refine lv_aload_n F.1 F.2.1 d_Book_addField_30 rfl (lv_at hl 0 rfl) ?_
      refine cg_3_2 F hK hw lk_69 d_Book_addField_31 ?_
      refine lv_aload_n F.1 F.2.1 d_Book_addField_34 rfl (lv_at hl 0 rfl) ?_
      refine cg_3_10 F hK hw lk_82 d_Book_addField_35 ?_
      refine lv_iload F.1 F.2.1 d_Book_addField_38 (lv_at hl 3 rfl) ?_
      obtain ⟨hi_6, h⟩ := gd_ex h
      obtain ⟨S_7, eS_7, h⟩ := nm_ex h
      refine cs_3_2 F hK hw hi_6 d_Book_addField_40 eS_7 (fun H locs hw => ?_)
      refine lv_aload_n F.1 F.2.1 d_Book_addField_41 rfl (lv_at hl 0 rfl) ?_
      refine lv_dup F.1 F.2.1 d_Book_addField_42 rfl ?_
      refine cg_3_10 F hK hw lk_82 d_Book_addField_43 ?_
      refine lv_iconst (v := 1) F.1 F.2.1 d_Book_addField_46 (by decide) ?_
      refine lv_iadd F.1 F.2.1 d_Book_addField_47 ?_
      obtain ⟨S_8, eS_8, h⟩ := nm_ex h
      refine cp_3_10 F hK hw lk_82 d_Book_addField_48 eS_8 (fun H locs hw => ?_)
      refine lv_aload_n F.1 F.2.1 d_Book_addField_51 rfl (lv_at hl 0 rfl) ?_
      refine lv_aload_n F.1 F.2.1 d_Book_addField_52 rfl (lv_at hl 0 rfl) ?_
      refine cg_3_11 F hK hw lk_85 d_Book_addField_53 ?_
      refine lv_iconst (v := 1) F.1 F.2.1 d_Book_addField_56 (by decide) ?_
      refine lv_iload F.1 F.2.1 d_Book_addField_57 (lv_at hl 3 rfl) ?_
      refine lv_iload_n F.1 F.2.1 d_Book_addField_59 rfl (lv_at hl 2 rfl) ?_
      refine lv_isub F.1 F.2.1 d_Book_addField_60 ?_
      refine lv_iconst (v := 1) F.1 F.2.1 d_Book_addField_61 (by decide) ?_
      refine lv_iadd F.1 F.2.1 d_Book_addField_62 ?_
      refine va_mmax F.1 F.2.1 (F.2.2.1.trans hl.1.symm) F.2.2.2.1 (F.2.2.2.2 _ lk_479) (F.2.2.2.2 _ lk_400) (F.2.2.2.2 _ lk_12) (F.2.2.2.2 _ lk_401) (Nat.le_of_ble_eq_true rfl) (Nat.le_of_ble_eq_true rfl) (Nat.zero_le _) (Nat.zero_le _) d_Book_addField_63 ?_
      refine lv_imul F.1 F.2.1 d_Book_addField_66 ?_
      refine lv_ldc F.1 F.2.1 F.2.2.2.1 (F.2.2.2.2 _ lk_480) d_Book_addField_67 ?_
      refine va_mmin F.1 F.2.1 (F.2.2.1.trans hl.1.symm) F.2.2.2.1 (F.2.2.2.2 _ lk_481) (F.2.2.2.2 _ lk_397) (F.2.2.2.2 _ lk_12) (F.2.2.2.2 _ lk_398) (Nat.le_of_ble_eq_true rfl) (Nat.le_of_ble_eq_true rfl) (Nat.zero_le _) (Nat.zero_le _) d_Book_addField_69 ?_
      obtain ⟨S_9, eS_9, h⟩ := nm_ex h
      refine cp_3_11 F hK hw lk_85 d_Book_addField_72 eS_9 (fun H locs hw => ?_)
      cases h
      have ho : X_0 _ := ho
      rw [eX_0] at ho
      exact ho H locs _ ls d_Book_addField_75 hw
    · replace h := iq c_1 h
      cases h
      have ho : X_0 _ := ho
      rw [eX_0] at ho
      exact ho H locs _ ls d_Book_addField_9 hw
  exact key _ _ hw _ h (by rw [eX_0]; exact fun H locs pc ls hd hw => hQ H locs pc ls ad rfl hd hw)
theorem d_Reader_endField_0 : decode b_Reader_endField 0 = .ok (.aload_n 0, 1) := by decide +kernel
theorem d_Reader_endField_1 : decode b_Reader_endField 1 = .ok (.getfield 25, 3) := by decide +kernel
theorem d_Reader_endField_4 : decode b_Reader_endField 4 = .ok (.aload_n 0, 1) := by decide +kernel
theorem d_Reader_endField_5 : decode b_Reader_endField 5 = .ok (.getfield 64, 3) := by decide +kernel
theorem d_Reader_endField_8 : decode b_Reader_endField 8 = .ok (.invokevirtual 145, 3) := by decide +kernel
theorem d_Reader_endField_11 : decode b_Reader_endField 11 = .ok (.iconst (-1), 1) := by decide +kernel
theorem d_Reader_endField_12 : decode b_Reader_endField 12 = .ok (.if_icmp .eq 12, 3) := by decide +kernel
theorem d_Reader_endField_15 : decode b_Reader_endField 15 = .ok (.aload_n 0, 1) := by decide +kernel
theorem d_Reader_endField_16 : decode b_Reader_endField 16 = .ok (.iconst 3, 1) := by decide +kernel
theorem d_Reader_endField_17 : decode b_Reader_endField 17 = .ok (.aload_n 0, 1) := by decide +kernel
theorem d_Reader_endField_18 : decode b_Reader_endField 18 = .ok (.getfield 68, 3) := by decide +kernel
theorem d_Reader_endField_21 : decode b_Reader_endField 21 = .ok (.invokevirtual 149, 3) := by decide +kernel
theorem d_Reader_endField_24 : decode b_Reader_endField 24 = .ok (.aload_n 0, 1) := by decide +kernel
theorem d_Reader_endField_25 : decode b_Reader_endField 25 = .ok (.getfield 12, 3) := by decide +kernel
theorem d_Reader_endField_28 : decode b_Reader_endField 28 = .ok (.getfield 107, 3) := by decide +kernel
theorem d_Reader_endField_31 : decode b_Reader_endField 31 = .ok (.aload_n 0, 1) := by decide +kernel
theorem d_Reader_endField_32 : decode b_Reader_endField 32 = .ok (.getfield 71, 3) := by decide +kernel
theorem d_Reader_endField_35 : decode b_Reader_endField 35 = .ok (.if_icmp .ge 15, 3) := by decide +kernel
theorem d_Reader_endField_38 : decode b_Reader_endField 38 = .ok (.aload_n 0, 1) := by decide +kernel
theorem d_Reader_endField_39 : decode b_Reader_endField 39 = .ok (.iconst 5, 1) := by decide +kernel
theorem d_Reader_endField_40 : decode b_Reader_endField 40 = .ok (.aload_n 0, 1) := by decide +kernel
theorem d_Reader_endField_41 : decode b_Reader_endField 41 = .ok (.getfield 12, 3) := by decide +kernel
theorem d_Reader_endField_44 : decode b_Reader_endField 44 = .ok (.getfield 98, 3) := by decide +kernel
theorem d_Reader_endField_47 : decode b_Reader_endField 47 = .ok (.invokevirtual 149, 3) := by decide +kernel
theorem d_Reader_endField_50 : decode b_Reader_endField 50 = .ok (.aload_n 0, 1) := by decide +kernel
theorem d_Reader_endField_51 : decode b_Reader_endField 51 = .ok (.getfield 25, 3) := by decide +kernel
theorem d_Reader_endField_54 : decode b_Reader_endField 54 = .ok (.aload_n 0, 1) := by decide +kernel
theorem d_Reader_endField_55 : decode b_Reader_endField 55 = .ok (.getfield 64, 3) := by decide +kernel
theorem d_Reader_endField_58 : decode b_Reader_endField 58 = .ok (.aload_n 0, 1) := by decide +kernel
theorem d_Reader_endField_59 : decode b_Reader_endField 59 = .ok (.getfield 71, 3) := by decide +kernel
theorem d_Reader_endField_62 : decode b_Reader_endField 62 = .ok (.aload_n 0, 1) := by decide +kernel
theorem d_Reader_endField_63 : decode b_Reader_endField 63 = .ok (.getfield 12, 3) := by decide +kernel
theorem d_Reader_endField_66 : decode b_Reader_endField 66 = .ok (.getfield 107, 3) := by decide +kernel
theorem d_Reader_endField_69 : decode b_Reader_endField 69 = .ok (.invokevirtual 153, 3) := by decide +kernel
theorem d_Reader_endField_72 : decode b_Reader_endField 72 = .ok (.aload_n 0, 1) := by decide +kernel
theorem d_Reader_endField_73 : decode b_Reader_endField 73 = .ok (.getfield 25, 3) := by decide +kernel
theorem d_Reader_endField_76 : decode b_Reader_endField 76 = .ok (.getfield 157, 3) := by decide +kernel
theorem d_Reader_endField_79 : decode b_Reader_endField 79 = .ok (.ldc 160, 2) := by decide +kernel
theorem d_Reader_endField_81 : decode b_Reader_endField 81 = .ok (.if_icmp .le 13, 3) := by decide +kernel
theorem d_Reader_endField_84 : decode b_Reader_endField 84 = .ok (.aload_n 0, 1) := by decide +kernel
theorem d_Reader_endField_85 : decode b_Reader_endField 85 = .ok (.bipush 6, 2) := by decide +kernel
theorem d_Reader_endField_87 : decode b_Reader_endField 87 = .ok (.aload_n 0, 1) := by decide +kernel
theorem d_Reader_endField_88 : decode b_Reader_endField 88 = .ok (.getfield 68, 3) := by decide +kernel
theorem d_Reader_endField_91 : decode b_Reader_endField 91 = .ok (.invokevirtual 149, 3) := by decide +kernel
theorem d_Reader_endField_94 : decode b_Reader_endField 94 = .ok (.bipush 6, 2) := by decide +kernel
theorem d_Reader_endField_96 : decode b_Reader_endField 96 = .ok (.ireturn, 1) := by decide +kernel
set_option maxHeartbeats 4000000 in
set_option maxRecDepth 100000 in
theorem c_Reader_endField (l : Launch) {S : St} {S' : St} {r : Int32} (h : f_Reader_endField S = some (r, S')) : MI cw l y_Reader_endField b_Reader_endField 1 (some .int) 2 45 0 0 (fun ad => [.ref (ad 1 0)]) aT aE S r S' := by
  refine MI_of "LawfulLots$Reader" rfl (by decide) (fun _ => Nat.le_of_ble_eq_true rfl) ?_
  intro p e s m args below meth c D ar ad A Q ls hP F hK hA hw hl hQ
  have hl : lv_has ls 1 [(0, .ref (ad 1 0))] := hl
  obtain ⟨X_0, eX_0⟩ : ∃ X : (Int32 × St) → Prop, X = (fun q => ∀ (H : Heap) (locs : List Loc) (pc : Nat) (ls : Array Slot), decode b_Reader_endField pc = .ok (.ireturn, 1) → Bw cw D ar A s.heap H locs ad q.2 → W p l e (RM 2 45) s m args below meth c H locs 0 0 Q (F0 m pc ls [.int q.1])) := ⟨_, rfl⟩
  have key : ∀ (H : Heap) (locs : List Loc), Bw cw D ar A s.heap H locs ad S → ∀ o, f_Reader_endField S = some o → X_0 o → W p l e (RM 2 45) s m args below meth c H locs 0 0 Q (F0 m 0 ls []) := by
    intro H locs hw o h ho
    unfold f_Reader_endField at h
    have J_94 : ∀ (S : St) (H : Heap) (locs : List Loc) (ls : Array Slot), Bw cw D ar A s.heap H locs ad S → lv_has ls 1 [] → ∀ o, Reader_endField_j94 S = some o → X_0 o → W p l e (RM 2 45) s m args below meth c H locs 0 0 Q (F0 m 94 ls []) := by
      intro S H locs ls hw hl o h ho
      unfold Reader_endField_j94 at h
      refine lv_bipush (v := 6) F.1 F.2.1 d_Reader_endField_94 (by decide) ?_
      cases h
      have ho : X_0 _ := ho
      rw [eX_0] at ho
      exact ho H locs _ ls d_Reader_endField_96 hw
    have J_50 : ∀ (S : St) (H : Heap) (locs : List Loc) (ls : Array Slot), Bw cw D ar A s.heap H locs ad S → lv_has ls 1 [(0, .ref (ad 1 0))] → ∀ o, Reader_endField_j50 S = some o → X_0 o → W p l e (RM 2 45) s m args below meth c H locs 0 0 Q (F0 m 50 ls []) := by
      intro S H locs ls hw hl o h ho
      unfold Reader_endField_j50 at h
      refine lv_aload_n F.1 F.2.1 d_Reader_endField_50 rfl (lv_at hl 0 rfl) ?_
      refine cg_1_2 F hK hw lk_121 d_Reader_endField_51 ?_
      refine lv_aload_n F.1 F.2.1 d_Reader_endField_54 rfl (lv_at hl 0 rfl) ?_
      refine cg_1_14 F hK hw lk_135 d_Reader_endField_55 ?_
      refine lv_aload_n F.1 F.2.1 d_Reader_endField_58 rfl (lv_at hl 0 rfl) ?_
      refine cg_1_16 F hK hw lk_137 d_Reader_endField_59 ?_
      refine lv_aload_n F.1 F.2.1 d_Reader_endField_62 rfl (lv_at hl 0 rfl) ?_
      refine cg_1_0 F hK hw lk_119 d_Reader_endField_63 ?_
      refine cg_2_5 F hK hw lk_42 d_Reader_endField_66 ?_
      obtain ⟨S_10, hc_9, h⟩ := bd_ex h
      refine cV_v F hA rfl hK hw (c_Book_addField l hc_9) trivial rfl (good_V lk_475 lk_476 lk_477 lk_4 lk_478) (cr_3 hK hw) hd_Book_addField ⟨Nat.le_of_ble_eq_true rfl, Nat.le_of_ble_eq_true rfl⟩ rfl hl.1 rfl (Nat.le_of_ble_eq_true rfl) d_Reader_endField_69 ⟨(Nat.zero_le _), (Nat.zero_le _)⟩ (fun H locs hw => ?_)
      refine lv_aload_n F.1 F.2.1 d_Reader_endField_72 rfl (lv_at hl 0 rfl) ?_
      refine cg_1_2 F hK hw lk_121 d_Reader_endField_73 ?_
      refine cg_3_11 F hK hw lk_87 d_Reader_endField_76 ?_
      refine lv_ldc F.1 F.2.1 F.2.2.2.1 (F.2.2.2.2 _ lk_482) d_Reader_endField_79 ?_
      refine lv_icmp_le (tgt := 94) F.1 F.2.1 d_Reader_endField_81 (by decide) (fun c_11 => ?_) (fun c_11 => ?_)
      · replace h := ip c_11 h
        exact J_94 S_10 H locs ls hw (lv_sub hl [] rfl) o h ho
      · replace h := iq c_11 h
        refine lv_aload_n F.1 F.2.1 d_Reader_endField_84 rfl (lv_at hl 0 rfl) ?_
        refine lv_bipush (v := 6) F.1 F.2.1 d_Reader_endField_85 (by decide) ?_
        refine lv_aload_n F.1 F.2.1 d_Reader_endField_87 rfl (lv_at hl 0 rfl) ?_
        refine cg_1_15 F hK hw lk_136 d_Reader_endField_88 ?_
        obtain ⟨S_13, hc_12, h⟩ := bd_ex h
        refine cV_v F hA rfl hK hw (c_Reader_blame l hc_12) trivial rfl (good_V lk_471 lk_473 ls_9 lk_2 lk_474) (cr_1 hK hw) hd_Reader_blame ⟨Nat.le_of_ble_eq_true rfl, Nat.le_of_ble_eq_true rfl⟩ rfl hl.1 rfl (Nat.le_of_ble_eq_true rfl) d_Reader_endField_91 ⟨(Nat.zero_le _), (Nat.zero_le _)⟩ (fun H locs hw => ?_)
        exact J_94 S_13 H locs ls hw (lv_sub hl [] rfl) o h ho
    have J_24 : ∀ (S : St) (H : Heap) (locs : List Loc) (ls : Array Slot), Bw cw D ar A s.heap H locs ad S → lv_has ls 1 [(0, .ref (ad 1 0))] → ∀ o, Reader_endField_j24 S = some o → X_0 o → W p l e (RM 2 45) s m args below meth c H locs 0 0 Q (F0 m 24 ls []) := by
      intro S H locs ls hw hl o h ho
      unfold Reader_endField_j24 at h
      refine lv_aload_n F.1 F.2.1 d_Reader_endField_24 rfl (lv_at hl 0 rfl) ?_
      refine cg_1_0 F hK hw lk_119 d_Reader_endField_25 ?_
      refine cg_2_5 F hK hw lk_42 d_Reader_endField_28 ?_
      refine lv_aload_n F.1 F.2.1 d_Reader_endField_31 rfl (lv_at hl 0 rfl) ?_
      refine cg_1_16 F hK hw lk_137 d_Reader_endField_32 ?_
      refine lv_icmp_ge (tgt := 50) F.1 F.2.1 d_Reader_endField_35 (by decide) (fun c_6 => ?_) (fun c_6 => ?_)
      · replace h := ip c_6 h
        exact J_50 S H locs ls hw (lv_sub hl [0] rfl) o h ho
      · replace h := iq c_6 h
        refine lv_aload_n F.1 F.2.1 d_Reader_endField_38 rfl (lv_at hl 0 rfl) ?_
        refine lv_iconst (v := 5) F.1 F.2.1 d_Reader_endField_39 (by decide) ?_
        refine lv_aload_n F.1 F.2.1 d_Reader_endField_40 rfl (lv_at hl 0 rfl) ?_
        refine cg_1_0 F hK hw lk_119 d_Reader_endField_41 ?_
        refine cg_2_4 F hK hw lk_40 d_Reader_endField_44 ?_
        obtain ⟨S_8, hc_7, h⟩ := bd_ex h
        refine cV_v F hA rfl hK hw (c_Reader_blame l hc_7) trivial rfl (good_V lk_471 lk_473 ls_9 lk_2 lk_474) (cr_1 hK hw) hd_Reader_blame ⟨Nat.le_of_ble_eq_true rfl, Nat.le_of_ble_eq_true rfl⟩ rfl hl.1 rfl (Nat.le_of_ble_eq_true rfl) d_Reader_endField_47 ⟨(Nat.zero_le _), (Nat.zero_le _)⟩ (fun H locs hw => ?_)
        exact J_50 S_8 H locs ls hw (lv_sub hl [0] rfl) o h ho
    refine lv_aload_n F.1 F.2.1 d_Reader_endField_0 rfl (lv_at hl 0 rfl) ?_
    refine cg_1_2 F hK hw lk_121 d_Reader_endField_1 ?_
    refine lv_aload_n F.1 F.2.1 d_Reader_endField_4 rfl (lv_at hl 0 rfl) ?_
    refine cg_1_14 F hK hw lk_135 d_Reader_endField_5 ?_
    obtain ⟨v_2, hc_1, h⟩ := bd_ex h
    refine cV_i F hA rfl hK hw (c_Book_fieldNamed l hc_1) trivial rfl (good_V lk_467 lk_468 lk_469 lk_4 lk_470) (cr_3 hK hw) hd_Book_fieldNamed ⟨Nat.le_of_ble_eq_true rfl, Nat.le_of_ble_eq_true rfl⟩ rfl hl.1 rfl (Nat.le_of_ble_eq_true rfl) d_Reader_endField_8 ⟨(Nat.zero_le _), (Nat.zero_le _)⟩ (fun H locs hw => ?_)
    refine lv_iconst (v := -1) F.1 F.2.1 d_Reader_endField_11 (by decide) ?_
    refine lv_icmp_eq (tgt := 24) F.1 F.2.1 d_Reader_endField_12 (by decide) (fun c_3 => ?_) (fun c_3 => ?_)
    · replace h := ip c_3 h
      exact J_24 S H locs ls hw (lv_sub hl [0] rfl) o h ho
    · replace h := iq c_3 h
      refine lv_aload_n F.1 F.2.1 d_Reader_endField_15 rfl (lv_at hl 0 rfl) ?_
      refine lv_iconst (v := 3) F.1 F.2.1 d_Reader_endField_16 (by decide) ?_
      refine lv_aload_n F.1 F.2.1 d_Reader_endField_17 rfl (lv_at hl 0 rfl) ?_
      refine cg_1_15 F hK hw lk_136 d_Reader_endField_18 ?_
      obtain ⟨S_5, hc_4, h⟩ := bd_ex h
      refine cV_v F hA rfl hK hw (c_Reader_blame l hc_4) trivial rfl (good_V lk_471 lk_473 ls_9 lk_2 lk_474) (cr_1 hK hw) hd_Reader_blame ⟨Nat.le_of_ble_eq_true rfl, Nat.le_of_ble_eq_true rfl⟩ rfl hl.1 rfl (Nat.le_of_ble_eq_true rfl) d_Reader_endField_21 ⟨(Nat.zero_le _), (Nat.zero_le _)⟩ (fun H locs hw => ?_)
      exact J_24 S_5 H locs ls hw (lv_sub hl [0] rfl) o h ho
  exact key _ _ hw _ h (by rw [eX_0]; exact fun H locs pc ls hd hw => hQ H locs pc ls ad rfl hd hw)
theorem d_Book_setWeight_0 : decode b_Book_setWeight 0 = .ok (.iload_n 1, 1) := by decide +kernel
theorem d_Book_setWeight_1 : decode b_Book_setWeight 1 = .ok (.ifCond .lt 19, 3) := by decide +kernel
theorem d_Book_setWeight_4 : decode b_Book_setWeight 4 = .ok (.iload_n 1, 1) := by decide +kernel
theorem d_Book_setWeight_5 : decode b_Book_setWeight 5 = .ok (.aload_n 0, 1) := by decide +kernel
theorem d_Book_setWeight_6 : decode b_Book_setWeight 6 = .ok (.getfield 28, 3) := by decide +kernel
theorem d_Book_setWeight_9 : decode b_Book_setWeight 9 = .ok (.arraylength, 1) := by decide +kernel
theorem d_Book_setWeight_10 : decode b_Book_setWeight 10 = .ok (.if_icmp .ge 10, 3) := by decide +kernel
theorem d_Book_setWeight_13 : decode b_Book_setWeight 13 = .ok (.aload_n 0, 1) := by decide +kernel
theorem d_Book_setWeight_14 : decode b_Book_setWeight 14 = .ok (.getfield 28, 3) := by decide +kernel
theorem d_Book_setWeight_17 : decode b_Book_setWeight 17 = .ok (.iload_n 1, 1) := by decide +kernel
theorem d_Book_setWeight_18 : decode b_Book_setWeight 18 = .ok (.iload_n 2, 1) := by decide +kernel
theorem d_Book_setWeight_19 : decode b_Book_setWeight 19 = .ok (.iastore, 1) := by decide +kernel
theorem d_Book_setWeight_20 : decode b_Book_setWeight 20 = .ok (.return_, 1) := by decide +kernel
set_option maxHeartbeats 4000000 in
set_option maxRecDepth 100000 in
theorem c_Book_setWeight (l : Launch) {S : St} {x1 : Int32} {x2 : Int32} {S' : St} (h : f_Book_setWeight S x1 x2 = some S') : MV cw l y_Book_setWeight b_Book_setWeight 3 none 0 0 0 0 (fun ad => [.ref (ad 3 0), .int x1, .int x2]) aT aE S S' := by
  refine MV_of "LawfulLots$Book" rfl (by decide) (fun _ => Nat.le_of_ble_eq_true rfl) ?_
  intro p e s m args below meth c D ar ad A Q ls hP F hK hA hw hl hQ
  have hl : lv_has ls 3 [(0, .ref (ad 3 0)), (1, .int x1), (2, .int x2)] := hl
  obtain ⟨X_0, eX_0⟩ : ∃ X : St → Prop, X = (fun q => ∀ (H : Heap) (locs : List Loc) (pc : Nat) (ls : Array Slot), decode b_Book_setWeight pc = .ok (.return_, 1) → Bw cw D ar A s.heap H locs ad q → W p l e (RM 0 0) s m args below meth c H locs 0 0 Q (F0 m pc ls [])) := ⟨_, rfl⟩
  have key : ∀ (H : Heap) (locs : List Loc), Bw cw D ar A s.heap H locs ad S → ∀ o, f_Book_setWeight S x1 x2 = some o → X_0 o → W p l e (RM 0 0) s m args below meth c H locs 0 0 Q (F0 m 0 ls []) := by
    intro H locs hw o h ho
    unfold f_Book_setWeight at h
    have J_20 : ∀ (S : St) (H : Heap) (locs : List Loc) (ls : Array Slot), Bw cw D ar A s.heap H locs ad S → lv_has ls 3 [] → ∀ o, Book_setWeight_j20 S = some o → X_0 o → W p l e (RM 0 0) s m args below meth c H locs 0 0 Q (F0 m 20 ls []) := by
      intro S H locs ls hw hl o h ho
      unfold Book_setWeight_j20 at h
      cases h
      have ho : X_0 _ := ho
      rw [eX_0] at ho
      exact ho H locs _ ls d_Book_setWeight_20 hw
    refine lv_iload_n F.1 F.2.1 d_Book_setWeight_0 rfl (lv_at hl 1 rfl) ?_
    refine lv_if_lt (tgt := 20) F.1 F.2.1 d_Book_setWeight_1 (by decide) (fun c_1 => ?_) (fun c_1 => ?_)
    · replace h := ip c_1 h
      exact J_20 S H locs ls hw (lv_sub hl [] rfl) o h ho
    · replace h := iq c_1 h
      refine lv_iload_n F.1 F.2.1 d_Book_setWeight_4 rfl (lv_at hl 1 rfl) ?_
      refine lv_aload_n F.1 F.2.1 d_Book_setWeight_5 rfl (lv_at hl 0 rfl) ?_
      refine cg_3_5 F hK hw lk_72 d_Book_setWeight_6 ?_
      refine cn_3_5 F hK hw d_Book_setWeight_9 ?_
      refine lv_icmp_ge (tgt := 20) F.1 F.2.1 d_Book_setWeight_10 (by decide) (fun c_2 => ?_) (fun c_2 => ?_)
      · replace h := ip c_2 h
        exact J_20 S H locs ls hw (lv_sub hl [] rfl) o h ho
      · replace h := iq c_2 h
        refine lv_aload_n F.1 F.2.1 d_Book_setWeight_13 rfl (lv_at hl 0 rfl) ?_
        refine cg_3_5 F hK hw lk_72 d_Book_setWeight_14 ?_
        refine lv_iload_n F.1 F.2.1 d_Book_setWeight_17 rfl (lv_at hl 1 rfl) ?_
        refine lv_iload_n F.1 F.2.1 d_Book_setWeight_18 rfl (lv_at hl 2 rfl) ?_
        obtain ⟨hi_3, h⟩ := gd_ex h
        obtain ⟨S_4, eS_4, h⟩ := nm_ex h
        refine cs_3_5 F hK hw hi_3 d_Book_setWeight_19 eS_4 (fun H locs hw => ?_)
        exact J_20 S_4 H locs ls hw (lv_sub hl [] rfl) o h ho
  exact key _ _ hw _ h (by rw [eX_0]; exact fun H locs pc ls hd hw => hQ H locs pc ls ad rfl hd hw)
theorem d_Reader_weigh_0 : decode b_Reader_weigh 0 = .ok (.aload_n 0, 1) := by decide +kernel
theorem d_Reader_weigh_1 : decode b_Reader_weigh 1 = .ok (.getfield 25, 3) := by decide +kernel
theorem d_Reader_weigh_4 : decode b_Reader_weigh 4 = .ok (.aload_n 0, 1) := by decide +kernel
theorem d_Reader_weigh_5 : decode b_Reader_weigh 5 = .ok (.getfield 25, 3) := by decide +kernel
theorem d_Reader_weigh_8 : decode b_Reader_weigh 8 = .ok (.iconst 1, 1) := by decide +kernel
theorem d_Reader_weigh_9 : decode b_Reader_weigh 9 = .ok (.invokevirtual 136, 3) := by decide +kernel
theorem d_Reader_weigh_12 : decode b_Reader_weigh 12 = .ok (.iconst 1, 1) := by decide +kernel
theorem d_Reader_weigh_13 : decode b_Reader_weigh 13 = .ok (.isub, 1) := by decide +kernel
theorem d_Reader_weigh_14 : decode b_Reader_weigh 14 = .ok (.aload_n 0, 1) := by decide +kernel
theorem d_Reader_weigh_15 : decode b_Reader_weigh 15 = .ok (.getfield 12, 3) := by decide +kernel
theorem d_Reader_weigh_18 : decode b_Reader_weigh 18 = .ok (.getfield 107, 3) := by decide +kernel
theorem d_Reader_weigh_21 : decode b_Reader_weigh 21 = .ok (.invokevirtual 161, 3) := by decide +kernel
theorem d_Reader_weigh_24 : decode b_Reader_weigh 24 = .ok (.bipush 8, 2) := by decide +kernel
theorem d_Reader_weigh_26 : decode b_Reader_weigh 26 = .ok (.ireturn, 1) := by decide +kernel
set_option maxHeartbeats 4000000 in
set_option maxRecDepth 100000 in
theorem c_Reader_weigh (l : Launch) {S : St} {S' : St} {r : Int32} (h : f_Reader_weigh S = some (r, S')) : MI cw l y_Reader_weigh b_Reader_weigh 1 (some .int) 1 22 0 0 (fun ad => [.ref (ad 1 0)]) aT aE S r S' := by
  refine MI_of "LawfulLots$Reader" rfl (by decide) (fun _ => Nat.le_of_ble_eq_true rfl) ?_
  intro p e s m args below meth c D ar ad A Q ls hP F hK hA hw hl hQ
  have hl : lv_has ls 1 [(0, .ref (ad 1 0))] := hl
  obtain ⟨X_0, eX_0⟩ : ∃ X : (Int32 × St) → Prop, X = (fun q => ∀ (H : Heap) (locs : List Loc) (pc : Nat) (ls : Array Slot), decode b_Reader_weigh pc = .ok (.ireturn, 1) → Bw cw D ar A s.heap H locs ad q.2 → W p l e (RM 1 22) s m args below meth c H locs 0 0 Q (F0 m pc ls [.int q.1])) := ⟨_, rfl⟩
  have key : ∀ (H : Heap) (locs : List Loc), Bw cw D ar A s.heap H locs ad S → ∀ o, f_Reader_weigh S = some o → X_0 o → W p l e (RM 1 22) s m args below meth c H locs 0 0 Q (F0 m 0 ls []) := by
    intro H locs hw o h ho
    unfold f_Reader_weigh at h
    refine lv_aload_n F.1 F.2.1 d_Reader_weigh_0 rfl (lv_at hl 0 rfl) ?_
    refine cg_1_2 F hK hw lk_121 d_Reader_weigh_1 ?_
    refine lv_aload_n F.1 F.2.1 d_Reader_weigh_4 rfl (lv_at hl 0 rfl) ?_
    refine cg_1_2 F hK hw lk_121 d_Reader_weigh_5 ?_
    refine lv_iconst (v := 1) F.1 F.2.1 d_Reader_weigh_8 (by decide) ?_
    obtain ⟨v_2, hc_1, h⟩ := bd_ex h
    refine cV_i F hA rfl hK hw (c_Book_toldOf_3 l hc_1) trivial rfl (good_V lk_451 lk_452 lk_453 lk_4 lk_454) (cr_3 hK hw) hd_Book_toldOf ⟨Nat.le_of_ble_eq_true rfl, Nat.le_of_ble_eq_true rfl⟩ rfl hl.1 rfl (Nat.le_of_ble_eq_true rfl) d_Reader_weigh_9 ⟨(Nat.zero_le _), (Nat.zero_le _)⟩ (fun H locs hw => ?_)
    refine lv_iconst (v := 1) F.1 F.2.1 d_Reader_weigh_12 (by decide) ?_
    refine lv_isub F.1 F.2.1 d_Reader_weigh_13 ?_
    refine lv_aload_n F.1 F.2.1 d_Reader_weigh_14 rfl (lv_at hl 0 rfl) ?_
    refine cg_1_0 F hK hw lk_119 d_Reader_weigh_15 ?_
    refine cg_2_5 F hK hw lk_42 d_Reader_weigh_18 ?_
    obtain ⟨S_4, hc_3, h⟩ := bd_ex h
    refine cV_v F hA rfl hK hw (c_Book_setWeight l hc_3) trivial rfl (good_V lk_487 lk_488 lk_489 lk_4 lk_490) (cr_3 hK hw) hd_Book_setWeight ⟨Nat.le_of_ble_eq_true rfl, Nat.le_of_ble_eq_true rfl⟩ rfl hl.1 rfl (Nat.le_of_ble_eq_true rfl) d_Reader_weigh_21 ⟨(Nat.zero_le _), (Nat.zero_le _)⟩ (fun H locs hw => ?_)
    refine lv_bipush (v := 8) F.1 F.2.1 d_Reader_weigh_24 (by decide) ?_
    cases h
    have ho : X_0 _ := ho
    rw [eX_0] at ho
    exact ho H locs _ ls d_Reader_weigh_26 hw
  exact key _ _ hw _ h (by rw [eX_0]; exact fun H locs pc ls hd hw => hQ H locs pc ls ad rfl hd hw)
theorem d_Book_emit_0 : decode b_Book_emit 0 = .ok (.iload_n 1, 1) := by decide +kernel
theorem d_Book_emit_1 : decode b_Book_emit 1 = .ok (.ifCond .lt 21, 3) := by decide +kernel
theorem d_Book_emit_4 : decode b_Book_emit 4 = .ok (.iload_n 1, 1) := by decide +kernel
theorem d_Book_emit_5 : decode b_Book_emit 5 = .ok (.bipush 48, 2) := by decide +kernel
theorem d_Book_emit_7 : decode b_Book_emit 7 = .ok (.if_icmp .ge 15, 3) := by decide +kernel
theorem d_Book_emit_10 : decode b_Book_emit 10 = .ok (.aload_n 0, 1) := by decide +kernel
theorem d_Book_emit_11 : decode b_Book_emit 11 = .ok (.getfield 50, 3) := by decide +kernel
theorem d_Book_emit_14 : decode b_Book_emit 14 = .ok (.aload_n 0, 1) := by decide +kernel
theorem d_Book_emit_15 : decode b_Book_emit 15 = .ok (.getfield 31, 3) := by decide +kernel
theorem d_Book_emit_18 : decode b_Book_emit 18 = .ok (.arraylength, 1) := by decide +kernel
theorem d_Book_emit_19 : decode b_Book_emit 19 = .ok (.if_icmp .lt 4, 3) := by decide +kernel
theorem d_Book_emit_22 : decode b_Book_emit 22 = .ok (.return_, 1) := by decide +kernel
theorem d_Book_emit_23 : decode b_Book_emit 23 = .ok (.aload_n 0, 1) := by decide +kernel
theorem d_Book_emit_24 : decode b_Book_emit 24 = .ok (.getfield 31, 3) := by decide +kernel
theorem d_Book_emit_27 : decode b_Book_emit 27 = .ok (.aload_n 0, 1) := by decide +kernel
theorem d_Book_emit_28 : decode b_Book_emit 28 = .ok (.getfield 50, 3) := by decide +kernel
theorem d_Book_emit_31 : decode b_Book_emit 31 = .ok (.iload_n 3, 1) := by decide +kernel
theorem d_Book_emit_32 : decode b_Book_emit 32 = .ok (.iconst 5, 1) := by decide +kernel
theorem d_Book_emit_33 : decode b_Book_emit 33 = .ok (.ishl, 1) := by decide +kernel
theorem d_Book_emit_34 : decode b_Book_emit 34 = .ok (.iload_n 2, 1) := by decide +kernel
theorem d_Book_emit_35 : decode b_Book_emit 35 = .ok (.ior, 1) := by decide +kernel
theorem d_Book_emit_36 : decode b_Book_emit 36 = .ok (.iastore, 1) := by decide +kernel
theorem d_Book_emit_37 : decode b_Book_emit 37 = .ok (.aload_n 0, 1) := by decide +kernel
theorem d_Book_emit_38 : decode b_Book_emit 38 = .ok (.dup, 1) := by decide +kernel
theorem d_Book_emit_39 : decode b_Book_emit 39 = .ok (.getfield 50, 3) := by decide +kernel
theorem d_Book_emit_42 : decode b_Book_emit 42 = .ok (.iconst 1, 1) := by decide +kernel
theorem d_Book_emit_43 : decode b_Book_emit 43 = .ok (.iadd, 1) := by decide +kernel
theorem d_Book_emit_44 : decode b_Book_emit 44 = .ok (.putfield 50, 3) := by decide +kernel
theorem d_Book_emit_47 : decode b_Book_emit 47 = .ok (.aload_n 0, 1) := by decide +kernel
theorem d_Book_emit_48 : decode b_Book_emit 48 = .ok (.getfield 37, 3) := by decide +kernel
theorem d_Book_emit_51 : decode b_Book_emit 51 = .ok (.iload_n 1, 1) := by decide +kernel
theorem d_Book_emit_52 : decode b_Book_emit 52 = .ok (.aload_n 0, 1) := by decide +kernel
theorem d_Book_emit_53 : decode b_Book_emit 53 = .ok (.getfield 50, 3) := by decide +kernel
theorem d_Book_emit_56 : decode b_Book_emit 56 = .ok (.iastore, 1) := by decide +kernel
theorem d_Book_emit_57 : decode b_Book_emit 57 = .ok (.iload_n 2, 1) := by decide +kernel
theorem d_Book_emit_58 : decode b_Book_emit 58 = .ok (.iconst 2, 1) := by decide +kernel
theorem d_Book_emit_59 : decode b_Book_emit 59 = .ok (.if_icmp .eq 9, 3) := by decide +kernel
theorem d_Book_emit_62 : decode b_Book_emit 62 = .ok (.iload_n 2, 1) := by decide +kernel
theorem d_Book_emit_63 : decode b_Book_emit 63 = .ok (.bipush 26, 2) := by decide +kernel
theorem d_Book_emit_65 : decode b_Book_emit 65 = .ok (.if_icmp .ne 20, 3) := by decide +kernel
theorem d_Book_emit_68 : decode b_Book_emit 68 = .ok (.iload_n 3, 1) := by decide +kernel
theorem d_Book_emit_69 : decode b_Book_emit 69 = .ok (.aload_n 0, 1) := by decide +kernel
theorem d_Book_emit_70 : decode b_Book_emit 70 = .ok (.getfield 40, 3) := by decide +kernel
theorem d_Book_emit_73 : decode b_Book_emit 73 = .ok (.iload_n 1, 1) := by decide +kernel
theorem d_Book_emit_74 : decode b_Book_emit 74 = .ok (.iaload, 1) := by decide +kernel
theorem d_Book_emit_75 : decode b_Book_emit 75 = .ok (.if_icmp .le 10, 3) := by decide +kernel
theorem d_Book_emit_78 : decode b_Book_emit 78 = .ok (.aload_n 0, 1) := by decide +kernel
theorem d_Book_emit_79 : decode b_Book_emit 79 = .ok (.getfield 40, 3) := by decide +kernel
theorem d_Book_emit_82 : decode b_Book_emit 82 = .ok (.iload_n 1, 1) := by decide +kernel
theorem d_Book_emit_83 : decode b_Book_emit 83 = .ok (.iload_n 3, 1) := by decide +kernel
theorem d_Book_emit_84 : decode b_Book_emit 84 = .ok (.iastore, 1) := by decide +kernel
theorem d_Book_emit_85 : decode b_Book_emit 85 = .ok (.return_, 1) := by decide +kernel
set_option maxHeartbeats 4000000 in
set_option maxRecDepth 100000 in
theorem c_Book_emit (l : Launch) {S : St} {x1 : Int32} {x2 : Int32} {x3 : Int32} {S' : St} (h : f_Book_emit S x1 x2 x3 = some S') : MV cw l y_Book_emit b_Book_emit 4 none 0 0 0 0 (fun ad => [.ref (ad 3 0), .int x1, .int x2, .int x3]) aT aE S S' := by
  refine MV_of "LawfulLots$Book" rfl (by decide) (fun _ => Nat.le_of_ble_eq_true rfl) ?_
  intro p e s m args below meth c D ar ad A Q ls hP F hK hA hw hl hQ
  have hl : lv_has ls 4 [(0, .ref (ad 3 0)), (1, .int x1), (2, .int x2), (3, .int x3)] := hl
  obtain ⟨X_0, eX_0⟩ : ∃ X : St → Prop, X = (fun q => ∀ (H : Heap) (locs : List Loc) (pc : Nat) (ls : Array Slot), decode b_Book_emit pc = .ok (.return_, 1) → Bw cw D ar A s.heap H locs ad q → W p l e (RM 0 0) s m args below meth c H locs 0 0 Q (F0 m pc ls [])) := ⟨_, rfl⟩
  have key : ∀ (H : Heap) (locs : List Loc), Bw cw D ar A s.heap H locs ad S → ∀ o, f_Book_emit S x1 x2 x3 = some o → X_0 o → W p l e (RM 0 0) s m args below meth c H locs 0 0 Q (F0 m 0 ls []) := by
    intro H locs hw o h ho
    unfold f_Book_emit at h
    have J_85 : ∀ (S : St) (H : Heap) (locs : List Loc) (ls : Array Slot), Bw cw D ar A s.heap H locs ad S → lv_has ls 4 [] → ∀ o, Book_emit_j85 S = some o → X_0 o → W p l e (RM 0 0) s m args below meth c H locs 0 0 Q (F0 m 85 ls []) := by
      intro S H locs ls hw hl o h ho
      unfold Book_emit_j85 at h
      cases h
      have ho : X_0 _ := ho
      rw [eX_0] at ho
      exact ho H locs _ ls d_Book_emit_85 hw
    have J_68 : ∀ (S : St) (H : Heap) (locs : List Loc) (ls : Array Slot), Bw cw D ar A s.heap H locs ad S → lv_has ls 4 [(0, .ref (ad 3 0)), (1, .int x1), (3, .int x3)] → ∀ o, Book_emit_j68 S x1 x3 = some o → X_0 o → W p l e (RM 0 0) s m args below meth c H locs 0 0 Q (F0 m 68 ls []) := by
      intro S H locs ls hw hl o h ho
      unfold Book_emit_j68 at h
      refine lv_iload_n F.1 F.2.1 d_Book_emit_68 rfl (lv_at hl 2 rfl) ?_
      refine lv_aload_n F.1 F.2.1 d_Book_emit_69 rfl (lv_at hl 0 rfl) ?_
      refine cg_3_9 F hK hw lk_80 d_Book_emit_70 ?_
      refine lv_iload_n F.1 F.2.1 d_Book_emit_73 rfl (lv_at hl 1 rfl) ?_
      obtain ⟨hi_11, h⟩ := gd_ex h
      refine cl_3_9 F hK hw hi_11 d_Book_emit_74 ?_
      refine lv_icmp_le (tgt := 85) F.1 F.2.1 d_Book_emit_75 (by decide) (fun c_12 => ?_) (fun c_12 => ?_)
      · replace h := ip c_12 h
        exact J_85 S H locs ls hw (lv_sub hl [] rfl) o h ho
      · replace h := iq c_12 h
        refine lv_aload_n F.1 F.2.1 d_Book_emit_78 rfl (lv_at hl 0 rfl) ?_
        refine cg_3_9 F hK hw lk_80 d_Book_emit_79 ?_
        refine lv_iload_n F.1 F.2.1 d_Book_emit_82 rfl (lv_at hl 1 rfl) ?_
        refine lv_iload_n F.1 F.2.1 d_Book_emit_83 rfl (lv_at hl 2 rfl) ?_
        obtain ⟨hi_13, h⟩ := gd_ex h
        obtain ⟨S_14, eS_14, h⟩ := nm_ex h
        refine cs_3_9 F hK hw hi_13 d_Book_emit_84 eS_14 (fun H locs hw => ?_)
        exact J_85 S_14 H locs ls hw (lv_sub hl [] rfl) o h ho
    have J_22 : ∀ (S : St) (H : Heap) (locs : List Loc) (ls : Array Slot), Bw cw D ar A s.heap H locs ad S → lv_has ls 4 [] → ∀ o, Book_emit_j22 S = some o → X_0 o → W p l e (RM 0 0) s m args below meth c H locs 0 0 Q (F0 m 22 ls []) := by
      intro S H locs ls hw hl o h ho
      unfold Book_emit_j22 at h
      cases h
      have ho : X_0 _ := ho
      rw [eX_0] at ho
      exact ho H locs _ ls d_Book_emit_22 hw
    refine lv_iload_n F.1 F.2.1 d_Book_emit_0 rfl (lv_at hl 1 rfl) ?_
    refine lv_if_lt (tgt := 22) F.1 F.2.1 d_Book_emit_1 (by decide) (fun c_1 => ?_) (fun c_1 => ?_)
    · replace h := ip c_1 h
      exact J_22 S H locs ls hw (lv_sub hl [] rfl) o h ho
    · replace h := iq c_1 h
      refine lv_iload_n F.1 F.2.1 d_Book_emit_4 rfl (lv_at hl 1 rfl) ?_
      refine lv_bipush (v := 48) F.1 F.2.1 d_Book_emit_5 (by decide) ?_
      refine lv_icmp_ge (tgt := 22) F.1 F.2.1 d_Book_emit_7 (by decide) (fun c_2 => ?_) (fun c_2 => ?_)
      · replace h := ip c_2 h
        exact J_22 S H locs ls hw (lv_sub hl [] rfl) o h ho
      · replace h := iq c_2 h
        refine lv_aload_n F.1 F.2.1 d_Book_emit_10 rfl (lv_at hl 0 rfl) ?_
        refine cg_3_12 F hK hw lk_89 d_Book_emit_11 ?_
        refine lv_aload_n F.1 F.2.1 d_Book_emit_14 rfl (lv_at hl 0 rfl) ?_
        refine cg_3_6 F hK hw lk_74 d_Book_emit_15 ?_
        refine cn_3_6 F hK hw d_Book_emit_18 ?_
        refine lv_icmp_lt (tgt := 23) F.1 F.2.1 d_Book_emit_19 (by decide) (fun c_3 => ?_) (fun c_3 => ?_)
        · replace h := ip c_3 h
          refine lv_aload_n F.1 F.2.1 d_Book_emit_23 rfl (lv_at hl 0 rfl) ?_
          refine cg_3_6 F hK hw lk_74 d_Book_emit_24 ?_
          refine lv_aload_n F.1 F.2.1 d_Book_emit_27 rfl (lv_at hl 0 rfl) ?_
          refine cg_3_12 F hK hw lk_89 d_Book_emit_28 ?_
          refine lv_iload_n F.1 F.2.1 d_Book_emit_31 rfl (lv_at hl 3 rfl) ?_
          refine lv_iconst (v := 5) F.1 F.2.1 d_Book_emit_32 (by decide) ?_
          refine lv_ishl F.1 F.2.1 d_Book_emit_33 ?_
          refine lv_iload_n F.1 F.2.1 d_Book_emit_34 rfl (lv_at hl 2 rfl) ?_
          refine lv_ior F.1 F.2.1 d_Book_emit_35 ?_
          obtain ⟨hi_4, h⟩ := gd_ex h
          obtain ⟨S_5, eS_5, h⟩ := nm_ex h
          refine cs_3_6 F hK hw hi_4 d_Book_emit_36 eS_5 (fun H locs hw => ?_)
          refine lv_aload_n F.1 F.2.1 d_Book_emit_37 rfl (lv_at hl 0 rfl) ?_
          refine lv_dup F.1 F.2.1 d_Book_emit_38 rfl ?_
          refine cg_3_12 F hK hw lk_89 d_Book_emit_39 ?_
          refine lv_iconst (v := 1) F.1 F.2.1 d_Book_emit_42 (by decide) ?_
          refine lv_iadd F.1 F.2.1 d_Book_emit_43 ?_
          obtain ⟨S_6, eS_6, h⟩ := nm_ex h
          refine cp_3_12 F hK hw lk_89 d_Book_emit_44 eS_6 (fun H locs hw => ?_)
          refine lv_aload_n F.1 F.2.1 d_Book_emit_47 rfl (lv_at hl 0 rfl) ?_
          refine cg_3_8 F hK hw lk_78 d_Book_emit_48 ?_
          refine lv_iload_n F.1 F.2.1 d_Book_emit_51 rfl (lv_at hl 1 rfl) ?_
          refine lv_aload_n F.1 F.2.1 d_Book_emit_52 rfl (lv_at hl 0 rfl) ?_
          refine cg_3_12 F hK hw lk_89 d_Book_emit_53 ?_
          obtain ⟨hi_7, h⟩ := gd_ex h
          obtain ⟨S_8, eS_8, h⟩ := nm_ex h
          refine cs_3_8 F hK hw hi_7 d_Book_emit_56 eS_8 (fun H locs hw => ?_)
          refine lv_iload_n F.1 F.2.1 d_Book_emit_57 rfl (lv_at hl 2 rfl) ?_
          refine lv_iconst (v := 2) F.1 F.2.1 d_Book_emit_58 (by decide) ?_
          refine lv_icmp_eq (tgt := 68) F.1 F.2.1 d_Book_emit_59 (by decide) (fun c_9 => ?_) (fun c_9 => ?_)
          · replace h := ip c_9 h
            exact J_68 S_8 H locs ls hw (lv_sub hl [0, 1, 3] rfl) o h ho
          · replace h := iq c_9 h
            refine lv_iload_n F.1 F.2.1 d_Book_emit_62 rfl (lv_at hl 2 rfl) ?_
            refine lv_bipush (v := 26) F.1 F.2.1 d_Book_emit_63 (by decide) ?_
            refine lv_icmp_ne (tgt := 85) F.1 F.2.1 d_Book_emit_65 (by decide) (fun c_10 => ?_) (fun c_10 => ?_)
            · replace h := iq c_10 h
              exact J_85 S_8 H locs ls hw (lv_sub hl [] rfl) o h ho
            · replace h := ip c_10 h
              exact J_68 S_8 H locs ls hw (lv_sub hl [0, 1, 3] rfl) o h ho
        · replace h := iq c_3 h
          exact J_22 S H locs ls hw (lv_sub hl [] rfl) o h ho
  exact key _ _ hw _ h (by rw [eX_0]; exact fun H locs pc ls hd hw => hQ H locs pc ls ad rfl hd hw)
