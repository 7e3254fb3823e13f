theorem d_Chains_member_0 : decode b_Chains_member 0 = .ok (.lload_n 2, 1) := by decide +kernel
theorem d_Chains_member_1 : decode b_Chains_member 1 = .ok (.lstore 5, 2) := by decide +kernel
theorem d_Chains_member_3 : decode b_Chains_member 3 = .ok (.ldc2_w 88, 3) := by decide +kernel
theorem d_Chains_member_6 : decode b_Chains_member 6 = .ok (.lstore 7, 2) := by decide +kernel
theorem d_Chains_member_8 : decode b_Chains_member 8 = .ok (.iconst (-1), 1) := by decide +kernel
theorem d_Chains_member_9 : decode b_Chains_member 9 = .ok (.istore 9, 2) := by decide +kernel
theorem d_Chains_member_11 : decode b_Chains_member 11 = .ok (.iconst 0, 1) := by decide +kernel
theorem d_Chains_member_12 : decode b_Chains_member 12 = .ok (.istore 10, 2) := by decide +kernel
theorem d_Chains_member_14 : decode b_Chains_member 14 = .ok (.iload 10, 2) := by decide +kernel
theorem d_Chains_member_16 : decode b_Chains_member 16 = .ok (.iload 4, 2) := by decide +kernel
theorem d_Chains_member_18 : decode b_Chains_member 18 = .ok (.if_icmp .gt 113, 3) := by decide +kernel
theorem d_Chains_member_21 : decode b_Chains_member 21 = .ok (.iload 10, 2) := by decide +kernel
theorem d_Chains_member_23 : decode b_Chains_member 23 = .ok (.iload_n 1, 1) := by decide +kernel
theorem d_Chains_member_24 : decode b_Chains_member 24 = .ok (.if_icmp .ge 107, 3) := by decide +kernel
theorem d_Chains_member_27 : decode b_Chains_member 27 = .ok (.iconst (-1), 1) := by decide +kernel
theorem d_Chains_member_28 : decode b_Chains_member 28 = .ok (.istore 9, 2) := by decide +kernel
theorem d_Chains_member_30 : decode b_Chains_member 30 = .ok (.iconst 0, 1) := by decide +kernel
theorem d_Chains_member_31 : decode b_Chains_member 31 = .ok (.istore 11, 2) := by decide +kernel
theorem d_Chains_member_33 : decode b_Chains_member 33 = .ok (.iload 11, 2) := by decide +kernel
theorem d_Chains_member_35 : decode b_Chains_member 35 = .ok (.aload_n 0, 1) := by decide +kernel
theorem d_Chains_member_36 : decode b_Chains_member 36 = .ok (.getfield 32, 3) := by decide +kernel
theorem d_Chains_member_39 : decode b_Chains_member 39 = .ok (.if_icmp .ge 69, 3) := by decide +kernel
theorem d_Chains_member_42 : decode b_Chains_member 42 = .ok (.iload 9, 2) := by decide +kernel
theorem d_Chains_member_44 : decode b_Chains_member 44 = .ok (.iconst (-1), 1) := by decide +kernel
theorem d_Chains_member_45 : decode b_Chains_member 45 = .ok (.if_icmp .ne 63, 3) := by decide +kernel
theorem d_Chains_member_48 : decode b_Chains_member 48 = .ok (.lload 7, 2) := by decide +kernel
theorem d_Chains_member_50 : decode b_Chains_member 50 = .ok (.iload 11, 2) := by decide +kernel
theorem d_Chains_member_52 : decode b_Chains_member 52 = .ok (.lshr, 1) := by decide +kernel
theorem d_Chains_member_53 : decode b_Chains_member 53 = .ok (.lconst 1, 1) := by decide +kernel
theorem d_Chains_member_54 : decode b_Chains_member 54 = .ok (.land, 1) := by decide +kernel
theorem d_Chains_member_55 : decode b_Chains_member 55 = .ok (.lconst 0, 1) := by decide +kernel
theorem d_Chains_member_56 : decode b_Chains_member 56 = .ok (.lcmp, 1) := by decide +kernel
theorem d_Chains_member_57 : decode b_Chains_member 57 = .ok (.ifCond .eq 20, 3) := by decide +kernel
theorem d_Chains_member_60 : decode b_Chains_member 60 = .ok (.aload_n 0, 1) := by decide +kernel
theorem d_Chains_member_61 : decode b_Chains_member 61 = .ok (.getfield 29, 3) := by decide +kernel
theorem d_Chains_member_64 : decode b_Chains_member 64 = .ok (.iload_n 1, 1) := by decide +kernel
theorem d_Chains_member_65 : decode b_Chains_member 65 = .ok (.iload 10, 2) := by decide +kernel
theorem d_Chains_member_67 : decode b_Chains_member 67 = .ok (.isub, 1) := by decide +kernel
theorem d_Chains_member_68 : decode b_Chains_member 68 = .ok (.iload 11, 2) := by decide +kernel
theorem d_Chains_member_70 : decode b_Chains_member 70 = .ok (.invokestatic 67, 3) := by decide +kernel
theorem d_Chains_member_73 : decode b_Chains_member 73 = .ok (.laload, 1) := by decide +kernel
theorem d_Chains_member_74 : decode b_Chains_member 74 = .ok (.goto 4, 3) := by decide +kernel
theorem d_Chains_member_77 : decode b_Chains_member 77 = .ok (.lconst 0, 1) := by decide +kernel
theorem d_Chains_member_78 : decode b_Chains_member 78 = .ok (.lstore 12, 2) := by decide +kernel
theorem d_Chains_member_80 : decode b_Chains_member 80 = .ok (.lload 5, 2) := by decide +kernel
theorem d_Chains_member_82 : decode b_Chains_member 82 = .ok (.lload 12, 2) := by decide +kernel
theorem d_Chains_member_84 : decode b_Chains_member 84 = .ok (.lcmp, 1) := by decide +kernel
theorem d_Chains_member_85 : decode b_Chains_member 85 = .ok (.ifCond .ge 10, 3) := by decide +kernel
theorem d_Chains_member_88 : decode b_Chains_member 88 = .ok (.iload 11, 2) := by decide +kernel
theorem d_Chains_member_90 : decode b_Chains_member 90 = .ok (.istore 9, 2) := by decide +kernel
theorem d_Chains_member_92 : decode b_Chains_member 92 = .ok (.goto 10, 3) := by decide +kernel
theorem d_Chains_member_95 : decode b_Chains_member 95 = .ok (.lload 5, 2) := by decide +kernel
theorem d_Chains_member_97 : decode b_Chains_member 97 = .ok (.lload 12, 2) := by decide +kernel
theorem d_Chains_member_99 : decode b_Chains_member 99 = .ok (.lsub, 1) := by decide +kernel
theorem d_Chains_member_100 : decode b_Chains_member 100 = .ok (.lstore 5, 2) := by decide +kernel
theorem d_Chains_member_102 : decode b_Chains_member 102 = .ok (.iinc 11 1, 3) := by decide +kernel
theorem d_Chains_member_105 : decode b_Chains_member 105 = .ok (.goto (-72), 3) := by decide +kernel
theorem d_Chains_member_108 : decode b_Chains_member 108 = .ok (.iload 9, 2) := by decide +kernel
theorem d_Chains_member_110 : decode b_Chains_member 110 = .ok (.iconst (-1), 1) := by decide +kernel
theorem d_Chains_member_111 : decode b_Chains_member 111 = .ok (.if_icmp .ne 5, 3) := by decide +kernel
theorem d_Chains_member_114 : decode b_Chains_member 114 = .ok (.iconst (-1), 1) := by decide +kernel
theorem d_Chains_member_115 : decode b_Chains_member 115 = .ok (.ireturn, 1) := by decide +kernel
theorem d_Chains_member_116 : decode b_Chains_member 116 = .ok (.aload_n 0, 1) := by decide +kernel
theorem d_Chains_member_117 : decode b_Chains_member 117 = .ok (.getfield 25, 3) := by decide +kernel
theorem d_Chains_member_120 : decode b_Chains_member 120 = .ok (.iload 9, 2) := by decide +kernel
theorem d_Chains_member_122 : decode b_Chains_member 122 = .ok (.laload, 1) := by decide +kernel
theorem d_Chains_member_123 : decode b_Chains_member 123 = .ok (.lstore 7, 2) := by decide +kernel
theorem d_Chains_member_125 : decode b_Chains_member 125 = .ok (.iinc 10 1, 3) := by decide +kernel
theorem d_Chains_member_128 : decode b_Chains_member 128 = .ok (.goto (-114), 3) := by decide +kernel
theorem d_Chains_member_131 : decode b_Chains_member 131 = .ok (.iload 9, 2) := by decide +kernel
theorem d_Chains_member_133 : decode b_Chains_member 133 = .ok (.ireturn, 1) := by decide +kernel
set_option maxHeartbeats 4000000 in
set_option maxRecDepth 100000 in
theorem c_Chains_member (l : Launch) {S : St} {x1 : Int32} {x2 : Int64} {x4 : Int32} {r : Int32} (h : f_Chains_member S x1 x2 x4 = some r) : MI cw l y_Chains_member b_Chains_member 14 (some .int) 2 43 0 0 (fun ad => [.ref (ad 9 0), .int x1, .long x2, .int x4]) aT aE S r S := by
  refine MI_of "LawfulLots$Chains" rfl (by decide) (fun _ => Nat.le_of_ble_eq_true rfl) ?_
  intro p e s m args below meth c D ar ad A Q ls hP F hK hA hw hl hQ
  have hl : lv_has ls 14 [(0, .ref (ad 9 0)), (1, .int x1), (2, .long x2), (4, .int x4)] := hl
  obtain ⟨X_0, eX_0⟩ : ∃ X : Int32 → Prop, X = (fun q => ∀ (H : Heap) (locs : List Loc) (pc : Nat) (ls : Array Slot), decode b_Chains_member pc = .ok (.ireturn, 1) → Bw cw D ar A s.heap H locs ad S → W p l e (RM 2 43) s m args below meth c H locs 0 0 Q (F0 m pc ls [.int q])) := ⟨_, rfl⟩
  have key : ∀ (H : Heap) (locs : List Loc), Bw cw D ar A s.heap H locs ad S → ∀ o, f_Chains_member S x1 x2 x4 = some o → X_0 o → W p l e (RM 2 43) s m args below meth c H locs 0 0 Q (F0 m 0 ls []) := by
    intro H locs hw o h ho
    unfold f_Chains_member at h
    refine lv_lload_n F.1 F.2.1 d_Chains_member_0 rfl (lv_at hl 2 rfl) ?_
    refine lv_lstore (lv' := [(5, .long x2), (0, .ref (ad 9 0)), (1, .int x1), (2, .long x2), (4, .int x4)]) F.1 F.2.1 d_Chains_member_1 hl (by decide) rfl (fun ls hl => ?_)
    refine lv_ldc2 F.1 F.2.1 F.2.2.2.1 (F.2.2.2.2 _ lk_929) d_Chains_member_3 ?_
    refine lv_lstore (lv' := [(7, .long (-1 : Int64)), (5, .long x2), (0, .ref (ad 9 0)), (1, .int x1), (2, .long x2), (4, .int x4)]) F.1 F.2.1 d_Chains_member_6 hl (by decide) rfl (fun ls hl => ?_)
    refine lv_iconst (v := -1) F.1 F.2.1 d_Chains_member_8 (by decide) ?_
    refine lv_istore (lv' := [(9, .int (-1 : Int32)), (7, .long (-1 : Int64)), (5, .long x2), (0, .ref (ad 9 0)), (1, .int x1), (2, .long x2), (4, .int x4)]) F.1 F.2.1 d_Chains_member_9 hl (by decide) rfl (fun ls hl => ?_)
    refine lv_iconst (v := 0) F.1 F.2.1 d_Chains_member_11 (by decide) ?_
    refine lv_istore (lv' := [(10, .int (0 : Int32)), (9, .int (-1 : Int32)), (7, .long (-1 : Int64)), (5, .long x2), (0, .ref (ad 9 0)), (1, .int x1), (2, .long x2), (4, .int x4)]) F.1 F.2.1 d_Chains_member_12 hl (by decide) rfl (fun ls hl => ?_)
    obtain ⟨P_14, eP_14⟩ : ∃ P : (Int64 × Int64 × Int32 × Int32) → Prop, P = (fun q => ∀ (H : Heap) (locs : List Loc) (ls : Array Slot), Bw cw D ar A s.heap H locs ad S → lv_has ls 14 [(0, .ref (ad 9 0)), (1, .int x1), (4, .int x4), (5, .long q.1), (7, .long q.2.1), (9, .int q.2.2.1), (10, .int q.2.2.2)] → W p l e (RM 2 43) s m args below meth c H locs 0 0 Q (F0 m 14 ls [])) := ⟨_, rfl⟩
    have hL_14 : P_14 (x2, (-1 : Int64), (-1 : Int32), (0 : Int32)) := by
      refine wh_gp (P := P_14) (X := X_0) h ho ?_
      clear h ho
      intro q o h ho
      obtain ⟨x5, x7, x9, x10⟩ := q
      have h : Chains_member_l14 S x1 x4 x5 x7 x9 x10 = some o := h
      unfold Chains_member_l14 at h
      rw [eP_14]
      intro H locs ls hw hl
      have J_131_l14 : ∀ (x9 : Int32) (H : Heap) (locs : List Loc) (ls : Array Slot), Bw cw D ar A s.heap H locs ad S → lv_has ls 14 [(9, .int x9)] → ∀ o, Chains_member_j131_l14 S x9 = some o → (Sum.elim P_14 X_0) o → W p l e (RM 2 43) s m args below meth c H locs 0 0 Q (F0 m 131 ls []) := by
        intro x9 H locs ls hw hl o h ho
        unfold Chains_member_j131_l14 at h
        refine lv_iload F.1 F.2.1 d_Chains_member_131 (lv_at hl 0 rfl) ?_
        cases h
        have ho : X_0 _ := ho
        rw [eX_0] at ho
        exact ho H locs _ ls d_Chains_member_133 hw
      have J_108_l14 : ∀ (x5 : Int64) (x9 : Int32) (x10 : Int32) (H : Heap) (locs : List Loc) (ls : Array Slot), Bw cw D ar A s.heap H locs ad S → lv_has ls 14 [(0, .ref (ad 9 0)), (1, .int x1), (4, .int x4), (5, .long x5), (9, .int x9), (10, .int x10)] → ∀ o, Chains_member_j108_l14 S x1 x4 x5 x9 x10 = some o → (Sum.elim P_14 X_0) o → W p l e (RM 2 43) s m args below meth c H locs 0 0 Q (F0 m 108 ls []) := by
        intro x5 x9 x10 H locs ls hw hl o h ho
        unfold Chains_member_j108_l14 at h
        refine lv_iload F.1 F.2.1 d_Chains_member_108 (lv_at hl 4 rfl) ?_
        refine lv_iconst (v := -1) F.1 F.2.1 d_Chains_member_110 (by decide) ?_
        refine lv_icmp_ne (tgt := 116) F.1 F.2.1 d_Chains_member_111 (by decide) (fun c_15 => ?_) (fun c_15 => ?_)
        · replace h := iq c_15 h
          refine lv_aload_n F.1 F.2.1 d_Chains_member_116 rfl (lv_at hl 0 rfl) ?_
          refine cg_9_3 F hK hw lk_320 d_Chains_member_117 ?_
          refine lv_iload F.1 F.2.1 d_Chains_member_120 (lv_at hl 4 rfl) ?_
          obtain ⟨hi_16, h⟩ := gd_ex h
          refine cl_9_3 F hK hw hi_16 d_Chains_member_122 ?_
          obtain ⟨x7_17, ex7_17, h⟩ := nm_ex h
          refine lv_nmL ex7_17 ?_
          refine lv_lstore (lv' := [(7, .long x7_17), (0, .ref (ad 9 0)), (1, .int x1), (4, .int x4), (5, .long x5), (9, .int x9), (10, .int x10)]) F.1 F.2.1 d_Chains_member_123 hl (by decide) rfl (fun ls hl => ?_)
          obtain ⟨x10_18, ex10_18, h⟩ := nm_ex h
          refine lv_iinc (v := x10_18) (lv' := [(10, .int x10_18), (7, .long x7_17), (0, .ref (ad 9 0)), (1, .int x1), (4, .int x4), (5, .long x5), (9, .int x9)]) F.1 F.2.1 d_Chains_member_125 hl (k := 6) rfl (by rw [ex10_18]; rfl) (by decide) rfl (fun ls hl => ?_)
          refine lv_goto (tgt := 14) F.1 F.2.1 d_Chains_member_128 (by decide) ?_
          cases h
          have ho : P_14 _ := ho
          rw [eP_14] at ho
          exact ho H locs ls hw (lv_sub hl [2, 3, 4, 5, 1, 6, 0] rfl)
        · replace h := ip c_15 h
          refine lv_iconst (v := -1) F.1 F.2.1 d_Chains_member_114 (by decide) ?_
          cases h
          have ho : X_0 _ := ho
          rw [eX_0] at ho
          exact ho H locs _ ls d_Chains_member_115 hw
      refine lv_iload F.1 F.2.1 d_Chains_member_14 (lv_at hl 6 rfl) ?_
      refine lv_iload F.1 F.2.1 d_Chains_member_16 (lv_at hl 2 rfl) ?_
      refine lv_icmp_gt (tgt := 131) F.1 F.2.1 d_Chains_member_18 (by decide) (fun c_1 => ?_) (fun c_1 => ?_)
      · replace h := ip c_1 h
        exact J_131_l14 x9 H locs ls hw (lv_sub hl [5] rfl) o h ho
      · replace h := iq c_1 h
        refine lv_iload F.1 F.2.1 d_Chains_member_21 (lv_at hl 6 rfl) ?_
        refine lv_iload_n F.1 F.2.1 d_Chains_member_23 rfl (lv_at hl 1 rfl) ?_
        refine lv_icmp_ge (tgt := 131) F.1 F.2.1 d_Chains_member_24 (by decide) (fun c_2 => ?_) (fun c_2 => ?_)
        · replace h := ip c_2 h
          exact J_131_l14 x9 H locs ls hw (lv_sub hl [5] rfl) o h ho
        · replace h := iq c_2 h
          refine lv_iconst (v := -1) F.1 F.2.1 d_Chains_member_27 (by decide) ?_
          refine lv_istore (lv' := [(9, .int (-1 : Int32)), (0, .ref (ad 9 0)), (1, .int x1), (4, .int x4), (5, .long x5), (7, .long x7), (10, .int x10)]) F.1 F.2.1 d_Chains_member_28 hl (by decide) rfl (fun ls hl => ?_)
          refine lv_iconst (v := 0) F.1 F.2.1 d_Chains_member_30 (by decide) ?_
          refine lv_istore (lv' := [(11, .int (0 : Int32)), (9, .int (-1 : Int32)), (0, .ref (ad 9 0)), (1, .int x1), (4, .int x4), (5, .long x5), (7, .long x7), (10, .int x10)]) F.1 F.2.1 d_Chains_member_31 hl (by decide) rfl (fun ls hl => ?_)
          obtain ⟨x5_12, x9_13, hc_14, h⟩ := bd2_ex h
          obtain ⟨X_33, eX_33⟩ : ∃ X : (Int64 × Int32) → Prop, X = (fun q => ∀ (H : Heap) (locs : List Loc) (ls : Array Slot), Bw cw D ar A s.heap H locs ad S → lv_has ls 14 [(0, .ref (ad 9 0)), (1, .int x1), (4, .int x4), (5, .long q.1), (9, .int q.2), (10, .int x10)] → W p l e (RM 2 43) s m args below meth c H locs 0 0 Q (F0 m 108 ls [])) := ⟨_, rfl⟩
          have hX_33 : X_33 (x5_12, x9_13) := by
            rw [eX_33]
            intro H locs ls hw hl
            exact J_108_l14 x5_12 x9_13 x10 H locs ls hw (lv_sub hl [0, 1, 2, 3, 4, 5] rfl) o h ho
          obtain ⟨P_33, eP_33⟩ : ∃ P : (Int64 × Int32 × Int32) → Prop, P = (fun q => ∀ (H : Heap) (locs : List Loc) (ls : Array Slot), Bw cw D ar A s.heap H locs ad S → lv_has ls 14 [(0, .ref (ad 9 0)), (1, .int x1), (4, .int x4), (5, .long q.1), (7, .long x7), (9, .int q.2.1), (10, .int x10), (11, .int q.2.2)] → W p l e (RM 2 43) s m args below meth c H locs 0 0 Q (F0 m 33 ls [])) := ⟨_, rfl⟩
          have hL_33 : P_33 (x5, (-1 : Int32), (0 : Int32)) := by
            refine wh_gp (P := P_33) (X := X_33) hc_14 hX_33 ?_
            clear h
            intro q o h ho
            obtain ⟨x5, x9, x11⟩ := q
            have h : Chains_member_l33 S x1 x4 x7 x10 x5 x9 x11 = some o := h
            unfold Chains_member_l33 at h
            rw [eP_33]
            intro H locs ls hw hl
            have J_102_l33 : ∀ (x5 : Int64) (x9 : Int32) (x11 : Int32) (H : Heap) (locs : List Loc) (ls : Array Slot), Bw cw D ar A s.heap H locs ad S → lv_has ls 14 [(0, .ref (ad 9 0)), (1, .int x1), (4, .int x4), (5, .long x5), (7, .long x7), (9, .int x9), (10, .int x10), (11, .int x11)] → ∀ o, Chains_member_j102_l33 S x1 x4 x5 x7 x9 x10 x11 = some o → (Sum.elim P_33 X_33) o → W p l e (RM 2 43) s m args below meth c H locs 0 0 Q (F0 m 102 ls []) := by
              intro x5 x9 x11 H locs ls hw hl o h ho
              unfold Chains_member_j102_l33 at h
              obtain ⟨x11_11, ex11_11, h⟩ := nm_ex h
              refine lv_iinc (v := x11_11) (lv' := [(11, .int x11_11), (0, .ref (ad 9 0)), (1, .int x1), (4, .int x4), (5, .long x5), (7, .long x7), (9, .int x9), (10, .int x10)]) F.1 F.2.1 d_Chains_member_102 hl (k := 7) rfl (by rw [ex11_11]; rfl) (by decide) rfl (fun ls hl => ?_)
              refine lv_goto (tgt := 33) F.1 F.2.1 d_Chains_member_105 (by decide) ?_
              cases h
              have ho : P_33 _ := ho
              rw [eP_33] at ho
              exact ho H locs ls hw (lv_sub hl [1, 2, 3, 4, 5, 6, 7, 0] rfl)
            have J_78_l33 : ∀ (x5 : Int64) (x9 : Int32) (x11 : Int32) (t0 : Int64) (H : Heap) (locs : List Loc) (ls : Array Slot), Bw cw D ar A s.heap H locs ad S → lv_has ls 14 [(0, .ref (ad 9 0)), (1, .int x1), (4, .int x4), (5, .long x5), (7, .long x7), (9, .int x9), (10, .int x10), (11, .int x11)] → ∀ o, Chains_member_j78_l33 S x1 x4 x5 x7 x9 x10 x11 t0 = some o → (Sum.elim P_33 X_33) o → W p l e (RM 2 43) s m args below meth c H locs 0 0 Q (F0 m 78 ls [.long t0]) := by
              intro x5 x9 x11 t0 H locs ls hw hl o h ho
              unfold Chains_member_j78_l33 at h
              refine lv_lstore (lv' := [(12, .long t0), (0, .ref (ad 9 0)), (1, .int x1), (4, .int x4), (5, .long x5), (7, .long x7), (9, .int x9), (10, .int x10), (11, .int x11)]) F.1 F.2.1 d_Chains_member_78 hl (by decide) rfl (fun ls hl => ?_)
              refine lv_lload F.1 F.2.1 d_Chains_member_80 (lv_at hl 4 rfl) ?_
              refine lv_lload F.1 F.2.1 d_Chains_member_82 (lv_at hl 0 rfl) ?_
              refine W.lcmp F.1 F.2.1 d_Chains_member_84 ?_
              refine lv_if_ge (tgt := 95) F.1 F.2.1 d_Chains_member_85 (by decide) (fun c_9 => ?_) (fun c_9 => ?_)
              · replace h := ip c_9 h
                refine lv_lload F.1 F.2.1 d_Chains_member_95 (lv_at hl 4 rfl) ?_
                refine lv_lload F.1 F.2.1 d_Chains_member_97 (lv_at hl 0 rfl) ?_
                refine lv_lsub F.1 F.2.1 d_Chains_member_99 ?_
                obtain ⟨x5_10, ex5_10, h⟩ := nm_ex h
                refine lv_nmL ex5_10 ?_
                refine lv_lstore (lv' := [(5, .long x5_10), (12, .long t0), (0, .ref (ad 9 0)), (1, .int x1), (4, .int x4), (7, .long x7), (9, .int x9), (10, .int x10), (11, .int x11)]) F.1 F.2.1 d_Chains_member_100 hl (by decide) rfl (fun ls hl => ?_)
                exact J_102_l33 x5_10 x9 x11 H locs ls hw (lv_sub hl [2, 3, 4, 0, 5, 6, 7, 8] rfl) o h ho
              · replace h := iq c_9 h
                refine lv_iload F.1 F.2.1 d_Chains_member_88 (lv_at hl 8 rfl) ?_
                refine lv_istore (lv' := [(9, .int x11), (12, .long t0), (0, .ref (ad 9 0)), (1, .int x1), (4, .int x4), (5, .long x5), (7, .long x7), (10, .int x10), (11, .int x11)]) F.1 F.2.1 d_Chains_member_90 hl (by decide) rfl (fun ls hl => ?_)
                refine lv_goto (tgt := 102) F.1 F.2.1 d_Chains_member_92 (by decide) ?_
                exact J_102_l33 x5 x11 x11 H locs ls hw (lv_sub hl [2, 3, 4, 5, 6, 0, 7, 8] rfl) o h ho
            refine lv_iload F.1 F.2.1 d_Chains_member_33 (lv_at hl 7 rfl) ?_
            refine lv_aload_n F.1 F.2.1 d_Chains_member_35 rfl (lv_at hl 0 rfl) ?_
            refine cg_9_5 F hK hw lk_322 d_Chains_member_36 ?_
            refine lv_icmp_ge (tgt := 108) F.1 F.2.1 d_Chains_member_39 (by decide) (fun c_3 => ?_) (fun c_3 => ?_)
            · replace h := ip c_3 h
              cases h
              have ho : X_33 _ := ho
              rw [eX_33] at ho
              exact ho H locs ls hw (lv_sub hl [0, 1, 2, 3, 5, 6] rfl)
            · replace h := iq c_3 h
              refine lv_iload F.1 F.2.1 d_Chains_member_42 (lv_at hl 5 rfl) ?_
              refine lv_iconst (v := -1) F.1 F.2.1 d_Chains_member_44 (by decide) ?_
              refine lv_icmp_ne (tgt := 108) F.1 F.2.1 d_Chains_member_45 (by decide) (fun c_4 => ?_) (fun c_4 => ?_)
              · replace h := iq c_4 h
                cases h
                have ho : X_33 _ := ho
                rw [eX_33] at ho
                exact ho H locs ls hw (lv_sub hl [0, 1, 2, 3, 5, 6] rfl)
              · replace h := ip c_4 h
                refine lv_lload F.1 F.2.1 d_Chains_member_48 (lv_at hl 4 rfl) ?_
                refine lv_iload F.1 F.2.1 d_Chains_member_50 (lv_at hl 7 rfl) ?_
                refine lv_lshr F.1 F.2.1 d_Chains_member_52 rfl ?_
                refine lv_lconst (v := 1) F.1 F.2.1 d_Chains_member_53 (by decide) ?_
                refine lv_land F.1 F.2.1 d_Chains_member_54 ?_
                refine lv_lconst (v := 0) F.1 F.2.1 d_Chains_member_55 (by decide) ?_
                refine W.lcmp F.1 F.2.1 d_Chains_member_56 ?_
                refine lv_if_eq (tgt := 77) F.1 F.2.1 d_Chains_member_57 (by decide) (fun c_5 => ?_) (fun c_5 => ?_)
                · replace h := ip c_5 h
                  refine lv_lconst (v := 0) F.1 F.2.1 d_Chains_member_77 (by decide) ?_
                  exact J_78_l33 x5 x9 x11 (0 : Int64) H locs ls hw (lv_sub hl [0, 1, 2, 3, 4, 5, 6, 7] rfl) o h ho
                · replace h := iq c_5 h
                  refine lv_aload_n F.1 F.2.1 d_Chains_member_60 rfl (lv_at hl 0 rfl) ?_
                  refine cg_9_4 F hK hw lk_321 d_Chains_member_61 ?_
                  refine lv_iload_n F.1 F.2.1 d_Chains_member_64 rfl (lv_at hl 1 rfl) ?_
                  refine lv_iload F.1 F.2.1 d_Chains_member_65 (lv_at hl 6 rfl) ?_
                  refine lv_isub F.1 F.2.1 d_Chains_member_67 ?_
                  refine lv_iload F.1 F.2.1 d_Chains_member_68 (lv_at hl 7 rfl) ?_
                  obtain ⟨v_7, hc_6, h⟩ := bd_ex h
                  refine cS_i F hA rfl hK hw (c_Chains_indexOf l S hc_6) trivial rfl (good_S lk_916 lk_917 lk_9 lk_918) hd_Chains_indexOf ⟨Nat.le_of_ble_eq_true rfl, Nat.le_of_ble_eq_true rfl⟩ rfl hl.1 rfl (Nat.le_of_ble_eq_true rfl) d_Chains_member_70 ⟨(Nat.zero_le _), (Nat.zero_le _)⟩ (fun H locs hw => ?_)
                  obtain ⟨hi_8, h⟩ := gd_ex h
                  refine cl_9_4 F hK hw hi_8 d_Chains_member_73 ?_
                  refine lv_goto (tgt := 78) F.1 F.2.1 d_Chains_member_74 (by decide) ?_
                  exact J_78_l33 x5 x9 x11 (gB S 9 4 v_7.toNatClampNeg) H locs ls hw (lv_sub hl [0, 1, 2, 3, 4, 5, 6, 7] rfl) o h ho
          rw [eP_33] at hL_33
          exact hL_33 H locs ls hw (lv_sub hl [2, 3, 4, 5, 6, 1, 7, 0] rfl)
    rw [eP_14] at hL_14
    exact hL_14 H locs ls hw (lv_sub hl [4, 5, 7, 3, 2, 1, 0] rfl)
  exact key _ _ hw _ h (by rw [eX_0]; exact fun H locs pc ls hd hw => hQ H locs pc ls ad rfl hd hw)
theorem d_Chart_roomFor_0 : decode b_Chart_roomFor 0 = .ok (.bipush 64, 2) := by decide +kernel
theorem d_Chart_roomFor_2 : decode b_Chart_roomFor 2 = .ok (.istore_n 1, 1) := by decide +kernel
theorem d_Chart_roomFor_3 : decode b_Chart_roomFor 3 = .ok (.iload_n 1, 1) := by decide +kernel
theorem d_Chart_roomFor_4 : decode b_Chart_roomFor 4 = .ok (.ldc 111, 2) := by decide +kernel
theorem d_Chart_roomFor_6 : decode b_Chart_roomFor 6 = .ok (.if_icmp .ge 18, 3) := by decide +kernel
theorem d_Chart_roomFor_9 : decode b_Chart_roomFor 9 = .ok (.iload_n 1, 1) := by decide +kernel
theorem d_Chart_roomFor_10 : decode b_Chart_roomFor 10 = .ok (.iload_n 0, 1) := by decide +kernel
theorem d_Chart_roomFor_11 : decode b_Chart_roomFor 11 = .ok (.if_icmp .lt 5, 3) := by decide +kernel
theorem d_Chart_roomFor_14 : decode b_Chart_roomFor 14 = .ok (.iload_n 1, 1) := by decide +kernel
theorem d_Chart_roomFor_15 : decode b_Chart_roomFor 15 = .ok (.ireturn, 1) := by decide +kernel
theorem d_Chart_roomFor_16 : decode b_Chart_roomFor 16 = .ok (.iload_n 1, 1) := by decide +kernel
theorem d_Chart_roomFor_17 : decode b_Chart_roomFor 17 = .ok (.bipush 8, 2) := by decide +kernel
theorem d_Chart_roomFor_19 : decode b_Chart_roomFor 19 = .ok (.imul, 1) := by decide +kernel
theorem d_Chart_roomFor_20 : decode b_Chart_roomFor 20 = .ok (.istore_n 1, 1) := by decide +kernel
theorem d_Chart_roomFor_21 : decode b_Chart_roomFor 21 = .ok (.goto (-18), 3) := by decide +kernel
theorem d_Chart_roomFor_24 : decode b_Chart_roomFor 24 = .ok (.ldc 111, 2) := by decide +kernel
theorem d_Chart_roomFor_26 : decode b_Chart_roomFor 26 = .ok (.ireturn, 1) := by decide +kernel
set_option maxHeartbeats 4000000 in
set_option maxRecDepth 100000 in
theorem c_Chart_roomFor (l : Launch) (S : St) {x0 : Int32} {r : Int32} (h : f_Chart_roomFor x0 = some r) : MI cw l y_Chart_roomFor b_Chart_roomFor 2 (some .int) 0 0 0 0 (fun ad => [.int x0]) aT aE S r S := by
  refine MI_of "LawfulLots$Chart" rfl (by decide) (fun _ => Nat.le_of_ble_eq_true rfl) ?_
  intro p e s m args below meth c D ar ad A Q ls hP F hK hA hw hl hQ
  have hl : lv_has ls 2 [(0, .int x0)] := hl
  obtain ⟨X_0, eX_0⟩ : ∃ X : Int32 → Prop, X = (fun q => ∀ (H : Heap) (locs : List Loc) (pc : Nat) (ls : Array Slot), decode b_Chart_roomFor pc = .ok (.ireturn, 1) → Bw cw D ar A s.heap H locs ad S → W p l e (RM 0 0) s m args below meth c H locs 0 0 Q (F0 m pc ls [.int q])) := ⟨_, rfl⟩
  have key : ∀ (H : Heap) (locs : List Loc), Bw cw D ar A s.heap H locs ad S → ∀ o, f_Chart_roomFor x0 = some o → X_0 o → W p l e (RM 0 0) s m args below meth c H locs 0 0 Q (F0 m 0 ls []) := by
    intro H locs hw o h ho
    unfold f_Chart_roomFor at h
    refine lv_bipush (v := 64) F.1 F.2.1 d_Chart_roomFor_0 (by decide) ?_
    refine lv_istore_n (lv' := [(1, .int (64 : Int32)), (0, .int x0)]) F.1 F.2.1 d_Chart_roomFor_2 rfl hl (by decide) rfl (fun ls hl => ?_)
    obtain ⟨P_3, eP_3⟩ : ∃ P : Int32 → Prop, P = (fun q => ∀ (H : Heap) (locs : List Loc) (ls : Array Slot), Bw cw D ar A s.heap H locs ad S → lv_has ls 2 [(0, .int x0), (1, .int q)] → W p l e (RM 0 0) s m args below meth c H locs 0 0 Q (F0 m 3 ls [])) := ⟨_, rfl⟩
    have hL_3 : P_3 (64 : Int32) := by
      refine wh_gp (P := P_3) (X := X_0) h ho ?_
      clear h ho
      intro x1 o h ho
      have h : Chart_roomFor_l3 x0 x1 = some o := h
      unfold Chart_roomFor_l3 at h
      rw [eP_3]
      intro H locs ls hw hl
      refine lv_iload_n F.1 F.2.1 d_Chart_roomFor_3 rfl (lv_at hl 1 rfl) ?_
      refine lv_ldc F.1 F.2.1 F.2.2.2.1 (F.2.2.2.2 _ lk_601) d_Chart_roomFor_4 ?_
      refine lv_icmp_ge (tgt := 24) F.1 F.2.1 d_Chart_roomFor_6 (by decide) (fun c_1 => ?_) (fun c_1 => ?_)
      · replace h := ip c_1 h
        refine lv_ldc F.1 F.2.1 F.2.2.2.1 (F.2.2.2.2 _ lk_601) d_Chart_roomFor_24 ?_
        cases h
        have ho : X_0 _ := ho
        rw [eX_0] at ho
        exact ho H locs _ ls d_Chart_roomFor_26 hw
      · replace h := iq c_1 h
        refine lv_iload_n F.1 F.2.1 d_Chart_roomFor_9 rfl (lv_at hl 1 rfl) ?_
        refine lv_iload_n F.1 F.2.1 d_Chart_roomFor_10 rfl (lv_at hl 0 rfl) ?_
        refine lv_icmp_lt (tgt := 16) F.1 F.2.1 d_Chart_roomFor_11 (by decide) (fun c_2 => ?_) (fun c_2 => ?_)
        · replace h := ip c_2 h
          refine lv_iload_n F.1 F.2.1 d_Chart_roomFor_16 rfl (lv_at hl 1 rfl) ?_
          refine lv_bipush (v := 8) F.1 F.2.1 d_Chart_roomFor_17 (by decide) ?_
          refine lv_imul F.1 F.2.1 d_Chart_roomFor_19 ?_
          obtain ⟨x1_3, ex1_3, h⟩ := nm_ex h
          refine lv_nm ex1_3 ?_
          refine lv_istore_n (lv' := [(1, .int x1_3), (0, .int x0)]) F.1 F.2.1 d_Chart_roomFor_20 rfl hl (by decide) rfl (fun ls hl => ?_)
          refine lv_goto (tgt := 3) F.1 F.2.1 d_Chart_roomFor_21 (by decide) ?_
          cases h
          have ho : P_3 _ := ho
          rw [eP_3] at ho
          exact ho H locs ls hw (lv_sub hl [1, 0] rfl)
        · replace h := iq c_2 h
          refine lv_iload_n F.1 F.2.1 d_Chart_roomFor_14 rfl (lv_at hl 1 rfl) ?_
          cases h
          have ho : X_0 _ := ho
          rw [eX_0] at ho
          exact ho H locs _ ls d_Chart_roomFor_15 hw
    rw [eP_3] at hL_3
    exact hL_3 H locs ls hw (lv_sub hl [1, 0] rfl)
  exact key _ _ hw _ h (by rw [eX_0]; exact fun H locs pc ls hd hw => hQ H locs pc ls ad rfl hd hw)
theorem d_Book_spellFirst_0 : decode b_Book_spellFirst 0 = .ok (.iconst 0, 1) := by decide +kernel
theorem d_Book_spellFirst_1 : decode b_Book_spellFirst 1 = .ok (.istore_n 2, 1) := by decide +kernel
theorem d_Book_spellFirst_2 : decode b_Book_spellFirst 2 = .ok (.iload_n 2, 1) := by decide +kernel
theorem d_Book_spellFirst_3 : decode b_Book_spellFirst 3 = .ok (.aload_n 0, 1) := by decide +kernel
theorem d_Book_spellFirst_4 : decode b_Book_spellFirst 4 = .ok (.getfield 15, 3) := by decide +kernel
theorem d_Book_spellFirst_7 : decode b_Book_spellFirst 7 = .ok (.arraylength, 1) := by decide +kernel
theorem d_Book_spellFirst_8 : decode b_Book_spellFirst 8 = .ok (.if_icmp .ge 24, 3) := by decide +kernel
theorem d_Book_spellFirst_11 : decode b_Book_spellFirst 11 = .ok (.iload_n 2, 1) := by decide +kernel
theorem d_Book_spellFirst_12 : decode b_Book_spellFirst 12 = .ok (.aload_n 1, 1) := by decide +kernel
theorem d_Book_spellFirst_13 : decode b_Book_spellFirst 13 = .ok (.arraylength, 1) := by decide +kernel
theorem d_Book_spellFirst_14 : decode b_Book_spellFirst 14 = .ok (.if_icmp .ge 18, 3) := by decide +kernel
theorem d_Book_spellFirst_17 : decode b_Book_spellFirst 17 = .ok (.aload_n 1, 1) := by decide +kernel
theorem d_Book_spellFirst_18 : decode b_Book_spellFirst 18 = .ok (.iload_n 2, 1) := by decide +kernel
theorem d_Book_spellFirst_19 : decode b_Book_spellFirst 19 = .ok (.aload_n 0, 1) := by decide +kernel
theorem d_Book_spellFirst_20 : decode b_Book_spellFirst 20 = .ok (.getfield 15, 3) := by decide +kernel
theorem d_Book_spellFirst_23 : decode b_Book_spellFirst 23 = .ok (.iload_n 2, 1) := by decide +kernel
theorem d_Book_spellFirst_24 : decode b_Book_spellFirst 24 = .ok (.iaload, 1) := by decide +kernel
theorem d_Book_spellFirst_25 : decode b_Book_spellFirst 25 = .ok (.iastore, 1) := by decide +kernel
theorem d_Book_spellFirst_26 : decode b_Book_spellFirst 26 = .ok (.iinc 2 1, 3) := by decide +kernel
theorem d_Book_spellFirst_29 : decode b_Book_spellFirst 29 = .ok (.goto (-27), 3) := by decide +kernel
theorem d_Book_spellFirst_32 : decode b_Book_spellFirst 32 = .ok (.return_, 1) := by decide +kernel
set_option maxHeartbeats 4000000 in
set_option maxRecDepth 100000 in
theorem c_Book_spellFirst (l : Launch) {S : St} {S' : St} (h : f_Book_spellFirst S = some S') : MV cw l y_Book_spellFirst b_Book_spellFirst 3 none 0 0 0 0 (fun ad => [.ref (ad 5 0), .ref (ad 4 2)]) aT aE S S' := by
  refine MV_of "LawfulLots$Book" rfl (by decide) (fun _ => Nat.le_of_ble_eq_true rfl) ?_
  intro p e s m args below meth c D ar ad A Q ls hP F hK hA hw hl hQ
  have hl : lv_has ls 3 [(0, .ref (ad 5 0)), (1, .ref (ad 4 2))] := hl
  obtain ⟨X_0, eX_0⟩ : ∃ X : St → Prop, X = (fun q => ∀ (H : Heap) (locs : List Loc) (pc : Nat) (ls : Array Slot), decode b_Book_spellFirst pc = .ok (.return_, 1) → Bw cw D ar A s.heap H locs ad q → W p l e (RM 0 0) s m args below meth c H locs 0 0 Q (F0 m pc ls [])) := ⟨_, rfl⟩
  have key : ∀ (H : Heap) (locs : List Loc), Bw cw D ar A s.heap H locs ad S → ∀ o, f_Book_spellFirst S = some o → X_0 o → W p l e (RM 0 0) s m args below meth c H locs 0 0 Q (F0 m 0 ls []) := by
    intro H locs hw o h ho
    unfold f_Book_spellFirst at h
    have J_32 : ∀ (S : St) (H : Heap) (locs : List Loc) (ls : Array Slot), Bw cw D ar A s.heap H locs ad S → lv_has ls 3 [] → ∀ o, Book_spellFirst_j32 S = some o → X_0 o → W p l e (RM 0 0) s m args below meth c H locs 0 0 Q (F0 m 32 ls []) := by
      intro S H locs ls hw hl o h ho
      unfold Book_spellFirst_j32 at h
      cases h
      have ho : X_0 _ := ho
      rw [eX_0] at ho
      exact ho H locs _ ls d_Book_spellFirst_32 hw
    refine lv_iconst (v := 0) F.1 F.2.1 d_Book_spellFirst_0 (by decide) ?_
    refine lv_istore_n (lv' := [(2, .int (0 : Int32)), (0, .ref (ad 5 0)), (1, .ref (ad 4 2))]) F.1 F.2.1 d_Book_spellFirst_1 rfl hl (by decide) rfl (fun ls hl => ?_)
    obtain ⟨S_7, hc_8, h⟩ := bd_ex h
    obtain ⟨X_2, eX_2⟩ : ∃ X : St → Prop, X = (fun q => ∀ (H : Heap) (locs : List Loc) (ls : Array Slot), Bw cw D ar A s.heap H locs ad q → lv_has ls 3 [] → W p l e (RM 0 0) s m args below meth c H locs 0 0 Q (F0 m 32 ls [])) := ⟨_, rfl⟩
    have hX_2 : X_2 S_7 := by
      rw [eX_2]
      intro H locs ls hw hl
      exact J_32 S_7 H locs ls hw (lv_sub hl [] rfl) o h ho
    obtain ⟨P_2, eP_2⟩ : ∃ P : (St × Int32) → Prop, P = (fun q => ∀ (H : Heap) (locs : List Loc) (ls : Array Slot), Bw cw D ar A s.heap H locs ad q.1 → lv_has ls 3 [(0, .ref (ad 5 0)), (1, .ref (ad 4 2)), (2, .int q.2)] → W p l e (RM 0 0) s m args below meth c H locs 0 0 Q (F0 m 2 ls [])) := ⟨_, rfl⟩
    have hL_2 : P_2 (S, (0 : Int32)) := by
      refine wh_gp (P := P_2) (X := X_2) hc_8 hX_2 ?_
      clear h
      intro q o h ho
      obtain ⟨S, x2⟩ := q
      have h : Book_spellFirst_l2 S x2 = some o := h
      unfold Book_spellFirst_l2 at h
      rw [eP_2]
      intro H locs ls hw hl
      refine lv_iload_n F.1 F.2.1 d_Book_spellFirst_2 rfl (lv_at hl 2 rfl) ?_
      refine lv_aload_n F.1 F.2.1 d_Book_spellFirst_3 rfl (lv_at hl 0 rfl) ?_
      refine cg_5_1 F hK hw lk_68 d_Book_spellFirst_4 ?_
      refine cn_5_1 F hK hw d_Book_spellFirst_7 ?_
      refine lv_icmp_ge (tgt := 32) F.1 F.2.1 d_Book_spellFirst_8 (by decide) (fun c_1 => ?_) (fun c_1 => ?_)
      · replace h := ip c_1 h
        cases h
        have ho : X_2 _ := ho
        rw [eX_2] at ho
        exact ho H locs ls hw (lv_sub hl [] rfl)
      · replace h := iq c_1 h
        refine lv_iload_n F.1 F.2.1 d_Book_spellFirst_11 rfl (lv_at hl 2 rfl) ?_
        refine lv_aload_n F.1 F.2.1 d_Book_spellFirst_12 rfl (lv_at hl 1 rfl) ?_
        refine cn_4_1 F hK hw d_Book_spellFirst_13 ?_
        refine lv_icmp_ge (tgt := 32) F.1 F.2.1 d_Book_spellFirst_14 (by decide) (fun c_2 => ?_) (fun c_2 => ?_)
        · replace h := ip c_2 h
          cases h
          have ho : X_2 _ := ho
          rw [eX_2] at ho
          exact ho H locs ls hw (lv_sub hl [] rfl)
        · replace h := iq c_2 h
          refine lv_aload_n F.1 F.2.1 d_Book_spellFirst_17 rfl (lv_at hl 1 rfl) ?_
          refine lv_iload_n F.1 F.2.1 d_Book_spellFirst_18 rfl (lv_at hl 2 rfl) ?_
          refine lv_aload_n F.1 F.2.1 d_Book_spellFirst_19 rfl (lv_at hl 0 rfl) ?_
          refine cg_5_1 F hK hw lk_68 d_Book_spellFirst_20 ?_
          refine lv_iload_n F.1 F.2.1 d_Book_spellFirst_23 rfl (lv_at hl 2 rfl) ?_
          obtain ⟨hi_3, h⟩ := gd_ex h
          refine cl_5_1 F hK hw hi_3 d_Book_spellFirst_24 ?_
          obtain ⟨hi_4, h⟩ := gd_ex h
          obtain ⟨S_5, eS_5, h⟩ := nm_ex h
          refine cs_4_1 F hK hw hi_4 d_Book_spellFirst_25 eS_5 (fun H locs hw => ?_)
          obtain ⟨x2_6, ex2_6, h⟩ := nm_ex h
          refine lv_iinc (v := x2_6) (lv' := [(2, .int x2_6), (0, .ref (ad 5 0)), (1, .ref (ad 4 2))]) F.1 F.2.1 d_Book_spellFirst_26 hl (k := 2) rfl (by rw [ex2_6]; rfl) (by decide) rfl (fun ls hl => ?_)
          refine lv_goto (tgt := 2) F.1 F.2.1 d_Book_spellFirst_29 (by decide) ?_
          cases h
          have ho : P_2 _ := ho
          rw [eP_2] at ho
          exact ho H locs ls hw (lv_sub hl [1, 2, 0] rfl)
    rw [eP_2] at hL_2
    exact hL_2 H locs ls hw (lv_sub hl [1, 2, 0] rfl)
  exact key _ _ hw _ h (by rw [eX_0]; exact fun H locs pc ls hd hw => hQ H locs pc ls ad rfl hd hw)
set_option maxHeartbeats 4000000 in
set_option maxRecDepth 100000 in
theorem c_Machine_run_6_4_1_4_1 (l : Launch) {S : St} {x2 : Int32} {S' : St} {r : Int32} (h : f_Machine_run 6 4 1 4 1 S x2 = some (r, S')) : MI cw l y_Machine_run b_Machine_run 11 (some .int) 0 0 0 0 (fun ad => [.ref (ad 6 0), .ref (ad 5 0), .int x2, .ref (ad 4 2), .ref (ad 4 2)]) aT aE S r S' := by
  refine MI_of "LawfulLots$Machine" rfl (by decide) (fun _ => Nat.le_of_ble_eq_true rfl) ?_
  intro p e s m args below meth c D ar ad A Q ls hP F hK hA hw hl hQ
  have hl : lv_has ls 11 [(0, .ref (ad 6 0)), (1, .ref (ad 5 0)), (2, .int x2), (3, .ref (ad 4 2)), (4, .ref (ad 4 2))] := hl
  obtain ⟨X_0, eX_0⟩ : ∃ X : (Int32 × St) → Prop, X = (fun q => ∀ (H : Heap) (locs : List Loc) (pc : Nat) (ls : Array Slot), decode b_Machine_run pc = .ok (.ireturn, 1) → Bw cw D ar A s.heap H locs ad q.2 → W p l e (RM 0 0) s m args below meth c H locs 0 0 Q (F0 m pc ls [.int q.1])) := ⟨_, rfl⟩
  have key : ∀ (H : Heap) (locs : List Loc), Bw cw D ar A s.heap H locs ad S → ∀ o, f_Machine_run 6 4 1 4 1 S x2 = some o → X_0 o → W p l e (RM 0 0) s m args below meth c H locs 0 0 Q (F0 m 0 ls []) := by
    intro H locs hw o h ho
    unfold f_Machine_run at h
    have J_512 : ∀ (S : St) (x8 : Int32) (H : Heap) (locs : List Loc) (ls : Array Slot), Bw cw D ar A s.heap H locs ad S → lv_has ls 11 [(8, .int x8)] → ∀ o, Machine_run_j512 6 4 1 4 1 S x8 = some o → X_0 o → W p l e (RM 0 0) s m args below meth c H locs 0 0 Q (F0 m 512 ls []) := by
      intro S x8 H locs ls hw hl o h ho
      unfold Machine_run_j512 at h
      refine lv_iload F.1 F.2.1 d_Machine_run_512 (lv_at hl 0 rfl) ?_
      cases h
      have ho : X_0 _ := ho
      rw [eX_0] at ho
      exact ho H locs _ ls d_Machine_run_514 hw
    have J_25 : ∀ (S : St) (H : Heap) (locs : List Loc) (ls : Array Slot), Bw cw D ar A s.heap H locs ad S → lv_has ls 11 [] → ∀ o, Machine_run_j25 6 4 1 4 1 S = some o → X_0 o → W p l e (RM 0 0) s m args below meth c H locs 0 0 Q (F0 m 25 ls []) := by
      intro S H locs ls hw hl o h ho
      unfold Machine_run_j25 at h
      refine lv_iconst (v := 0) F.1 F.2.1 d_Machine_run_25 (by decide) ?_
      cases h
      have ho : X_0 _ := ho
      rw [eX_0] at ho
      exact ho H locs _ ls d_Machine_run_26 hw
    refine lv_iload_n F.1 F.2.1 d_Machine_run_0 rfl (lv_at hl 2 rfl) ?_
    refine lv_if_lt (tgt := 25) F.1 F.2.1 d_Machine_run_1 (by decide) (fun c_1 => ?_) (fun c_1 => ?_)
    · replace h := ip c_1 h
      exact J_25 S H locs ls hw (lv_sub hl [] rfl) o h ho
    · replace h := iq c_1 h
      refine lv_iload_n F.1 F.2.1 d_Machine_run_4 rfl (lv_at hl 2 rfl) ?_
      refine lv_bipush (v := 48) F.1 F.2.1 d_Machine_run_5 (by decide) ?_
      refine lv_icmp_ge (tgt := 25) F.1 F.2.1 d_Machine_run_7 (by decide) (fun c_2 => ?_) (fun c_2 => ?_)
      · replace h := ip c_2 h
        exact J_25 S H locs ls hw (lv_sub hl [] rfl) o h ho
      · replace h := iq c_2 h
        refine lv_aload_n F.1 F.2.1 d_Machine_run_10 rfl (lv_at hl 3 rfl) ?_
        refine cn_4_1 F hK hw d_Machine_run_11 ?_
        refine lv_bipush (v := 8) F.1 F.2.1 d_Machine_run_12 (by decide) ?_
        refine lv_icmp_ne (tgt := 25) F.1 F.2.1 d_Machine_run_14 (by decide) (fun c_3 => ?_) (fun c_3 => ?_)
        · replace h := iq c_3 h
          exact J_25 S H locs ls hw (lv_sub hl [] rfl) o h ho
        · replace h := ip c_3 h
          refine lv_aload F.1 F.2.1 d_Machine_run_17 (lv_at hl 4 rfl) ?_
          refine cn_4_1 F hK hw d_Machine_run_19 ?_
          refine lv_bipush (v := 8) F.1 F.2.1 d_Machine_run_20 (by decide) ?_
          refine lv_icmp_eq (tgt := 27) F.1 F.2.1 d_Machine_run_22 (by decide) (fun c_4 => ?_) (fun c_4 => ?_)
          · replace h := ip c_4 h
            refine lv_aload_n F.1 F.2.1 d_Machine_run_27 rfl (lv_at hl 1 rfl) ?_
            refine cg_5_6 F hK hw lk_75 d_Machine_run_28 ?_
            refine lv_astore (lv' := [(5, .ref (ad 5 7)), (0, .ref (ad 6 0)), (1, .ref (ad 5 0)), (2, .int x2), (3, .ref (ad 4 2)), (4, .ref (ad 4 2))]) F.1 F.2.1 d_Machine_run_31 hl (by decide) rfl (fun ls hl => ?_)
            refine lv_aload_n F.1 F.2.1 d_Machine_run_33 rfl (lv_at hl 2 rfl) ?_
            refine cg_5_8 F hK hw lk_79 d_Machine_run_34 ?_
            refine lv_iload_n F.1 F.2.1 d_Machine_run_37 rfl (lv_at hl 3 rfl) ?_
            obtain ⟨hi_5, h⟩ := gd_ex h
            refine cl_5_8 F hK hw hi_5 d_Machine_run_38 ?_
            obtain ⟨x6_6, ex6_6, h⟩ := nm_ex h
            refine lv_nm ex6_6 ?_
            refine lv_istore (lv' := [(6, .int x6_6), (5, .ref (ad 5 7)), (0, .ref (ad 6 0)), (1, .ref (ad 5 0)), (2, .int x2), (3, .ref (ad 4 2)), (4, .ref (ad 4 2))]) F.1 F.2.1 d_Machine_run_39 hl (by decide) rfl (fun ls hl => ?_)
            refine lv_iconst (v := 0) F.1 F.2.1 d_Machine_run_41 (by decide) ?_
            refine lv_istore (lv' := [(7, .int (0 : Int32)), (6, .int x6_6), (5, .ref (ad 5 7)), (0, .ref (ad 6 0)), (1, .ref (ad 5 0)), (2, .int x2), (3, .ref (ad 4 2)), (4, .ref (ad 4 2))]) F.1 F.2.1 d_Machine_run_42 hl (by decide) rfl (fun ls hl => ?_)
            refine lv_iconst (v := 0) F.1 F.2.1 d_Machine_run_44 (by decide) ?_
            refine lv_istore (lv' := [(8, .int (0 : Int32)), (7, .int (0 : Int32)), (6, .int x6_6), (5, .ref (ad 5 7)), (0, .ref (ad 6 0)), (1, .ref (ad 5 0)), (2, .int x2), (3, .ref (ad 4 2)), (4, .ref (ad 4 2))]) F.1 F.2.1 d_Machine_run_45 hl (by decide) rfl (fun ls hl => ?_)
            refine lv_aload_n F.1 F.2.1 d_Machine_run_47 rfl (lv_at hl 5 rfl) ?_
            refine cg_5_7 F hK hw lk_77 d_Machine_run_48 ?_
            refine lv_iload_n F.1 F.2.1 d_Machine_run_51 rfl (lv_at hl 6 rfl) ?_
            obtain ⟨hi_7, h⟩ := gd_ex h
            refine cl_5_7 F hK hw hi_7 d_Machine_run_52 ?_
            obtain ⟨x9_8, ex9_8, h⟩ := nm_ex h
            refine lv_nm ex9_8 ?_
            refine lv_istore (lv' := [(9, .int x9_8), (8, .int (0 : Int32)), (7, .int (0 : Int32)), (6, .int x6_6), (5, .ref (ad 5 7)), (0, .ref (ad 6 0)), (1, .ref (ad 5 0)), (2, .int x2), (3, .ref (ad 4 2)), (4, .ref (ad 4 2))]) F.1 F.2.1 d_Machine_run_53 hl (by decide) rfl (fun ls hl => ?_)
            obtain ⟨S_83, x8_84, hc_85, h⟩ := bd2_ex h
            obtain ⟨X_55, eX_55⟩ : ∃ X : (St × Int32) → Prop, X = (fun q => ∀ (H : Heap) (locs : List Loc) (ls : Array Slot), Bw cw D ar A s.heap H locs ad q.1 → lv_has ls 11 [(8, .int q.2)] → W p l e (RM 0 0) s m args below meth c H locs 0 0 Q (F0 m 512 ls [])) := ⟨_, rfl⟩
            have hX_55 : X_55 (S_83, x8_84) := by
              rw [eX_55]
              intro H locs ls hw hl
              exact J_512 S_83 x8_84 H locs ls hw (lv_sub hl [0] rfl) o h ho
            obtain ⟨P_55, eP_55⟩ : ∃ P : (St × Int32 × Int32 × Int32) → Prop, P = (fun q => ∀ (H : Heap) (locs : List Loc) (ls : Array Slot), Bw cw D ar A s.heap H locs ad q.1 → lv_has ls 11 [(0, .ref (ad 6 0)), (3, .ref (ad 4 2)), (4, .ref (ad 4 2)), (5, .ref (ad 5 7)), (6, .int x6_6), (7, .int q.2.1), (8, .int q.2.2.1), (9, .int q.2.2.2)] → W p l e (RM 0 0) s m args below meth c H locs 0 0 Q (F0 m 55 ls [])) := ⟨_, rfl⟩
            have hL_55 : P_55 (S, (0 : Int32), (0 : Int32), x9_8) := by
              refine wh_gp (P := P_55) (X := X_55) hc_85 hX_55 ?_
              clear h
              intro q o h ho
              obtain ⟨S, x7, x8, x9⟩ := q
              have h : Machine_run_l55 6 4 1 4 1 x6_6 S x7 x8 x9 = some o := h
              unfold Machine_run_l55 at h
              rw [eP_55]
              intro H locs ls hw hl
              have J_506_l55 : ∀ (S : St) (x7 : Int32) (x8 : Int32) (x9 : Int32) (H : Heap) (locs : List Loc) (ls : Array Slot), Bw cw D ar A s.heap H locs ad S → lv_has ls 11 [(0, .ref (ad 6 0)), (3, .ref (ad 4 2)), (4, .ref (ad 4 2)), (5, .ref (ad 5 7)), (6, .int x6_6), (7, .int x7), (8, .int x8), (9, .int x9)] → ∀ o, Machine_run_j506_l55 6 4 1 4 1 S x6_6 x7 x8 x9 = some o → (Sum.elim P_55 X_55) o → W p l e (RM 0 0) s m args below meth c H locs 0 0 Q (F0 m 506 ls []) := by
                intro S x7 x8 x9 H locs ls hw hl o h ho
                unfold Machine_run_j506_l55 at h
                obtain ⟨x9_82, ex9_82, h⟩ := nm_ex h
                refine lv_iinc (v := x9_82) (lv' := [(9, .int x9_82), (0, .ref (ad 6 0)), (3, .ref (ad 4 2)), (4, .ref (ad 4 2)), (5, .ref (ad 5 7)), (6, .int x6_6), (7, .int x7), (8, .int x8)]) F.1 F.2.1 d_Machine_run_506 hl (k := 7) rfl (by rw [ex9_82]; rfl) (by decide) rfl (fun ls hl => ?_)
                refine lv_goto (tgt := 55) F.1 F.2.1 d_Machine_run_509 (by decide) ?_
                cases h
                have ho : P_55 _ := ho
                rw [eP_55] at ho
                exact ho H locs ls hw (lv_sub hl [1, 2, 3, 4, 5, 6, 7, 0] rfl)
              have J_500_l55 : ∀ (S : St) (x7 : Int32) (x8 : Int32) (x9 : Int32) (H : Heap) (locs : List Loc) (ls : Array Slot), Bw cw D ar A s.heap H locs ad S → lv_has ls 11 [(0, .ref (ad 6 0)), (3, .ref (ad 4 2)), (4, .ref (ad 4 2)), (5, .ref (ad 5 7)), (6, .int x6_6), (7, .int x7), (8, .int x8), (9, .int x9)] → ∀ o, Machine_run_j500_l55 6 4 1 4 1 S x6_6 x7 x8 x9 = some o → (Sum.elim P_55 X_55) o → W p l e (RM 0 0) s m args below meth c H locs 0 0 Q (F0 m 500 ls []) := by
                intro S x7 x8 x9 H locs ls hw hl o h ho
                unfold Machine_run_j500_l55 at h
                refine lv_iconst (v := 1) F.1 F.2.1 d_Machine_run_500 (by decide) ?_
                refine lv_iload F.1 F.2.1 d_Machine_run_501 (lv_at hl 6 rfl) ?_
                refine lv_isub F.1 F.2.1 d_Machine_run_503 ?_
                obtain ⟨x8_81, ex8_81, h⟩ := nm_ex h
                refine lv_nm ex8_81 ?_
                refine lv_istore (lv' := [(8, .int x8_81), (0, .ref (ad 6 0)), (3, .ref (ad 4 2)), (4, .ref (ad 4 2)), (5, .ref (ad 5 7)), (6, .int x6_6), (7, .int x7), (9, .int x9)]) F.1 F.2.1 d_Machine_run_504 hl (by decide) rfl (fun ls hl => ?_)
                exact J_506_l55 S x7 x8_81 x9 H locs ls hw (lv_sub hl [1, 2, 3, 4, 5, 6, 0, 7] rfl) o h ho
              have J_453_l55 : ∀ (S : St) (x7 : Int32) (x9 : Int32) (t0 : Int32) (H : Heap) (locs : List Loc) (ls : Array Slot), Bw cw D ar A s.heap H locs ad S → lv_has ls 11 [(0, .ref (ad 6 0)), (3, .ref (ad 4 2)), (4, .ref (ad 4 2)), (5, .ref (ad 5 7)), (6, .int x6_6), (7, .int x7), (9, .int x9)] → ∀ o, Machine_run_j453_l55 6 4 1 4 1 S x6_6 x7 x9 t0 = some o → (Sum.elim P_55 X_55) o → W p l e (RM 0 0) s m args below meth c H locs 0 0 Q (F0 m 453 ls [.int t0]) := by
                intro S x7 x9 t0 H locs ls hw hl o h ho
                unfold Machine_run_j453_l55 at h
                refine lv_istore (lv' := [(8, .int t0), (0, .ref (ad 6 0)), (3, .ref (ad 4 2)), (4, .ref (ad 4 2)), (5, .ref (ad 5 7)), (6, .int x6_6), (7, .int x7), (9, .int x9)]) F.1 F.2.1 d_Machine_run_453 hl (by decide) rfl (fun ls hl => ?_)
                refine lv_goto (tgt := 506) F.1 F.2.1 d_Machine_run_455 (by decide) ?_
                exact J_506_l55 S x7 t0 x9 H locs ls hw (lv_sub hl [1, 2, 3, 4, 5, 6, 0, 7] rfl) o h ho
              have J_425_l55 : ∀ (S : St) (x7 : Int32) (x9 : Int32) (t0 : Int32) (H : Heap) (locs : List Loc) (ls : Array Slot), Bw cw D ar A s.heap H locs ad S → lv_has ls 11 [(0, .ref (ad 6 0)), (3, .ref (ad 4 2)), (4, .ref (ad 4 2)), (5, .ref (ad 5 7)), (6, .int x6_6), (7, .int x7), (9, .int x9)] → ∀ o, Machine_run_j425_l55 6 4 1 4 1 S x6_6 x7 x9 t0 = some o → (Sum.elim P_55 X_55) o → W p l e (RM 0 0) s m args below meth c H locs 0 0 Q (F0 m 425 ls [.int t0]) := by
                intro S x7 x9 t0 H locs ls hw hl o h ho
                unfold Machine_run_j425_l55 at h
                refine lv_istore (lv' := [(8, .int t0), (0, .ref (ad 6 0)), (3, .ref (ad 4 2)), (4, .ref (ad 4 2)), (5, .ref (ad 5 7)), (6, .int x6_6), (7, .int x7), (9, .int x9)]) F.1 F.2.1 d_Machine_run_425 hl (by decide) rfl (fun ls hl => ?_)
                refine lv_goto (tgt := 506) F.1 F.2.1 d_Machine_run_427 (by decide) ?_
                exact J_506_l55 S x7 t0 x9 H locs ls hw (lv_sub hl [1, 2, 3, 4, 5, 6, 0, 7] rfl) o h ho
              have J_397_l55 : ∀ (S : St) (x7 : Int32) (x9 : Int32) (t0 : Int32) (H : Heap) (locs : List Loc) (ls : Array Slot), Bw cw D ar A s.heap H locs ad S → lv_has ls 11 [(0, .ref (ad 6 0)), (3, .ref (ad 4 2)), (4, .ref (ad 4 2)), (5, .ref (ad 5 7)), (6, .int x6_6), (7, .int x7), (9, .int x9)] → ∀ o, Machine_run_j397_l55 6 4 1 4 1 S x6_6 x7 x9 t0 = some o → (Sum.elim P_55 X_55) o → W p l e (RM 0 0) s m args below meth c H locs 0 0 Q (F0 m 397 ls [.int t0]) := by
                intro S x7 x9 t0 H locs ls hw hl o h ho
                unfold Machine_run_j397_l55 at h
                refine lv_istore (lv' := [(8, .int t0), (0, .ref (ad 6 0)), (3, .ref (ad 4 2)), (4, .ref (ad 4 2)), (5, .ref (ad 5 7)), (6, .int x6_6), (7, .int x7), (9, .int x9)]) F.1 F.2.1 d_Machine_run_397 hl (by decide) rfl (fun ls hl => ?_)
                refine lv_goto (tgt := 506) F.1 F.2.1 d_Machine_run_399 (by decide) ?_
                exact J_506_l55 S x7 t0 x9 H locs ls hw (lv_sub hl [1, 2, 3, 4, 5, 6, 0, 7] rfl) o h ho
              have J_369_l55 : ∀ (S : St) (x7 : Int32) (x9 : Int32) (t0 : Int32) (H : Heap) (locs : List Loc) (ls : Array Slot), Bw cw D ar A s.heap H locs ad S → lv_has ls 11 [(0, .ref (ad 6 0)), (3, .ref (ad 4 2)), (4, .ref (ad 4 2)), (5, .ref (ad 5 7)), (6, .int x6_6), (7, .int x7), (9, .int x9)] → ∀ o, Machine_run_j369_l55 6 4 1 4 1 S x6_6 x7 x9 t0 = some o → (Sum.elim P_55 X_55) o → W p l e (RM 0 0) s m args below meth c H locs 0 0 Q (F0 m 369 ls [.int t0]) := by
                intro S x7 x9 t0 H locs ls hw hl o h ho
                unfold Machine_run_j369_l55 at h
                refine lv_istore (lv' := [(8, .int t0), (0, .ref (ad 6 0)), (3, .ref (ad 4 2)), (4, .ref (ad 4 2)), (5, .ref (ad 5 7)), (6, .int x6_6), (7, .int x7), (9, .int x9)]) F.1 F.2.1 d_Machine_run_369 hl (by decide) rfl (fun ls hl => ?_)
                refine lv_goto (tgt := 506) F.1 F.2.1 d_Machine_run_371 (by decide) ?_
                exact J_506_l55 S x7 t0 x9 H locs ls hw (lv_sub hl [1, 2, 3, 4, 5, 6, 0, 7] rfl) o h ho
              refine lv_iload F.1 F.2.1 d_Machine_run_55 (lv_at hl 7 rfl) ?_
              refine lv_if_lt (tgt := 512) F.1 F.2.1 d_Machine_run_57 (by decide) (fun c_9 => ?_) (fun c_9 => ?_)
              · replace h := ip c_9 h
                cases h
                have ho : X_55 _ := ho
                rw [eX_55] at ho
                exact ho H locs ls hw (lv_sub hl [6] rfl)
              · replace h := iq c_9 h
                refine lv_iload F.1 F.2.1 d_Machine_run_60 (lv_at hl 7 rfl) ?_
                refine lv_iload F.1 F.2.1 d_Machine_run_62 (lv_at hl 4 rfl) ?_
                refine lv_icmp_ge (tgt := 512) F.1 F.2.1 d_Machine_run_64 (by decide) (fun c_10 => ?_) (fun c_10 => ?_)
                · replace h := ip c_10 h
                  cases h
                  have ho : X_55 _ := ho
                  rw [eX_55] at ho
                  exact ho H locs ls hw (lv_sub hl [6] rfl)
                · replace h := iq c_10 h
                  refine lv_iload F.1 F.2.1 d_Machine_run_67 (lv_at hl 7 rfl) ?_
                  refine lv_aload F.1 F.2.1 d_Machine_run_69 (lv_at hl 3 rfl) ?_
                  refine cn_5_6 F hK hw d_Machine_run_71 ?_
                  refine lv_icmp_ge (tgt := 512) F.1 F.2.1 d_Machine_run_72 (by decide) (fun c_11 => ?_) (fun c_11 => ?_)
                  · replace h := ip c_11 h
                    cases h
                    have ho : X_55 _ := ho
                    rw [eX_55] at ho
                    exact ho H locs ls hw (lv_sub hl [6] rfl)
                  · replace h := iq c_11 h
                    refine lv_aload F.1 F.2.1 d_Machine_run_75 (lv_at hl 3 rfl) ?_
                    refine lv_iload F.1 F.2.1 d_Machine_run_77 (lv_at hl 7 rfl) ?_
                    obtain ⟨hi_12, h⟩ := gd_ex h
                    refine cl_5_6 F hK hw hi_12 d_Machine_run_79 ?_
                    obtain ⟨x10_13, ex10_13, h⟩ := nm_ex h
                    refine lv_nm ex10_13 ?_
                    refine lv_istore (lv' := [(10, .int x10_13), (0, .ref (ad 6 0)), (3, .ref (ad 4 2)), (4, .ref (ad 4 2)), (5, .ref (ad 5 7)), (6, .int x6_6), (7, .int x7), (8, .int x8), (9, .int x9)]) F.1 F.2.1 d_Machine_run_80 hl (by decide) rfl (fun ls hl => ?_)
                    refine lv_iload F.1 F.2.1 d_Machine_run_82 (lv_at hl 0 rfl) ?_
                    refine lv_bipush (v := 31) F.1 F.2.1 d_Machine_run_84 (by decide) ?_
                    refine lv_iand F.1 F.2.1 d_Machine_run_86 ?_
                    obtain ⟨v_14, ev_14, h⟩ := nm_ex h
                    refine lv_nm ev_14 ?_
                    rcases Decidable.em (v_14 = (2 : Int32)) with c_15 | c_15
                    · replace h := ip c_15 h
                      refine lv_tableIn (off := 137) (tgt := 224) F.1 F.2.1 d_Machine_run_87 (by rw [c_15]; decide) (by rw [c_15]; decide) (by rw [c_15]; decide) (by decide) ?_
                      refine lv_aload_n F.1 F.2.1 d_Machine_run_224 rfl (lv_at hl 1 rfl) ?_
                      refine cg_6_0 F hK hw lk_185 d_Machine_run_225 ?_
                      refine lv_iload F.1 F.2.1 d_Machine_run_228 (lv_at hl 6 rfl) ?_
                      obtain ⟨x7_16, ex7_16, h⟩ := nm_ex h
                      refine lv_iinc (v := x7_16) (lv' := [(7, .int x7_16), (10, .int x10_13), (0, .ref (ad 6 0)), (3, .ref (ad 4 2)), (4, .ref (ad 4 2)), (5, .ref (ad 5 7)), (6, .int x6_6), (8, .int x8), (9, .int x9)]) F.1 F.2.1 d_Machine_run_230 hl (k := 6) rfl (by rw [ex7_16]; rfl) (by decide) rfl (fun ls hl => ?_)
                      refine lv_bipush (v := 63) F.1 F.2.1 d_Machine_run_233 (by decide) ?_
                      refine lv_iand F.1 F.2.1 d_Machine_run_235 ?_
                      refine lv_iload F.1 F.2.1 d_Machine_run_236 (lv_at hl 7 rfl) ?_
                      obtain ⟨hi_17, h⟩ := gd_ex h
                      obtain ⟨S_18, eS_18, h⟩ := nm_ex h
                      refine cs_6_0 F hK hw hi_17 d_Machine_run_238 eS_18 (fun H locs hw => ?_)
                      refine lv_aload_n F.1 F.2.1 d_Machine_run_239 rfl (lv_at hl 3 rfl) ?_
                      refine lv_iload F.1 F.2.1 d_Machine_run_240 (lv_at hl 1 rfl) ?_
                      refine lv_iconst (v := 5) F.1 F.2.1 d_Machine_run_242 (by decide) ?_
                      refine lv_ishr F.1 F.2.1 d_Machine_run_243 ?_
                      refine lv_bipush (v := 7) F.1 F.2.1 d_Machine_run_244 (by decide) ?_
                      refine lv_iand F.1 F.2.1 d_Machine_run_246 ?_
                      obtain ⟨hi_19, h⟩ := gd_ex h
                      refine cl_4_1 F hK hw hi_19 d_Machine_run_247 ?_
                      obtain ⟨x8_20, ex8_20, h⟩ := nm_ex h
                      refine lv_nm ex8_20 ?_
                      refine lv_istore (lv' := [(8, .int x8_20), (7, .int x7_16), (10, .int x10_13), (0, .ref (ad 6 0)), (3, .ref (ad 4 2)), (4, .ref (ad 4 2)), (5, .ref (ad 5 7)), (6, .int x6_6), (9, .int x9)]) F.1 F.2.1 d_Machine_run_248 hl (by decide) rfl (fun ls hl => ?_)
                      refine lv_goto (tgt := 506) F.1 F.2.1 d_Machine_run_250 (by decide) ?_
                      exact J_506_l55 S_18 x7_16 x8_20 x9 H locs ls hw (lv_sub hl [3, 4, 5, 6, 7, 1, 0, 8] rfl) o h ho
                    replace h := iq c_15 h
                    rcases Decidable.em (v_14 = (3 : Int32)) with c_21 | c_21
                    · replace h := ip c_21 h
                      refine lv_tableIn (off := 113) (tgt := 200) F.1 F.2.1 d_Machine_run_87 (by rw [c_21]; decide) (by rw [c_21]; decide) (by rw [c_21]; decide) (by decide) ?_
                      refine lv_aload_n F.1 F.2.1 d_Machine_run_200 rfl (lv_at hl 1 rfl) ?_
                      refine cg_6_0 F hK hw lk_185 d_Machine_run_201 ?_
                      refine lv_iload F.1 F.2.1 d_Machine_run_204 (lv_at hl 6 rfl) ?_
                      obtain ⟨x7_22, ex7_22, h⟩ := nm_ex h
                      refine lv_iinc (v := x7_22) (lv' := [(7, .int x7_22), (10, .int x10_13), (0, .ref (ad 6 0)), (3, .ref (ad 4 2)), (4, .ref (ad 4 2)), (5, .ref (ad 5 7)), (6, .int x6_6), (8, .int x8), (9, .int x9)]) F.1 F.2.1 d_Machine_run_206 hl (k := 6) rfl (by rw [ex7_22]; rfl) (by decide) rfl (fun ls hl => ?_)
                      refine lv_bipush (v := 63) F.1 F.2.1 d_Machine_run_209 (by decide) ?_
                      refine lv_iand F.1 F.2.1 d_Machine_run_211 ?_
                      refine lv_iload F.1 F.2.1 d_Machine_run_212 (lv_at hl 7 rfl) ?_
                      obtain ⟨hi_23, h⟩ := gd_ex h
                      obtain ⟨S_24, eS_24, h⟩ := nm_ex h
                      refine cs_6_0 F hK hw hi_23 d_Machine_run_214 eS_24 (fun H locs hw => ?_)
                      refine lv_iload F.1 F.2.1 d_Machine_run_215 (lv_at hl 1 rfl) ?_
                      refine lv_iconst (v := 5) F.1 F.2.1 d_Machine_run_217 (by decide) ?_
                      refine lv_ishr F.1 F.2.1 d_Machine_run_218 ?_
                      obtain ⟨x8_25, ex8_25, h⟩ := nm_ex h
                      refine lv_nm ex8_25 ?_
                      refine lv_istore (lv' := [(8, .int x8_25), (7, .int x7_22), (10, .int x10_13), (0, .ref (ad 6 0)), (3, .ref (ad 4 2)), (4, .ref (ad 4 2)), (5, .ref (ad 5 7)), (6, .int x6_6), (9, .int x9)]) F.1 F.2.1 d_Machine_run_219 hl (by decide) rfl (fun ls hl => ?_)
                      refine lv_goto (tgt := 506) F.1 F.2.1 d_Machine_run_221 (by decide) ?_
                      exact J_506_l55 S_24 x7_22 x8_25 x9 H locs ls hw (lv_sub hl [3, 4, 5, 6, 7, 1, 0, 8] rfl) o h ho
                    replace h := iq c_21 h
                    rcases Decidable.em (v_14 = (4 : Int32)) with c_26 | c_26
                    · replace h := ip c_26 h
                      refine lv_tableIn (off := 413) (tgt := 500) F.1 F.2.1 d_Machine_run_87 (by rw [c_26]; decide) (by rw [c_26]; decide) (by rw [c_26]; decide) (by decide) ?_
                      exact J_500_l55 S x7 x8 x9 H locs ls hw (lv_sub hl [1, 2, 3, 4, 5, 6, 7, 8] rfl) o h ho
                    replace h := iq c_26 h
                    rcases Decidable.em (v_14 = (5 : Int32)) with c_27 | c_27
                    · replace h := ip c_27 h
                      refine lv_tableIn (off := 196) (tgt := 283) F.1 F.2.1 d_Machine_run_87 (by rw [c_27]; decide) (by rw [c_27]; decide) (by rw [c_27]; decide) (by decide) ?_
                      refine lv_aload_n F.1 F.2.1 d_Machine_run_283 rfl (lv_at hl 1 rfl) ?_
                      refine cg_6_0 F hK hw lk_185 d_Machine_run_284 ?_
                      obtain ⟨x7_28, ex7_28, h⟩ := nm_ex h
                      refine lv_iinc (v := x7_28) (lv' := [(7, .int x7_28), (10, .int x10_13), (0, .ref (ad 6 0)), (3, .ref (ad 4 2)), (4, .ref (ad 4 2)), (5, .ref (ad 5 7)), (6, .int x6_6), (8, .int x8), (9, .int x9)]) F.1 F.2.1 d_Machine_run_287 hl (k := 6) rfl (by rw [ex7_28]; rfl) (by decide) rfl (fun ls hl => ?_)
                      refine lv_iload F.1 F.2.1 d_Machine_run_290 (lv_at hl 0 rfl) ?_
                      refine lv_bipush (v := 63) F.1 F.2.1 d_Machine_run_292 (by decide) ?_
                      refine lv_iand F.1 F.2.1 d_Machine_run_294 ?_
                      obtain ⟨hi_29, h⟩ := gd_ex h
                      refine cl_6_0 F hK hw hi_29 d_Machine_run_295 ?_
                      refine lv_iload F.1 F.2.1 d_Machine_run_296 (lv_at hl 7 rfl) ?_
                      refine lv_iadd F.1 F.2.1 d_Machine_run_298 ?_
                      obtain ⟨x8_30, ex8_30, h⟩ := nm_ex h
                      refine lv_nm ex8_30 ?_
                      refine lv_istore (lv' := [(8, .int x8_30), (7, .int x7_28), (10, .int x10_13), (0, .ref (ad 6 0)), (3, .ref (ad 4 2)), (4, .ref (ad 4 2)), (5, .ref (ad 5 7)), (6, .int x6_6), (9, .int x9)]) F.1 F.2.1 d_Machine_run_299 hl (by decide) rfl (fun ls hl => ?_)
                      refine lv_goto (tgt := 506) F.1 F.2.1 d_Machine_run_301 (by decide) ?_
                      exact J_506_l55 S x7_28 x8_30 x9 H locs ls hw (lv_sub hl [3, 4, 5, 6, 7, 1, 0, 8] rfl) o h ho
                    replace h := iq c_27 h
                    rcases Decidable.em (v_14 = (6 : Int32)) with c_31 | c_31
                    · replace h := ip c_31 h
                      refine lv_tableIn (off := 217) (tgt := 304) F.1 F.2.1 d_Machine_run_87 (by rw [c_31]; decide) (by rw [c_31]; decide) (by rw [c_31]; decide) (by decide) ?_
                      refine lv_aload_n F.1 F.2.1 d_Machine_run_304 rfl (lv_at hl 1 rfl) ?_
                      refine cg_6_0 F hK hw lk_185 d_Machine_run_305 ?_
                      obtain ⟨x7_32, ex7_32, h⟩ := nm_ex h
                      refine lv_iinc (v := x7_32) (lv' := [(7, .int x7_32), (10, .int x10_13), (0, .ref (ad 6 0)), (3, .ref (ad 4 2)), (4, .ref (ad 4 2)), (5, .ref (ad 5 7)), (6, .int x6_6), (8, .int x8), (9, .int x9)]) F.1 F.2.1 d_Machine_run_308 hl (k := 6) rfl (by rw [ex7_32]; rfl) (by decide) rfl (fun ls hl => ?_)
                      refine lv_iload F.1 F.2.1 d_Machine_run_311 (lv_at hl 0 rfl) ?_
                      refine lv_bipush (v := 63) F.1 F.2.1 d_Machine_run_313 (by decide) ?_
                      refine lv_iand F.1 F.2.1 d_Machine_run_315 ?_
                      obtain ⟨hi_33, h⟩ := gd_ex h
                      refine cl_6_0 F hK hw hi_33 d_Machine_run_316 ?_
                      refine lv_iload F.1 F.2.1 d_Machine_run_317 (lv_at hl 7 rfl) ?_
                      refine lv_isub F.1 F.2.1 d_Machine_run_319 ?_
                      obtain ⟨x8_34, ex8_34, h⟩ := nm_ex h
                      refine lv_nm ex8_34 ?_
                      refine lv_istore (lv' := [(8, .int x8_34), (7, .int x7_32), (10, .int x10_13), (0, .ref (ad 6 0)), (3, .ref (ad 4 2)), (4, .ref (ad 4 2)), (5, .ref (ad 5 7)), (6, .int x6_6), (9, .int x9)]) F.1 F.2.1 d_Machine_run_320 hl (by decide) rfl (fun ls hl => ?_)
                      refine lv_goto (tgt := 506) F.1 F.2.1 d_Machine_run_322 (by decide) ?_
                      exact J_506_l55 S x7_32 x8_34 x9 H locs ls hw (lv_sub hl [3, 4, 5, 6, 7, 1, 0, 8] rfl) o h ho
                    replace h := iq c_31 h
                    rcases Decidable.em (v_14 = (7 : Int32)) with c_35 | c_35
                    · replace h := ip c_35 h
                      refine lv_tableIn (off := 238) (tgt := 325) F.1 F.2.1 d_Machine_run_87 (by rw [c_35]; decide) (by rw [c_35]; decide) (by rw [c_35]; decide) (by decide) ?_
                      refine lv_aload_n F.1 F.2.1 d_Machine_run_325 rfl (lv_at hl 1 rfl) ?_
                      refine cg_6_0 F hK hw lk_185 d_Machine_run_326 ?_
                      obtain ⟨x7_36, ex7_36, h⟩ := nm_ex h
                      refine lv_iinc (v := x7_36) (lv' := [(7, .int x7_36), (10, .int x10_13), (0, .ref (ad 6 0)), (3, .ref (ad 4 2)), (4, .ref (ad 4 2)), (5, .ref (ad 5 7)), (6, .int x6_6), (8, .int x8), (9, .int x9)]) F.1 F.2.1 d_Machine_run_329 hl (k := 6) rfl (by rw [ex7_36]; rfl) (by decide) rfl (fun ls hl => ?_)
                      refine lv_iload F.1 F.2.1 d_Machine_run_332 (lv_at hl 0 rfl) ?_
                      refine lv_bipush (v := 63) F.1 F.2.1 d_Machine_run_334 (by decide) ?_
                      refine lv_iand F.1 F.2.1 d_Machine_run_336 ?_
                      obtain ⟨hi_37, h⟩ := gd_ex h
                      refine cl_6_0 F hK hw hi_37 d_Machine_run_337 ?_
                      refine lv_iload F.1 F.2.1 d_Machine_run_338 (lv_at hl 7 rfl) ?_
                      refine lv_imul F.1 F.2.1 d_Machine_run_340 ?_
                      obtain ⟨x8_38, ex8_38, h⟩ := nm_ex h
                      refine lv_nm ex8_38 ?_
                      refine lv_istore (lv' := [(8, .int x8_38), (7, .int x7_36), (10, .int x10_13), (0, .ref (ad 6 0)), (3, .ref (ad 4 2)), (4, .ref (ad 4 2)), (5, .ref (ad 5 7)), (6, .int x6_6), (9, .int x9)]) F.1 F.2.1 d_Machine_run_341 hl (by decide) rfl (fun ls hl => ?_)
                      refine lv_goto (tgt := 506) F.1 F.2.1 d_Machine_run_343 (by decide) ?_
                      exact J_506_l55 S x7_36 x8_38 x9 H locs ls hw (lv_sub hl [3, 4, 5, 6, 7, 1, 0, 8] rfl) o h ho
                    replace h := iq c_35 h
                    rcases Decidable.em (v_14 = (8 : Int32)) with c_39 | c_39
                    · replace h := ip c_39 h
                      refine lv_tableIn (off := 259) (tgt := 346) F.1 F.2.1 d_Machine_run_87 (by rw [c_39]; decide) (by rw [c_39]; decide) (by rw [c_39]; decide) (by decide) ?_
                      refine lv_aload_n F.1 F.2.1 d_Machine_run_346 rfl (lv_at hl 1 rfl) ?_
                      refine cg_6_0 F hK hw lk_185 d_Machine_run_347 ?_
                      obtain ⟨x7_40, ex7_40, h⟩ := nm_ex h
                      refine lv_iinc (v := x7_40) (lv' := [(7, .int x7_40), (10, .int x10_13), (0, .ref (ad 6 0)), (3, .ref (ad 4 2)), (4, .ref (ad 4 2)), (5, .ref (ad 5 7)), (6, .int x6_6), (8, .int x8), (9, .int x9)]) F.1 F.2.1 d_Machine_run_350 hl (k := 6) rfl (by rw [ex7_40]; rfl) (by decide) rfl (fun ls hl => ?_)
                      refine lv_iload F.1 F.2.1 d_Machine_run_353 (lv_at hl 0 rfl) ?_
                      refine lv_bipush (v := 63) F.1 F.2.1 d_Machine_run_355 (by decide) ?_
                      refine lv_iand F.1 F.2.1 d_Machine_run_357 ?_
                      obtain ⟨hi_41, h⟩ := gd_ex h
                      refine cl_6_0 F hK hw hi_41 d_Machine_run_358 ?_
                      refine lv_iload F.1 F.2.1 d_Machine_run_359 (lv_at hl 7 rfl) ?_
                      refine lv_icmp_ne (tgt := 368) F.1 F.2.1 d_Machine_run_361 (by decide) (fun c_42 => ?_) (fun c_42 => ?_)
                      · replace h := iq c_42 h
                        refine lv_iconst (v := 0) F.1 F.2.1 d_Machine_run_368 (by decide) ?_
                        exact J_369_l55 S x7_40 x9 (0 : Int32) H locs ls hw (lv_sub hl [2, 3, 4, 5, 6, 0, 8] rfl) o h ho
                      · replace h := ip c_42 h
                        refine lv_iconst (v := 1) F.1 F.2.1 d_Machine_run_364 (by decide) ?_
                        refine lv_goto (tgt := 369) F.1 F.2.1 d_Machine_run_365 (by decide) ?_
                        exact J_369_l55 S x7_40 x9 (1 : Int32) H locs ls hw (lv_sub hl [2, 3, 4, 5, 6, 0, 8] rfl) o h ho
                    replace h := iq c_39 h
                    rcases Decidable.em (v_14 = (9 : Int32)) with c_43 | c_43
                    · replace h := ip c_43 h
                      refine lv_tableIn (off := 287) (tgt := 374) F.1 F.2.1 d_Machine_run_87 (by rw [c_43]; decide) (by rw [c_43]; decide) (by rw [c_43]; decide) (by decide) ?_
                      refine lv_aload_n F.1 F.2.1 d_Machine_run_374 rfl (lv_at hl 1 rfl) ?_
                      refine cg_6_0 F hK hw lk_185 d_Machine_run_375 ?_
                      obtain ⟨x7_44, ex7_44, h⟩ := nm_ex h
                      refine lv_iinc (v := x7_44) (lv' := [(7, .int x7_44), (10, .int x10_13), (0, .ref (ad 6 0)), (3, .ref (ad 4 2)), (4, .ref (ad 4 2)), (5, .ref (ad 5 7)), (6, .int x6_6), (8, .int x8), (9, .int x9)]) F.1 F.2.1 d_Machine_run_378 hl (k := 6) rfl (by rw [ex7_44]; rfl) (by decide) rfl (fun ls hl => ?_)
                      refine lv_iload F.1 F.2.1 d_Machine_run_381 (lv_at hl 0 rfl) ?_
                      refine lv_bipush (v := 63) F.1 F.2.1 d_Machine_run_383 (by decide) ?_
                      refine lv_iand F.1 F.2.1 d_Machine_run_385 ?_
                      obtain ⟨hi_45, h⟩ := gd_ex h
                      refine cl_6_0 F hK hw hi_45 d_Machine_run_386 ?_
                      refine lv_iload F.1 F.2.1 d_Machine_run_387 (lv_at hl 7 rfl) ?_
                      refine lv_icmp_eq (tgt := 396) F.1 F.2.1 d_Machine_run_389 (by decide) (fun c_46 => ?_) (fun c_46 => ?_)
                      · replace h := ip c_46 h
                        refine lv_iconst (v := 0) F.1 F.2.1 d_Machine_run_396 (by decide) ?_
                        exact J_397_l55 S x7_44 x9 (0 : Int32) H locs ls hw (lv_sub hl [2, 3, 4, 5, 6, 0, 8] rfl) o h ho
                      · replace h := iq c_46 h
                        refine lv_iconst (v := 1) F.1 F.2.1 d_Machine_run_392 (by decide) ?_
                        refine lv_goto (tgt := 397) F.1 F.2.1 d_Machine_run_393 (by decide) ?_
                        exact J_397_l55 S x7_44 x9 (1 : Int32) H locs ls hw (lv_sub hl [2, 3, 4, 5, 6, 0, 8] rfl) o h ho
                    replace h := iq c_43 h
                    rcases Decidable.em (v_14 = (10 : Int32)) with c_47 | c_47
                    · replace h := ip c_47 h
                      refine lv_tableIn (off := 315) (tgt := 402) F.1 F.2.1 d_Machine_run_87 (by rw [c_47]; decide) (by rw [c_47]; decide) (by rw [c_47]; decide) (by decide) ?_
                      refine lv_aload_n F.1 F.2.1 d_Machine_run_402 rfl (lv_at hl 1 rfl) ?_
                      refine cg_6_0 F hK hw lk_185 d_Machine_run_403 ?_
                      obtain ⟨x7_48, ex7_48, h⟩ := nm_ex h
                      refine lv_iinc (v := x7_48) (lv' := [(7, .int x7_48), (10, .int x10_13), (0, .ref (ad 6 0)), (3, .ref (ad 4 2)), (4, .ref (ad 4 2)), (5, .ref (ad 5 7)), (6, .int x6_6), (8, .int x8), (9, .int x9)]) F.1 F.2.1 d_Machine_run_406 hl (k := 6) rfl (by rw [ex7_48]; rfl) (by decide) rfl (fun ls hl => ?_)
                      refine lv_iload F.1 F.2.1 d_Machine_run_409 (lv_at hl 0 rfl) ?_
                      refine lv_bipush (v := 63) F.1 F.2.1 d_Machine_run_411 (by decide) ?_
                      refine lv_iand F.1 F.2.1 d_Machine_run_413 ?_
                      obtain ⟨hi_49, h⟩ := gd_ex h
                      refine cl_6_0 F hK hw hi_49 d_Machine_run_414 ?_
                      refine lv_iload F.1 F.2.1 d_Machine_run_415 (lv_at hl 7 rfl) ?_
                      refine lv_icmp_ge (tgt := 424) F.1 F.2.1 d_Machine_run_417 (by decide) (fun c_50 => ?_) (fun c_50 => ?_)
                      · replace h := ip c_50 h
                        refine lv_iconst (v := 0) F.1 F.2.1 d_Machine_run_424 (by decide) ?_
                        exact J_425_l55 S x7_48 x9 (0 : Int32) H locs ls hw (lv_sub hl [2, 3, 4, 5, 6, 0, 8] rfl) o h ho
                      · replace h := iq c_50 h
                        refine lv_iconst (v := 1) F.1 F.2.1 d_Machine_run_420 (by decide) ?_
                        refine lv_goto (tgt := 425) F.1 F.2.1 d_Machine_run_421 (by decide) ?_
                        exact J_425_l55 S x7_48 x9 (1 : Int32) H locs ls hw (lv_sub hl [2, 3, 4, 5, 6, 0, 8] rfl) o h ho
                    replace h := iq c_47 h
                    rcases Decidable.em (v_14 = (11 : Int32)) with c_51 | c_51
                    · replace h := ip c_51 h
                      refine lv_tableIn (off := 343) (tgt := 430) F.1 F.2.1 d_Machine_run_87 (by rw [c_51]; decide) (by rw [c_51]; decide) (by rw [c_51]; decide) (by decide) ?_
                      refine lv_aload_n F.1 F.2.1 d_Machine_run_430 rfl (lv_at hl 1 rfl) ?_
                      refine cg_6_0 F hK hw lk_185 d_Machine_run_431 ?_
                      obtain ⟨x7_52, ex7_52, h⟩ := nm_ex h
                      refine lv_iinc (v := x7_52) (lv' := [(7, .int x7_52), (10, .int x10_13), (0, .ref (ad 6 0)), (3, .ref (ad 4 2)), (4, .ref (ad 4 2)), (5, .ref (ad 5 7)), (6, .int x6_6), (8, .int x8), (9, .int x9)]) F.1 F.2.1 d_Machine_run_434 hl (k := 6) rfl (by rw [ex7_52]; rfl) (by decide) rfl (fun ls hl => ?_)
                      refine lv_iload F.1 F.2.1 d_Machine_run_437 (lv_at hl 0 rfl) ?_
                      refine lv_bipush (v := 63) F.1 F.2.1 d_Machine_run_439 (by decide) ?_
                      refine lv_iand F.1 F.2.1 d_Machine_run_441 ?_
                      obtain ⟨hi_53, h⟩ := gd_ex h
                      refine cl_6_0 F hK hw hi_53 d_Machine_run_442 ?_
                      refine lv_iload F.1 F.2.1 d_Machine_run_443 (lv_at hl 7 rfl) ?_
                      refine lv_icmp_gt (tgt := 452) F.1 F.2.1 d_Machine_run_445 (by decide) (fun c_54 => ?_) (fun c_54 => ?_)
                      · replace h := ip c_54 h
                        refine lv_iconst (v := 0) F.1 F.2.1 d_Machine_run_452 (by decide) ?_
                        exact J_453_l55 S x7_52 x9 (0 : Int32) H locs ls hw (lv_sub hl [2, 3, 4, 5, 6, 0, 8] rfl) o h ho
                      · replace h := iq c_54 h
                        refine lv_iconst (v := 1) F.1 F.2.1 d_Machine_run_448 (by decide) ?_
                        refine lv_goto (tgt := 453) F.1 F.2.1 d_Machine_run_449 (by decide) ?_
                        exact J_453_l55 S x7_52 x9 (1 : Int32) H locs ls hw (lv_sub hl [2, 3, 4, 5, 6, 0, 8] rfl) o h ho
                    replace h := iq c_51 h
                    rcases Decidable.em (v_14 = (12 : Int32)) with c_55 | c_55
                    · replace h := ip c_55 h
                      refine lv_tableIn (off := 413) (tgt := 500) F.1 F.2.1 d_Machine_run_87 (by rw [c_55]; decide) (by rw [c_55]; decide) (by rw [c_55]; decide) (by decide) ?_
                      exact J_500_l55 S x7 x8 x9 H locs ls hw (lv_sub hl [1, 2, 3, 4, 5, 6, 7, 8] rfl) o h ho
                    replace h := iq c_55 h
                    rcases Decidable.em (v_14 = (13 : Int32)) with c_56 | c_56
                    · replace h := ip c_56 h
                      refine lv_tableIn (off := 413) (tgt := 500) F.1 F.2.1 d_Machine_run_87 (by rw [c_56]; decide) (by rw [c_56]; decide) (by rw [c_56]; decide) (by decide) ?_
                      exact J_500_l55 S x7 x8 x9 H locs ls hw (lv_sub hl [1, 2, 3, 4, 5, 6, 7, 8] rfl) o h ho
                    replace h := iq c_56 h
                    rcases Decidable.em (v_14 = (14 : Int32)) with c_57 | c_57
                    · replace h := ip c_57 h
                      refine lv_tableIn (off := 413) (tgt := 500) F.1 F.2.1 d_Machine_run_87 (by rw [c_57]; decide) (by rw [c_57]; decide) (by rw [c_57]; decide) (by decide) ?_
                      exact J_500_l55 S x7 x8 x9 H locs ls hw (lv_sub hl [1, 2, 3, 4, 5, 6, 7, 8] rfl) o h ho
                    replace h := iq c_57 h
                    rcases Decidable.em (v_14 = (15 : Int32)) with c_58 | c_58
                    · replace h := ip c_58 h
                      refine lv_tableIn (off := 413) (tgt := 500) F.1 F.2.1 d_Machine_run_87 (by rw [c_58]; decide) (by rw [c_58]; decide) (by rw [c_58]; decide) (by decide) ?_
                      exact J_500_l55 S x7 x8 x9 H locs ls hw (lv_sub hl [1, 2, 3, 4, 5, 6, 7, 8] rfl) o h ho
                    replace h := iq c_58 h
                    rcases Decidable.em (v_14 = (16 : Int32)) with c_59 | c_59
                    · replace h := ip c_59 h
                      refine lv_tableIn (off := 413) (tgt := 500) F.1 F.2.1 d_Machine_run_87 (by rw [c_59]; decide) (by rw [c_59]; decide) (by rw [c_59]; decide) (by decide) ?_
                      exact J_500_l55 S x7 x8 x9 H locs ls hw (lv_sub hl [1, 2, 3, 4, 5, 6, 7, 8] rfl) o h ho
                    replace h := iq c_59 h
                    rcases Decidable.em (v_14 = (17 : Int32)) with c_60 | c_60
                    · replace h := ip c_60 h
                      refine lv_tableIn (off := 413) (tgt := 500) F.1 F.2.1 d_Machine_run_87 (by rw [c_60]; decide) (by rw [c_60]; decide) (by rw [c_60]; decide) (by decide) ?_
                      exact J_500_l55 S x7 x8 x9 H locs ls hw (lv_sub hl [1, 2, 3, 4, 5, 6, 7, 8] rfl) o h ho
                    replace h := iq c_60 h
                    rcases Decidable.em (v_14 = (18 : Int32)) with c_61 | c_61
                    · replace h := ip c_61 h
                      refine lv_tableIn (off := 413) (tgt := 500) F.1 F.2.1 d_Machine_run_87 (by rw [c_61]; decide) (by rw [c_61]; decide) (by rw [c_61]; decide) (by decide) ?_
                      exact J_500_l55 S x7 x8 x9 H locs ls hw (lv_sub hl [1, 2, 3, 4, 5, 6, 7, 8] rfl) o h ho
                    replace h := iq c_61 h
                    rcases Decidable.em (v_14 = (19 : Int32)) with c_62 | c_62
                    · replace h := ip c_62 h
                      refine lv_tableIn (off := 413) (tgt := 500) F.1 F.2.1 d_Machine_run_87 (by rw [c_62]; decide) (by rw [c_62]; decide) (by rw [c_62]; decide) (by decide) ?_
                      exact J_500_l55 S x7 x8 x9 H locs ls hw (lv_sub hl [1, 2, 3, 4, 5, 6, 7, 8] rfl) o h ho
                    replace h := iq c_62 h
                    rcases Decidable.em (v_14 = (20 : Int32)) with c_63 | c_63
                    · replace h := ip c_63 h
                      refine lv_tableIn (off := 413) (tgt := 500) F.1 F.2.1 d_Machine_run_87 (by rw [c_63]; decide) (by rw [c_63]; decide) (by rw [c_63]; decide) (by decide) ?_
                      exact J_500_l55 S x7 x8 x9 H locs ls hw (lv_sub hl [1, 2, 3, 4, 5, 6, 7, 8] rfl) o h ho
                    replace h := iq c_63 h
                    rcases Decidable.em (v_14 = (21 : Int32)) with c_64 | c_64
                    · replace h := ip c_64 h
                      refine lv_tableIn (off := 413) (tgt := 500) F.1 F.2.1 d_Machine_run_87 (by rw [c_64]; decide) (by rw [c_64]; decide) (by rw [c_64]; decide) (by decide) ?_
                      exact J_500_l55 S x7 x8 x9 H locs ls hw (lv_sub hl [1, 2, 3, 4, 5, 6, 7, 8] rfl) o h ho
                    replace h := iq c_64 h
                    rcases Decidable.em (v_14 = (22 : Int32)) with c_65 | c_65
                    · replace h := ip c_65 h
                      refine lv_tableIn (off := 413) (tgt := 500) F.1 F.2.1 d_Machine_run_87 (by rw [c_65]; decide) (by rw [c_65]; decide) (by rw [c_65]; decide) (by decide) ?_
                      exact J_500_l55 S x7 x8 x9 H locs ls hw (lv_sub hl [1, 2, 3, 4, 5, 6, 7, 8] rfl) o h ho
                    replace h := iq c_65 h
                    rcases Decidable.em (v_14 = (23 : Int32)) with c_66 | c_66
                    · replace h := ip c_66 h
                      refine lv_tableIn (off := 392) (tgt := 479) F.1 F.2.1 d_Machine_run_87 (by rw [c_66]; decide) (by rw [c_66]; decide) (by rw [c_66]; decide) (by decide) ?_
                      refine lv_aload_n F.1 F.2.1 d_Machine_run_479 rfl (lv_at hl 1 rfl) ?_
                      refine cg_6_0 F hK hw lk_185 d_Machine_run_480 ?_
                      obtain ⟨x7_67, ex7_67, h⟩ := nm_ex h
                      refine lv_iinc (v := x7_67) (lv' := [(7, .int x7_67), (10, .int x10_13), (0, .ref (ad 6 0)), (3, .ref (ad 4 2)), (4, .ref (ad 4 2)), (5, .ref (ad 5 7)), (6, .int x6_6), (8, .int x8), (9, .int x9)]) F.1 F.2.1 d_Machine_run_483 hl (k := 6) rfl (by rw [ex7_67]; rfl) (by decide) rfl (fun ls hl => ?_)
                      refine lv_iload F.1 F.2.1 d_Machine_run_486 (lv_at hl 0 rfl) ?_
                      refine lv_bipush (v := 63) F.1 F.2.1 d_Machine_run_488 (by decide) ?_
                      refine lv_iand F.1 F.2.1 d_Machine_run_490 ?_
                      obtain ⟨hi_68, h⟩ := gd_ex h
                      refine cl_6_0 F hK hw hi_68 d_Machine_run_491 ?_
                      refine lv_iload F.1 F.2.1 d_Machine_run_492 (lv_at hl 7 rfl) ?_
                      refine lv_ior F.1 F.2.1 d_Machine_run_494 ?_
                      obtain ⟨x8_69, ex8_69, h⟩ := nm_ex h
                      refine lv_nm ex8_69 ?_
                      refine lv_istore (lv' := [(8, .int x8_69), (7, .int x7_67), (10, .int x10_13), (0, .ref (ad 6 0)), (3, .ref (ad 4 2)), (4, .ref (ad 4 2)), (5, .ref (ad 5 7)), (6, .int x6_6), (9, .int x9)]) F.1 F.2.1 d_Machine_run_495 hl (by decide) rfl (fun ls hl => ?_)
                      refine lv_goto (tgt := 506) F.1 F.2.1 d_Machine_run_497 (by decide) ?_
                      exact J_506_l55 S x7_67 x8_69 x9 H locs ls hw (lv_sub hl [3, 4, 5, 6, 7, 1, 0, 8] rfl) o h ho
                    replace h := iq c_66 h
                    rcases Decidable.em (v_14 = (24 : Int32)) with c_70 | c_70
                    · replace h := ip c_70 h
                      refine lv_tableIn (off := 371) (tgt := 458) F.1 F.2.1 d_Machine_run_87 (by rw [c_70]; decide) (by rw [c_70]; decide) (by rw [c_70]; decide) (by decide) ?_
                      refine lv_aload_n F.1 F.2.1 d_Machine_run_458 rfl (lv_at hl 1 rfl) ?_
                      refine cg_6_0 F hK hw lk_185 d_Machine_run_459 ?_
                      obtain ⟨x7_71, ex7_71, h⟩ := nm_ex h
                      refine lv_iinc (v := x7_71) (lv' := [(7, .int x7_71), (10, .int x10_13), (0, .ref (ad 6 0)), (3, .ref (ad 4 2)), (4, .ref (ad 4 2)), (5, .ref (ad 5 7)), (6, .int x6_6), (8, .int x8), (9, .int x9)]) F.1 F.2.1 d_Machine_run_462 hl (k := 6) rfl (by rw [ex7_71]; rfl) (by decide) rfl (fun ls hl => ?_)
                      refine lv_iload F.1 F.2.1 d_Machine_run_465 (lv_at hl 0 rfl) ?_
                      refine lv_bipush (v := 63) F.1 F.2.1 d_Machine_run_467 (by decide) ?_
                      refine lv_iand F.1 F.2.1 d_Machine_run_469 ?_
                      obtain ⟨hi_72, h⟩ := gd_ex h
                      refine cl_6_0 F hK hw hi_72 d_Machine_run_470 ?_
                      refine lv_iload F.1 F.2.1 d_Machine_run_471 (lv_at hl 7 rfl) ?_
                      refine lv_iand F.1 F.2.1 d_Machine_run_473 ?_
                      obtain ⟨x8_73, ex8_73, h⟩ := nm_ex h
                      refine lv_nm ex8_73 ?_
                      refine lv_istore (lv' := [(8, .int x8_73), (7, .int x7_71), (10, .int x10_13), (0, .ref (ad 6 0)), (3, .ref (ad 4 2)), (4, .ref (ad 4 2)), (5, .ref (ad 5 7)), (6, .int x6_6), (9, .int x9)]) F.1 F.2.1 d_Machine_run_474 hl (by decide) rfl (fun ls hl => ?_)
                      refine lv_goto (tgt := 506) F.1 F.2.1 d_Machine_run_476 (by decide) ?_
                      exact J_506_l55 S x7_71 x8_73 x9 H locs ls hw (lv_sub hl [3, 4, 5, 6, 7, 1, 0, 8] rfl) o h ho
                    replace h := iq c_70 h
                    rcases Decidable.em (v_14 = (25 : Int32)) with c_74 | c_74
                    · replace h := ip c_74 h
                      refine lv_tableIn (off := 413) (tgt := 500) F.1 F.2.1 d_Machine_run_87 (by rw [c_74]; decide) (by rw [c_74]; decide) (by rw [c_74]; decide) (by decide) ?_
                      exact J_500_l55 S x7 x8 x9 H locs ls hw (lv_sub hl [1, 2, 3, 4, 5, 6, 7, 8] rfl) o h ho
                    replace h := iq c_74 h
                    rcases Decidable.em (v_14 = (26 : Int32)) with c_75 | c_75
                    · replace h := ip c_75 h
                      refine lv_tableIn (off := 166) (tgt := 253) F.1 F.2.1 d_Machine_run_87 (by rw [c_75]; decide) (by rw [c_75]; decide) (by rw [c_75]; decide) (by decide) ?_
                      refine lv_aload_n F.1 F.2.1 d_Machine_run_253 rfl (lv_at hl 1 rfl) ?_
                      refine cg_6_0 F hK hw lk_185 d_Machine_run_254 ?_
                      refine lv_iload F.1 F.2.1 d_Machine_run_257 (lv_at hl 6 rfl) ?_
                      obtain ⟨x7_76, ex7_76, h⟩ := nm_ex h
                      refine lv_iinc (v := x7_76) (lv' := [(7, .int x7_76), (10, .int x10_13), (0, .ref (ad 6 0)), (3, .ref (ad 4 2)), (4, .ref (ad 4 2)), (5, .ref (ad 5 7)), (6, .int x6_6), (8, .int x8), (9, .int x9)]) F.1 F.2.1 d_Machine_run_259 hl (k := 6) rfl (by rw [ex7_76]; rfl) (by decide) rfl (fun ls hl => ?_)
                      refine lv_bipush (v := 63) F.1 F.2.1 d_Machine_run_262 (by decide) ?_
                      refine lv_iand F.1 F.2.1 d_Machine_run_264 ?_
                      refine lv_iload F.1 F.2.1 d_Machine_run_265 (lv_at hl 7 rfl) ?_
                      obtain ⟨hi_77, h⟩ := gd_ex h
                      obtain ⟨S_78, eS_78, h⟩ := nm_ex h
                      refine cs_6_0 F hK hw hi_77 d_Machine_run_267 eS_78 (fun H locs hw => ?_)
                      refine lv_aload F.1 F.2.1 d_Machine_run_268 (lv_at hl 4 rfl) ?_
                      refine lv_iload F.1 F.2.1 d_Machine_run_270 (lv_at hl 1 rfl) ?_
                      refine lv_iconst (v := 5) F.1 F.2.1 d_Machine_run_272 (by decide) ?_
                      refine lv_ishr F.1 F.2.1 d_Machine_run_273 ?_
                      refine lv_bipush (v := 7) F.1 F.2.1 d_Machine_run_274 (by decide) ?_
                      refine lv_iand F.1 F.2.1 d_Machine_run_276 ?_
                      obtain ⟨hi_79, h⟩ := gd_ex h
                      refine cl_4_1 F hK hw hi_79 d_Machine_run_277 ?_
                      obtain ⟨x8_80, ex8_80, h⟩ := nm_ex h
                      refine lv_nm ex8_80 ?_
                      refine lv_istore (lv' := [(8, .int x8_80), (7, .int x7_76), (10, .int x10_13), (0, .ref (ad 6 0)), (3, .ref (ad 4 2)), (4, .ref (ad 4 2)), (5, .ref (ad 5 7)), (6, .int x6_6), (9, .int x9)]) F.1 F.2.1 d_Machine_run_278 hl (by decide) rfl (fun ls hl => ?_)
                      refine lv_goto (tgt := 506) F.1 F.2.1 d_Machine_run_280 (by decide) ?_
                      exact J_506_l55 S_78 x7_76 x8_80 x9 H locs ls hw (lv_sub hl [3, 4, 5, 6, 7, 1, 0, 8] rfl) o h ho
                    replace h := iq c_75 h
                    have zc_15 := lv_neT (a := 2) c_15 rfl
                    have zc_21 := lv_neT (a := 3) c_21 rfl
                    have zc_26 := lv_neT (a := 4) c_26 rfl
                    have zc_27 := lv_neT (a := 5) c_27 rfl
                    have zc_31 := lv_neT (a := 6) c_31 rfl
                    have zc_35 := lv_neT (a := 7) c_35 rfl
                    have zc_39 := lv_neT (a := 8) c_39 rfl
                    have zc_43 := lv_neT (a := 9) c_43 rfl
                    have zc_47 := lv_neT (a := 10) c_47 rfl
                    have zc_51 := lv_neT (a := 11) c_51 rfl
                    have zc_55 := lv_neT (a := 12) c_55 rfl
                    have zc_56 := lv_neT (a := 13) c_56 rfl
                    have zc_57 := lv_neT (a := 14) c_57 rfl
                    have zc_58 := lv_neT (a := 15) c_58 rfl
                    have zc_59 := lv_neT (a := 16) c_59 rfl
                    have zc_60 := lv_neT (a := 17) c_60 rfl
                    have zc_61 := lv_neT (a := 18) c_61 rfl
                    have zc_62 := lv_neT (a := 19) c_62 rfl
                    have zc_63 := lv_neT (a := 20) c_63 rfl
                    have zc_64 := lv_neT (a := 21) c_64 rfl
                    have zc_65 := lv_neT (a := 22) c_65 rfl
                    have zc_66 := lv_neT (a := 23) c_66 rfl
                    have zc_70 := lv_neT (a := 24) c_70 rfl
                    have zc_74 := lv_neT (a := 25) c_74 rfl
                    have zc_75 := lv_neT (a := 26) c_75 rfl
                    refine lv_tableOut (tgt := 500) F.1 F.2.1 d_Machine_run_87 (by omega) (by decide) ?_
                    exact J_500_l55 S x7 x8 x9 H locs ls hw (lv_sub hl [1, 2, 3, 4, 5, 6, 7, 8] rfl) o h ho
            rw [eP_55] at hL_55
            exact hL_55 H locs ls hw (lv_sub hl [5, 8, 9, 4, 3, 2, 1, 0] rfl)
          · replace h := iq c_4 h
            exact J_25 S H locs ls hw (lv_sub hl [] rfl) o h ho
  exact key _ _ hw _ h (by rw [eX_0]; exact fun H locs pc ls hd hw => hQ H locs pc ls ad rfl hd hw)
theorem d_Book_advance_0 : decode b_Book_advance 0 = .ok (.aload_n 0, 1) := by decide +kernel
theorem d_Book_advance_1 : decode b_Book_advance 1 = .ok (.getfield 43, 3) := by decide +kernel
theorem d_Book_advance_4 : decode b_Book_advance 4 = .ok (.iconst 1, 1) := by decide +kernel
theorem d_Book_advance_5 : decode b_Book_advance 5 = .ok (.isub, 1) := by decide +kernel
theorem d_Book_advance_6 : decode b_Book_advance 6 = .ok (.istore_n 2, 1) := by decide +kernel
theorem d_Book_advance_7 : decode b_Book_advance 7 = .ok (.iload_n 2, 1) := by decide +kernel
theorem d_Book_advance_8 : decode b_Book_advance 8 = .ok (.ifCond .lt 51, 3) := by decide +kernel
theorem d_Book_advance_11 : decode b_Book_advance 11 = .ok (.iload_n 2, 1) := by decide +kernel
theorem d_Book_advance_12 : decode b_Book_advance 12 = .ok (.bipush 6, 2) := by decide +kernel
theorem d_Book_advance_14 : decode b_Book_advance 14 = .ok (.if_icmp .ge 45, 3) := by decide +kernel
theorem d_Book_advance_17 : decode b_Book_advance 17 = .ok (.iload_n 2, 1) := by decide +kernel
theorem d_Book_advance_18 : decode b_Book_advance 18 = .ok (.aload_n 1, 1) := by decide +kernel
theorem d_Book_advance_19 : decode b_Book_advance 19 = .ok (.arraylength, 1) := by decide +kernel
theorem d_Book_advance_20 : decode b_Book_advance 20 = .ok (.if_icmp .ge 39, 3) := by decide +kernel
theorem d_Book_advance_23 : decode b_Book_advance 23 = .ok (.aload_n 1, 1) := by decide +kernel
theorem d_Book_advance_24 : decode b_Book_advance 24 = .ok (.iload_n 2, 1) := by decide +kernel
theorem d_Book_advance_25 : decode b_Book_advance 25 = .ok (.iaload, 1) := by decide +kernel
theorem d_Book_advance_26 : decode b_Book_advance 26 = .ok (.aload_n 0, 1) := by decide +kernel
theorem d_Book_advance_27 : decode b_Book_advance 27 = .ok (.getfield 19, 3) := by decide +kernel
theorem d_Book_advance_30 : decode b_Book_advance 30 = .ok (.iload_n 2, 1) := by decide +kernel
theorem d_Book_advance_31 : decode b_Book_advance 31 = .ok (.iaload, 1) := by decide +kernel
theorem d_Book_advance_32 : decode b_Book_advance 32 = .ok (.if_icmp .ge 12, 3) := by decide +kernel
theorem d_Book_advance_35 : decode b_Book_advance 35 = .ok (.aload_n 1, 1) := by decide +kernel
theorem d_Book_advance_36 : decode b_Book_advance 36 = .ok (.iload_n 2, 1) := by decide +kernel
theorem d_Book_advance_37 : decode b_Book_advance 37 = .ok (.dup2, 1) := by decide +kernel
theorem d_Book_advance_38 : decode b_Book_advance 38 = .ok (.iaload, 1) := by decide +kernel
theorem d_Book_advance_39 : decode b_Book_advance 39 = .ok (.iconst 1, 1) := by decide +kernel
theorem d_Book_advance_40 : decode b_Book_advance 40 = .ok (.iadd, 1) := by decide +kernel
theorem d_Book_advance_41 : decode b_Book_advance 41 = .ok (.iastore, 1) := by decide +kernel
theorem d_Book_advance_42 : decode b_Book_advance 42 = .ok (.iload_n 2, 1) := by decide +kernel
theorem d_Book_advance_43 : decode b_Book_advance 43 = .ok (.ireturn, 1) := by decide +kernel
theorem d_Book_advance_44 : decode b_Book_advance 44 = .ok (.aload_n 1, 1) := by decide +kernel
theorem d_Book_advance_45 : decode b_Book_advance 45 = .ok (.iload_n 2, 1) := by decide +kernel
theorem d_Book_advance_46 : decode b_Book_advance 46 = .ok (.aload_n 0, 1) := by decide +kernel
theorem d_Book_advance_47 : decode b_Book_advance 47 = .ok (.getfield 15, 3) := by decide +kernel
theorem d_Book_advance_50 : decode b_Book_advance 50 = .ok (.iload_n 2, 1) := by decide +kernel
theorem d_Book_advance_51 : decode b_Book_advance 51 = .ok (.iaload, 1) := by decide +kernel
theorem d_Book_advance_52 : decode b_Book_advance 52 = .ok (.iastore, 1) := by decide +kernel
theorem d_Book_advance_53 : decode b_Book_advance 53 = .ok (.iinc 2 (-1), 3) := by decide +kernel
theorem d_Book_advance_56 : decode b_Book_advance 56 = .ok (.goto (-49), 3) := by decide +kernel
theorem d_Book_advance_59 : decode b_Book_advance 59 = .ok (.iconst (-1), 1) := by decide +kernel
theorem d_Book_advance_60 : decode b_Book_advance 60 = .ok (.ireturn, 1) := by decide +kernel
set_option maxHeartbeats 4000000 in
set_option maxRecDepth 100000 in
theorem c_Book_advance (l : Launch) {S : St} {S' : St} {r : Int32} (h : f_Book_advance S = some (r, S')) : MI cw l y_Book_advance b_Book_advance 3 (some .int) 0 0 0 0 (fun ad => [.ref (ad 5 0), .ref (ad 4 2)]) aT aE S r S' := by
  refine MI_of "LawfulLots$Book" rfl (by decide) (fun _ => Nat.le_of_ble_eq_true rfl) ?_
  intro p e s m args below meth c D ar ad A Q ls hP F hK hA hw hl hQ
  have hl : lv_has ls 3 [(0, .ref (ad 5 0)), (1, .ref (ad 4 2))] := hl
  obtain ⟨X_0, eX_0⟩ : ∃ X : (Int32 × St) → Prop, X = (fun q => ∀ (H : Heap) (locs : List Loc) (pc : Nat) (ls : Array Slot), decode b_Book_advance pc = .ok (.ireturn, 1) → Bw cw D ar A s.heap H locs ad q.2 → W p l e (RM 0 0) s m args below meth c H locs 0 0 Q (F0 m pc ls [.int q.1])) := ⟨_, rfl⟩
  have key : ∀ (H : Heap) (locs : List Loc), Bw cw D ar A s.heap H locs ad S → ∀ o, f_Book_advance S = some o → X_0 o → W p l e (RM 0 0) s m args below meth c H locs 0 0 Q (F0 m 0 ls []) := by
    intro H locs hw o h ho
    unfold f_Book_advance at h
    refine lv_aload_n F.1 F.2.1 d_Book_advance_0 rfl (lv_at hl 0 rfl) ?_
    refine cg_5_10 F hK hw lk_82 d_Book_advance_1 ?_
    refine lv_iconst (v := 1) F.1 F.2.1 d_Book_advance_4 (by decide) ?_
    refine lv_isub F.1 F.2.1 d_Book_advance_5 ?_
    obtain ⟨x2_1, ex2_1, h⟩ := nm_ex h
    refine lv_nm ex2_1 ?_
    refine lv_istore_n (lv' := [(2, .int x2_1), (0, .ref (ad 5 0)), (1, .ref (ad 4 2))]) F.1 F.2.1 d_Book_advance_6 rfl hl (by decide) rfl (fun ls hl => ?_)
    obtain ⟨P_7, eP_7⟩ : ∃ P : (St × Int32) → Prop, P = (fun q => ∀ (H : Heap) (locs : List Loc) (ls : Array Slot), Bw cw D ar A s.heap H locs ad q.1 → lv_has ls 3 [(0, .ref (ad 5 0)), (1, .ref (ad 4 2)), (2, .int q.2)] → W p l e (RM 0 0) s m args below meth c H locs 0 0 Q (F0 m 7 ls [])) := ⟨_, rfl⟩
    have hL_7 : P_7 (S, x2_1) := by
      refine wh_gp (P := P_7) (X := X_0) h ho ?_
      clear h ho
      intro q o h ho
      obtain ⟨S, x2⟩ := q
      have h : Book_advance_l7 S x2 = some o := h
      unfold Book_advance_l7 at h
      rw [eP_7]
      intro H locs ls hw hl
      have J_59_l7 : ∀ (S : St) (H : Heap) (locs : List Loc) (ls : Array Slot), Bw cw D ar A s.heap H locs ad S → lv_has ls 3 [] → ∀ o, Book_advance_j59_l7 S = some o → (Sum.elim P_7 X_0) o → W p l e (RM 0 0) s m args below meth c H locs 0 0 Q (F0 m 59 ls []) := by
        intro S H locs ls hw hl o h ho
        unfold Book_advance_j59_l7 at h
        refine lv_iconst (v := -1) F.1 F.2.1 d_Book_advance_59 (by decide) ?_
        cases h
        have ho : X_0 _ := ho
        rw [eX_0] at ho
        exact ho H locs _ ls d_Book_advance_60 hw
      refine lv_iload_n F.1 F.2.1 d_Book_advance_7 rfl (lv_at hl 2 rfl) ?_
      refine lv_if_lt (tgt := 59) F.1 F.2.1 d_Book_advance_8 (by decide) (fun c_2 => ?_) (fun c_2 => ?_)
      · replace h := ip c_2 h
        exact J_59_l7 S H locs ls hw (lv_sub hl [] rfl) o h ho
      · replace h := iq c_2 h
        refine lv_iload_n F.1 F.2.1 d_Book_advance_11 rfl (lv_at hl 2 rfl) ?_
        refine lv_bipush (v := 6) F.1 F.2.1 d_Book_advance_12 (by decide) ?_
        refine lv_icmp_ge (tgt := 59) F.1 F.2.1 d_Book_advance_14 (by decide) (fun c_3 => ?_) (fun c_3 => ?_)
        · replace h := ip c_3 h
          exact J_59_l7 S H locs ls hw (lv_sub hl [] rfl) o h ho
        · replace h := iq c_3 h
          refine lv_iload_n F.1 F.2.1 d_Book_advance_17 rfl (lv_at hl 2 rfl) ?_
          refine lv_aload_n F.1 F.2.1 d_Book_advance_18 rfl (lv_at hl 1 rfl) ?_
          refine cn_4_1 F hK hw d_Book_advance_19 ?_
          refine lv_icmp_ge (tgt := 59) F.1 F.2.1 d_Book_advance_20 (by decide) (fun c_4 => ?_) (fun c_4 => ?_)
          · replace h := ip c_4 h
            exact J_59_l7 S H locs ls hw (lv_sub hl [] rfl) o h ho
          · replace h := iq c_4 h
            refine lv_aload_n F.1 F.2.1 d_Book_advance_23 rfl (lv_at hl 1 rfl) ?_
            refine lv_iload_n F.1 F.2.1 d_Book_advance_24 rfl (lv_at hl 2 rfl) ?_
            obtain ⟨hi_5, h⟩ := gd_ex h
            refine cl_4_1 F hK hw hi_5 d_Book_advance_25 ?_
            refine lv_aload_n F.1 F.2.1 d_Book_advance_26 rfl (lv_at hl 0 rfl) ?_
            refine cg_5_2 F hK hw lk_69 d_Book_advance_27 ?_
            refine lv_iload_n F.1 F.2.1 d_Book_advance_30 rfl (lv_at hl 2 rfl) ?_
            obtain ⟨hi_6, h⟩ := gd_ex h
            refine cl_5_2 F hK hw hi_6 d_Book_advance_31 ?_
            refine lv_icmp_ge (tgt := 44) F.1 F.2.1 d_Book_advance_32 (by decide) (fun c_7 => ?_) (fun c_7 => ?_)
            · replace h := ip c_7 h
              refine lv_aload_n F.1 F.2.1 d_Book_advance_44 rfl (lv_at hl 1 rfl) ?_
              refine lv_iload_n F.1 F.2.1 d_Book_advance_45 rfl (lv_at hl 2 rfl) ?_
              refine lv_aload_n F.1 F.2.1 d_Book_advance_46 rfl (lv_at hl 0 rfl) ?_
              refine cg_5_1 F hK hw lk_68 d_Book_advance_47 ?_
              refine lv_iload_n F.1 F.2.1 d_Book_advance_50 rfl (lv_at hl 2 rfl) ?_
              obtain ⟨hi_8, h⟩ := gd_ex h
              refine cl_5_1 F hK hw hi_8 d_Book_advance_51 ?_
              obtain ⟨hi_9, h⟩ := gd_ex h
              obtain ⟨S_10, eS_10, h⟩ := nm_ex h
              refine cs_4_1 F hK hw hi_9 d_Book_advance_52 eS_10 (fun H locs hw => ?_)
              obtain ⟨x2_11, ex2_11, h⟩ := nm_ex h
              refine lv_iinc (v := x2_11) (lv' := [(2, .int x2_11), (0, .ref (ad 5 0)), (1, .ref (ad 4 2))]) F.1 F.2.1 d_Book_advance_53 hl (k := 2) rfl (by rw [ex2_11]; rfl) (by decide) rfl (fun ls hl => ?_)
              refine lv_goto (tgt := 7) F.1 F.2.1 d_Book_advance_56 (by decide) ?_
              cases h
              have ho : P_7 _ := ho
              rw [eP_7] at ho
              exact ho H locs ls hw (lv_sub hl [1, 2, 0] rfl)
            · replace h := iq c_7 h
              refine lv_aload_n F.1 F.2.1 d_Book_advance_35 rfl (lv_at hl 1 rfl) ?_
              refine lv_iload_n F.1 F.2.1 d_Book_advance_36 rfl (lv_at hl 2 rfl) ?_
              refine lv_dup2_11 F.1 F.2.1 d_Book_advance_37 rfl rfl ?_
              obtain ⟨hi_12, h⟩ := gd_ex h
              refine cl_4_1 F hK hw hi_12 d_Book_advance_38 ?_
              refine lv_iconst (v := 1) F.1 F.2.1 d_Book_advance_39 (by decide) ?_
              refine lv_iadd F.1 F.2.1 d_Book_advance_40 ?_
              obtain ⟨hi_13, h⟩ := gd_ex h
              obtain ⟨S_14, eS_14, h⟩ := nm_ex h
              refine cs_4_1 F hK hw hi_13 d_Book_advance_41 eS_14 (fun H locs hw => ?_)
              refine lv_iload_n F.1 F.2.1 d_Book_advance_42 rfl (lv_at hl 2 rfl) ?_
              cases h
              have ho : X_0 _ := ho
              rw [eX_0] at ho
              exact ho H locs _ ls d_Book_advance_43 hw
    rw [eP_7] at hL_7
    exact hL_7 H locs ls hw (lv_sub hl [1, 2, 0] rfl)
  exact key _ _ hw _ h (by rw [eX_0]; exact fun H locs pc ls hd hw => hQ H locs pc ls ad rfl hd hw)
theorem d_Chart_mark_0 : decode b_Chart_mark 0 = .ok (.iload_n 1, 1) := by decide +kernel
theorem d_Chart_mark_1 : decode b_Chart_mark 1 = .ok (.bipush 8, 2) := by decide +kernel
theorem d_Chart_mark_3 : decode b_Chart_mark 3 = .ok (.imul, 1) := by decide +kernel
theorem d_Chart_mark_4 : decode b_Chart_mark 4 = .ok (.istore_n 2, 1) := by decide +kernel
theorem d_Chart_mark_5 : decode b_Chart_mark 5 = .ok (.iload_n 2, 1) := by decide +kernel
theorem d_Chart_mark_6 : decode b_Chart_mark 6 = .ok (.aload_n 0, 1) := by decide +kernel
theorem d_Chart_mark_7 : decode b_Chart_mark 7 = .ok (.getfield 43, 3) := by decide +kernel
theorem d_Chart_mark_10 : decode b_Chart_mark 10 = .ok (.iload_n 1, 1) := by decide +kernel
theorem d_Chart_mark_11 : decode b_Chart_mark 11 = .ok (.invokevirtual 76, 3) := by decide +kernel
theorem d_Chart_mark_14 : decode b_Chart_mark 14 = .ok (.iadd, 1) := by decide +kernel
theorem d_Chart_mark_15 : decode b_Chart_mark 15 = .ok (.istore_n 3, 1) := by decide +kernel
theorem d_Chart_mark_16 : decode b_Chart_mark 16 = .ok (.iload_n 2, 1) := by decide +kernel
theorem d_Chart_mark_17 : decode b_Chart_mark 17 = .ok (.iload_n 3, 1) := by decide +kernel
theorem d_Chart_mark_18 : decode b_Chart_mark 18 = .ok (.if_icmp .ne 4, 3) := by decide +kernel
theorem d_Chart_mark_21 : decode b_Chart_mark 21 = .ok (.return_, 1) := by decide +kernel
theorem d_Chart_mark_22 : decode b_Chart_mark 22 = .ok (.aload_n 0, 1) := by decide +kernel
theorem d_Chart_mark_23 : decode b_Chart_mark 23 = .ok (.getfield 43, 3) := by decide +kernel
theorem d_Chart_mark_26 : decode b_Chart_mark 26 = .ok (.getfield 92, 3) := by decide +kernel
theorem d_Chart_mark_29 : decode b_Chart_mark 29 = .ok (.aload_n 0, 1) := by decide +kernel
theorem d_Chart_mark_30 : decode b_Chart_mark 30 = .ok (.getfield 31, 3) := by decide +kernel
theorem d_Chart_mark_33 : decode b_Chart_mark 33 = .ok (.arraylength, 1) := by decide +kernel
theorem d_Chart_mark_34 : decode b_Chart_mark 34 = .ok (.invokestatic 112, 3) := by decide +kernel
theorem d_Chart_mark_37 : decode b_Chart_mark 37 = .ok (.istore 4, 2) := by decide +kernel
theorem d_Chart_mark_39 : decode b_Chart_mark 39 = .ok (.aload_n 0, 1) := by decide +kernel
theorem d_Chart_mark_40 : decode b_Chart_mark 40 = .ok (.getfield 43, 3) := by decide +kernel
theorem d_Chart_mark_43 : decode b_Chart_mark 43 = .ok (.getfield 118, 3) := by decide +kernel
theorem d_Chart_mark_46 : decode b_Chart_mark 46 = .ok (.astore 5, 2) := by decide +kernel
theorem d_Chart_mark_48 : decode b_Chart_mark 48 = .ok (.iconst 0, 1) := by decide +kernel
theorem d_Chart_mark_49 : decode b_Chart_mark 49 = .ok (.istore 6, 2) := by decide +kernel
theorem d_Chart_mark_51 : decode b_Chart_mark 51 = .ok (.iconst (-1), 1) := by decide +kernel
theorem d_Chart_mark_52 : decode b_Chart_mark 52 = .ok (.istore 7, 2) := by decide +kernel
theorem d_Chart_mark_54 : decode b_Chart_mark 54 = .ok (.aload_n 0, 1) := by decide +kernel
theorem d_Chart_mark_55 : decode b_Chart_mark 55 = .ok (.getfield 43, 3) := by decide +kernel
theorem d_Chart_mark_58 : decode b_Chart_mark 58 = .ok (.aload_n 0, 1) := by decide +kernel
theorem d_Chart_mark_59 : decode b_Chart_mark 59 = .ok (.getfield 18, 3) := by decide +kernel
theorem d_Chart_mark_62 : decode b_Chart_mark 62 = .ok (.invokevirtual 121, 3) := by decide +kernel
theorem d_Chart_mark_65 : decode b_Chart_mark 65 = .ok (.iconst 0, 1) := by decide +kernel
theorem d_Chart_mark_66 : decode b_Chart_mark 66 = .ok (.istore 8, 2) := by decide +kernel
theorem d_Chart_mark_68 : decode b_Chart_mark 68 = .ok (.iload 8, 2) := by decide +kernel
theorem d_Chart_mark_70 : decode b_Chart_mark 70 = .ok (.iload 4, 2) := by decide +kernel
theorem d_Chart_mark_72 : decode b_Chart_mark 72 = .ok (.if_icmp .ge 124, 3) := by decide +kernel
theorem d_Chart_mark_75 : decode b_Chart_mark 75 = .ok (.iload_n 2, 1) := by decide +kernel
theorem d_Chart_mark_76 : decode b_Chart_mark 76 = .ok (.istore 9, 2) := by decide +kernel
theorem d_Chart_mark_78 : decode b_Chart_mark 78 = .ok (.iload 9, 2) := by decide +kernel
theorem d_Chart_mark_80 : decode b_Chart_mark 80 = .ok (.iload_n 3, 1) := by decide +kernel
theorem d_Chart_mark_81 : decode b_Chart_mark 81 = .ok (.if_icmp .ge 84, 3) := by decide +kernel
theorem d_Chart_mark_84 : decode b_Chart_mark 84 = .ok (.iload 9, 2) := by decide +kernel
theorem d_Chart_mark_86 : decode b_Chart_mark 86 = .ok (.aload 5, 2) := by decide +kernel
theorem d_Chart_mark_88 : decode b_Chart_mark 88 = .ok (.arraylength, 1) := by decide +kernel
theorem d_Chart_mark_89 : decode b_Chart_mark 89 = .ok (.if_icmp .ge 76, 3) := by decide +kernel
theorem d_Chart_mark_92 : decode b_Chart_mark 92 = .ok (.aload 5, 2) := by decide +kernel
theorem d_Chart_mark_94 : decode b_Chart_mark 94 = .ok (.iload 9, 2) := by decide +kernel
theorem d_Chart_mark_96 : decode b_Chart_mark 96 = .ok (.iaload, 1) := by decide +kernel
theorem d_Chart_mark_97 : decode b_Chart_mark 97 = .ok (.iload 7, 2) := by decide +kernel
theorem d_Chart_mark_99 : decode b_Chart_mark 99 = .ok (.if_icmp .lt 60, 3) := by decide +kernel
theorem d_Chart_mark_102 : decode b_Chart_mark 102 = .ok (.aload_n 0, 1) := by decide +kernel
theorem d_Chart_mark_103 : decode b_Chart_mark 103 = .ok (.getfield 12, 3) := by decide +kernel
theorem d_Chart_mark_106 : decode b_Chart_mark 106 = .ok (.aload_n 0, 1) := by decide +kernel
theorem d_Chart_mark_107 : decode b_Chart_mark 107 = .ok (.getfield 43, 3) := by decide +kernel
theorem d_Chart_mark_110 : decode b_Chart_mark 110 = .ok (.iload 9, 2) := by decide +kernel
theorem d_Chart_mark_112 : decode b_Chart_mark 112 = .ok (.aload_n 0, 1) := by decide +kernel
theorem d_Chart_mark_113 : decode b_Chart_mark 113 = .ok (.getfield 18, 3) := by decide +kernel
theorem d_Chart_mark_116 : decode b_Chart_mark 116 = .ok (.aload_n 0, 1) := by decide +kernel
theorem d_Chart_mark_117 : decode b_Chart_mark 117 = .ok (.getfield 18, 3) := by decide +kernel
theorem d_Chart_mark_120 : decode b_Chart_mark 120 = .ok (.invokevirtual 125, 3) := by decide +kernel
theorem d_Chart_mark_123 : decode b_Chart_mark 123 = .ok (.ifCond .eq 7, 3) := by decide +kernel
theorem d_Chart_mark_126 : decode b_Chart_mark 126 = .ok (.iconst 1, 1) := by decide +kernel
theorem d_Chart_mark_127 : decode b_Chart_mark 127 = .ok (.goto 4, 3) := by decide +kernel
theorem d_Chart_mark_130 : decode b_Chart_mark 130 = .ok (.iconst 0, 1) := by decide +kernel
theorem d_Chart_mark_131 : decode b_Chart_mark 131 = .ok (.istore 10, 2) := by decide +kernel
theorem d_Chart_mark_133 : decode b_Chart_mark 133 = .ok (.iload 10, 2) := by decide +kernel
theorem d_Chart_mark_135 : decode b_Chart_mark 135 = .ok (.ifCond .eq 13, 3) := by decide +kernel
theorem d_Chart_mark_138 : decode b_Chart_mark 138 = .ok (.iload 6, 2) := by decide +kernel
theorem d_Chart_mark_140 : decode b_Chart_mark 140 = .ok (.iconst 1, 1) := by decide +kernel
theorem d_Chart_mark_141 : decode b_Chart_mark 141 = .ok (.iload 9, 2) := by decide +kernel
theorem d_Chart_mark_143 : decode b_Chart_mark 143 = .ok (.ishl, 1) := by decide +kernel
theorem d_Chart_mark_144 : decode b_Chart_mark 144 = .ok (.ior, 1) := by decide +kernel
theorem d_Chart_mark_145 : decode b_Chart_mark 145 = .ok (.goto 12, 3) := by decide +kernel
theorem d_Chart_mark_148 : decode b_Chart_mark 148 = .ok (.iload 6, 2) := by decide +kernel
theorem d_Chart_mark_150 : decode b_Chart_mark 150 = .ok (.iconst 1, 1) := by decide +kernel
theorem d_Chart_mark_151 : decode b_Chart_mark 151 = .ok (.iload 9, 2) := by decide +kernel
theorem d_Chart_mark_153 : decode b_Chart_mark 153 = .ok (.ishl, 1) := by decide +kernel
theorem d_Chart_mark_154 : decode b_Chart_mark 154 = .ok (.iconst (-1), 1) := by decide +kernel
theorem d_Chart_mark_155 : decode b_Chart_mark 155 = .ok (.ixor, 1) := by decide +kernel
theorem d_Chart_mark_156 : decode b_Chart_mark 156 = .ok (.iand, 1) := by decide +kernel
theorem d_Chart_mark_157 : decode b_Chart_mark 157 = .ok (.istore 6, 2) := by decide +kernel
theorem d_Chart_mark_159 : decode b_Chart_mark 159 = .ok (.iinc 9 1, 3) := by decide +kernel
theorem d_Chart_mark_162 : decode b_Chart_mark 162 = .ok (.goto (-84), 3) := by decide +kernel
theorem d_Chart_mark_165 : decode b_Chart_mark 165 = .ok (.aload_n 0, 1) := by decide +kernel
theorem d_Chart_mark_166 : decode b_Chart_mark 166 = .ok (.getfield 31, 3) := by decide +kernel
theorem d_Chart_mark_169 : decode b_Chart_mark 169 = .ok (.iload 8, 2) := by decide +kernel
theorem d_Chart_mark_171 : decode b_Chart_mark 171 = .ok (.dup2, 1) := by decide +kernel
theorem d_Chart_mark_172 : decode b_Chart_mark 172 = .ok (.iaload, 1) := by decide +kernel
theorem d_Chart_mark_173 : decode b_Chart_mark 173 = .ok (.iload 6, 2) := by decide +kernel
theorem d_Chart_mark_175 : decode b_Chart_mark 175 = .ok (.ior, 1) := by decide +kernel
theorem d_Chart_mark_176 : decode b_Chart_mark 176 = .ok (.iastore, 1) := by decide +kernel
theorem d_Chart_mark_177 : decode b_Chart_mark 177 = .ok (.aload_n 0, 1) := by decide +kernel
theorem d_Chart_mark_178 : decode b_Chart_mark 178 = .ok (.getfield 43, 3) := by decide +kernel
theorem d_Chart_mark_181 : decode b_Chart_mark 181 = .ok (.aload_n 0, 1) := by decide +kernel
theorem d_Chart_mark_182 : decode b_Chart_mark 182 = .ok (.getfield 18, 3) := by decide +kernel
theorem d_Chart_mark_185 : decode b_Chart_mark 185 = .ok (.invokevirtual 129, 3) := by decide +kernel
theorem d_Chart_mark_188 : decode b_Chart_mark 188 = .ok (.istore 7, 2) := by decide +kernel
theorem d_Chart_mark_190 : decode b_Chart_mark 190 = .ok (.iinc 8 1, 3) := by decide +kernel
theorem d_Chart_mark_193 : decode b_Chart_mark 193 = .ok (.goto (-125), 3) := by decide +kernel
theorem d_Chart_mark_196 : decode b_Chart_mark 196 = .ok (.return_, 1) := by decide +kernel
set_option maxHeartbeats 4000000 in
set_option maxRecDepth 100000 in
theorem c_Chart_mark (l : Launch) {S : St} {x1 : Int32} {S' : St} (h : f_Chart_mark S x1 = some S') : MV cw l y_Chart_mark b_Chart_mark 11 none 1 30 0 0 (fun ad => [.ref (ad 4 0), .int x1]) aT aE S S' := by
  refine MV_of "LawfulLots$Chart" rfl (by decide) (fun _ => Nat.le_of_ble_eq_true rfl) ?_
  intro p e s m args below meth c D ar ad A Q ls hP F hK hA hw hl hQ
  have hl : lv_has ls 11 [(0, .ref (ad 4 0)), (1, .int x1)] := hl
  obtain ⟨X_0, eX_0⟩ : ∃ X : St → Prop, X = (fun q => ∀ (H : Heap) (locs : List Loc) (pc : Nat) (ls : Array Slot), decode b_Chart_mark pc = .ok (.return_, 1) → Bw cw D ar A s.heap H locs ad q → W p l e (RM 1 30) s m args below meth c H locs 0 0 Q (F0 m pc ls [])) := ⟨_, rfl⟩
  have key : ∀ (H : Heap) (locs : List Loc), Bw cw D ar A s.heap H locs ad S → ∀ o, f_Chart_mark S x1 = some o → X_0 o → W p l e (RM 1 30) s m args below meth c H locs 0 0 Q (F0 m 0 ls []) := by
    intro H locs hw o h ho
    unfold f_Chart_mark at h
    refine lv_iload_n F.1 F.2.1 d_Chart_mark_0 rfl (lv_at hl 1 rfl) ?_
    refine lv_bipush (v := 8) F.1 F.2.1 d_Chart_mark_1 (by decide) ?_
    refine lv_imul F.1 F.2.1 d_Chart_mark_3 ?_
    obtain ⟨x2_1, ex2_1, h⟩ := nm_ex h
    refine lv_nm ex2_1 ?_
    refine lv_istore_n (lv' := [(2, .int x2_1), (0, .ref (ad 4 0)), (1, .int x1)]) F.1 F.2.1 d_Chart_mark_4 rfl hl (by decide) rfl (fun ls hl => ?_)
    refine lv_iload_n F.1 F.2.1 d_Chart_mark_5 rfl (lv_at hl 0 rfl) ?_
    refine lv_aload_n F.1 F.2.1 d_Chart_mark_6 rfl (lv_at hl 1 rfl) ?_
    refine cg_4_8 F hK hw lk_199 d_Chart_mark_7 ?_
    refine lv_iload_n F.1 F.2.1 d_Chart_mark_10 rfl (lv_at hl 2 rfl) ?_
    obtain ⟨v_3, hc_2, h⟩ := bd_ex h
    refine cV_i F hA rfl hK hw (c_Book_toldOf_5 l hc_2) trivial rfl (good_V lk_556 lk_452 lk_453 lk_4 lk_454) (cr_5 hK hw) hd_Book_toldOf ⟨Nat.le_of_ble_eq_true rfl, Nat.le_of_ble_eq_true rfl⟩ rfl hl.1 rfl (Nat.le_of_ble_eq_true rfl) d_Chart_mark_11 ⟨(Nat.zero_le _), (Nat.zero_le _)⟩ (fun H locs hw => ?_)
    refine lv_iadd F.1 F.2.1 d_Chart_mark_14 ?_
    obtain ⟨x3_4, ex3_4, h⟩ := nm_ex h
    refine lv_nm ex3_4 ?_
    refine lv_istore_n (lv' := [(3, .int x3_4), (2, .int x2_1), (0, .ref (ad 4 0)), (1, .int x1)]) F.1 F.2.1 d_Chart_mark_15 rfl hl (by decide) rfl (fun ls hl => ?_)
    refine lv_iload_n F.1 F.2.1 d_Chart_mark_16 rfl (lv_at hl 1 rfl) ?_
    refine lv_iload_n F.1 F.2.1 d_Chart_mark_17 rfl (lv_at hl 0 rfl) ?_
    refine lv_icmp_ne (tgt := 22) F.1 F.2.1 d_Chart_mark_18 (by decide) (fun c_5 => ?_) (fun c_5 => ?_)
    · replace h := iq c_5 h
      refine lv_aload_n F.1 F.2.1 d_Chart_mark_22 rfl (lv_at hl 2 rfl) ?_
      refine cg_4_8 F hK hw lk_199 d_Chart_mark_23 ?_
      refine cg_5_11 F hK hw lk_86 d_Chart_mark_26 ?_
      refine lv_aload_n F.1 F.2.1 d_Chart_mark_29 rfl (lv_at hl 2 rfl) ?_
      refine cg_4_5 F hK hw lk_196 d_Chart_mark_30 ?_
      refine cn_4_5 F hK hw d_Chart_mark_33 ?_
      refine va_mmin F.1 F.2.1 (F.2.2.1.trans hl.1.symm) F.2.2.2.1 (F.2.2.2.2 _ lk_607) (F.2.2.2.2 _ lk_397) (F.2.2.2.2 _ lk_12) (F.2.2.2.2 _ lk_398) (Nat.le_of_ble_eq_true rfl) (Nat.le_of_ble_eq_true rfl) (Nat.zero_le _) (Nat.zero_le _) d_Chart_mark_34 ?_
      obtain ⟨x4_6, ex4_6, h⟩ := nm_ex h
      refine lv_nm ex4_6 ?_
      refine lv_istore (lv' := [(4, .int x4_6), (3, .int x3_4), (2, .int x2_1), (0, .ref (ad 4 0)), (1, .int x1)]) F.1 F.2.1 d_Chart_mark_37 hl (by decide) rfl (fun ls hl => ?_)
      refine lv_aload_n F.1 F.2.1 d_Chart_mark_39 rfl (lv_at hl 3 rfl) ?_
      refine cg_4_8 F hK hw lk_199 d_Chart_mark_40 ?_
      refine cg_5_9 F hK hw lk_81 d_Chart_mark_43 ?_
      refine lv_astore (lv' := [(5, .ref (ad 5 10)), (4, .int x4_6), (3, .int x3_4), (2, .int x2_1), (0, .ref (ad 4 0)), (1, .int x1)]) F.1 F.2.1 d_Chart_mark_46 hl (by decide) rfl (fun ls hl => ?_)
      refine lv_iconst (v := 0) F.1 F.2.1 d_Chart_mark_48 (by decide) ?_
      refine lv_istore (lv' := [(6, .int (0 : Int32)), (5, .ref (ad 5 10)), (4, .int x4_6), (3, .int x3_4), (2, .int x2_1), (0, .ref (ad 4 0)), (1, .int x1)]) F.1 F.2.1 d_Chart_mark_49 hl (by decide) rfl (fun ls hl => ?_)
      refine lv_iconst (v := -1) F.1 F.2.1 d_Chart_mark_51 (by decide) ?_
      refine lv_istore (lv' := [(7, .int (-1 : Int32)), (6, .int (0 : Int32)), (5, .ref (ad 5 10)), (4, .int x4_6), (3, .int x3_4), (2, .int x2_1), (0, .ref (ad 4 0)), (1, .int x1)]) F.1 F.2.1 d_Chart_mark_52 hl (by decide) rfl (fun ls hl => ?_)
      refine lv_aload_n F.1 F.2.1 d_Chart_mark_54 rfl (lv_at hl 6 rfl) ?_
      refine cg_4_8 F hK hw lk_199 d_Chart_mark_55 ?_
      refine lv_aload_n F.1 F.2.1 d_Chart_mark_58 rfl (lv_at hl 6 rfl) ?_
      refine cg_4_1 F hK hw lk_192 d_Chart_mark_59 ?_
      obtain ⟨S_8, hc_7, h⟩ := bd_ex h
      refine cV_v F hA rfl hK hw (c_Book_spellFirst l hc_7) trivial rfl (good_V lk_608 lk_609 lk_610 lk_4 lk_611) (cr_5 hK hw) hd_Book_spellFirst ⟨Nat.le_of_ble_eq_true rfl, Nat.le_of_ble_eq_true rfl⟩ rfl hl.1 rfl (Nat.le_of_ble_eq_true rfl) d_Chart_mark_62 ⟨(Nat.zero_le _), (Nat.zero_le _)⟩ (fun H locs hw => ?_)
      refine lv_iconst (v := 0) F.1 F.2.1 d_Chart_mark_65 (by decide) ?_
      refine lv_istore (lv' := [(8, .int (0 : Int32)), (7, .int (-1 : Int32)), (6, .int (0 : Int32)), (5, .ref (ad 5 10)), (4, .int x4_6), (3, .int x3_4), (2, .int x2_1), (0, .ref (ad 4 0)), (1, .int x1)]) F.1 F.2.1 d_Chart_mark_66 hl (by decide) rfl (fun ls hl => ?_)
      obtain ⟨S_30, hc_31, h⟩ := bd_ex h
      obtain ⟨X_68, eX_68⟩ : ∃ X : St → Prop, X = (fun q => ∀ (H : Heap) (locs : List Loc) (ls : Array Slot), Bw cw D ar A s.heap H locs ad q → lv_has ls 11 [] → W p l e (RM 1 30) s m args below meth c H locs 0 0 Q (F0 m 196 ls [])) := ⟨_, rfl⟩
      have hX_68 : X_68 S_30 := by
        rw [eX_68]
        intro H locs ls hw hl
        cases h
        have ho : X_0 _ := ho
        rw [eX_0] at ho
        exact ho H locs _ ls d_Chart_mark_196 hw
      obtain ⟨P_68, eP_68⟩ : ∃ P : (St × Int32 × Int32 × Int32) → Prop, P = (fun q => ∀ (H : Heap) (locs : List Loc) (ls : Array Slot), Bw cw D ar A s.heap H locs ad q.1 → lv_has ls 11 [(0, .ref (ad 4 0)), (2, .int x2_1), (3, .int x3_4), (4, .int x4_6), (5, .ref (ad 5 10)), (6, .int q.2.1), (7, .int q.2.2.1), (8, .int q.2.2.2)] → W p l e (RM 1 30) s m args below meth c H locs 0 0 Q (F0 m 68 ls [])) := ⟨_, rfl⟩
      have hL_68 : P_68 (S_8, (0 : Int32), (-1 : Int32), (0 : Int32)) := by
        refine wh_gp (P := P_68) (X := X_68) hc_31 hX_68 ?_
        clear h
        intro q o h ho
        obtain ⟨S, x6, x7, x8⟩ := q
        have h : Chart_mark_l68 x2_1 x3_4 x4_6 S x6 x7 x8 = some o := h
        unfold Chart_mark_l68 at h
        rw [eP_68]
        intro H locs ls hw hl
        have J_165_l68 : ∀ (S : St) (x6 : Int32) (x8 : Int32) (H : Heap) (locs : List Loc) (ls : Array Slot), Bw cw D ar A s.heap H locs ad S → lv_has ls 11 [(0, .ref (ad 4 0)), (2, .int x2_1), (3, .int x3_4), (4, .int x4_6), (5, .ref (ad 5 10)), (6, .int x6), (8, .int x8)] → ∀ o, Chart_mark_j165_l68 S x2_1 x3_4 x4_6 x6 x8 = some o → (Sum.elim P_68 X_68) o → W p l e (RM 1 30) s m args below meth c H locs 0 0 Q (F0 m 165 ls []) := by
          intro S x6 x8 H locs ls hw hl o h ho
          unfold Chart_mark_j165_l68 at h
          refine lv_aload_n F.1 F.2.1 d_Chart_mark_165 rfl (lv_at hl 0 rfl) ?_
          refine cg_4_5 F hK hw lk_196 d_Chart_mark_166 ?_
          refine lv_iload F.1 F.2.1 d_Chart_mark_169 (lv_at hl 6 rfl) ?_
          refine lv_dup2_11 F.1 F.2.1 d_Chart_mark_171 rfl rfl ?_
          obtain ⟨hi_23, h⟩ := gd_ex h
          refine cl_4_5 F hK hw hi_23 d_Chart_mark_172 ?_
          refine lv_iload F.1 F.2.1 d_Chart_mark_173 (lv_at hl 5 rfl) ?_
          refine lv_ior F.1 F.2.1 d_Chart_mark_175 ?_
          obtain ⟨hi_24, h⟩ := gd_ex h
          obtain ⟨S_25, eS_25, h⟩ := nm_ex h
          refine cs_4_5 F hK hw hi_24 d_Chart_mark_176 eS_25 (fun H locs hw => ?_)
          refine lv_aload_n F.1 F.2.1 d_Chart_mark_177 rfl (lv_at hl 0 rfl) ?_
          refine cg_4_8 F hK hw lk_199 d_Chart_mark_178 ?_
          refine lv_aload_n F.1 F.2.1 d_Chart_mark_181 rfl (lv_at hl 0 rfl) ?_
          refine cg_4_1 F hK hw lk_192 d_Chart_mark_182 ?_
          obtain ⟨v_27, S_28, hc_26, h⟩ := bd2_ex h
          refine cV_i F hA rfl hK hw (c_Book_advance l hc_26) trivial rfl (good_V lk_616 lk_617 lk_618 lk_4 lk_619) (cr_5 hK hw) hd_Book_advance ⟨Nat.le_of_ble_eq_true rfl, Nat.le_of_ble_eq_true rfl⟩ rfl hl.1 rfl (Nat.le_of_ble_eq_true rfl) d_Chart_mark_185 ⟨(Nat.zero_le _), (Nat.zero_le _)⟩ (fun H locs hw => ?_)
          refine lv_istore (lv' := [(7, .int v_27), (0, .ref (ad 4 0)), (2, .int x2_1), (3, .int x3_4), (4, .int x4_6), (5, .ref (ad 5 10)), (6, .int x6), (8, .int x8)]) F.1 F.2.1 d_Chart_mark_188 hl (by decide) rfl (fun ls hl => ?_)
          obtain ⟨x8_29, ex8_29, h⟩ := nm_ex h
          refine lv_iinc (v := x8_29) (lv' := [(8, .int x8_29), (7, .int v_27), (0, .ref (ad 4 0)), (2, .int x2_1), (3, .int x3_4), (4, .int x4_6), (5, .ref (ad 5 10)), (6, .int x6)]) F.1 F.2.1 d_Chart_mark_190 hl (k := 7) rfl (by rw [ex8_29]; rfl) (by decide) rfl (fun ls hl => ?_)
          refine lv_goto (tgt := 68) F.1 F.2.1 d_Chart_mark_193 (by decide) ?_
          cases h
          have ho : P_68 _ := ho
          rw [eP_68] at ho
          exact ho H locs ls hw (lv_sub hl [2, 3, 4, 5, 6, 7, 1, 0] rfl)
        refine lv_iload F.1 F.2.1 d_Chart_mark_68 (lv_at hl 7 rfl) ?_
        refine lv_iload F.1 F.2.1 d_Chart_mark_70 (lv_at hl 3 rfl) ?_
        refine lv_icmp_ge (tgt := 196) F.1 F.2.1 d_Chart_mark_72 (by decide) (fun c_9 => ?_) (fun c_9 => ?_)
        · replace h := ip c_9 h
          cases h
          have ho : X_68 _ := ho
          rw [eX_68] at ho
          exact ho H locs ls hw (lv_sub hl [] rfl)
        · replace h := iq c_9 h
          refine lv_iload_n F.1 F.2.1 d_Chart_mark_75 rfl (lv_at hl 1 rfl) ?_
          refine lv_istore (lv' := [(9, .int x2_1), (0, .ref (ad 4 0)), (2, .int x2_1), (3, .int x3_4), (4, .int x4_6), (5, .ref (ad 5 10)), (6, .int x6), (7, .int x7), (8, .int x8)]) F.1 F.2.1 d_Chart_mark_76 hl (by decide) rfl (fun ls hl => ?_)
          obtain ⟨S_20, x6_21, hc_22, h⟩ := bd2_ex h
          obtain ⟨X_78, eX_78⟩ : ∃ X : (St × Int32) → Prop, X = (fun q => ∀ (H : Heap) (locs : List Loc) (ls : Array Slot), Bw cw D ar A s.heap H locs ad q.1 → lv_has ls 11 [(0, .ref (ad 4 0)), (2, .int x2_1), (3, .int x3_4), (4, .int x4_6), (5, .ref (ad 5 10)), (6, .int q.2), (8, .int x8)] → W p l e (RM 1 30) s m args below meth c H locs 0 0 Q (F0 m 165 ls [])) := ⟨_, rfl⟩
          have hX_78 : X_78 (S_20, x6_21) := by
            rw [eX_78]
            intro H locs ls hw hl
            exact J_165_l68 S_20 x6_21 x8 H locs ls hw (lv_sub hl [0, 1, 2, 3, 4, 5, 6] rfl) o h ho
          obtain ⟨P_78, eP_78⟩ : ∃ P : (St × Int32 × Int32) → Prop, P = (fun q => ∀ (H : Heap) (locs : List Loc) (ls : Array Slot), Bw cw D ar A s.heap H locs ad q.1 → lv_has ls 11 [(0, .ref (ad 4 0)), (2, .int x2_1), (3, .int x3_4), (4, .int x4_6), (5, .ref (ad 5 10)), (6, .int q.2.1), (7, .int x7), (8, .int x8), (9, .int q.2.2)] → W p l e (RM 1 30) s m args below meth c H locs 0 0 Q (F0 m 78 ls [])) := ⟨_, rfl⟩
          have hL_78 : P_78 (S, x6, x2_1) := by
            refine wh_gp (P := P_78) (X := X_78) hc_22 hX_78 ?_
            clear h
            intro q o h ho
            obtain ⟨S, x6, x9⟩ := q
            have h : Chart_mark_l78 x2_1 x3_4 x4_6 x7 x8 S x6 x9 = some o := h
            unfold Chart_mark_l78 at h
            rw [eP_78]
            intro H locs ls hw hl
            have J_159_l78 : ∀ (S : St) (x6 : Int32) (x9 : Int32) (H : Heap) (locs : List Loc) (ls : Array Slot), Bw cw D ar A s.heap H locs ad S → lv_has ls 11 [(0, .ref (ad 4 0)), (2, .int x2_1), (3, .int x3_4), (4, .int x4_6), (5, .ref (ad 5 10)), (6, .int x6), (7, .int x7), (8, .int x8), (9, .int x9)] → ∀ o, Chart_mark_j159_l78 S x2_1 x3_4 x4_6 x6 x7 x8 x9 = some o → (Sum.elim P_78 X_78) o → W p l e (RM 1 30) s m args below meth c H locs 0 0 Q (F0 m 159 ls []) := by
              intro S x6 x9 H locs ls hw hl o h ho
              unfold Chart_mark_j159_l78 at h
              obtain ⟨x9_19, ex9_19, h⟩ := nm_ex h
              refine lv_iinc (v := x9_19) (lv' := [(9, .int x9_19), (0, .ref (ad 4 0)), (2, .int x2_1), (3, .int x3_4), (4, .int x4_6), (5, .ref (ad 5 10)), (6, .int x6), (7, .int x7), (8, .int x8)]) F.1 F.2.1 d_Chart_mark_159 hl (k := 8) rfl (by rw [ex9_19]; rfl) (by decide) rfl (fun ls hl => ?_)
              refine lv_goto (tgt := 78) F.1 F.2.1 d_Chart_mark_162 (by decide) ?_
              cases h
              have ho : P_78 _ := ho
              rw [eP_78] at ho
              exact ho H locs ls hw (lv_sub hl [1, 2, 3, 4, 5, 6, 7, 8, 0] rfl)
            have J_157_l78 : ∀ (S : St) (x9 : Int32) (t0 : Int32) (H : Heap) (locs : List Loc) (ls : Array Slot), Bw cw D ar A s.heap H locs ad S → lv_has ls 11 [(0, .ref (ad 4 0)), (2, .int x2_1), (3, .int x3_4), (4, .int x4_6), (5, .ref (ad 5 10)), (7, .int x7), (8, .int x8), (9, .int x9)] → ∀ o, Chart_mark_j157_l78 S x2_1 x3_4 x4_6 x7 x8 x9 t0 = some o → (Sum.elim P_78 X_78) o → W p l e (RM 1 30) s m args below meth c H locs 0 0 Q (F0 m 157 ls [.int t0]) := by
              intro S x9 t0 H locs ls hw hl o h ho
              unfold Chart_mark_j157_l78 at h
              refine lv_istore (lv' := [(6, .int t0), (0, .ref (ad 4 0)), (2, .int x2_1), (3, .int x3_4), (4, .int x4_6), (5, .ref (ad 5 10)), (7, .int x7), (8, .int x8), (9, .int x9)]) F.1 F.2.1 d_Chart_mark_157 hl (by decide) rfl (fun ls hl => ?_)
              exact J_159_l78 S t0 x9 H locs ls hw (lv_sub hl [1, 2, 3, 4, 5, 0, 6, 7, 8] rfl) o h ho
            have J_131_l78 : ∀ (S : St) (x6 : Int32) (x9 : Int32) (t0 : Int32) (H : Heap) (locs : List Loc) (ls : Array Slot), Bw cw D ar A s.heap H locs ad S → lv_has ls 11 [(0, .ref (ad 4 0)), (2, .int x2_1), (3, .int x3_4), (4, .int x4_6), (5, .ref (ad 5 10)), (6, .int x6), (7, .int x7), (8, .int x8), (9, .int x9)] → ∀ o, Chart_mark_j131_l78 S x2_1 x3_4 x4_6 x6 x7 x8 x9 t0 = some o → (Sum.elim P_78 X_78) o → W p l e (RM 1 30) s m args below meth c H locs 0 0 Q (F0 m 131 ls [.int t0]) := by
              intro S x6 x9 t0 H locs ls hw hl o h ho
              unfold Chart_mark_j131_l78 at h
              refine lv_istore (lv' := [(10, .int t0), (0, .ref (ad 4 0)), (2, .int x2_1), (3, .int x3_4), (4, .int x4_6), (5, .ref (ad 5 10)), (6, .int x6), (7, .int x7), (8, .int x8), (9, .int x9)]) F.1 F.2.1 d_Chart_mark_131 hl (by decide) rfl (fun ls hl => ?_)
              refine lv_iload F.1 F.2.1 d_Chart_mark_133 (lv_at hl 0 rfl) ?_
              refine lv_if_eq (tgt := 148) F.1 F.2.1 d_Chart_mark_135 (by decide) (fun c_18 => ?_) (fun c_18 => ?_)
              · replace h := ip c_18 h
                refine lv_iload F.1 F.2.1 d_Chart_mark_148 (lv_at hl 6 rfl) ?_
                refine lv_iconst (v := 1) F.1 F.2.1 d_Chart_mark_150 (by decide) ?_
                refine lv_iload F.1 F.2.1 d_Chart_mark_151 (lv_at hl 9 rfl) ?_
                refine lv_ishl F.1 F.2.1 d_Chart_mark_153 ?_
                refine lv_iconst (v := -1) F.1 F.2.1 d_Chart_mark_154 (by decide) ?_
                refine lv_ixor F.1 F.2.1 d_Chart_mark_155 ?_
                refine lv_iand F.1 F.2.1 d_Chart_mark_156 ?_
                exact J_157_l78 S x9 (x6 &&& (((1 : Int32) <<< (x9 &&& 31)) ^^^ (-1 : Int32))) H locs ls hw (lv_sub hl [1, 2, 3, 4, 5, 7, 8, 9] rfl) o h ho
              · replace h := iq c_18 h
                refine lv_iload F.1 F.2.1 d_Chart_mark_138 (lv_at hl 6 rfl) ?_
                refine lv_iconst (v := 1) F.1 F.2.1 d_Chart_mark_140 (by decide) ?_
                refine lv_iload F.1 F.2.1 d_Chart_mark_141 (lv_at hl 9 rfl) ?_
                refine lv_ishl F.1 F.2.1 d_Chart_mark_143 ?_
                refine lv_ior F.1 F.2.1 d_Chart_mark_144 ?_
                refine lv_goto (tgt := 157) F.1 F.2.1 d_Chart_mark_145 (by decide) ?_
                exact J_157_l78 S x9 (x6 ||| ((1 : Int32) <<< (x9 &&& 31))) H locs ls hw (lv_sub hl [1, 2, 3, 4, 5, 7, 8, 9] rfl) o h ho
            refine lv_iload F.1 F.2.1 d_Chart_mark_78 (lv_at hl 8 rfl) ?_
            refine lv_iload_n F.1 F.2.1 d_Chart_mark_80 rfl (lv_at hl 2 rfl) ?_
            refine lv_icmp_ge (tgt := 165) F.1 F.2.1 d_Chart_mark_81 (by decide) (fun c_10 => ?_) (fun c_10 => ?_)
            · replace h := ip c_10 h
              cases h
              have ho : X_78 _ := ho
              rw [eX_78] at ho
              exact ho H locs ls hw (lv_sub hl [0, 1, 2, 3, 4, 5, 7] rfl)
            · replace h := iq c_10 h
              refine lv_iload F.1 F.2.1 d_Chart_mark_84 (lv_at hl 8 rfl) ?_
              refine lv_aload F.1 F.2.1 d_Chart_mark_86 (lv_at hl 4 rfl) ?_
              refine cn_5_9 F hK hw d_Chart_mark_88 ?_
              refine lv_icmp_ge (tgt := 165) F.1 F.2.1 d_Chart_mark_89 (by decide) (fun c_11 => ?_) (fun c_11 => ?_)
              · replace h := ip c_11 h
                cases h
                have ho : X_78 _ := ho
                rw [eX_78] at ho
                exact ho H locs ls hw (lv_sub hl [0, 1, 2, 3, 4, 5, 7] rfl)
              · replace h := iq c_11 h
                refine lv_aload F.1 F.2.1 d_Chart_mark_92 (lv_at hl 4 rfl) ?_
                refine lv_iload F.1 F.2.1 d_Chart_mark_94 (lv_at hl 8 rfl) ?_
                obtain ⟨hi_12, h⟩ := gd_ex h
                refine cl_5_9 F hK hw hi_12 d_Chart_mark_96 ?_
                refine lv_iload F.1 F.2.1 d_Chart_mark_97 (lv_at hl 6 rfl) ?_
                refine lv_icmp_lt (tgt := 159) F.1 F.2.1 d_Chart_mark_99 (by decide) (fun c_13 => ?_) (fun c_13 => ?_)
                · replace h := ip c_13 h
                  exact J_159_l78 S x6 x9 H locs ls hw (lv_sub hl [0, 1, 2, 3, 4, 5, 6, 7, 8] rfl) o h ho
                · replace h := iq c_13 h
                  refine lv_aload_n F.1 F.2.1 d_Chart_mark_102 rfl (lv_at hl 0 rfl) ?_
                  refine cg_4_0 F hK hw lk_191 d_Chart_mark_103 ?_
                  refine lv_aload_n F.1 F.2.1 d_Chart_mark_106 rfl (lv_at hl 0 rfl) ?_
                  refine cg_4_8 F hK hw lk_199 d_Chart_mark_107 ?_
                  refine lv_iload F.1 F.2.1 d_Chart_mark_110 (lv_at hl 8 rfl) ?_
                  refine lv_aload_n F.1 F.2.1 d_Chart_mark_112 rfl (lv_at hl 0 rfl) ?_
                  refine cg_4_1 F hK hw lk_192 d_Chart_mark_113 ?_
                  refine lv_aload_n F.1 F.2.1 d_Chart_mark_116 rfl (lv_at hl 0 rfl) ?_
                  refine cg_4_1 F hK hw lk_192 d_Chart_mark_117 ?_
                  obtain ⟨v_15, S_16, hc_14, h⟩ := bd2_ex h
                  refine cV_i F hA rfl hK hw (c_Machine_run_6_4_1_4_1 l hc_14) trivial rfl (good_V lk_612 lk_613 lk_614 lk_6 lk_615) (cr_6 hK hw) hd_Machine_run ⟨Nat.le_of_ble_eq_true rfl, Nat.le_of_ble_eq_true rfl⟩ rfl hl.1 rfl (Nat.le_of_ble_eq_true rfl) d_Chart_mark_120 ⟨(Nat.zero_le _), (Nat.zero_le _)⟩ (fun H locs hw => ?_)
                  refine lv_if_eq (tgt := 130) F.1 F.2.1 d_Chart_mark_123 (by decide) (fun c_17 => ?_) (fun c_17 => ?_)
                  · replace h := ip c_17 h
                    refine lv_iconst (v := 0) F.1 F.2.1 d_Chart_mark_130 (by decide) ?_
                    exact J_131_l78 S_16 x6 x9 (0 : Int32) H locs ls hw (lv_sub hl [0, 1, 2, 3, 4, 5, 6, 7, 8] rfl) o h ho
                  · replace h := iq c_17 h
                    refine lv_iconst (v := 1) F.1 F.2.1 d_Chart_mark_126 (by decide) ?_
                    refine lv_goto (tgt := 131) F.1 F.2.1 d_Chart_mark_127 (by decide) ?_
                    exact J_131_l78 S_16 x6 x9 (1 : Int32) H locs ls hw (lv_sub hl [0, 1, 2, 3, 4, 5, 6, 7, 8] rfl) o h ho
          rw [eP_78] at hL_78
          exact hL_78 H locs ls hw (lv_sub hl [1, 2, 3, 4, 5, 6, 7, 8, 0] rfl)
      rw [eP_68] at hL_68
      exact hL_68 H locs ls hw (lv_sub hl [7, 6, 5, 4, 3, 2, 1, 0] rfl)
    · replace h := ip c_5 h
      cases h
      have ho : X_0 _ := ho
      rw [eX_0] at ho
      exact ho H locs _ ls d_Chart_mark_21 hw
  exact key _ _ hw _ h (by rw [eX_0]; exact fun H locs pc ls hd hw => hQ H locs pc ls ad rfl hd hw)
set_option maxHeartbeats 4000000 in
set_option maxRecDepth 100000 in
theorem c_Arrays_fill_4_2 (l : Launch) {S : St} {x1 : Int32} {S' : St} (h : f_Arrays_fill 4 2 S x1 = some S') : MV cw l y_Arrays_fill b_Arrays_fill 4 none 0 0 0 0 (fun ad => [.ref (ad 4 3), .int x1]) aT aE S S' := by
  refine MV_of "java/util/Arrays" rfl (by decide) (fun _ => Nat.le_of_ble_eq_true rfl) ?_
  intro p e s m args below meth c D ar ad A Q ls hP F hK hA hw hl hQ
  have hl : lv_has ls 4 [(0, .ref (ad 4 3)), (1, .int x1)] := hl
  obtain ⟨X_0, eX_0⟩ : ∃ X : St → Prop, X = (fun q => ∀ (H : Heap) (locs : List Loc) (pc : Nat) (ls : Array Slot), decode b_Arrays_fill pc = .ok (.return_, 1) → Bw cw D ar A s.heap H locs ad q → W p l e (RM 0 0) s m args below meth c H locs 0 0 Q (F0 m pc ls [])) := ⟨_, rfl⟩
  have key : ∀ (H : Heap) (locs : List Loc), Bw cw D ar A s.heap H locs ad S → ∀ o, f_Arrays_fill 4 2 S x1 = some o → X_0 o → W p l e (RM 0 0) s m args below meth c H locs 0 0 Q (F0 m 0 ls []) := by
    intro H locs hw o h ho
    unfold f_Arrays_fill at h
    refine lv_iconst (v := 0) F.1 F.2.1 d_Arrays_fill_0 (by decide) ?_
    refine lv_istore_n (lv' := [(2, .int (0 : Int32)), (0, .ref (ad 4 3)), (1, .int x1)]) F.1 F.2.1 d_Arrays_fill_1 rfl hl (by decide) rfl (fun ls hl => ?_)
    refine lv_aload_n F.1 F.2.1 d_Arrays_fill_2 rfl (lv_at hl 1 rfl) ?_
    refine cn_4_2 F hK hw d_Arrays_fill_3 ?_
    obtain ⟨x3_1, ex3_1, h⟩ := nm_ex h
    refine lv_nm ex3_1 ?_
    refine lv_istore_n (lv' := [(3, .int x3_1), (2, .int (0 : Int32)), (0, .ref (ad 4 3)), (1, .int x1)]) F.1 F.2.1 d_Arrays_fill_4 rfl hl (by decide) rfl (fun ls hl => ?_)
    obtain ⟨S_6, hc_7, h⟩ := bd_ex h
    obtain ⟨X_5, eX_5⟩ : ∃ X : St → Prop, X = (fun q => ∀ (H : Heap) (locs : List Loc) (ls : Array Slot), Bw cw D ar A s.heap H locs ad q → lv_has ls 4 [] → W p l e (RM 0 0) s m args below meth c H locs 0 0 Q (F0 m 20 ls [])) := ⟨_, rfl⟩
    have hX_5 : X_5 S_6 := by
      rw [eX_5]
      intro H locs ls hw hl
      cases h
      have ho : X_0 _ := ho
      rw [eX_0] at ho
      exact ho H locs _ ls d_Arrays_fill_20 hw
    obtain ⟨P_5, eP_5⟩ : ∃ P : (St × Int32) → Prop, P = (fun q => ∀ (H : Heap) (locs : List Loc) (ls : Array Slot), Bw cw D ar A s.heap H locs ad q.1 → lv_has ls 4 [(0, .ref (ad 4 3)), (1, .int x1), (2, .int q.2), (3, .int x3_1)] → W p l e (RM 0 0) s m args below meth c H locs 0 0 Q (F0 m 5 ls [])) := ⟨_, rfl⟩
    have hL_5 : P_5 (S, (0 : Int32)) := by
      refine wh_gp (P := P_5) (X := X_5) hc_7 hX_5 ?_
      clear h
      intro q o h ho
      obtain ⟨S, x2⟩ := q
      have h : Arrays_fill_l5 4 2 x1 x3_1 S x2 = some o := h
      unfold Arrays_fill_l5 at h
      rw [eP_5]
      intro H locs ls hw hl
      refine lv_iload_n F.1 F.2.1 d_Arrays_fill_5 rfl (lv_at hl 2 rfl) ?_
      refine lv_iload_n F.1 F.2.1 d_Arrays_fill_6 rfl (lv_at hl 3 rfl) ?_
      refine lv_icmp_ge (tgt := 20) F.1 F.2.1 d_Arrays_fill_7 (by decide) (fun c_2 => ?_) (fun c_2 => ?_)
      · replace h := ip c_2 h
        cases h
        have ho : X_5 _ := ho
        rw [eX_5] at ho
        exact ho H locs ls hw (lv_sub hl [] rfl)
      · replace h := iq c_2 h
        refine lv_aload_n F.1 F.2.1 d_Arrays_fill_10 rfl (lv_at hl 0 rfl) ?_
        refine lv_iload_n F.1 F.2.1 d_Arrays_fill_11 rfl (lv_at hl 2 rfl) ?_
        refine lv_iload_n F.1 F.2.1 d_Arrays_fill_12 rfl (lv_at hl 1 rfl) ?_
        obtain ⟨hi_3, h⟩ := gd_ex h
        obtain ⟨S_4, eS_4, h⟩ := nm_ex h
        refine cs_4_2 F hK hw hi_3 d_Arrays_fill_13 eS_4 (fun H locs hw => ?_)
        obtain ⟨x2_5, ex2_5, h⟩ := nm_ex h
        refine lv_iinc (v := x2_5) (lv' := [(2, .int x2_5), (0, .ref (ad 4 3)), (1, .int x1), (3, .int x3_1)]) F.1 F.2.1 d_Arrays_fill_14 hl (k := 2) rfl (by rw [ex2_5]; rfl) (by decide) rfl (fun ls hl => ?_)
        refine lv_goto (tgt := 5) F.1 F.2.1 d_Arrays_fill_17 (by decide) ?_
        cases h
        have ho : P_5 _ := ho
        rw [eP_5] at ho
        exact ho H locs ls hw (lv_sub hl [1, 2, 0, 3] rfl)
    rw [eP_5] at hL_5
    exact hL_5 H locs ls hw (lv_sub hl [2, 3, 1, 0] rfl)
  exact key _ _ hw _ h (by rw [eX_0]; exact fun H locs pc ls hd hw => hQ H locs pc ls ad rfl hd hw)
set_option maxHeartbeats 4000000 in
set_option maxRecDepth 100000 in
theorem c_Lots_addSupersets_4_2 (l : Launch) {S : St} {x1 : Int32} {S' : St} (h : f_Lots_addSupersets 4 2 S x1 = some S') : MV cw l y_Lots_addSupersets b_Lots_addSupersets 5 none 1 21 0 0 (fun ad => [.ref (ad 4 3), .int x1]) aT aE S S' := by
  refine MV_of "LawfulLots" rfl (by decide) (fun _ => Nat.le_of_ble_eq_true rfl) ?_
  intro p e s m args below meth c D ar ad A Q ls hP F hK hA hw hl hQ
  have hl : lv_has ls 5 [(0, .ref (ad 4 3)), (1, .int x1)] := hl
  obtain ⟨X_0, eX_0⟩ : ∃ X : St → Prop, X = (fun q => ∀ (H : Heap) (locs : List Loc) (pc : Nat) (ls : Array Slot), decode b_Lots_addSupersets pc = .ok (.return_, 1) → Bw cw D ar A s.heap H locs ad q → W p l e (RM 1 21) s m args below meth c H locs 0 0 Q (F0 m pc ls [])) := ⟨_, rfl⟩
  have key : ∀ (H : Heap) (locs : List Loc), Bw cw D ar A s.heap H locs ad S → ∀ o, f_Lots_addSupersets 4 2 S x1 = some o → X_0 o → W p l e (RM 1 21) s m args below meth c H locs 0 0 Q (F0 m 0 ls []) := by
    intro H locs hw o h ho
    unfold f_Lots_addSupersets at h
    have J_73 : ∀ (S : St) (H : Heap) (locs : List Loc) (ls : Array Slot), Bw cw D ar A s.heap H locs ad S → lv_has ls 5 [] → ∀ o, Lots_addSupersets_j73 4 2 S = some o → X_0 o → W p l e (RM 1 21) s m args below meth c H locs 0 0 Q (F0 m 73 ls []) := by
      intro S H locs ls hw hl o h ho
      unfold Lots_addSupersets_j73 at h
      cases h
      have ho : X_0 _ := ho
      rw [eX_0] at ho
      exact ho H locs _ ls d_Lots_addSupersets_73 hw
    refine lv_aload_n F.1 F.2.1 d_Lots_addSupersets_0 rfl (lv_at hl 0 rfl) ?_
    refine cn_4_2 F hK hw d_Lots_addSupersets_1 ?_
    refine lv_iconst (v := 1) F.1 F.2.1 d_Lots_addSupersets_2 (by decide) ?_
    refine lv_iload_n F.1 F.2.1 d_Lots_addSupersets_3 rfl (lv_at hl 1 rfl) ?_
    refine lv_ishl F.1 F.2.1 d_Lots_addSupersets_4 ?_
    refine va_mmin F.1 F.2.1 (F.2.2.1.trans hl.1.symm) F.2.2.2.1 (F.2.2.2.2 _ lk_627) (F.2.2.2.2 _ lk_397) (F.2.2.2.2 _ lk_12) (F.2.2.2.2 _ lk_398) (Nat.le_of_ble_eq_true rfl) (Nat.le_of_ble_eq_true rfl) (Nat.zero_le _) (Nat.zero_le _) d_Lots_addSupersets_5 ?_
    obtain ⟨x2_1, ex2_1, h⟩ := nm_ex h
    refine lv_nm ex2_1 ?_
    refine lv_istore_n (lv' := [(2, .int x2_1), (0, .ref (ad 4 3)), (1, .int x1)]) F.1 F.2.1 d_Lots_addSupersets_8 rfl hl (by decide) rfl (fun ls hl => ?_)
    refine lv_iconst (v := 1) F.1 F.2.1 d_Lots_addSupersets_9 (by decide) ?_
    refine lv_istore_n (lv' := [(3, .int (1 : Int32)), (2, .int x2_1), (0, .ref (ad 4 3)), (1, .int x1)]) F.1 F.2.1 d_Lots_addSupersets_10 rfl hl (by decide) rfl (fun ls hl => ?_)
    obtain ⟨S_15, hc_16, h⟩ := bd_ex h
    obtain ⟨X_11, eX_11⟩ : ∃ X : St → Prop, X = (fun q => ∀ (H : Heap) (locs : List Loc) (ls : Array Slot), Bw cw D ar A s.heap H locs ad q → lv_has ls 5 [] → W p l e (RM 1 21) s m args below meth c H locs 0 0 Q (F0 m 73 ls [])) := ⟨_, rfl⟩
    have hX_11 : X_11 S_15 := by
      rw [eX_11]
      intro H locs ls hw hl
      exact J_73 S_15 H locs ls hw (lv_sub hl [] rfl) o h ho
    obtain ⟨P_11, eP_11⟩ : ∃ P : (St × Int32) → Prop, P = (fun q => ∀ (H : Heap) (locs : List Loc) (ls : Array Slot), Bw cw D ar A s.heap H locs ad q.1 → lv_has ls 5 [(0, .ref (ad 4 3)), (2, .int x2_1), (3, .int q.2)] → W p l e (RM 1 21) s m args below meth c H locs 0 0 Q (F0 m 11 ls [])) := ⟨_, rfl⟩
    have hL_11 : P_11 (S, (1 : Int32)) := by
      refine wh_gp (P := P_11) (X := X_11) hc_16 hX_11 ?_
      clear h
      intro q o h ho
      obtain ⟨S, x3⟩ := q
      have h : Lots_addSupersets_l11 4 2 x2_1 S x3 = some o := h
      unfold Lots_addSupersets_l11 at h
      rw [eP_11]
      intro H locs ls hw hl
      refine lv_iload_n F.1 F.2.1 d_Lots_addSupersets_11 rfl (lv_at hl 2 rfl) ?_
      refine lv_iload_n F.1 F.2.1 d_Lots_addSupersets_12 rfl (lv_at hl 1 rfl) ?_
      refine lv_icmp_ge (tgt := 73) F.1 F.2.1 d_Lots_addSupersets_13 (by decide) (fun c_2 => ?_) (fun c_2 => ?_)
      · replace h := ip c_2 h
        cases h
        have ho : X_11 _ := ho
        rw [eX_11] at ho
        exact ho H locs ls hw (lv_sub hl [] rfl)
      · replace h := iq c_2 h
        refine lv_iload_n F.1 F.2.1 d_Lots_addSupersets_16 rfl (lv_at hl 2 rfl) ?_
        refine lv_sipush (v := 256) F.1 F.2.1 d_Lots_addSupersets_17 (by decide) ?_
        refine lv_icmp_ge (tgt := 73) F.1 F.2.1 d_Lots_addSupersets_20 (by decide) (fun c_3 => ?_) (fun c_3 => ?_)
        · replace h := ip c_3 h
          cases h
          have ho : X_11 _ := ho
          rw [eX_11] at ho
          exact ho H locs ls hw (lv_sub hl [] rfl)
        · replace h := iq c_3 h
          refine lv_iconst (v := 0) F.1 F.2.1 d_Lots_addSupersets_23 (by decide) ?_
          refine lv_istore (lv' := [(4, .int (0 : Int32)), (0, .ref (ad 4 3)), (2, .int x2_1), (3, .int x3)]) F.1 F.2.1 d_Lots_addSupersets_24 hl (by decide) rfl (fun ls hl => ?_)
          obtain ⟨S_12, hc_13, h⟩ := bd_ex h
          obtain ⟨X_26, eX_26⟩ : ∃ X : St → Prop, X = (fun q => ∀ (H : Heap) (locs : List Loc) (ls : Array Slot), Bw cw D ar A s.heap H locs ad q → lv_has ls 5 [(0, .ref (ad 4 3)), (2, .int x2_1), (3, .int x3)] → W p l e (RM 1 21) s m args below meth c H locs 0 0 Q (F0 m 66 ls [])) := ⟨_, rfl⟩
          have hX_26 : X_26 S_12 := by
            rw [eX_26]
            intro H locs ls hw hl
            refine lv_iload_n F.1 F.2.1 d_Lots_addSupersets_66 rfl (lv_at hl 2 rfl) ?_
            refine lv_iconst (v := 1) F.1 F.2.1 d_Lots_addSupersets_67 (by decide) ?_
            refine lv_ishl F.1 F.2.1 d_Lots_addSupersets_68 ?_
            obtain ⟨x3_14, ex3_14, h⟩ := nm_ex h
            refine lv_nm ex3_14 ?_
            refine lv_istore_n (lv' := [(3, .int x3_14), (0, .ref (ad 4 3)), (2, .int x2_1)]) F.1 F.2.1 d_Lots_addSupersets_69 rfl hl (by decide) rfl (fun ls hl => ?_)
            refine lv_goto (tgt := 11) F.1 F.2.1 d_Lots_addSupersets_70 (by decide) ?_
            cases h
            have ho : P_11 _ := ho
            rw [eP_11] at ho
            exact ho H locs ls hw (lv_sub hl [1, 2, 0] rfl)
          obtain ⟨P_26, eP_26⟩ : ∃ P : (St × Int32) → Prop, P = (fun q => ∀ (H : Heap) (locs : List Loc) (ls : Array Slot), Bw cw D ar A s.heap H locs ad q.1 → lv_has ls 5 [(0, .ref (ad 4 3)), (2, .int x2_1), (3, .int x3), (4, .int q.2)] → W p l e (RM 1 21) s m args below meth c H locs 0 0 Q (F0 m 26 ls [])) := ⟨_, rfl⟩
          have hL_26 : P_26 (S, (0 : Int32)) := by
            refine wh_gp (P := P_26) (X := X_26) hc_13 hX_26 ?_
            clear h
            intro q o h ho
            obtain ⟨S, x4⟩ := q
            have h : Lots_addSupersets_l26 4 2 x2_1 x3 S x4 = some o := h
            unfold Lots_addSupersets_l26 at h
            rw [eP_26]
            intro H locs ls hw hl
            have J_60_l26 : ∀ (S : St) (x4 : Int32) (H : Heap) (locs : List Loc) (ls : Array Slot), Bw cw D ar A s.heap H locs ad S → lv_has ls 5 [(0, .ref (ad 4 3)), (2, .int x2_1), (3, .int x3), (4, .int x4)] → ∀ o, Lots_addSupersets_j60_l26 4 2 S x2_1 x3 x4 = some o → (Sum.elim P_26 X_26) o → W p l e (RM 1 21) s m args below meth c H locs 0 0 Q (F0 m 60 ls []) := by
              intro S x4 H locs ls hw hl o h ho
              unfold Lots_addSupersets_j60_l26 at h
              obtain ⟨x4_11, ex4_11, h⟩ := nm_ex h
              refine lv_iinc (v := x4_11) (lv' := [(4, .int x4_11), (0, .ref (ad 4 3)), (2, .int x2_1), (3, .int x3)]) F.1 F.2.1 d_Lots_addSupersets_60 hl (k := 3) rfl (by rw [ex4_11]; rfl) (by decide) rfl (fun ls hl => ?_)
              refine lv_goto (tgt := 26) F.1 F.2.1 d_Lots_addSupersets_63 (by decide) ?_
              cases h
              have ho : P_26 _ := ho
              rw [eP_26] at ho
              exact ho H locs ls hw (lv_sub hl [1, 2, 3, 0] rfl)
            refine lv_iload F.1 F.2.1 d_Lots_addSupersets_26 (lv_at hl 3 rfl) ?_
            refine lv_iload_n F.1 F.2.1 d_Lots_addSupersets_28 rfl (lv_at hl 1 rfl) ?_
            refine lv_icmp_ge (tgt := 66) F.1 F.2.1 d_Lots_addSupersets_29 (by decide) (fun c_4 => ?_) (fun c_4 => ?_)
            · replace h := ip c_4 h
              cases h
              have ho : X_26 _ := ho
              rw [eX_26] at ho
              exact ho H locs ls hw (lv_sub hl [0, 1, 2] rfl)
            · replace h := iq c_4 h
              refine lv_iload F.1 F.2.1 d_Lots_addSupersets_32 (lv_at hl 3 rfl) ?_
              refine lv_iload_n F.1 F.2.1 d_Lots_addSupersets_34 rfl (lv_at hl 2 rfl) ?_
              refine lv_iand F.1 F.2.1 d_Lots_addSupersets_35 ?_
              refine lv_if_ne (tgt := 60) F.1 F.2.1 d_Lots_addSupersets_36 (by decide) (fun c_5 => ?_) (fun c_5 => ?_)
              · replace h := iq c_5 h
                exact J_60_l26 S x4 H locs ls hw (lv_sub hl [0, 1, 2, 3] rfl) o h ho
              · replace h := ip c_5 h
                refine lv_iload F.1 F.2.1 d_Lots_addSupersets_39 (lv_at hl 3 rfl) ?_
                refine lv_iload_n F.1 F.2.1 d_Lots_addSupersets_41 rfl (lv_at hl 2 rfl) ?_
                refine lv_ior F.1 F.2.1 d_Lots_addSupersets_42 ?_
                refine lv_iload_n F.1 F.2.1 d_Lots_addSupersets_43 rfl (lv_at hl 1 rfl) ?_
                refine lv_icmp_ge (tgt := 60) F.1 F.2.1 d_Lots_addSupersets_44 (by decide) (fun c_6 => ?_) (fun c_6 => ?_)
                · replace h := ip c_6 h
                  exact J_60_l26 S x4 H locs ls hw (lv_sub hl [0, 1, 2, 3] rfl) o h ho
                · replace h := iq c_6 h
                  refine lv_aload_n F.1 F.2.1 d_Lots_addSupersets_47 rfl (lv_at hl 0 rfl) ?_
                  refine lv_iload F.1 F.2.1 d_Lots_addSupersets_48 (lv_at hl 3 rfl) ?_
                  refine lv_dup2_11 F.1 F.2.1 d_Lots_addSupersets_50 rfl rfl ?_
                  obtain ⟨hi_7, h⟩ := gd_ex h
                  refine cl_4_2 F hK hw hi_7 d_Lots_addSupersets_51 ?_
                  refine lv_aload_n F.1 F.2.1 d_Lots_addSupersets_52 rfl (lv_at hl 0 rfl) ?_
                  refine lv_iload F.1 F.2.1 d_Lots_addSupersets_53 (lv_at hl 3 rfl) ?_
                  refine lv_iload_n F.1 F.2.1 d_Lots_addSupersets_55 rfl (lv_at hl 2 rfl) ?_
                  refine lv_ior F.1 F.2.1 d_Lots_addSupersets_56 ?_
                  obtain ⟨hi_8, h⟩ := gd_ex h
                  refine cl_4_2 F hK hw hi_8 d_Lots_addSupersets_57 ?_
                  refine lv_iadd F.1 F.2.1 d_Lots_addSupersets_58 ?_
                  obtain ⟨hi_9, h⟩ := gd_ex h
                  obtain ⟨S_10, eS_10, h⟩ := nm_ex h
                  refine cs_4_2 F hK hw hi_9 d_Lots_addSupersets_59 eS_10 (fun H locs hw => ?_)
                  exact J_60_l26 S_10 x4 H locs ls hw (lv_sub hl [0, 1, 2, 3] rfl) o h ho
          rw [eP_26] at hL_26
          exact hL_26 H locs ls hw (lv_sub hl [1, 2, 3, 0] rfl)
    rw [eP_11] at hL_11
    exact hL_11 H locs ls hw (lv_sub hl [2, 1, 0] rfl)
  exact key _ _ hw _ h (by rw [eX_0]; exact fun H locs pc ls hd hw => hQ H locs pc ls ad rfl hd hw)
theorem d_Chart_countStanding_0 : decode b_Chart_countStanding 0 = .ok (.aload_n 0, 1) := by decide +kernel
theorem d_Chart_countStanding_1 : decode b_Chart_countStanding 1 = .ok (.getfield 22, 3) := by decide +kernel
theorem d_Chart_countStanding_4 : decode b_Chart_countStanding 4 = .ok (.iconst 0, 1) := by decide +kernel
theorem d_Chart_countStanding_5 : decode b_Chart_countStanding 5 = .ok (.invokestatic 98, 3) := by decide +kernel
theorem d_Chart_countStanding_8 : decode b_Chart_countStanding 8 = .ok (.aload_n 0, 1) := by decide +kernel
theorem d_Chart_countStanding_9 : decode b_Chart_countStanding 9 = .ok (.getfield 43, 3) := by decide +kernel
theorem d_Chart_countStanding_12 : decode b_Chart_countStanding 12 = .ok (.getfield 92, 3) := by decide +kernel
theorem d_Chart_countStanding_15 : decode b_Chart_countStanding 15 = .ok (.aload_n 0, 1) := by decide +kernel
theorem d_Chart_countStanding_16 : decode b_Chart_countStanding 16 = .ok (.getfield 31, 3) := by decide +kernel
theorem d_Chart_countStanding_19 : decode b_Chart_countStanding 19 = .ok (.arraylength, 1) := by decide +kernel
theorem d_Chart_countStanding_20 : decode b_Chart_countStanding 20 = .ok (.invokestatic 112, 3) := by decide +kernel
theorem d_Chart_countStanding_23 : decode b_Chart_countStanding 23 = .ok (.istore_n 1, 1) := by decide +kernel
theorem d_Chart_countStanding_24 : decode b_Chart_countStanding 24 = .ok (.iconst 0, 1) := by decide +kernel
theorem d_Chart_countStanding_25 : decode b_Chart_countStanding 25 = .ok (.istore_n 2, 1) := by decide +kernel
theorem d_Chart_countStanding_26 : decode b_Chart_countStanding 26 = .ok (.iload_n 2, 1) := by decide +kernel
theorem d_Chart_countStanding_27 : decode b_Chart_countStanding 27 = .ok (.iload_n 1, 1) := by decide +kernel
theorem d_Chart_countStanding_28 : decode b_Chart_countStanding 28 = .ok (.if_icmp .ge 28, 3) := by decide +kernel
theorem d_Chart_countStanding_31 : decode b_Chart_countStanding 31 = .ok (.aload_n 0, 1) := by decide +kernel
theorem d_Chart_countStanding_32 : decode b_Chart_countStanding 32 = .ok (.getfield 22, 3) := by decide +kernel
theorem d_Chart_countStanding_35 : decode b_Chart_countStanding 35 = .ok (.aload_n 0, 1) := by decide +kernel
theorem d_Chart_countStanding_36 : decode b_Chart_countStanding 36 = .ok (.getfield 31, 3) := by decide +kernel
theorem d_Chart_countStanding_39 : decode b_Chart_countStanding 39 = .ok (.iload_n 2, 1) := by decide +kernel
theorem d_Chart_countStanding_40 : decode b_Chart_countStanding 40 = .ok (.iaload, 1) := by decide +kernel
theorem d_Chart_countStanding_41 : decode b_Chart_countStanding 41 = .ok (.sipush 255, 3) := by decide +kernel
theorem d_Chart_countStanding_44 : decode b_Chart_countStanding 44 = .ok (.iand, 1) := by decide +kernel
theorem d_Chart_countStanding_45 : decode b_Chart_countStanding 45 = .ok (.dup2, 1) := by decide +kernel
theorem d_Chart_countStanding_46 : decode b_Chart_countStanding 46 = .ok (.iaload, 1) := by decide +kernel
theorem d_Chart_countStanding_47 : decode b_Chart_countStanding 47 = .ok (.iconst 1, 1) := by decide +kernel
theorem d_Chart_countStanding_48 : decode b_Chart_countStanding 48 = .ok (.iadd, 1) := by decide +kernel
theorem d_Chart_countStanding_49 : decode b_Chart_countStanding 49 = .ok (.iastore, 1) := by decide +kernel
theorem d_Chart_countStanding_50 : decode b_Chart_countStanding 50 = .ok (.iinc 2 1, 3) := by decide +kernel
theorem d_Chart_countStanding_53 : decode b_Chart_countStanding 53 = .ok (.goto (-27), 3) := by decide +kernel
theorem d_Chart_countStanding_56 : decode b_Chart_countStanding 56 = .ok (.aload_n 0, 1) := by decide +kernel
theorem d_Chart_countStanding_57 : decode b_Chart_countStanding 57 = .ok (.getfield 22, 3) := by decide +kernel
theorem d_Chart_countStanding_60 : decode b_Chart_countStanding 60 = .ok (.aload_n 0, 1) := by decide +kernel
theorem d_Chart_countStanding_61 : decode b_Chart_countStanding 61 = .ok (.getfield 43, 3) := by decide +kernel
theorem d_Chart_countStanding_64 : decode b_Chart_countStanding 64 = .ok (.iconst 0, 1) := by decide +kernel
theorem d_Chart_countStanding_65 : decode b_Chart_countStanding 65 = .ok (.invokevirtual 76, 3) := by decide +kernel
theorem d_Chart_countStanding_68 : decode b_Chart_countStanding 68 = .ok (.invokestatic 133, 3) := by decide +kernel
theorem d_Chart_countStanding_71 : decode b_Chart_countStanding 71 = .ok (.return_, 1) := by decide +kernel
set_option maxHeartbeats 4000000 in
set_option maxRecDepth 100000 in
theorem c_Chart_countStanding (l : Launch) {S : St} {S' : St} (h : f_Chart_countStanding S = some S') : MV cw l y_Chart_countStanding b_Chart_countStanding 3 none 2 45 0 0 (fun ad => [.ref (ad 4 0)]) aT aE S S' := by
  refine MV_of "LawfulLots$Chart" rfl (by decide) (fun _ => Nat.le_of_ble_eq_true rfl) ?_
  intro p e s m args below meth c D ar ad A Q ls hP F hK hA hw hl hQ
  have hl : lv_has ls 3 [(0, .ref (ad 4 0))] := hl
  obtain ⟨X_0, eX_0⟩ : ∃ X : St → Prop, X = (fun q => ∀ (H : Heap) (locs : List Loc) (pc : Nat) (ls : Array Slot), decode b_Chart_countStanding pc = .ok (.return_, 1) → Bw cw D ar A s.heap H locs ad q → W p l e (RM 2 45) s m args below meth c H locs 0 0 Q (F0 m pc ls [])) := ⟨_, rfl⟩
  have key : ∀ (H : Heap) (locs : List Loc), Bw cw D ar A s.heap H locs ad S → ∀ o, f_Chart_countStanding S = some o → X_0 o → W p l e (RM 2 45) s m args below meth c H locs 0 0 Q (F0 m 0 ls []) := by
    intro H locs hw o h ho
    unfold f_Chart_countStanding at h
    refine lv_aload_n F.1 F.2.1 d_Chart_countStanding_0 rfl (lv_at hl 0 rfl) ?_
    refine cg_4_2 F hK hw lk_193 d_Chart_countStanding_1 ?_
    refine lv_iconst (v := 0) F.1 F.2.1 d_Chart_countStanding_4 (by decide) ?_
    obtain ⟨S_2, hc_1, h⟩ := bd_ex h
    refine cS_v F hA rfl hK hw (c_Arrays_fill_4_2 l hc_1) trivial rfl (good_S lk_602 lk_390 lk_11 lk_391) hd_Arrays_fill ⟨Nat.le_of_ble_eq_true rfl, Nat.le_of_ble_eq_true rfl⟩ rfl hl.1 rfl (Nat.le_of_ble_eq_true rfl) d_Chart_countStanding_5 ⟨(Nat.zero_le _), (Nat.zero_le _)⟩ (fun H locs hw => ?_)
    refine lv_aload_n F.1 F.2.1 d_Chart_countStanding_8 rfl (lv_at hl 0 rfl) ?_
    refine cg_4_8 F hK hw lk_199 d_Chart_countStanding_9 ?_
    refine cg_5_11 F hK hw lk_86 d_Chart_countStanding_12 ?_
    refine lv_aload_n F.1 F.2.1 d_Chart_countStanding_15 rfl (lv_at hl 0 rfl) ?_
    refine cg_4_5 F hK hw lk_196 d_Chart_countStanding_16 ?_
    refine cn_4_5 F hK hw d_Chart_countStanding_19 ?_
    refine va_mmin F.1 F.2.1 (F.2.2.1.trans hl.1.symm) F.2.2.2.1 (F.2.2.2.2 _ lk_607) (F.2.2.2.2 _ lk_397) (F.2.2.2.2 _ lk_12) (F.2.2.2.2 _ lk_398) (Nat.le_of_ble_eq_true rfl) (Nat.le_of_ble_eq_true rfl) (Nat.zero_le _) (Nat.zero_le _) d_Chart_countStanding_20 ?_
    obtain ⟨x1_3, ex1_3, h⟩ := nm_ex h
    refine lv_nm ex1_3 ?_
    refine lv_istore_n (lv' := [(1, .int x1_3), (0, .ref (ad 4 0))]) F.1 F.2.1 d_Chart_countStanding_23 rfl hl (by decide) rfl (fun ls hl => ?_)
    refine lv_iconst (v := 0) F.1 F.2.1 d_Chart_countStanding_24 (by decide) ?_
    refine lv_istore_n (lv' := [(2, .int (0 : Int32)), (1, .int x1_3), (0, .ref (ad 4 0))]) F.1 F.2.1 d_Chart_countStanding_25 rfl hl (by decide) rfl (fun ls hl => ?_)
    obtain ⟨S_10, hc_11, h⟩ := bd_ex h
    obtain ⟨X_26, eX_26⟩ : ∃ X : St → Prop, X = (fun q => ∀ (H : Heap) (locs : List Loc) (ls : Array Slot), Bw cw D ar A s.heap H locs ad q → lv_has ls 3 [(0, .ref (ad 4 0))] → W p l e (RM 2 45) s m args below meth c H locs 0 0 Q (F0 m 56 ls [])) := ⟨_, rfl⟩
    have hX_26 : X_26 S_10 := by
      rw [eX_26]
      intro H locs ls hw hl
      refine lv_aload_n F.1 F.2.1 d_Chart_countStanding_56 rfl (lv_at hl 0 rfl) ?_
      refine cg_4_2 F hK hw lk_193 d_Chart_countStanding_57 ?_
      refine lv_aload_n F.1 F.2.1 d_Chart_countStanding_60 rfl (lv_at hl 0 rfl) ?_
      refine cg_4_8 F hK hw lk_199 d_Chart_countStanding_61 ?_
      refine lv_iconst (v := 0) F.1 F.2.1 d_Chart_countStanding_64 (by decide) ?_
      obtain ⟨v_13, hc_12, h⟩ := bd_ex h
      refine cV_i F hA rfl hK hw (c_Book_toldOf_5 l hc_12) trivial rfl (good_V lk_556 lk_452 lk_453 lk_4 lk_454) (cr_5 hK hw) hd_Book_toldOf ⟨Nat.le_of_ble_eq_true rfl, Nat.le_of_ble_eq_true rfl⟩ rfl hl.1 rfl (Nat.le_of_ble_eq_true rfl) d_Chart_countStanding_65 ⟨(Nat.zero_le _), (Nat.zero_le _)⟩ (fun H locs hw => ?_)
      obtain ⟨S_15, hc_14, h⟩ := bd_ex h
      refine cN_v F hA rfl hK hw (c_Lots_addSupersets_4_2 l hc_14) trivial rfl lk_624 lk_625 lk_1 lk_626 hd_Lots_addSupersets ⟨Nat.le_of_ble_eq_true rfl, Nat.le_of_ble_eq_true rfl⟩ rfl hl.1 rfl (Nat.le_of_ble_eq_true rfl) d_Chart_countStanding_68 ⟨(Nat.zero_le _), (Nat.zero_le _)⟩ (fun H locs hw => ?_)
      cases h
      have ho : X_0 _ := ho
      rw [eX_0] at ho
      exact ho H locs _ ls d_Chart_countStanding_71 hw
    obtain ⟨P_26, eP_26⟩ : ∃ P : (St × Int32) → Prop, P = (fun q => ∀ (H : Heap) (locs : List Loc) (ls : Array Slot), Bw cw D ar A s.heap H locs ad q.1 → lv_has ls 3 [(0, .ref (ad 4 0)), (1, .int x1_3), (2, .int q.2)] → W p l e (RM 2 45) s m args below meth c H locs 0 0 Q (F0 m 26 ls [])) := ⟨_, rfl⟩
    have hL_26 : P_26 (S_2, (0 : Int32)) := by
      refine wh_gp (P := P_26) (X := X_26) hc_11 hX_26 ?_
      clear h
      intro q o h ho
      obtain ⟨S, x2⟩ := q
      have h : Chart_countStanding_l26 x1_3 S x2 = some o := h
      unfold Chart_countStanding_l26 at h
      rw [eP_26]
      intro H locs ls hw hl
      refine lv_iload_n F.1 F.2.1 d_Chart_countStanding_26 rfl (lv_at hl 2 rfl) ?_
      refine lv_iload_n F.1 F.2.1 d_Chart_countStanding_27 rfl (lv_at hl 1 rfl) ?_
      refine lv_icmp_ge (tgt := 56) F.1 F.2.1 d_Chart_countStanding_28 (by decide) (fun c_4 => ?_) (fun c_4 => ?_)
      · replace h := ip c_4 h
        cases h
        have ho : X_26 _ := ho
        rw [eX_26] at ho
        exact ho H locs ls hw (lv_sub hl [0] rfl)
      · replace h := iq c_4 h
        refine lv_aload_n F.1 F.2.1 d_Chart_countStanding_31 rfl (lv_at hl 0 rfl) ?_
        refine cg_4_2 F hK hw lk_193 d_Chart_countStanding_32 ?_
        refine lv_aload_n F.1 F.2.1 d_Chart_countStanding_35 rfl (lv_at hl 0 rfl) ?_
        refine cg_4_5 F hK hw lk_196 d_Chart_countStanding_36 ?_
        refine lv_iload_n F.1 F.2.1 d_Chart_countStanding_39 rfl (lv_at hl 2 rfl) ?_
        obtain ⟨hi_5, h⟩ := gd_ex h
        refine cl_4_5 F hK hw hi_5 d_Chart_countStanding_40 ?_
        refine lv_sipush (v := 255) F.1 F.2.1 d_Chart_countStanding_41 (by decide) ?_
        refine lv_iand F.1 F.2.1 d_Chart_countStanding_44 ?_
        refine lv_dup2_11 F.1 F.2.1 d_Chart_countStanding_45 rfl rfl ?_
        obtain ⟨hi_6, h⟩ := gd_ex h
        refine cl_4_2 F hK hw hi_6 d_Chart_countStanding_46 ?_
        refine lv_iconst (v := 1) F.1 F.2.1 d_Chart_countStanding_47 (by decide) ?_
        refine lv_iadd F.1 F.2.1 d_Chart_countStanding_48 ?_
        obtain ⟨hi_7, h⟩ := gd_ex h
        obtain ⟨S_8, eS_8, h⟩ := nm_ex h
        refine cs_4_2 F hK hw hi_7 d_Chart_countStanding_49 eS_8 (fun H locs hw => ?_)
        obtain ⟨x2_9, ex2_9, h⟩ := nm_ex h
        refine lv_iinc (v := x2_9) (lv' := [(2, .int x2_9), (0, .ref (ad 4 0)), (1, .int x1_3)]) F.1 F.2.1 d_Chart_countStanding_50 hl (k := 2) rfl (by rw [ex2_9]; rfl) (by decide) rfl (fun ls hl => ?_)
        refine lv_goto (tgt := 26) F.1 F.2.1 d_Chart_countStanding_53 (by decide) ?_
        cases h
        have ho : P_26 _ := ho
        rw [eP_26] at ho
        exact ho H locs ls hw (lv_sub hl [1, 2, 0] rfl)
    rw [eP_26] at hL_26
    exact hL_26 H locs ls hw (lv_sub hl [2, 1, 0] rfl)
  exact key _ _ hw _ h (by rw [eX_0]; exact fun H locs pc ls hd hw => hQ H locs pc ls ad rfl hd hw)
set_option maxHeartbeats 4000000 in
set_option maxRecDepth 100000 in
theorem c_Arrays_fill_4_3 (l : Launch) {S : St} {x1 : Int32} {S' : St} (h : f_Arrays_fill 4 3 S x1 = some S') : MV cw l y_Arrays_fill b_Arrays_fill 4 none 0 0 0 0 (fun ad => [.ref (ad 4 4), .int x1]) aT aE S S' := by
  refine MV_of "java/util/Arrays" rfl (by decide) (fun _ => Nat.le_of_ble_eq_true rfl) ?_
  intro p e s m args below meth c D ar ad A Q ls hP F hK hA hw hl hQ
  have hl : lv_has ls 4 [(0, .ref (ad 4 4)), (1, .int x1)] := hl
  obtain ⟨X_0, eX_0⟩ : ∃ X : St → Prop, X = (fun q => ∀ (H : Heap) (locs : List Loc) (pc : Nat) (ls : Array Slot), decode b_Arrays_fill pc = .ok (.return_, 1) → Bw cw D ar A s.heap H locs ad q → W p l e (RM 0 0) s m args below meth c H locs 0 0 Q (F0 m pc ls [])) := ⟨_, rfl⟩
  have key : ∀ (H : Heap) (locs : List Loc), Bw cw D ar A s.heap H locs ad S → ∀ o, f_Arrays_fill 4 3 S x1 = some o → X_0 o → W p l e (RM 0 0) s m args below meth c H locs 0 0 Q (F0 m 0 ls []) := by
    intro H locs hw o h ho
    unfold f_Arrays_fill at h
    refine lv_iconst (v := 0) F.1 F.2.1 d_Arrays_fill_0 (by decide) ?_
    refine lv_istore_n (lv' := [(2, .int (0 : Int32)), (0, .ref (ad 4 4)), (1, .int x1)]) F.1 F.2.1 d_Arrays_fill_1 rfl hl (by decide) rfl (fun ls hl => ?_)
    refine lv_aload_n F.1 F.2.1 d_Arrays_fill_2 rfl (lv_at hl 1 rfl) ?_
    refine cn_4_3 F hK hw d_Arrays_fill_3 ?_
    obtain ⟨x3_1, ex3_1, h⟩ := nm_ex h
    refine lv_nm ex3_1 ?_
    refine lv_istore_n (lv' := [(3, .int x3_1), (2, .int (0 : Int32)), (0, .ref (ad 4 4)), (1, .int x1)]) F.1 F.2.1 d_Arrays_fill_4 rfl hl (by decide) rfl (fun ls hl => ?_)
    obtain ⟨S_6, hc_7, h⟩ := bd_ex h
    obtain ⟨X_5, eX_5⟩ : ∃ X : St → Prop, X = (fun q => ∀ (H : Heap) (locs : List Loc) (ls : Array Slot), Bw cw D ar A s.heap H locs ad q → lv_has ls 4 [] → W p l e (RM 0 0) s m args below meth c H locs 0 0 Q (F0 m 20 ls [])) := ⟨_, rfl⟩
    have hX_5 : X_5 S_6 := by
      rw [eX_5]
      intro H locs ls hw hl
      cases h
      have ho : X_0 _ := ho
      rw [eX_0] at ho
      exact ho H locs _ ls d_Arrays_fill_20 hw
    obtain ⟨P_5, eP_5⟩ : ∃ P : (St × Int32) → Prop, P = (fun q => ∀ (H : Heap) (locs : List Loc) (ls : Array Slot), Bw cw D ar A s.heap H locs ad q.1 → lv_has ls 4 [(0, .ref (ad 4 4)), (1, .int x1), (2, .int q.2), (3, .int x3_1)] → W p l e (RM 0 0) s m args below meth c H locs 0 0 Q (F0 m 5 ls [])) := ⟨_, rfl⟩
    have hL_5 : P_5 (S, (0 : Int32)) := by
      refine wh_gp (P := P_5) (X := X_5) hc_7 hX_5 ?_
      clear h
      intro q o h ho
      obtain ⟨S, x2⟩ := q
      have h : Arrays_fill_l5 4 3 x1 x3_1 S x2 = some o := h
      unfold Arrays_fill_l5 at h
      rw [eP_5]
      intro H locs ls hw hl
      refine lv_iload_n F.1 F.2.1 d_Arrays_fill_5 rfl (lv_at hl 2 rfl) ?_
      refine lv_iload_n F.1 F.2.1 d_Arrays_fill_6 rfl (lv_at hl 3 rfl) ?_
      refine lv_icmp_ge (tgt := 20) F.1 F.2.1 d_Arrays_fill_7 (by decide) (fun c_2 => ?_) (fun c_2 => ?_)
      · replace h := ip c_2 h
        cases h
        have ho : X_5 _ := ho
        rw [eX_5] at ho
        exact ho H locs ls hw (lv_sub hl [] rfl)
      · replace h := iq c_2 h
        refine lv_aload_n F.1 F.2.1 d_Arrays_fill_10 rfl (lv_at hl 0 rfl) ?_
        refine lv_iload_n F.1 F.2.1 d_Arrays_fill_11 rfl (lv_at hl 2 rfl) ?_
        refine lv_iload_n F.1 F.2.1 d_Arrays_fill_12 rfl (lv_at hl 1 rfl) ?_
        obtain ⟨hi_3, h⟩ := gd_ex h
        obtain ⟨S_4, eS_4, h⟩ := nm_ex h
        refine cs_4_3 F hK hw hi_3 d_Arrays_fill_13 eS_4 (fun H locs hw => ?_)
        obtain ⟨x2_5, ex2_5, h⟩ := nm_ex h
        refine lv_iinc (v := x2_5) (lv' := [(2, .int x2_5), (0, .ref (ad 4 4)), (1, .int x1), (3, .int x3_1)]) F.1 F.2.1 d_Arrays_fill_14 hl (k := 2) rfl (by rw [ex2_5]; rfl) (by decide) rfl (fun ls hl => ?_)
        refine lv_goto (tgt := 5) F.1 F.2.1 d_Arrays_fill_17 (by decide) ?_
        cases h
        have ho : P_5 _ := ho
        rw [eP_5] at ho
        exact ho H locs ls hw (lv_sub hl [1, 2, 0, 3] rfl)
    rw [eP_5] at hL_5
    exact hL_5 H locs ls hw (lv_sub hl [2, 3, 1, 0] rfl)
  exact key _ _ hw _ h (by rw [eX_0]; exact fun H locs pc ls hd hw => hQ H locs pc ls ad rfl hd hw)
theorem d_Chart_gather_0 : decode b_Chart_gather 0 = .ok (.aload_n 0, 1) := by decide +kernel
theorem d_Chart_gather_1 : decode b_Chart_gather 1 = .ok (.getfield 43, 3) := by decide +kernel
theorem d_Chart_gather_4 : decode b_Chart_gather 4 = .ok (.getfield 92, 3) := by decide +kernel
theorem d_Chart_gather_7 : decode b_Chart_gather 7 = .ok (.aload_n 0, 1) := by decide +kernel
theorem d_Chart_gather_8 : decode b_Chart_gather 8 = .ok (.getfield 31, 3) := by decide +kernel
theorem d_Chart_gather_11 : decode b_Chart_gather 11 = .ok (.arraylength, 1) := by decide +kernel
theorem d_Chart_gather_12 : decode b_Chart_gather 12 = .ok (.aload_n 0, 1) := by decide +kernel
theorem d_Chart_gather_13 : decode b_Chart_gather 13 = .ok (.getfield 37, 3) := by decide +kernel
theorem d_Chart_gather_16 : decode b_Chart_gather 16 = .ok (.arraylength, 1) := by decide +kernel
theorem d_Chart_gather_17 : decode b_Chart_gather 17 = .ok (.invokestatic 112, 3) := by decide +kernel
theorem d_Chart_gather_20 : decode b_Chart_gather 20 = .ok (.invokestatic 112, 3) := by decide +kernel
theorem d_Chart_gather_23 : decode b_Chart_gather 23 = .ok (.istore_n 1, 1) := by decide +kernel
theorem d_Chart_gather_24 : decode b_Chart_gather 24 = .ok (.aload_n 0, 1) := by decide +kernel
theorem d_Chart_gather_25 : decode b_Chart_gather 25 = .ok (.iconst 0, 1) := by decide +kernel
theorem d_Chart_gather_26 : decode b_Chart_gather 26 = .ok (.putfield 47, 3) := by decide +kernel
theorem d_Chart_gather_29 : decode b_Chart_gather 29 = .ok (.aload_n 0, 1) := by decide +kernel
theorem d_Chart_gather_30 : decode b_Chart_gather 30 = .ok (.getfield 25, 3) := by decide +kernel
theorem d_Chart_gather_33 : decode b_Chart_gather 33 = .ok (.iconst 0, 1) := by decide +kernel
theorem d_Chart_gather_34 : decode b_Chart_gather 34 = .ok (.invokestatic 98, 3) := by decide +kernel
theorem d_Chart_gather_37 : decode b_Chart_gather 37 = .ok (.iconst 0, 1) := by decide +kernel
theorem d_Chart_gather_38 : decode b_Chart_gather 38 = .ok (.istore_n 2, 1) := by decide +kernel
theorem d_Chart_gather_39 : decode b_Chart_gather 39 = .ok (.iload_n 2, 1) := by decide +kernel
theorem d_Chart_gather_40 : decode b_Chart_gather 40 = .ok (.iload_n 1, 1) := by decide +kernel
theorem d_Chart_gather_41 : decode b_Chart_gather 41 = .ok (.if_icmp .ge 66, 3) := by decide +kernel
theorem d_Chart_gather_44 : decode b_Chart_gather 44 = .ok (.aload_n 0, 1) := by decide +kernel
theorem d_Chart_gather_45 : decode b_Chart_gather 45 = .ok (.getfield 31, 3) := by decide +kernel
theorem d_Chart_gather_48 : decode b_Chart_gather 48 = .ok (.iload_n 2, 1) := by decide +kernel
theorem d_Chart_gather_49 : decode b_Chart_gather 49 = .ok (.iaload, 1) := by decide +kernel
theorem d_Chart_gather_50 : decode b_Chart_gather 50 = .ok (.aload_n 0, 1) := by decide +kernel
theorem d_Chart_gather_51 : decode b_Chart_gather 51 = .ok (.getfield 57, 3) := by decide +kernel
theorem d_Chart_gather_54 : decode b_Chart_gather 54 = .ok (.iand, 1) := by decide +kernel
theorem d_Chart_gather_55 : decode b_Chart_gather 55 = .ok (.aload_n 0, 1) := by decide +kernel
theorem d_Chart_gather_56 : decode b_Chart_gather 56 = .ok (.getfield 57, 3) := by decide +kernel
theorem d_Chart_gather_59 : decode b_Chart_gather 59 = .ok (.if_icmp .ne 42, 3) := by decide +kernel
theorem d_Chart_gather_62 : decode b_Chart_gather 62 = .ok (.aload_n 0, 1) := by decide +kernel
theorem d_Chart_gather_63 : decode b_Chart_gather 63 = .ok (.getfield 37, 3) := by decide +kernel
theorem d_Chart_gather_66 : decode b_Chart_gather 66 = .ok (.aload_n 0, 1) := by decide +kernel
theorem d_Chart_gather_67 : decode b_Chart_gather 67 = .ok (.getfield 47, 3) := by decide +kernel
theorem d_Chart_gather_70 : decode b_Chart_gather 70 = .ok (.iload_n 2, 1) := by decide +kernel
theorem d_Chart_gather_71 : decode b_Chart_gather 71 = .ok (.iastore, 1) := by decide +kernel
theorem d_Chart_gather_72 : decode b_Chart_gather 72 = .ok (.aload_n 0, 1) := by decide +kernel
theorem d_Chart_gather_73 : decode b_Chart_gather 73 = .ok (.dup, 1) := by decide +kernel
theorem d_Chart_gather_74 : decode b_Chart_gather 74 = .ok (.getfield 47, 3) := by decide +kernel
theorem d_Chart_gather_77 : decode b_Chart_gather 77 = .ok (.iconst 1, 1) := by decide +kernel
theorem d_Chart_gather_78 : decode b_Chart_gather 78 = .ok (.iadd, 1) := by decide +kernel
theorem d_Chart_gather_79 : decode b_Chart_gather 79 = .ok (.putfield 47, 3) := by decide +kernel
theorem d_Chart_gather_82 : decode b_Chart_gather 82 = .ok (.aload_n 0, 1) := by decide +kernel
theorem d_Chart_gather_83 : decode b_Chart_gather 83 = .ok (.getfield 25, 3) := by decide +kernel
theorem d_Chart_gather_86 : decode b_Chart_gather 86 = .ok (.aload_n 0, 1) := by decide +kernel
theorem d_Chart_gather_87 : decode b_Chart_gather 87 = .ok (.getfield 31, 3) := by decide +kernel
theorem d_Chart_gather_90 : decode b_Chart_gather 90 = .ok (.iload_n 2, 1) := by decide +kernel
theorem d_Chart_gather_91 : decode b_Chart_gather 91 = .ok (.iaload, 1) := by decide +kernel
theorem d_Chart_gather_92 : decode b_Chart_gather 92 = .ok (.bipush 8, 2) := by decide +kernel
theorem d_Chart_gather_94 : decode b_Chart_gather 94 = .ok (.ishr, 1) := by decide +kernel
theorem d_Chart_gather_95 : decode b_Chart_gather 95 = .ok (.sipush 255, 3) := by decide +kernel
theorem d_Chart_gather_98 : decode b_Chart_gather 98 = .ok (.iand, 1) := by decide +kernel
theorem d_Chart_gather_99 : decode b_Chart_gather 99 = .ok (.iconst 1, 1) := by decide +kernel
theorem d_Chart_gather_100 : decode b_Chart_gather 100 = .ok (.iastore, 1) := by decide +kernel
theorem d_Chart_gather_101 : decode b_Chart_gather 101 = .ok (.iinc 2 1, 3) := by decide +kernel
theorem d_Chart_gather_104 : decode b_Chart_gather 104 = .ok (.goto (-65), 3) := by decide +kernel
theorem d_Chart_gather_107 : decode b_Chart_gather 107 = .ok (.return_, 1) := by decide +kernel
set_option maxHeartbeats 4000000 in
set_option maxRecDepth 100000 in
theorem c_Chart_gather (l : Launch) {S : St} {S' : St} (h : f_Chart_gather S = some S') : MV cw l y_Chart_gather b_Chart_gather 3 none 1 23 0 0 (fun ad => [.ref (ad 4 0)]) aT aE S S' := by
  refine MV_of "LawfulLots$Chart" rfl (by decide) (fun _ => Nat.le_of_ble_eq_true rfl) ?_
  intro p e s m args below meth c D ar ad A Q ls hP F hK hA hw hl hQ
  have hl : lv_has ls 3 [(0, .ref (ad 4 0))] := hl
  obtain ⟨X_0, eX_0⟩ : ∃ X : St → Prop, X = (fun q => ∀ (H : Heap) (locs : List Loc) (pc : Nat) (ls : Array Slot), decode b_Chart_gather pc = .ok (.return_, 1) → Bw cw D ar A s.heap H locs ad q → W p l e (RM 1 23) s m args below meth c H locs 0 0 Q (F0 m pc ls [])) := ⟨_, rfl⟩
  have key : ∀ (H : Heap) (locs : List Loc), Bw cw D ar A s.heap H locs ad S → ∀ o, f_Chart_gather S = some o → X_0 o → W p l e (RM 1 23) s m args below meth c H locs 0 0 Q (F0 m 0 ls []) := by
    intro H locs hw o h ho
    unfold f_Chart_gather at h
    refine lv_aload_n F.1 F.2.1 d_Chart_gather_0 rfl (lv_at hl 0 rfl) ?_
    refine cg_4_8 F hK hw lk_199 d_Chart_gather_1 ?_
    refine cg_5_11 F hK hw lk_86 d_Chart_gather_4 ?_
    refine lv_aload_n F.1 F.2.1 d_Chart_gather_7 rfl (lv_at hl 0 rfl) ?_
    refine cg_4_5 F hK hw lk_196 d_Chart_gather_8 ?_
    refine cn_4_5 F hK hw d_Chart_gather_11 ?_
    refine lv_aload_n F.1 F.2.1 d_Chart_gather_12 rfl (lv_at hl 0 rfl) ?_
    refine cg_4_7 F hK hw lk_198 d_Chart_gather_13 ?_
    refine cn_4_7 F hK hw d_Chart_gather_16 ?_
    refine va_mmin F.1 F.2.1 (F.2.2.1.trans hl.1.symm) F.2.2.2.1 (F.2.2.2.2 _ lk_607) (F.2.2.2.2 _ lk_397) (F.2.2.2.2 _ lk_12) (F.2.2.2.2 _ lk_398) (Nat.le_of_ble_eq_true rfl) (Nat.le_of_ble_eq_true rfl) (Nat.zero_le _) (Nat.zero_le _) d_Chart_gather_17 ?_
    refine va_mmin F.1 F.2.1 (F.2.2.1.trans hl.1.symm) F.2.2.2.1 (F.2.2.2.2 _ lk_607) (F.2.2.2.2 _ lk_397) (F.2.2.2.2 _ lk_12) (F.2.2.2.2 _ lk_398) (Nat.le_of_ble_eq_true rfl) (Nat.le_of_ble_eq_true rfl) (Nat.zero_le _) (Nat.zero_le _) d_Chart_gather_20 ?_
    obtain ⟨x1_1, ex1_1, h⟩ := nm_ex h
    refine lv_nm ex1_1 ?_
    refine lv_istore_n (lv' := [(1, .int x1_1), (0, .ref (ad 4 0))]) F.1 F.2.1 d_Chart_gather_23 rfl hl (by decide) rfl (fun ls hl => ?_)
    refine lv_aload_n F.1 F.2.1 d_Chart_gather_24 rfl (lv_at hl 1 rfl) ?_
    refine lv_iconst (v := 0) F.1 F.2.1 d_Chart_gather_25 (by decide) ?_
    obtain ⟨S_2, eS_2, h⟩ := nm_ex h
    refine cp_4_9 F hK hw lk_203 d_Chart_gather_26 eS_2 (fun H locs hw => ?_)
    refine lv_aload_n F.1 F.2.1 d_Chart_gather_29 rfl (lv_at hl 1 rfl) ?_
    refine cg_4_3 F hK hw lk_194 d_Chart_gather_30 ?_
    refine lv_iconst (v := 0) F.1 F.2.1 d_Chart_gather_33 (by decide) ?_
    obtain ⟨S_4, hc_3, h⟩ := bd_ex h
    refine cS_v F hA rfl hK hw (c_Arrays_fill_4_3 l hc_3) trivial rfl (good_S lk_602 lk_390 lk_11 lk_391) hd_Arrays_fill ⟨Nat.le_of_ble_eq_true rfl, Nat.le_of_ble_eq_true rfl⟩ rfl hl.1 rfl (Nat.le_of_ble_eq_true rfl) d_Chart_gather_34 ⟨(Nat.zero_le _), (Nat.zero_le _)⟩ (fun H locs hw => ?_)
    refine lv_iconst (v := 0) F.1 F.2.1 d_Chart_gather_37 (by decide) ?_
    refine lv_istore_n (lv' := [(2, .int (0 : Int32)), (1, .int x1_1), (0, .ref (ad 4 0))]) F.1 F.2.1 d_Chart_gather_38 rfl hl (by decide) rfl (fun ls hl => ?_)
    obtain ⟨S_15, hc_16, h⟩ := bd_ex h
    obtain ⟨X_39, eX_39⟩ : ∃ X : St → Prop, X = (fun q => ∀ (H : Heap) (locs : List Loc) (ls : Array Slot), Bw cw D ar A s.heap H locs ad q → lv_has ls 3 [] → W p l e (RM 1 23) s m args below meth c H locs 0 0 Q (F0 m 107 ls [])) := ⟨_, rfl⟩
    have hX_39 : X_39 S_15 := by
      rw [eX_39]
      intro H locs ls hw hl
      cases h
      have ho : X_0 _ := ho
      rw [eX_0] at ho
      exact ho H locs _ ls d_Chart_gather_107 hw
    obtain ⟨P_39, eP_39⟩ : ∃ P : (St × Int32) → Prop, P = (fun q => ∀ (H : Heap) (locs : List Loc) (ls : Array Slot), Bw cw D ar A s.heap H locs ad q.1 → lv_has ls 3 [(0, .ref (ad 4 0)), (1, .int x1_1), (2, .int q.2)] → W p l e (RM 1 23) s m args below meth c H locs 0 0 Q (F0 m 39 ls [])) := ⟨_, rfl⟩
    have hL_39 : P_39 (S_4, (0 : Int32)) := by
      refine wh_gp (P := P_39) (X := X_39) hc_16 hX_39 ?_
      clear h
      intro q o h ho
      obtain ⟨S, x2⟩ := q
      have h : Chart_gather_l39 x1_1 S x2 = some o := h
      unfold Chart_gather_l39 at h
      rw [eP_39]
      intro H locs ls hw hl
      have J_101_l39 : ∀ (S : St) (x2 : Int32) (H : Heap) (locs : List Loc) (ls : Array Slot), Bw cw D ar A s.heap H locs ad S → lv_has ls 3 [(0, .ref (ad 4 0)), (1, .int x1_1), (2, .int x2)] → ∀ o, Chart_gather_j101_l39 S x1_1 x2 = some o → (Sum.elim P_39 X_39) o → W p l e (RM 1 23) s m args below meth c H locs 0 0 Q (F0 m 101 ls []) := by
        intro S x2 H locs ls hw hl o h ho
        unfold Chart_gather_j101_l39 at h
        obtain ⟨x2_14, ex2_14, h⟩ := nm_ex h
        refine lv_iinc (v := x2_14) (lv' := [(2, .int x2_14), (0, .ref (ad 4 0)), (1, .int x1_1)]) F.1 F.2.1 d_Chart_gather_101 hl (k := 2) rfl (by rw [ex2_14]; rfl) (by decide) rfl (fun ls hl => ?_)
        refine lv_goto (tgt := 39) F.1 F.2.1 d_Chart_gather_104 (by decide) ?_
        cases h
        have ho : P_39 _ := ho
        rw [eP_39] at ho
        exact ho H locs ls hw (lv_sub hl [1, 2, 0] rfl)
      refine lv_iload_n F.1 F.2.1 d_Chart_gather_39 rfl (lv_at hl 2 rfl) ?_
      refine lv_iload_n F.1 F.2.1 d_Chart_gather_40 rfl (lv_at hl 1 rfl) ?_
      refine lv_icmp_ge (tgt := 107) F.1 F.2.1 d_Chart_gather_41 (by decide) (fun c_5 => ?_) (fun c_5 => ?_)
      · replace h := ip c_5 h
        cases h
        have ho : X_39 _ := ho
        rw [eX_39] at ho
        exact ho H locs ls hw (lv_sub hl [] rfl)
      · replace h := iq c_5 h
        refine lv_aload_n F.1 F.2.1 d_Chart_gather_44 rfl (lv_at hl 0 rfl) ?_
        refine cg_4_5 F hK hw lk_196 d_Chart_gather_45 ?_
        refine lv_iload_n F.1 F.2.1 d_Chart_gather_48 rfl (lv_at hl 2 rfl) ?_
        obtain ⟨hi_6, h⟩ := gd_ex h
        refine cl_4_5 F hK hw hi_6 d_Chart_gather_49 ?_
        refine lv_aload_n F.1 F.2.1 d_Chart_gather_50 rfl (lv_at hl 0 rfl) ?_
        refine cg_4_12 F hK hw lk_211 d_Chart_gather_51 ?_
        refine lv_iand F.1 F.2.1 d_Chart_gather_54 ?_
        refine lv_aload_n F.1 F.2.1 d_Chart_gather_55 rfl (lv_at hl 0 rfl) ?_
        refine cg_4_12 F hK hw lk_211 d_Chart_gather_56 ?_
        refine lv_icmp_ne (tgt := 101) F.1 F.2.1 d_Chart_gather_59 (by decide) (fun c_7 => ?_) (fun c_7 => ?_)
        · replace h := iq c_7 h
          exact J_101_l39 S x2 H locs ls hw (lv_sub hl [0, 1, 2] rfl) o h ho
        · replace h := ip c_7 h
          refine lv_aload_n F.1 F.2.1 d_Chart_gather_62 rfl (lv_at hl 0 rfl) ?_
          refine cg_4_7 F hK hw lk_198 d_Chart_gather_63 ?_
          refine lv_aload_n F.1 F.2.1 d_Chart_gather_66 rfl (lv_at hl 0 rfl) ?_
          refine cg_4_9 F hK hw lk_203 d_Chart_gather_67 ?_
          refine lv_iload_n F.1 F.2.1 d_Chart_gather_70 rfl (lv_at hl 2 rfl) ?_
          obtain ⟨hi_8, h⟩ := gd_ex h
          obtain ⟨S_9, eS_9, h⟩ := nm_ex h
          refine cs_4_7 F hK hw hi_8 d_Chart_gather_71 eS_9 (fun H locs hw => ?_)
          refine lv_aload_n F.1 F.2.1 d_Chart_gather_72 rfl (lv_at hl 0 rfl) ?_
          refine lv_dup F.1 F.2.1 d_Chart_gather_73 rfl ?_
          refine cg_4_9 F hK hw lk_203 d_Chart_gather_74 ?_
          refine lv_iconst (v := 1) F.1 F.2.1 d_Chart_gather_77 (by decide) ?_
          refine lv_iadd F.1 F.2.1 d_Chart_gather_78 ?_
          obtain ⟨S_10, eS_10, h⟩ := nm_ex h
          refine cp_4_9 F hK hw lk_203 d_Chart_gather_79 eS_10 (fun H locs hw => ?_)
          refine lv_aload_n F.1 F.2.1 d_Chart_gather_82 rfl (lv_at hl 0 rfl) ?_
          refine cg_4_3 F hK hw lk_194 d_Chart_gather_83 ?_
          refine lv_aload_n F.1 F.2.1 d_Chart_gather_86 rfl (lv_at hl 0 rfl) ?_
          refine cg_4_5 F hK hw lk_196 d_Chart_gather_87 ?_
          refine lv_iload_n F.1 F.2.1 d_Chart_gather_90 rfl (lv_at hl 2 rfl) ?_
          obtain ⟨hi_11, h⟩ := gd_ex h
          refine cl_4_5 F hK hw hi_11 d_Chart_gather_91 ?_
          refine lv_bipush (v := 8) F.1 F.2.1 d_Chart_gather_92 (by decide) ?_
          refine lv_ishr F.1 F.2.1 d_Chart_gather_94 ?_
          refine lv_sipush (v := 255) F.1 F.2.1 d_Chart_gather_95 (by decide) ?_
          refine lv_iand F.1 F.2.1 d_Chart_gather_98 ?_
          refine lv_iconst (v := 1) F.1 F.2.1 d_Chart_gather_99 (by decide) ?_
          obtain ⟨hi_12, h⟩ := gd_ex h
          obtain ⟨S_13, eS_13, h⟩ := nm_ex h
          refine cs_4_3 F hK hw hi_12 d_Chart_gather_100 eS_13 (fun H locs hw => ?_)
          exact J_101_l39 S_13 x2 H locs ls hw (lv_sub hl [0, 1, 2] rfl) o h ho
    rw [eP_39] at hL_39
    exact hL_39 H locs ls hw (lv_sub hl [2, 1, 0] rfl)
  exact key _ _ hw _ h (by rw [eX_0]; exact fun H locs pc ls hd hw => hQ H locs pc ls ad rfl hd hw)
theorem d_Chart_heaviest_0 : decode b_Chart_heaviest 0 = .ok (.iconst 0, 1) := by decide +kernel
theorem d_Chart_heaviest_1 : decode b_Chart_heaviest 1 = .ok (.istore_n 2, 1) := by decide +kernel
theorem d_Chart_heaviest_2 : decode b_Chart_heaviest 2 = .ok (.iconst (-1), 1) := by decide +kernel
theorem d_Chart_heaviest_3 : decode b_Chart_heaviest 3 = .ok (.istore_n 3, 1) := by decide +kernel
theorem d_Chart_heaviest_4 : decode b_Chart_heaviest 4 = .ok (.iconst 0, 1) := by decide +kernel
theorem d_Chart_heaviest_5 : decode b_Chart_heaviest 5 = .ok (.istore 4, 2) := by decide +kernel
theorem d_Chart_heaviest_7 : decode b_Chart_heaviest 7 = .ok (.iload 4, 2) := by decide +kernel
theorem d_Chart_heaviest_9 : decode b_Chart_heaviest 9 = .ok (.aload_n 0, 1) := by decide +kernel
theorem d_Chart_heaviest_10 : decode b_Chart_heaviest 10 = .ok (.getfield 43, 3) := by decide +kernel
theorem d_Chart_heaviest_13 : decode b_Chart_heaviest 13 = .ok (.iconst 1, 1) := by decide +kernel
theorem d_Chart_heaviest_14 : decode b_Chart_heaviest 14 = .ok (.invokevirtual 76, 3) := by decide +kernel
theorem d_Chart_heaviest_17 : decode b_Chart_heaviest 17 = .ok (.if_icmp .ge 59, 3) := by decide +kernel
theorem d_Chart_heaviest_20 : decode b_Chart_heaviest 20 = .ok (.iload 4, 2) := by decide +kernel
theorem d_Chart_heaviest_22 : decode b_Chart_heaviest 22 = .ok (.aload_n 0, 1) := by decide +kernel
theorem d_Chart_heaviest_23 : decode b_Chart_heaviest 23 = .ok (.getfield 43, 3) := by decide +kernel
theorem d_Chart_heaviest_26 : decode b_Chart_heaviest 26 = .ok (.getfield 143, 3) := by decide +kernel
theorem d_Chart_heaviest_29 : decode b_Chart_heaviest 29 = .ok (.arraylength, 1) := by decide +kernel
theorem d_Chart_heaviest_30 : decode b_Chart_heaviest 30 = .ok (.if_icmp .ge 46, 3) := by decide +kernel
theorem d_Chart_heaviest_33 : decode b_Chart_heaviest 33 = .ok (.iload_n 1, 1) := by decide +kernel
theorem d_Chart_heaviest_34 : decode b_Chart_heaviest 34 = .ok (.iload 4, 2) := by decide +kernel
theorem d_Chart_heaviest_36 : decode b_Chart_heaviest 36 = .ok (.ishr, 1) := by decide +kernel
theorem d_Chart_heaviest_37 : decode b_Chart_heaviest 37 = .ok (.iconst 1, 1) := by decide +kernel
theorem d_Chart_heaviest_38 : decode b_Chart_heaviest 38 = .ok (.iand, 1) := by decide +kernel
theorem d_Chart_heaviest_39 : decode b_Chart_heaviest 39 = .ok (.ifCond .ne 31, 3) := by decide +kernel
theorem d_Chart_heaviest_42 : decode b_Chart_heaviest 42 = .ok (.aload_n 0, 1) := by decide +kernel
theorem d_Chart_heaviest_43 : decode b_Chart_heaviest 43 = .ok (.getfield 43, 3) := by decide +kernel
theorem d_Chart_heaviest_46 : decode b_Chart_heaviest 46 = .ok (.getfield 143, 3) := by decide +kernel
theorem d_Chart_heaviest_49 : decode b_Chart_heaviest 49 = .ok (.iload 4, 2) := by decide +kernel
theorem d_Chart_heaviest_51 : decode b_Chart_heaviest 51 = .ok (.iaload, 1) := by decide +kernel
theorem d_Chart_heaviest_52 : decode b_Chart_heaviest 52 = .ok (.iload_n 3, 1) := by decide +kernel
theorem d_Chart_heaviest_53 : decode b_Chart_heaviest 53 = .ok (.if_icmp .le 17, 3) := by decide +kernel
theorem d_Chart_heaviest_56 : decode b_Chart_heaviest 56 = .ok (.iload 4, 2) := by decide +kernel
theorem d_Chart_heaviest_58 : decode b_Chart_heaviest 58 = .ok (.istore_n 2, 1) := by decide +kernel
theorem d_Chart_heaviest_59 : decode b_Chart_heaviest 59 = .ok (.aload_n 0, 1) := by decide +kernel
theorem d_Chart_heaviest_60 : decode b_Chart_heaviest 60 = .ok (.getfield 43, 3) := by decide +kernel
theorem d_Chart_heaviest_63 : decode b_Chart_heaviest 63 = .ok (.getfield 143, 3) := by decide +kernel
theorem d_Chart_heaviest_66 : decode b_Chart_heaviest 66 = .ok (.iload 4, 2) := by decide +kernel
theorem d_Chart_heaviest_68 : decode b_Chart_heaviest 68 = .ok (.iaload, 1) := by decide +kernel
theorem d_Chart_heaviest_69 : decode b_Chart_heaviest 69 = .ok (.istore_n 3, 1) := by decide +kernel
theorem d_Chart_heaviest_70 : decode b_Chart_heaviest 70 = .ok (.iinc 4 1, 3) := by decide +kernel
theorem d_Chart_heaviest_73 : decode b_Chart_heaviest 73 = .ok (.goto (-66), 3) := by decide +kernel
theorem d_Chart_heaviest_76 : decode b_Chart_heaviest 76 = .ok (.iload_n 2, 1) := by decide +kernel
theorem d_Chart_heaviest_77 : decode b_Chart_heaviest 77 = .ok (.ireturn, 1) := by decide +kernel
set_option maxHeartbeats 4000000 in
set_option maxRecDepth 100000 in
theorem c_Chart_heaviest (l : Launch) {S : St} {x1 : Int32} {r : Int32} (h : f_Chart_heaviest S x1 = some r) : MI cw l y_Chart_heaviest b_Chart_heaviest 5 (some .int) 1 21 0 0 (fun ad => [.ref (ad 4 0), .int x1]) aT aE S r S := by
  refine MI_of "LawfulLots$Chart" rfl (by decide) (fun _ => Nat.le_of_ble_eq_true rfl) ?_
  intro p e s m args below meth c D ar ad A Q ls hP F hK hA hw hl hQ
  have hl : lv_has ls 5 [(0, .ref (ad 4 0)), (1, .int x1)] := hl
  obtain ⟨X_0, eX_0⟩ : ∃ X : Int32 → Prop, X = (fun q => ∀ (H : Heap) (locs : List Loc) (pc : Nat) (ls : Array Slot), decode b_Chart_heaviest pc = .ok (.ireturn, 1) → Bw cw D ar A s.heap H locs ad S → W p l e (RM 1 21) s m args below meth c H locs 0 0 Q (F0 m pc ls [.int q])) := ⟨_, rfl⟩
  have key : ∀ (H : Heap) (locs : List Loc), Bw cw D ar A s.heap H locs ad S → ∀ o, f_Chart_heaviest S x1 = some o → X_0 o → W p l e (RM 1 21) s m args below meth c H locs 0 0 Q (F0 m 0 ls []) := by
    intro H locs hw o h ho
    unfold f_Chart_heaviest at h
    have J_76 : ∀ (x2 : Int32) (H : Heap) (locs : List Loc) (ls : Array Slot), Bw cw D ar A s.heap H locs ad S → lv_has ls 5 [(2, .int x2)] → ∀ o, Chart_heaviest_j76 S x2 = some o → X_0 o → W p l e (RM 1 21) s m args below meth c H locs 0 0 Q (F0 m 76 ls []) := by
      intro x2 H locs ls hw hl o h ho
      unfold Chart_heaviest_j76 at h
      refine lv_iload_n F.1 F.2.1 d_Chart_heaviest_76 rfl (lv_at hl 0 rfl) ?_
      cases h
      have ho : X_0 _ := ho
      rw [eX_0] at ho
      exact ho H locs _ ls d_Chart_heaviest_77 hw
    refine lv_iconst (v := 0) F.1 F.2.1 d_Chart_heaviest_0 (by decide) ?_
    refine lv_istore_n (lv' := [(2, .int (0 : Int32)), (0, .ref (ad 4 0)), (1, .int x1)]) F.1 F.2.1 d_Chart_heaviest_1 rfl hl (by decide) rfl (fun ls hl => ?_)
    refine lv_iconst (v := -1) F.1 F.2.1 d_Chart_heaviest_2 (by decide) ?_
    refine lv_istore_n (lv' := [(3, .int (-1 : Int32)), (2, .int (0 : Int32)), (0, .ref (ad 4 0)), (1, .int x1)]) F.1 F.2.1 d_Chart_heaviest_3 rfl hl (by decide) rfl (fun ls hl => ?_)
    refine lv_iconst (v := 0) F.1 F.2.1 d_Chart_heaviest_4 (by decide) ?_
    refine lv_istore (lv' := [(4, .int (0 : Int32)), (3, .int (-1 : Int32)), (2, .int (0 : Int32)), (0, .ref (ad 4 0)), (1, .int x1)]) F.1 F.2.1 d_Chart_heaviest_5 hl (by decide) rfl (fun ls hl => ?_)
    obtain ⟨x2_11, hc_12, h⟩ := bd_ex h
    obtain ⟨X_7, eX_7⟩ : ∃ X : Int32 → Prop, X = (fun q => ∀ (H : Heap) (locs : List Loc) (ls : Array Slot), Bw cw D ar A s.heap H locs ad S → lv_has ls 5 [(2, .int q)] → W p l e (RM 1 21) s m args below meth c H locs 0 0 Q (F0 m 76 ls [])) := ⟨_, rfl⟩
    have hX_7 : X_7 x2_11 := by
      rw [eX_7]
      intro H locs ls hw hl
      exact J_76 x2_11 H locs ls hw (lv_sub hl [0] rfl) o h ho
    obtain ⟨P_7, eP_7⟩ : ∃ P : (Int32 × Int32 × Int32) → Prop, P = (fun q => ∀ (H : Heap) (locs : List Loc) (ls : Array Slot), Bw cw D ar A s.heap H locs ad S → lv_has ls 5 [(0, .ref (ad 4 0)), (1, .int x1), (2, .int q.1), (3, .int q.2.1), (4, .int q.2.2)] → W p l e (RM 1 21) s m args below meth c H locs 0 0 Q (F0 m 7 ls [])) := ⟨_, rfl⟩
    have hL_7 : P_7 ((0 : Int32), (-1 : Int32), (0 : Int32)) := by
      refine wh_gp (P := P_7) (X := X_7) hc_12 hX_7 ?_
      clear h
      intro q o h ho
      obtain ⟨x2, x3, x4⟩ := q
      have h : Chart_heaviest_l7 S x1 x2 x3 x4 = some o := h
      unfold Chart_heaviest_l7 at h
      rw [eP_7]
      intro H locs ls hw hl
      have J_70_l7 : ∀ (x2 : Int32) (x3 : Int32) (x4 : Int32) (H : Heap) (locs : List Loc) (ls : Array Slot), Bw cw D ar A s.heap H locs ad S → lv_has ls 5 [(0, .ref (ad 4 0)), (1, .int x1), (2, .int x2), (3, .int x3), (4, .int x4)] → ∀ o, Chart_heaviest_j70_l7 S x1 x2 x3 x4 = some o → (Sum.elim P_7 X_7) o → W p l e (RM 1 21) s m args below meth c H locs 0 0 Q (F0 m 70 ls []) := by
        intro x2 x3 x4 H locs ls hw hl o h ho
        unfold Chart_heaviest_j70_l7 at h
        obtain ⟨x4_10, ex4_10, h⟩ := nm_ex h
        refine lv_iinc (v := x4_10) (lv' := [(4, .int x4_10), (0, .ref (ad 4 0)), (1, .int x1), (2, .int x2), (3, .int x3)]) F.1 F.2.1 d_Chart_heaviest_70 hl (k := 4) rfl (by rw [ex4_10]; rfl) (by decide) rfl (fun ls hl => ?_)
        refine lv_goto (tgt := 7) F.1 F.2.1 d_Chart_heaviest_73 (by decide) ?_
        cases h
        have ho : P_7 _ := ho
        rw [eP_7] at ho
        exact ho H locs ls hw (lv_sub hl [1, 2, 3, 4, 0] rfl)
      refine lv_iload F.1 F.2.1 d_Chart_heaviest_7 (lv_at hl 4 rfl) ?_
      refine lv_aload_n F.1 F.2.1 d_Chart_heaviest_9 rfl (lv_at hl 0 rfl) ?_
      refine cg_4_8 F hK hw lk_199 d_Chart_heaviest_10 ?_
      refine lv_iconst (v := 1) F.1 F.2.1 d_Chart_heaviest_13 (by decide) ?_
      obtain ⟨v_2, hc_1, h⟩ := bd_ex h
      refine cV_i F hA rfl hK hw (c_Book_toldOf_5 l hc_1) trivial rfl (good_V lk_556 lk_452 lk_453 lk_4 lk_454) (cr_5 hK hw) hd_Book_toldOf ⟨Nat.le_of_ble_eq_true rfl, Nat.le_of_ble_eq_true rfl⟩ rfl hl.1 rfl (Nat.le_of_ble_eq_true rfl) d_Chart_heaviest_14 ⟨(Nat.zero_le _), (Nat.zero_le _)⟩ (fun H locs hw => ?_)
      refine lv_icmp_ge (tgt := 76) F.1 F.2.1 d_Chart_heaviest_17 (by decide) (fun c_3 => ?_) (fun c_3 => ?_)
      · replace h := ip c_3 h
        cases h
        have ho : X_7 _ := ho
        rw [eX_7] at ho
        exact ho H locs ls hw (lv_sub hl [2] rfl)
      · replace h := iq c_3 h
        refine lv_iload F.1 F.2.1 d_Chart_heaviest_20 (lv_at hl 4 rfl) ?_
        refine lv_aload_n F.1 F.2.1 d_Chart_heaviest_22 rfl (lv_at hl 0 rfl) ?_
        refine cg_4_8 F hK hw lk_199 d_Chart_heaviest_23 ?_
        refine cg_5_5 F hK hw lk_73 d_Chart_heaviest_26 ?_
        refine cn_5_5 F hK hw d_Chart_heaviest_29 ?_
        refine lv_icmp_ge (tgt := 76) F.1 F.2.1 d_Chart_heaviest_30 (by decide) (fun c_4 => ?_) (fun c_4 => ?_)
        · replace h := ip c_4 h
          cases h
          have ho : X_7 _ := ho
          rw [eX_7] at ho
          exact ho H locs ls hw (lv_sub hl [2] rfl)
        · replace h := iq c_4 h
          refine lv_iload_n F.1 F.2.1 d_Chart_heaviest_33 rfl (lv_at hl 1 rfl) ?_
          refine lv_iload F.1 F.2.1 d_Chart_heaviest_34 (lv_at hl 4 rfl) ?_
          refine lv_ishr F.1 F.2.1 d_Chart_heaviest_36 ?_
          refine lv_iconst (v := 1) F.1 F.2.1 d_Chart_heaviest_37 (by decide) ?_
          refine lv_iand F.1 F.2.1 d_Chart_heaviest_38 ?_
          refine lv_if_ne (tgt := 70) F.1 F.2.1 d_Chart_heaviest_39 (by decide) (fun c_5 => ?_) (fun c_5 => ?_)
          · replace h := iq c_5 h
            exact J_70_l7 x2 x3 x4 H locs ls hw (lv_sub hl [0, 1, 2, 3, 4] rfl) o h ho
          · replace h := ip c_5 h
            refine lv_aload_n F.1 F.2.1 d_Chart_heaviest_42 rfl (lv_at hl 0 rfl) ?_
            refine cg_4_8 F hK hw lk_199 d_Chart_heaviest_43 ?_
            refine cg_5_5 F hK hw lk_73 d_Chart_heaviest_46 ?_
            refine lv_iload F.1 F.2.1 d_Chart_heaviest_49 (lv_at hl 4 rfl) ?_
            obtain ⟨hi_6, h⟩ := gd_ex h
            refine cl_5_5 F hK hw hi_6 d_Chart_heaviest_51 ?_
            refine lv_iload_n F.1 F.2.1 d_Chart_heaviest_52 rfl (lv_at hl 3 rfl) ?_
            refine lv_icmp_le (tgt := 70) F.1 F.2.1 d_Chart_heaviest_53 (by decide) (fun c_7 => ?_) (fun c_7 => ?_)
            · replace h := ip c_7 h
              exact J_70_l7 x2 x3 x4 H locs ls hw (lv_sub hl [0, 1, 2, 3, 4] rfl) o h ho
            · replace h := iq c_7 h
              refine lv_iload F.1 F.2.1 d_Chart_heaviest_56 (lv_at hl 4 rfl) ?_
              refine lv_istore_n (lv' := [(2, .int x4), (0, .ref (ad 4 0)), (1, .int x1), (3, .int x3), (4, .int x4)]) F.1 F.2.1 d_Chart_heaviest_58 rfl hl (by decide) rfl (fun ls hl => ?_)
              refine lv_aload_n F.1 F.2.1 d_Chart_heaviest_59 rfl (lv_at hl 1 rfl) ?_
              refine cg_4_8 F hK hw lk_199 d_Chart_heaviest_60 ?_
              refine cg_5_5 F hK hw lk_73 d_Chart_heaviest_63 ?_
              refine lv_iload F.1 F.2.1 d_Chart_heaviest_66 (lv_at hl 4 rfl) ?_
              obtain ⟨hi_8, h⟩ := gd_ex h
              refine cl_5_5 F hK hw hi_8 d_Chart_heaviest_68 ?_
              obtain ⟨x3_9, ex3_9, h⟩ := nm_ex h
              refine lv_nm ex3_9 ?_
              refine lv_istore_n (lv' := [(3, .int x3_9), (2, .int x4), (0, .ref (ad 4 0)), (1, .int x1), (4, .int x4)]) F.1 F.2.1 d_Chart_heaviest_69 rfl hl (by decide) rfl (fun ls hl => ?_)
              exact J_70_l7 x4 x3_9 x4 H locs ls hw (lv_sub hl [2, 3, 1, 0, 4] rfl) o h ho
    rw [eP_7] at hL_7
    exact hL_7 H locs ls hw (lv_sub hl [3, 4, 2, 1, 0] rfl)
  exact key _ _ hw _ h (by rw [eX_0]; exact fun H locs pc ls hd hw => hQ H locs pc ls ad rfl hd hw)
theorem d_Chart_canKeep_0 : decode b_Chart_canKeep 0 = .ok (.iconst 0, 1) := by decide +kernel
theorem d_Chart_canKeep_1 : decode b_Chart_canKeep 1 = .ok (.istore_n 2, 1) := by decide +kernel
theorem d_Chart_canKeep_2 : decode b_Chart_canKeep 2 = .ok (.iload_n 2, 1) := by decide +kernel
theorem d_Chart_canKeep_3 : decode b_Chart_canKeep 3 = .ok (.sipush 256, 3) := by decide +kernel
theorem d_Chart_canKeep_6 : decode b_Chart_canKeep 6 = .ok (.if_icmp .ge 27, 3) := by decide +kernel
theorem d_Chart_canKeep_9 : decode b_Chart_canKeep 9 = .ok (.iload_n 2, 1) := by decide +kernel
theorem d_Chart_canKeep_10 : decode b_Chart_canKeep 10 = .ok (.iload_n 1, 1) := by decide +kernel
theorem d_Chart_canKeep_11 : decode b_Chart_canKeep 11 = .ok (.iand, 1) := by decide +kernel
theorem d_Chart_canKeep_12 : decode b_Chart_canKeep 12 = .ok (.iload_n 1, 1) := by decide +kernel
theorem d_Chart_canKeep_13 : decode b_Chart_canKeep 13 = .ok (.if_icmp .ne 14, 3) := by decide +kernel
theorem d_Chart_canKeep_16 : decode b_Chart_canKeep 16 = .ok (.aload_n 0, 1) := by decide +kernel
theorem d_Chart_canKeep_17 : decode b_Chart_canKeep 17 = .ok (.getfield 25, 3) := by decide +kernel
theorem d_Chart_canKeep_20 : decode b_Chart_canKeep 20 = .ok (.iload_n 2, 1) := by decide +kernel
theorem d_Chart_canKeep_21 : decode b_Chart_canKeep 21 = .ok (.iaload, 1) := by decide +kernel
theorem d_Chart_canKeep_22 : decode b_Chart_canKeep 22 = .ok (.ifCond .eq 5, 3) := by decide +kernel
theorem d_Chart_canKeep_25 : decode b_Chart_canKeep 25 = .ok (.iconst 1, 1) := by decide +kernel
theorem d_Chart_canKeep_26 : decode b_Chart_canKeep 26 = .ok (.ireturn, 1) := by decide +kernel
theorem d_Chart_canKeep_27 : decode b_Chart_canKeep 27 = .ok (.iinc 2 1, 3) := by decide +kernel
theorem d_Chart_canKeep_30 : decode b_Chart_canKeep 30 = .ok (.goto (-28), 3) := by decide +kernel
theorem d_Chart_canKeep_33 : decode b_Chart_canKeep 33 = .ok (.iconst 0, 1) := by decide +kernel
theorem d_Chart_canKeep_34 : decode b_Chart_canKeep 34 = .ok (.ireturn, 1) := by decide +kernel
set_option maxHeartbeats 4000000 in
set_option maxRecDepth 100000 in
theorem c_Chart_canKeep (l : Launch) {S : St} {x1 : Int32} {r : Int32} (h : f_Chart_canKeep S x1 = some r) : MI cw l y_Chart_canKeep b_Chart_canKeep 3 (some .boolean) 0 0 0 0 (fun ad => [.ref (ad 4 0), .int x1]) aT aE S r S := by
  refine MZ_of "LawfulLots$Chart" rfl (by decide) (fun _ => Nat.le_of_ble_eq_true rfl) ?_
  intro p e s m args below meth c D ar ad A Q ls hP F hK hA hw hl hQ
  have hl : lv_has ls 3 [(0, .ref (ad 4 0)), (1, .int x1)] := hl
  obtain ⟨X_0, eX_0⟩ : ∃ X : Int32 → Prop, X = (fun q => ∀ (H : Heap) (locs : List Loc) (pc : Nat) (ls : Array Slot), isB q = true → decode b_Chart_canKeep pc = .ok (.ireturn, 1) → Bw cw D ar A s.heap H locs ad S → W p l e (RM 0 0) s m args below meth c H locs 0 0 Q (F0 m pc ls [.int q])) := ⟨_, rfl⟩
  have key : ∀ (H : Heap) (locs : List Loc), Bw cw D ar A s.heap H locs ad S → ∀ o, f_Chart_canKeep S x1 = some o → X_0 o → W p l e (RM 0 0) s m args below meth c H locs 0 0 Q (F0 m 0 ls []) := by
    intro H locs hw o h ho
    unfold f_Chart_canKeep at h
    refine lv_iconst (v := 0) F.1 F.2.1 d_Chart_canKeep_0 (by decide) ?_
    refine lv_istore_n (lv' := [(2, .int (0 : Int32)), (0, .ref (ad 4 0)), (1, .int x1)]) F.1 F.2.1 d_Chart_canKeep_1 rfl hl (by decide) rfl (fun ls hl => ?_)
    obtain ⟨P_2, eP_2⟩ : ∃ P : Int32 → Prop, P = (fun q => ∀ (H : Heap) (locs : List Loc) (ls : Array Slot), Bw cw D ar A s.heap H locs ad S → lv_has ls 3 [(0, .ref (ad 4 0)), (1, .int x1), (2, .int q)] → W p l e (RM 0 0) s m args below meth c H locs 0 0 Q (F0 m 2 ls [])) := ⟨_, rfl⟩
    have hL_2 : P_2 (0 : Int32) := by
      refine wh_gp (P := P_2) (X := X_0) h ho ?_
      clear h ho
      intro x2 o h ho
      have h : Chart_canKeep_l2 S x1 x2 = some o := h
      unfold Chart_canKeep_l2 at h
      rw [eP_2]
      intro H locs ls hw hl
      have J_27_l2 : ∀ (x2 : Int32) (H : Heap) (locs : List Loc) (ls : Array Slot), Bw cw D ar A s.heap H locs ad S → lv_has ls 3 [(0, .ref (ad 4 0)), (1, .int x1), (2, .int x2)] → ∀ o, Chart_canKeep_j27_l2 S x1 x2 = some o → (Sum.elim P_2 X_0) o → W p l e (RM 0 0) s m args below meth c H locs 0 0 Q (F0 m 27 ls []) := by
        intro x2 H locs ls hw hl o h ho
        unfold Chart_canKeep_j27_l2 at h
        obtain ⟨x2_5, ex2_5, h⟩ := nm_ex h
        refine lv_iinc (v := x2_5) (lv' := [(2, .int x2_5), (0, .ref (ad 4 0)), (1, .int x1)]) F.1 F.2.1 d_Chart_canKeep_27 hl (k := 2) rfl (by rw [ex2_5]; rfl) (by decide) rfl (fun ls hl => ?_)
        refine lv_goto (tgt := 2) F.1 F.2.1 d_Chart_canKeep_30 (by decide) ?_
        cases h
        have ho : P_2 _ := ho
        rw [eP_2] at ho
        exact ho H locs ls hw (lv_sub hl [1, 2, 0] rfl)
      refine lv_iload_n F.1 F.2.1 d_Chart_canKeep_2 rfl (lv_at hl 2 rfl) ?_
      refine lv_sipush (v := 256) F.1 F.2.1 d_Chart_canKeep_3 (by decide) ?_
      refine lv_icmp_ge (tgt := 33) F.1 F.2.1 d_Chart_canKeep_6 (by decide) (fun c_1 => ?_) (fun c_1 => ?_)
      · replace h := ip c_1 h
        refine lv_iconst (v := 0) F.1 F.2.1 d_Chart_canKeep_33 (by decide) ?_
        cases h
        have ho : X_0 _ := ho
        rw [eX_0] at ho
        exact ho H locs _ ls isB0 d_Chart_canKeep_34 hw
      · replace h := iq c_1 h
        refine lv_iload_n F.1 F.2.1 d_Chart_canKeep_9 rfl (lv_at hl 2 rfl) ?_
        refine lv_iload_n F.1 F.2.1 d_Chart_canKeep_10 rfl (lv_at hl 1 rfl) ?_
        refine lv_iand F.1 F.2.1 d_Chart_canKeep_11 ?_
        refine lv_iload_n F.1 F.2.1 d_Chart_canKeep_12 rfl (lv_at hl 1 rfl) ?_
        refine lv_icmp_ne (tgt := 27) F.1 F.2.1 d_Chart_canKeep_13 (by decide) (fun c_2 => ?_) (fun c_2 => ?_)
        · replace h := iq c_2 h
          exact J_27_l2 x2 H locs ls hw (lv_sub hl [0, 1, 2] rfl) o h ho
        · replace h := ip c_2 h
          refine lv_aload_n F.1 F.2.1 d_Chart_canKeep_16 rfl (lv_at hl 0 rfl) ?_
          refine cg_4_3 F hK hw lk_194 d_Chart_canKeep_17 ?_
          refine lv_iload_n F.1 F.2.1 d_Chart_canKeep_20 rfl (lv_at hl 2 rfl) ?_
          obtain ⟨hi_3, h⟩ := gd_ex h
          refine cl_4_3 F hK hw hi_3 d_Chart_canKeep_21 ?_
          refine lv_if_eq (tgt := 27) F.1 F.2.1 d_Chart_canKeep_22 (by decide) (fun c_4 => ?_) (fun c_4 => ?_)
          · replace h := ip c_4 h
            exact J_27_l2 x2 H locs ls hw (lv_sub hl [0, 1, 2] rfl) o h ho
          · replace h := iq c_4 h
            refine lv_iconst (v := 1) F.1 F.2.1 d_Chart_canKeep_25 (by decide) ?_
            cases h
            have ho : X_0 _ := ho
            rw [eX_0] at ho
            exact ho H locs _ ls isB1 d_Chart_canKeep_26 hw
    rw [eP_2] at hL_2
    exact hL_2 H locs ls hw (lv_sub hl [1, 2, 0] rfl)
  exact key _ _ hw _ h (by rw [eX_0]; exact fun H locs pc ls hb hd hw => hQ H locs pc ls ad hb rfl hd hw)
theorem d_Chart_keepSoft_0 : decode b_Chart_keepSoft 0 = .ok (.aload_n 0, 1) := by decide +kernel
theorem d_Chart_keepSoft_1 : decode b_Chart_keepSoft 1 = .ok (.iconst 0, 1) := by decide +kernel
theorem d_Chart_keepSoft_2 : decode b_Chart_keepSoft 2 = .ok (.putfield 51, 3) := by decide +kernel
theorem d_Chart_keepSoft_5 : decode b_Chart_keepSoft 5 = .ok (.iconst 0, 1) := by decide +kernel
theorem d_Chart_keepSoft_6 : decode b_Chart_keepSoft 6 = .ok (.istore_n 1, 1) := by decide +kernel
theorem d_Chart_keepSoft_7 : decode b_Chart_keepSoft 7 = .ok (.iconst 0, 1) := by decide +kernel
theorem d_Chart_keepSoft_8 : decode b_Chart_keepSoft 8 = .ok (.istore_n 2, 1) := by decide +kernel
theorem d_Chart_keepSoft_9 : decode b_Chart_keepSoft 9 = .ok (.iload_n 2, 1) := by decide +kernel
theorem d_Chart_keepSoft_10 : decode b_Chart_keepSoft 10 = .ok (.aload_n 0, 1) := by decide +kernel
theorem d_Chart_keepSoft_11 : decode b_Chart_keepSoft 11 = .ok (.getfield 43, 3) := by decide +kernel
theorem d_Chart_keepSoft_14 : decode b_Chart_keepSoft 14 = .ok (.iconst 1, 1) := by decide +kernel
theorem d_Chart_keepSoft_15 : decode b_Chart_keepSoft 15 = .ok (.invokevirtual 76, 3) := by decide +kernel
theorem d_Chart_keepSoft_18 : decode b_Chart_keepSoft 18 = .ok (.if_icmp .ge 44, 3) := by decide +kernel
theorem d_Chart_keepSoft_21 : decode b_Chart_keepSoft 21 = .ok (.iconst 1, 1) := by decide +kernel
theorem d_Chart_keepSoft_22 : decode b_Chart_keepSoft 22 = .ok (.aload_n 0, 1) := by decide +kernel
theorem d_Chart_keepSoft_23 : decode b_Chart_keepSoft 23 = .ok (.iload_n 1, 1) := by decide +kernel
theorem d_Chart_keepSoft_24 : decode b_Chart_keepSoft 24 = .ok (.invokevirtual 136, 3) := by decide +kernel
theorem d_Chart_keepSoft_27 : decode b_Chart_keepSoft 27 = .ok (.ishl, 1) := by decide +kernel
theorem d_Chart_keepSoft_28 : decode b_Chart_keepSoft 28 = .ok (.istore_n 3, 1) := by decide +kernel
theorem d_Chart_keepSoft_29 : decode b_Chart_keepSoft 29 = .ok (.iload_n 1, 1) := by decide +kernel
theorem d_Chart_keepSoft_30 : decode b_Chart_keepSoft 30 = .ok (.iload_n 3, 1) := by decide +kernel
theorem d_Chart_keepSoft_31 : decode b_Chart_keepSoft 31 = .ok (.ior, 1) := by decide +kernel
theorem d_Chart_keepSoft_32 : decode b_Chart_keepSoft 32 = .ok (.istore_n 1, 1) := by decide +kernel
theorem d_Chart_keepSoft_33 : decode b_Chart_keepSoft 33 = .ok (.aload_n 0, 1) := by decide +kernel
theorem d_Chart_keepSoft_34 : decode b_Chart_keepSoft 34 = .ok (.aload_n 0, 1) := by decide +kernel
theorem d_Chart_keepSoft_35 : decode b_Chart_keepSoft 35 = .ok (.getfield 51, 3) := by decide +kernel
theorem d_Chart_keepSoft_38 : decode b_Chart_keepSoft 38 = .ok (.iload_n 3, 1) := by decide +kernel
theorem d_Chart_keepSoft_39 : decode b_Chart_keepSoft 39 = .ok (.ior, 1) := by decide +kernel
theorem d_Chart_keepSoft_40 : decode b_Chart_keepSoft 40 = .ok (.invokevirtual 139, 3) := by decide +kernel
theorem d_Chart_keepSoft_43 : decode b_Chart_keepSoft 43 = .ok (.ifCond .eq 13, 3) := by decide +kernel
theorem d_Chart_keepSoft_46 : decode b_Chart_keepSoft 46 = .ok (.aload_n 0, 1) := by decide +kernel
theorem d_Chart_keepSoft_47 : decode b_Chart_keepSoft 47 = .ok (.dup, 1) := by decide +kernel
theorem d_Chart_keepSoft_48 : decode b_Chart_keepSoft 48 = .ok (.getfield 51, 3) := by decide +kernel
theorem d_Chart_keepSoft_51 : decode b_Chart_keepSoft 51 = .ok (.iload_n 3, 1) := by decide +kernel
theorem d_Chart_keepSoft_52 : decode b_Chart_keepSoft 52 = .ok (.ior, 1) := by decide +kernel
theorem d_Chart_keepSoft_53 : decode b_Chart_keepSoft 53 = .ok (.putfield 51, 3) := by decide +kernel
theorem d_Chart_keepSoft_56 : decode b_Chart_keepSoft 56 = .ok (.iinc 2 1, 3) := by decide +kernel
theorem d_Chart_keepSoft_59 : decode b_Chart_keepSoft 59 = .ok (.goto (-50), 3) := by decide +kernel
theorem d_Chart_keepSoft_62 : decode b_Chart_keepSoft 62 = .ok (.return_, 1) := by decide +kernel
set_option maxHeartbeats 4000000 in
set_option maxRecDepth 100000 in
theorem c_Chart_keepSoft (l : Launch) {S : St} {S' : St} (h : f_Chart_keepSoft S = some S') : MV cw l y_Chart_keepSoft b_Chart_keepSoft 4 none 2 45 0 0 (fun ad => [.ref (ad 4 0)]) aT aE S S' := by
  refine MV_of "LawfulLots$Chart" rfl (by decide) (fun _ => Nat.le_of_ble_eq_true rfl) ?_
  intro p e s m args below meth c D ar ad A Q ls hP F hK hA hw hl hQ
  have hl : lv_has ls 4 [(0, .ref (ad 4 0))] := hl
  obtain ⟨X_0, eX_0⟩ : ∃ X : St → Prop, X = (fun q => ∀ (H : Heap) (locs : List Loc) (pc : Nat) (ls : Array Slot), decode b_Chart_keepSoft pc = .ok (.return_, 1) → Bw cw D ar A s.heap H locs ad q → W p l e (RM 2 45) s m args below meth c H locs 0 0 Q (F0 m pc ls [])) := ⟨_, rfl⟩
  have key : ∀ (H : Heap) (locs : List Loc), Bw cw D ar A s.heap H locs ad S → ∀ o, f_Chart_keepSoft S = some o → X_0 o → W p l e (RM 2 45) s m args below meth c H locs 0 0 Q (F0 m 0 ls []) := by
    intro H locs hw o h ho
    unfold f_Chart_keepSoft at h
    refine lv_aload_n F.1 F.2.1 d_Chart_keepSoft_0 rfl (lv_at hl 0 rfl) ?_
    refine lv_iconst (v := 0) F.1 F.2.1 d_Chart_keepSoft_1 (by decide) ?_
    obtain ⟨S_1, eS_1, h⟩ := nm_ex h
    refine cp_4_10 F hK hw lk_207 d_Chart_keepSoft_2 eS_1 (fun H locs hw => ?_)
    refine lv_iconst (v := 0) F.1 F.2.1 d_Chart_keepSoft_5 (by decide) ?_
    refine lv_istore_n (lv' := [(1, .int (0 : Int32)), (0, .ref (ad 4 0))]) F.1 F.2.1 d_Chart_keepSoft_6 rfl hl (by decide) rfl (fun ls hl => ?_)
    refine lv_iconst (v := 0) F.1 F.2.1 d_Chart_keepSoft_7 (by decide) ?_
    refine lv_istore_n (lv' := [(2, .int (0 : Int32)), (1, .int (0 : Int32)), (0, .ref (ad 4 0))]) F.1 F.2.1 d_Chart_keepSoft_8 rfl hl (by decide) rfl (fun ls hl => ?_)
    obtain ⟨S_14, hc_15, h⟩ := bd_ex h
    obtain ⟨X_9, eX_9⟩ : ∃ X : St → Prop, X = (fun q => ∀ (H : Heap) (locs : List Loc) (ls : Array Slot), Bw cw D ar A s.heap H locs ad q → lv_has ls 4 [] → W p l e (RM 2 45) s m args below meth c H locs 0 0 Q (F0 m 62 ls [])) := ⟨_, rfl⟩
    have hX_9 : X_9 S_14 := by
      rw [eX_9]
      intro H locs ls hw hl
      cases h
      have ho : X_0 _ := ho
      rw [eX_0] at ho
      exact ho H locs _ ls d_Chart_keepSoft_62 hw
    obtain ⟨P_9, eP_9⟩ : ∃ P : (St × Int32 × Int32) → Prop, P = (fun q => ∀ (H : Heap) (locs : List Loc) (ls : Array Slot), Bw cw D ar A s.heap H locs ad q.1 → lv_has ls 4 [(0, .ref (ad 4 0)), (1, .int q.2.1), (2, .int q.2.2)] → W p l e (RM 2 45) s m args below meth c H locs 0 0 Q (F0 m 9 ls [])) := ⟨_, rfl⟩
    have hL_9 : P_9 (S_1, (0 : Int32), (0 : Int32)) := by
      refine wh_gp (P := P_9) (X := X_9) hc_15 hX_9 ?_
      clear h
      intro q o h ho
      obtain ⟨S, x1, x2⟩ := q
      have h : Chart_keepSoft_l9 S x1 x2 = some o := h
      unfold Chart_keepSoft_l9 at h
      rw [eP_9]
      intro H locs ls hw hl
      have J_56_l9 : ∀ (S : St) (x1 : Int32) (x2 : Int32) (H : Heap) (locs : List Loc) (ls : Array Slot), Bw cw D ar A s.heap H locs ad S → lv_has ls 4 [(0, .ref (ad 4 0)), (1, .int x1), (2, .int x2)] → ∀ o, Chart_keepSoft_j56_l9 S x1 x2 = some o → (Sum.elim P_9 X_9) o → W p l e (RM 2 45) s m args below meth c H locs 0 0 Q (F0 m 56 ls []) := by
        intro S x1 x2 H locs ls hw hl o h ho
        unfold Chart_keepSoft_j56_l9 at h
        obtain ⟨x2_13, ex2_13, h⟩ := nm_ex h
        refine lv_iinc (v := x2_13) (lv' := [(2, .int x2_13), (0, .ref (ad 4 0)), (1, .int x1)]) F.1 F.2.1 d_Chart_keepSoft_56 hl (k := 2) rfl (by rw [ex2_13]; rfl) (by decide) rfl (fun ls hl => ?_)
        refine lv_goto (tgt := 9) F.1 F.2.1 d_Chart_keepSoft_59 (by decide) ?_
        cases h
        have ho : P_9 _ := ho
        rw [eP_9] at ho
        exact ho H locs ls hw (lv_sub hl [1, 2, 0] rfl)
      refine lv_iload_n F.1 F.2.1 d_Chart_keepSoft_9 rfl (lv_at hl 2 rfl) ?_
      refine lv_aload_n F.1 F.2.1 d_Chart_keepSoft_10 rfl (lv_at hl 0 rfl) ?_
      refine cg_4_8 F hK hw lk_199 d_Chart_keepSoft_11 ?_
      refine lv_iconst (v := 1) F.1 F.2.1 d_Chart_keepSoft_14 (by decide) ?_
      obtain ⟨v_3, hc_2, h⟩ := bd_ex h
      refine cV_i F hA rfl hK hw (c_Book_toldOf_5 l hc_2) trivial rfl (good_V lk_556 lk_452 lk_453 lk_4 lk_454) (cr_5 hK hw) hd_Book_toldOf ⟨Nat.le_of_ble_eq_true rfl, Nat.le_of_ble_eq_true rfl⟩ rfl hl.1 rfl (Nat.le_of_ble_eq_true rfl) d_Chart_keepSoft_15 ⟨(Nat.zero_le _), (Nat.zero_le _)⟩ (fun H locs hw => ?_)
      refine lv_icmp_ge (tgt := 62) F.1 F.2.1 d_Chart_keepSoft_18 (by decide) (fun c_4 => ?_) (fun c_4 => ?_)
      · replace h := ip c_4 h
        cases h
        have ho : X_9 _ := ho
        rw [eX_9] at ho
        exact ho H locs ls hw (lv_sub hl [] rfl)
      · replace h := iq c_4 h
        refine lv_iconst (v := 1) F.1 F.2.1 d_Chart_keepSoft_21 (by decide) ?_
        refine lv_aload_n F.1 F.2.1 d_Chart_keepSoft_22 rfl (lv_at hl 0 rfl) ?_
        refine lv_iload_n F.1 F.2.1 d_Chart_keepSoft_23 rfl (lv_at hl 1 rfl) ?_
        obtain ⟨v_6, hc_5, h⟩ := bd_ex h
        refine cV_i F hA rfl hK hw (c_Chart_heaviest l hc_5) trivial rfl (good_V lk_636 lk_638 ls_29 lk_5 lk_639) (cr_4 hK hw) hd_Chart_heaviest ⟨Nat.le_of_ble_eq_true rfl, Nat.le_of_ble_eq_true rfl⟩ rfl hl.1 rfl (Nat.le_of_ble_eq_true rfl) d_Chart_keepSoft_24 ⟨(Nat.zero_le _), (Nat.zero_le _)⟩ (fun H locs hw => ?_)
        refine lv_ishl F.1 F.2.1 d_Chart_keepSoft_27 ?_
        obtain ⟨x3_7, ex3_7, h⟩ := nm_ex h
        refine lv_nm ex3_7 ?_
        refine lv_istore_n (lv' := [(3, .int x3_7), (0, .ref (ad 4 0)), (1, .int x1), (2, .int x2)]) F.1 F.2.1 d_Chart_keepSoft_28 rfl hl (by decide) rfl (fun ls hl => ?_)
        refine lv_iload_n F.1 F.2.1 d_Chart_keepSoft_29 rfl (lv_at hl 2 rfl) ?_
        refine lv_iload_n F.1 F.2.1 d_Chart_keepSoft_30 rfl (lv_at hl 0 rfl) ?_
        refine lv_ior F.1 F.2.1 d_Chart_keepSoft_31 ?_
        obtain ⟨x1_8, ex1_8, h⟩ := nm_ex h
        refine lv_nm ex1_8 ?_
        refine lv_istore_n (lv' := [(1, .int x1_8), (3, .int x3_7), (0, .ref (ad 4 0)), (2, .int x2)]) F.1 F.2.1 d_Chart_keepSoft_32 rfl hl (by decide) rfl (fun ls hl => ?_)
        refine lv_aload_n F.1 F.2.1 d_Chart_keepSoft_33 rfl (lv_at hl 2 rfl) ?_
        refine lv_aload_n F.1 F.2.1 d_Chart_keepSoft_34 rfl (lv_at hl 2 rfl) ?_
        refine cg_4_10 F hK hw lk_207 d_Chart_keepSoft_35 ?_
        refine lv_iload_n F.1 F.2.1 d_Chart_keepSoft_38 rfl (lv_at hl 1 rfl) ?_
        refine lv_ior F.1 F.2.1 d_Chart_keepSoft_39 ?_
        obtain ⟨v_10, hc_9, h⟩ := bd_ex h
        refine cV_i F hA rfl hK hw (c_Chart_canKeep l hc_9) trivial rfl (good_V lk_640 lk_642 ls_30 lk_5 lk_643) (cr_4 hK hw) hd_Chart_canKeep ⟨Nat.le_of_ble_eq_true rfl, Nat.le_of_ble_eq_true rfl⟩ rfl hl.1 rfl (Nat.le_of_ble_eq_true rfl) d_Chart_keepSoft_40 ⟨(Nat.zero_le _), (Nat.zero_le _)⟩ (fun H locs hw => ?_)
        refine lv_if_eq (tgt := 56) F.1 F.2.1 d_Chart_keepSoft_43 (by decide) (fun c_11 => ?_) (fun c_11 => ?_)
        · replace h := ip c_11 h
          exact J_56_l9 S x1_8 x2 H locs ls hw (lv_sub hl [2, 0, 3] rfl) o h ho
        · replace h := iq c_11 h
          refine lv_aload_n F.1 F.2.1 d_Chart_keepSoft_46 rfl (lv_at hl 2 rfl) ?_
          refine lv_dup F.1 F.2.1 d_Chart_keepSoft_47 rfl ?_
          refine cg_4_10 F hK hw lk_207 d_Chart_keepSoft_48 ?_
          refine lv_iload_n F.1 F.2.1 d_Chart_keepSoft_51 rfl (lv_at hl 1 rfl) ?_
          refine lv_ior F.1 F.2.1 d_Chart_keepSoft_52 ?_
          obtain ⟨S_12, eS_12, h⟩ := nm_ex h
          refine cp_4_10 F hK hw lk_207 d_Chart_keepSoft_53 eS_12 (fun H locs hw => ?_)
          exact J_56_l9 S_12 x1_8 x2 H locs ls hw (lv_sub hl [2, 0, 3] rfl) o h ho
    rw [eP_9] at hL_9
    exact hL_9 H locs ls hw (lv_sub hl [2, 1, 0] rfl)
  exact key _ _ hw _ h (by rw [eX_0]; exact fun H locs pc ls hd hw => hQ H locs pc ls ad rfl hd hw)
theorem d_Chart_narrow_0 : decode b_Chart_narrow 0 = .ok (.aload_n 0, 1) := by decide +kernel
theorem d_Chart_narrow_1 : decode b_Chart_narrow 1 = .ok (.getfield 51, 3) := by decide +kernel
theorem d_Chart_narrow_4 : decode b_Chart_narrow 4 = .ok (.bipush 8, 2) := by decide +kernel
theorem d_Chart_narrow_6 : decode b_Chart_narrow 6 = .ok (.ishl, 1) := by decide +kernel
theorem d_Chart_narrow_7 : decode b_Chart_narrow 7 = .ok (.istore_n 1, 1) := by decide +kernel
theorem d_Chart_narrow_8 : decode b_Chart_narrow 8 = .ok (.iconst 0, 1) := by decide +kernel
theorem d_Chart_narrow_9 : decode b_Chart_narrow 9 = .ok (.istore_n 2, 1) := by decide +kernel
theorem d_Chart_narrow_10 : decode b_Chart_narrow 10 = .ok (.iconst 0, 1) := by decide +kernel
theorem d_Chart_narrow_11 : decode b_Chart_narrow 11 = .ok (.istore_n 3, 1) := by decide +kernel
theorem d_Chart_narrow_12 : decode b_Chart_narrow 12 = .ok (.iload_n 3, 1) := by decide +kernel
theorem d_Chart_narrow_13 : decode b_Chart_narrow 13 = .ok (.aload_n 0, 1) := by decide +kernel
theorem d_Chart_narrow_14 : decode b_Chart_narrow 14 = .ok (.getfield 47, 3) := by decide +kernel
theorem d_Chart_narrow_17 : decode b_Chart_narrow 17 = .ok (.if_icmp .ge 49, 3) := by decide +kernel
theorem d_Chart_narrow_20 : decode b_Chart_narrow 20 = .ok (.iload_n 3, 1) := by decide +kernel
theorem d_Chart_narrow_21 : decode b_Chart_narrow 21 = .ok (.aload_n 0, 1) := by decide +kernel
theorem d_Chart_narrow_22 : decode b_Chart_narrow 22 = .ok (.getfield 37, 3) := by decide +kernel
theorem d_Chart_narrow_25 : decode b_Chart_narrow 25 = .ok (.arraylength, 1) := by decide +kernel
theorem d_Chart_narrow_26 : decode b_Chart_narrow 26 = .ok (.if_icmp .ge 40, 3) := by decide +kernel
theorem d_Chart_narrow_29 : decode b_Chart_narrow 29 = .ok (.aload_n 0, 1) := by decide +kernel
theorem d_Chart_narrow_30 : decode b_Chart_narrow 30 = .ok (.getfield 37, 3) := by decide +kernel
theorem d_Chart_narrow_33 : decode b_Chart_narrow 33 = .ok (.iload_n 3, 1) := by decide +kernel
theorem d_Chart_narrow_34 : decode b_Chart_narrow 34 = .ok (.iaload, 1) := by decide +kernel
theorem d_Chart_narrow_35 : decode b_Chart_narrow 35 = .ok (.istore 4, 2) := by decide +kernel
theorem d_Chart_narrow_37 : decode b_Chart_narrow 37 = .ok (.aload_n 0, 1) := by decide +kernel
theorem d_Chart_narrow_38 : decode b_Chart_narrow 38 = .ok (.iload 4, 2) := by decide +kernel
theorem d_Chart_narrow_40 : decode b_Chart_narrow 40 = .ok (.invokevirtual 146, 3) := by decide +kernel
theorem d_Chart_narrow_43 : decode b_Chart_narrow 43 = .ok (.iload_n 1, 1) := by decide +kernel
theorem d_Chart_narrow_44 : decode b_Chart_narrow 44 = .ok (.iand, 1) := by decide +kernel
theorem d_Chart_narrow_45 : decode b_Chart_narrow 45 = .ok (.iload_n 1, 1) := by decide +kernel
theorem d_Chart_narrow_46 : decode b_Chart_narrow 46 = .ok (.if_icmp .ne 14, 3) := by decide +kernel
theorem d_Chart_narrow_49 : decode b_Chart_narrow 49 = .ok (.aload_n 0, 1) := by decide +kernel
theorem d_Chart_narrow_50 : decode b_Chart_narrow 50 = .ok (.getfield 37, 3) := by decide +kernel
theorem d_Chart_narrow_53 : decode b_Chart_narrow 53 = .ok (.iload_n 2, 1) := by decide +kernel
theorem d_Chart_narrow_54 : decode b_Chart_narrow 54 = .ok (.iload 4, 2) := by decide +kernel
theorem d_Chart_narrow_56 : decode b_Chart_narrow 56 = .ok (.iastore, 1) := by decide +kernel
theorem d_Chart_narrow_57 : decode b_Chart_narrow 57 = .ok (.iinc 2 1, 3) := by decide +kernel
theorem d_Chart_narrow_60 : decode b_Chart_narrow 60 = .ok (.iinc 3 1, 3) := by decide +kernel
theorem d_Chart_narrow_63 : decode b_Chart_narrow 63 = .ok (.goto (-51), 3) := by decide +kernel
theorem d_Chart_narrow_66 : decode b_Chart_narrow 66 = .ok (.aload_n 0, 1) := by decide +kernel
theorem d_Chart_narrow_67 : decode b_Chart_narrow 67 = .ok (.iload_n 2, 1) := by decide +kernel
theorem d_Chart_narrow_68 : decode b_Chart_narrow 68 = .ok (.putfield 47, 3) := by decide +kernel
theorem d_Chart_narrow_71 : decode b_Chart_narrow 71 = .ok (.return_, 1) := by decide +kernel
set_option maxHeartbeats 4000000 in
set_option maxRecDepth 100000 in
theorem c_Chart_narrow (l : Launch) {S : St} {S' : St} (h : f_Chart_narrow S = some S') : MV cw l y_Chart_narrow b_Chart_narrow 5 none 1 21 0 0 (fun ad => [.ref (ad 4 0)]) aT aE S S' := by
  refine MV_of "LawfulLots$Chart" rfl (by decide) (fun _ => Nat.le_of_ble_eq_true rfl) ?_
  intro p e s m args below meth c D ar ad A Q ls hP F hK hA hw hl hQ
  have hl : lv_has ls 5 [(0, .ref (ad 4 0))] := hl
  obtain ⟨X_0, eX_0⟩ : ∃ X : St → Prop, X = (fun q => ∀ (H : Heap) (locs : List Loc) (pc : Nat) (ls : Array Slot), decode b_Chart_narrow pc = .ok (.return_, 1) → Bw cw D ar A s.heap H locs ad q → W p l e (RM 1 21) s m args below meth c H locs 0 0 Q (F0 m pc ls [])) := ⟨_, rfl⟩
  have key : ∀ (H : Heap) (locs : List Loc), Bw cw D ar A s.heap H locs ad S → ∀ o, f_Chart_narrow S = some o → X_0 o → W p l e (RM 1 21) s m args below meth c H locs 0 0 Q (F0 m 0 ls []) := by
    intro H locs hw o h ho
    unfold f_Chart_narrow at h
    have J_66 : ∀ (S : St) (x2 : Int32) (H : Heap) (locs : List Loc) (ls : Array Slot), Bw cw D ar A s.heap H locs ad S → lv_has ls 5 [(0, .ref (ad 4 0)), (2, .int x2)] → ∀ o, Chart_narrow_j66 S x2 = some o → X_0 o → W p l e (RM 1 21) s m args below meth c H locs 0 0 Q (F0 m 66 ls []) := by
      intro S x2 H locs ls hw hl o h ho
      unfold Chart_narrow_j66 at h
      refine lv_aload_n F.1 F.2.1 d_Chart_narrow_66 rfl (lv_at hl 0 rfl) ?_
      refine lv_iload_n F.1 F.2.1 d_Chart_narrow_67 rfl (lv_at hl 1 rfl) ?_
      obtain ⟨S_16, eS_16, h⟩ := nm_ex h
      refine cp_4_9 F hK hw lk_203 d_Chart_narrow_68 eS_16 (fun H locs hw => ?_)
      cases h
      have ho : X_0 _ := ho
      rw [eX_0] at ho
      exact ho H locs _ ls d_Chart_narrow_71 hw
    refine lv_aload_n F.1 F.2.1 d_Chart_narrow_0 rfl (lv_at hl 0 rfl) ?_
    refine cg_4_10 F hK hw lk_207 d_Chart_narrow_1 ?_
    refine lv_bipush (v := 8) F.1 F.2.1 d_Chart_narrow_4 (by decide) ?_
    refine lv_ishl F.1 F.2.1 d_Chart_narrow_6 ?_
    obtain ⟨x1_1, ex1_1, h⟩ := nm_ex h
    refine lv_nm ex1_1 ?_
    refine lv_istore_n (lv' := [(1, .int x1_1), (0, .ref (ad 4 0))]) F.1 F.2.1 d_Chart_narrow_7 rfl hl (by decide) rfl (fun ls hl => ?_)
    refine lv_iconst (v := 0) F.1 F.2.1 d_Chart_narrow_8 (by decide) ?_
    refine lv_istore_n (lv' := [(2, .int (0 : Int32)), (1, .int x1_1), (0, .ref (ad 4 0))]) F.1 F.2.1 d_Chart_narrow_9 rfl hl (by decide) rfl (fun ls hl => ?_)
    refine lv_iconst (v := 0) F.1 F.2.1 d_Chart_narrow_10 (by decide) ?_
    refine lv_istore_n (lv' := [(3, .int (0 : Int32)), (2, .int (0 : Int32)), (1, .int x1_1), (0, .ref (ad 4 0))]) F.1 F.2.1 d_Chart_narrow_11 rfl hl (by decide) rfl (fun ls hl => ?_)
    obtain ⟨S_13, x2_14, hc_15, h⟩ := bd2_ex h
    obtain ⟨X_12, eX_12⟩ : ∃ X : (St × Int32) → Prop, X = (fun q => ∀ (H : Heap) (locs : List Loc) (ls : Array Slot), Bw cw D ar A s.heap H locs ad q.1 → lv_has ls 5 [(0, .ref (ad 4 0)), (2, .int q.2)] → W p l e (RM 1 21) s m args below meth c H locs 0 0 Q (F0 m 66 ls [])) := ⟨_, rfl⟩
    have hX_12 : X_12 (S_13, x2_14) := by
      rw [eX_12]
      intro H locs ls hw hl
      exact J_66 S_13 x2_14 H locs ls hw (lv_sub hl [0, 1] rfl) o h ho
    obtain ⟨P_12, eP_12⟩ : ∃ P : (St × Int32 × Int32) → Prop, P = (fun q => ∀ (H : Heap) (locs : List Loc) (ls : Array Slot), Bw cw D ar A s.heap H locs ad q.1 → lv_has ls 5 [(0, .ref (ad 4 0)), (1, .int x1_1), (2, .int q.2.1), (3, .int q.2.2)] → W p l e (RM 1 21) s m args below meth c H locs 0 0 Q (F0 m 12 ls [])) := ⟨_, rfl⟩
    have hL_12 : P_12 (S, (0 : Int32), (0 : Int32)) := by
      refine wh_gp (P := P_12) (X := X_12) hc_15 hX_12 ?_
      clear h
      intro q o h ho
      obtain ⟨S, x2, x3⟩ := q
      have h : Chart_narrow_l12 x1_1 S x2 x3 = some o := h
      unfold Chart_narrow_l12 at h
      rw [eP_12]
      intro H locs ls hw hl
      have J_60_l12 : ∀ (S : St) (x2 : Int32) (x3 : Int32) (H : Heap) (locs : List Loc) (ls : Array Slot), Bw cw D ar A s.heap H locs ad S → lv_has ls 5 [(0, .ref (ad 4 0)), (1, .int x1_1), (2, .int x2), (3, .int x3)] → ∀ o, Chart_narrow_j60_l12 S x1_1 x2 x3 = some o → (Sum.elim P_12 X_12) o → W p l e (RM 1 21) s m args below meth c H locs 0 0 Q (F0 m 60 ls []) := by
        intro S x2 x3 H locs ls hw hl o h ho
        unfold Chart_narrow_j60_l12 at h
        obtain ⟨x3_12, ex3_12, h⟩ := nm_ex h
        refine lv_iinc (v := x3_12) (lv' := [(3, .int x3_12), (0, .ref (ad 4 0)), (1, .int x1_1), (2, .int x2)]) F.1 F.2.1 d_Chart_narrow_60 hl (k := 3) rfl (by rw [ex3_12]; rfl) (by decide) rfl (fun ls hl => ?_)
        refine lv_goto (tgt := 12) F.1 F.2.1 d_Chart_narrow_63 (by decide) ?_
        cases h
        have ho : P_12 _ := ho
        rw [eP_12] at ho
        exact ho H locs ls hw (lv_sub hl [1, 2, 3, 0] rfl)
      refine lv_iload_n F.1 F.2.1 d_Chart_narrow_12 rfl (lv_at hl 3 rfl) ?_
      refine lv_aload_n F.1 F.2.1 d_Chart_narrow_13 rfl (lv_at hl 0 rfl) ?_
      refine cg_4_9 F hK hw lk_203 d_Chart_narrow_14 ?_
      refine lv_icmp_ge (tgt := 66) F.1 F.2.1 d_Chart_narrow_17 (by decide) (fun c_2 => ?_) (fun c_2 => ?_)
      · replace h := ip c_2 h
        cases h
        have ho : X_12 _ := ho
        rw [eX_12] at ho
        exact ho H locs ls hw (lv_sub hl [0, 2] rfl)
      · replace h := iq c_2 h
        refine lv_iload_n F.1 F.2.1 d_Chart_narrow_20 rfl (lv_at hl 3 rfl) ?_
        refine lv_aload_n F.1 F.2.1 d_Chart_narrow_21 rfl (lv_at hl 0 rfl) ?_
        refine cg_4_7 F hK hw lk_198 d_Chart_narrow_22 ?_
        refine cn_4_7 F hK hw d_Chart_narrow_25 ?_
        refine lv_icmp_ge (tgt := 66) F.1 F.2.1 d_Chart_narrow_26 (by decide) (fun c_3 => ?_) (fun c_3 => ?_)
        · replace h := ip c_3 h
          cases h
          have ho : X_12 _ := ho
          rw [eX_12] at ho
          exact ho H locs ls hw (lv_sub hl [0, 2] rfl)
        · replace h := iq c_3 h
          refine lv_aload_n F.1 F.2.1 d_Chart_narrow_29 rfl (lv_at hl 0 rfl) ?_
          refine cg_4_7 F hK hw lk_198 d_Chart_narrow_30 ?_
          refine lv_iload_n F.1 F.2.1 d_Chart_narrow_33 rfl (lv_at hl 3 rfl) ?_
          obtain ⟨hi_4, h⟩ := gd_ex h
          refine cl_4_7 F hK hw hi_4 d_Chart_narrow_34 ?_
          obtain ⟨x4_5, ex4_5, h⟩ := nm_ex h
          refine lv_nm ex4_5 ?_
          refine lv_istore (lv' := [(4, .int x4_5), (0, .ref (ad 4 0)), (1, .int x1_1), (2, .int x2), (3, .int x3)]) F.1 F.2.1 d_Chart_narrow_35 hl (by decide) rfl (fun ls hl => ?_)
          refine lv_aload_n F.1 F.2.1 d_Chart_narrow_37 rfl (lv_at hl 1 rfl) ?_
          refine lv_iload F.1 F.2.1 d_Chart_narrow_38 (lv_at hl 0 rfl) ?_
          obtain ⟨v_7, hc_6, h⟩ := bd_ex h
          refine cV_i F hA rfl hK hw (c_Chart_marksOf l hc_6) trivial rfl (good_V lk_648 lk_649 lk_650 lk_5 lk_651) (cr_4 hK hw) hd_Chart_marksOf ⟨Nat.le_of_ble_eq_true rfl, Nat.le_of_ble_eq_true rfl⟩ rfl hl.1 rfl (Nat.le_of_ble_eq_true rfl) d_Chart_narrow_40 ⟨(Nat.zero_le _), (Nat.zero_le _)⟩ (fun H locs hw => ?_)
          refine lv_iload_n F.1 F.2.1 d_Chart_narrow_43 rfl (lv_at hl 2 rfl) ?_
          refine lv_iand F.1 F.2.1 d_Chart_narrow_44 ?_
          refine lv_iload_n F.1 F.2.1 d_Chart_narrow_45 rfl (lv_at hl 2 rfl) ?_
          refine lv_icmp_ne (tgt := 60) F.1 F.2.1 d_Chart_narrow_46 (by decide) (fun c_8 => ?_) (fun c_8 => ?_)
          · replace h := iq c_8 h
            exact J_60_l12 S x2 x3 H locs ls hw (lv_sub hl [1, 2, 3, 4] rfl) o h ho
          · replace h := ip c_8 h
            refine lv_aload_n F.1 F.2.1 d_Chart_narrow_49 rfl (lv_at hl 1 rfl) ?_
            refine cg_4_7 F hK hw lk_198 d_Chart_narrow_50 ?_
            refine lv_iload_n F.1 F.2.1 d_Chart_narrow_53 rfl (lv_at hl 3 rfl) ?_
            refine lv_iload F.1 F.2.1 d_Chart_narrow_54 (lv_at hl 0 rfl) ?_
            obtain ⟨hi_9, h⟩ := gd_ex h
            obtain ⟨S_10, eS_10, h⟩ := nm_ex h
            refine cs_4_7 F hK hw hi_9 d_Chart_narrow_56 eS_10 (fun H locs hw => ?_)
            obtain ⟨x2_11, ex2_11, h⟩ := nm_ex h
            refine lv_iinc (v := x2_11) (lv' := [(2, .int x2_11), (4, .int x4_5), (0, .ref (ad 4 0)), (1, .int x1_1), (3, .int x3)]) F.1 F.2.1 d_Chart_narrow_57 hl (k := 3) rfl (by rw [ex2_11]; rfl) (by decide) rfl (fun ls hl => ?_)
            exact J_60_l12 S_10 x2_11 x3 H locs ls hw (lv_sub hl [2, 3, 0, 4] rfl) o h ho
    rw [eP_12] at hL_12
    exact hL_12 H locs ls hw (lv_sub hl [3, 2, 1, 0] rfl)
  exact key _ _ hw _ h (by rw [eX_0]; exact fun H locs pc ls hd hw => hQ H locs pc ls ad rfl hd hw)
theorem d_Chart_isLawful_0 : decode b_Chart_isLawful 0 = .ok (.aload_n 0, 1) := by decide +kernel
theorem d_Chart_isLawful_1 : decode b_Chart_isLawful 1 = .ok (.getfield 57, 3) := by decide +kernel
theorem d_Chart_isLawful_4 : decode b_Chart_isLawful 4 = .ok (.aload_n 0, 1) := by decide +kernel
theorem d_Chart_isLawful_5 : decode b_Chart_isLawful 5 = .ok (.getfield 51, 3) := by decide +kernel
theorem d_Chart_isLawful_8 : decode b_Chart_isLawful 8 = .ok (.bipush 8, 2) := by decide +kernel
theorem d_Chart_isLawful_10 : decode b_Chart_isLawful 10 = .ok (.ishl, 1) := by decide +kernel
theorem d_Chart_isLawful_11 : decode b_Chart_isLawful 11 = .ok (.ior, 1) := by decide +kernel
theorem d_Chart_isLawful_12 : decode b_Chart_isLawful 12 = .ok (.istore_n 2, 1) := by decide +kernel
theorem d_Chart_isLawful_13 : decode b_Chart_isLawful 13 = .ok (.aload_n 0, 1) := by decide +kernel
theorem d_Chart_isLawful_14 : decode b_Chart_isLawful 14 = .ok (.iload_n 1, 1) := by decide +kernel
theorem d_Chart_isLawful_15 : decode b_Chart_isLawful 15 = .ok (.invokevirtual 146, 3) := by decide +kernel
theorem d_Chart_isLawful_18 : decode b_Chart_isLawful 18 = .ok (.iload_n 2, 1) := by decide +kernel
theorem d_Chart_isLawful_19 : decode b_Chart_isLawful 19 = .ok (.iand, 1) := by decide +kernel
theorem d_Chart_isLawful_20 : decode b_Chart_isLawful 20 = .ok (.iload_n 2, 1) := by decide +kernel
theorem d_Chart_isLawful_21 : decode b_Chart_isLawful 21 = .ok (.if_icmp .ne 7, 3) := by decide +kernel
theorem d_Chart_isLawful_24 : decode b_Chart_isLawful 24 = .ok (.iconst 1, 1) := by decide +kernel
theorem d_Chart_isLawful_25 : decode b_Chart_isLawful 25 = .ok (.goto 4, 3) := by decide +kernel
theorem d_Chart_isLawful_28 : decode b_Chart_isLawful 28 = .ok (.iconst 0, 1) := by decide +kernel
theorem d_Chart_isLawful_29 : decode b_Chart_isLawful 29 = .ok (.ireturn, 1) := by decide +kernel
set_option maxHeartbeats 4000000 in
set_option maxRecDepth 100000 in
theorem c_Chart_isLawful (l : Launch) {S : St} {x1 : Int32} {r : Int32} (h : f_Chart_isLawful S x1 = some r) : MI cw l y_Chart_isLawful b_Chart_isLawful 3 (some .boolean) 1 21 0 0 (fun ad => [.ref (ad 4 0), .int x1]) aT aE S r S := by
  refine MZ_of "LawfulLots$Chart" rfl (by decide) (fun _ => Nat.le_of_ble_eq_true rfl) ?_
  intro p e s m args below meth c D ar ad A Q ls hP F hK hA hw hl hQ
  have hl : lv_has ls 3 [(0, .ref (ad 4 0)), (1, .int x1)] := hl
  obtain ⟨X_0, eX_0⟩ : ∃ X : Int32 → Prop, X = (fun q => ∀ (H : Heap) (locs : List Loc) (pc : Nat) (ls : Array Slot), isB q = true → decode b_Chart_isLawful pc = .ok (.ireturn, 1) → Bw cw D ar A s.heap H locs ad S → W p l e (RM 1 21) s m args below meth c H locs 0 0 Q (F0 m pc ls [.int q])) := ⟨_, rfl⟩
  have key : ∀ (H : Heap) (locs : List Loc), Bw cw D ar A s.heap H locs ad S → ∀ o, f_Chart_isLawful S x1 = some o → X_0 o → W p l e (RM 1 21) s m args below meth c H locs 0 0 Q (F0 m 0 ls []) := by
    intro H locs hw o h ho
    unfold f_Chart_isLawful at h
    have J_29 : ∀ (t0 : Int32) (H : Heap) (locs : List Loc) (ls : Array Slot), Bw cw D ar A s.heap H locs ad S → lv_has ls 3 [] → ∀ o, Chart_isLawful_j29 S t0 = some o → X_0 o → W p l e (RM 1 21) s m args below meth c H locs 0 0 Q (F0 m 29 ls [.int t0]) := by
      intro t0 H locs ls hw hl o h ho
      unfold Chart_isLawful_j29 at h
      obtain ⟨hb_5, h⟩ := gd_ex h
      cases h
      have ho : X_0 _ := ho
      rw [eX_0] at ho
      exact ho H locs _ ls hb_5 d_Chart_isLawful_29 hw
    refine lv_aload_n F.1 F.2.1 d_Chart_isLawful_0 rfl (lv_at hl 0 rfl) ?_
    refine cg_4_12 F hK hw lk_211 d_Chart_isLawful_1 ?_
    refine lv_aload_n F.1 F.2.1 d_Chart_isLawful_4 rfl (lv_at hl 0 rfl) ?_
    refine cg_4_10 F hK hw lk_207 d_Chart_isLawful_5 ?_
    refine lv_bipush (v := 8) F.1 F.2.1 d_Chart_isLawful_8 (by decide) ?_
    refine lv_ishl F.1 F.2.1 d_Chart_isLawful_10 ?_
    refine lv_ior F.1 F.2.1 d_Chart_isLawful_11 ?_
    obtain ⟨x2_1, ex2_1, h⟩ := nm_ex h
    refine lv_nm ex2_1 ?_
    refine lv_istore_n (lv' := [(2, .int x2_1), (0, .ref (ad 4 0)), (1, .int x1)]) F.1 F.2.1 d_Chart_isLawful_12 rfl hl (by decide) rfl (fun ls hl => ?_)
    refine lv_aload_n F.1 F.2.1 d_Chart_isLawful_13 rfl (lv_at hl 1 rfl) ?_
    refine lv_iload_n F.1 F.2.1 d_Chart_isLawful_14 rfl (lv_at hl 2 rfl) ?_
    obtain ⟨v_3, hc_2, h⟩ := bd_ex h
    refine cV_i F hA rfl hK hw (c_Chart_marksOf l hc_2) trivial rfl (good_V lk_648 lk_649 lk_650 lk_5 lk_651) (cr_4 hK hw) hd_Chart_marksOf ⟨Nat.le_of_ble_eq_true rfl, Nat.le_of_ble_eq_true rfl⟩ rfl hl.1 rfl (Nat.le_of_ble_eq_true rfl) d_Chart_isLawful_15 ⟨(Nat.zero_le _), (Nat.zero_le _)⟩ (fun H locs hw => ?_)
    refine lv_iload_n F.1 F.2.1 d_Chart_isLawful_18 rfl (lv_at hl 0 rfl) ?_
    refine lv_iand F.1 F.2.1 d_Chart_isLawful_19 ?_
    refine lv_iload_n F.1 F.2.1 d_Chart_isLawful_20 rfl (lv_at hl 0 rfl) ?_
    refine lv_icmp_ne (tgt := 28) F.1 F.2.1 d_Chart_isLawful_21 (by decide) (fun c_4 => ?_) (fun c_4 => ?_)
    · replace h := iq c_4 h
      refine lv_iconst (v := 0) F.1 F.2.1 d_Chart_isLawful_28 (by decide) ?_
      exact J_29 (0 : Int32) H locs ls hw (lv_sub hl [] rfl) o h ho
    · replace h := ip c_4 h
      refine lv_iconst (v := 1) F.1 F.2.1 d_Chart_isLawful_24 (by decide) ?_
      refine lv_goto (tgt := 29) F.1 F.2.1 d_Chart_isLawful_25 (by decide) ?_
      exact J_29 (1 : Int32) H locs ls hw (lv_sub hl [] rfl) o h ho
  exact key _ _ hw _ h (by rw [eX_0]; exact fun H locs pc ls hb hd hw => hQ H locs pc ls ad hb rfl hd hw)
