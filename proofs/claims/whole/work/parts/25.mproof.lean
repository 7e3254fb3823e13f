theorem d_Model_counts_0 : decode b_Model_counts 0 = .ok (.iload_n 1, 1) := by decide +kernel
theorem d_Model_counts_1 : decode b_Model_counts 1 = .ok (.iconst 1, 1) := by decide +kernel
theorem d_Model_counts_2 : decode b_Model_counts 2 = .ok (.if_icmp .lt 26, 3) := by decide +kernel
theorem d_Model_counts_5 : decode b_Model_counts 5 = .ok (.iload_n 1, 1) := by decide +kernel
theorem d_Model_counts_6 : decode b_Model_counts 6 = .ok (.bipush 10, 2) := by decide +kernel
theorem d_Model_counts_8 : decode b_Model_counts 8 = .ok (.if_icmp .gt 20, 3) := by decide +kernel
theorem d_Model_counts_11 : decode b_Model_counts 11 = .ok (.aload_n 0, 1) := by decide +kernel
theorem d_Model_counts_12 : decode b_Model_counts 12 = .ok (.getfield 326, 3) := by decide +kernel
theorem d_Model_counts_15 : decode b_Model_counts 15 = .ok (.iconst 1, 1) := by decide +kernel
theorem d_Model_counts_16 : decode b_Model_counts 16 = .ok (.if_icmp .lt 12, 3) := by decide +kernel
theorem d_Model_counts_19 : decode b_Model_counts 19 = .ok (.aload_n 0, 1) := by decide +kernel
theorem d_Model_counts_20 : decode b_Model_counts 20 = .ok (.getfield 326, 3) := by decide +kernel
theorem d_Model_counts_23 : decode b_Model_counts 23 = .ok (.bipush 64, 2) := by decide +kernel
theorem d_Model_counts_25 : decode b_Model_counts 25 = .ok (.if_icmp .le 5, 3) := by decide +kernel
theorem d_Model_counts_28 : decode b_Model_counts 28 = .ok (.iconst 0, 1) := by decide +kernel
theorem d_Model_counts_29 : decode b_Model_counts 29 = .ok (.ireturn, 1) := by decide +kernel
theorem d_Model_counts_30 : decode b_Model_counts 30 = .ok (.iconst 0, 1) := by decide +kernel
theorem d_Model_counts_31 : decode b_Model_counts 31 = .ok (.istore_n 2, 1) := by decide +kernel
theorem d_Model_counts_32 : decode b_Model_counts 32 = .ok (.iload_n 2, 1) := by decide +kernel
theorem d_Model_counts_33 : decode b_Model_counts 33 = .ok (.aload_n 0, 1) := by decide +kernel
theorem d_Model_counts_34 : decode b_Model_counts 34 = .ok (.getfield 326, 3) := by decide +kernel
theorem d_Model_counts_37 : decode b_Model_counts 37 = .ok (.if_icmp .ge 126, 3) := by decide +kernel
theorem d_Model_counts_40 : decode b_Model_counts 40 = .ok (.iconst 0, 1) := by decide +kernel
theorem d_Model_counts_41 : decode b_Model_counts 41 = .ok (.istore_n 3, 1) := by decide +kernel
theorem d_Model_counts_42 : decode b_Model_counts 42 = .ok (.iload_n 3, 1) := by decide +kernel
theorem d_Model_counts_43 : decode b_Model_counts 43 = .ok (.aload_n 0, 1) := by decide +kernel
theorem d_Model_counts_44 : decode b_Model_counts 44 = .ok (.getfield 40, 3) := by decide +kernel
theorem d_Model_counts_47 : decode b_Model_counts 47 = .ok (.aload_n 0, 1) := by decide +kernel
theorem d_Model_counts_48 : decode b_Model_counts 48 = .ok (.getfield 228, 3) := by decide +kernel
theorem d_Model_counts_51 : decode b_Model_counts 51 = .ok (.iaload, 1) := by decide +kernel
theorem d_Model_counts_52 : decode b_Model_counts 52 = .ok (.if_icmp .ge 26, 3) := by decide +kernel
theorem d_Model_counts_55 : decode b_Model_counts 55 = .ok (.aload_n 0, 1) := by decide +kernel
theorem d_Model_counts_56 : decode b_Model_counts 56 = .ok (.getfield 117, 3) := by decide +kernel
theorem d_Model_counts_59 : decode b_Model_counts 59 = .ok (.iload_n 3, 1) := by decide +kernel
theorem d_Model_counts_60 : decode b_Model_counts 60 = .ok (.aload_n 0, 1) := by decide +kernel
theorem d_Model_counts_61 : decode b_Model_counts 61 = .ok (.aload_n 0, 1) := by decide +kernel
theorem d_Model_counts_62 : decode b_Model_counts 62 = .ok (.getfield 126, 3) := by decide +kernel
theorem d_Model_counts_65 : decode b_Model_counts 65 = .ok (.iload_n 2, 1) := by decide +kernel
theorem d_Model_counts_66 : decode b_Model_counts 66 = .ok (.iaload, 1) := by decide +kernel
theorem d_Model_counts_67 : decode b_Model_counts 67 = .ok (.iload_n 3, 1) := by decide +kernel
theorem d_Model_counts_68 : decode b_Model_counts 68 = .ok (.invokevirtual 291, 3) := by decide +kernel
theorem d_Model_counts_71 : decode b_Model_counts 71 = .ok (.iastore, 1) := by decide +kernel
theorem d_Model_counts_72 : decode b_Model_counts 72 = .ok (.iinc 3 1, 3) := by decide +kernel
theorem d_Model_counts_75 : decode b_Model_counts 75 = .ok (.goto (-33), 3) := by decide +kernel
theorem d_Model_counts_78 : decode b_Model_counts 78 = .ok (.iconst 0, 1) := by decide +kernel
theorem d_Model_counts_79 : decode b_Model_counts 79 = .ok (.istore_n 3, 1) := by decide +kernel
theorem d_Model_counts_80 : decode b_Model_counts 80 = .ok (.iload_n 3, 1) := by decide +kernel
theorem d_Model_counts_81 : decode b_Model_counts 81 = .ok (.aload_n 0, 1) := by decide +kernel
theorem d_Model_counts_82 : decode b_Model_counts 82 = .ok (.getfield 326, 3) := by decide +kernel
theorem d_Model_counts_85 : decode b_Model_counts 85 = .ok (.if_icmp .ge 72, 3) := by decide +kernel
theorem d_Model_counts_88 : decode b_Model_counts 88 = .ok (.aload_n 0, 1) := by decide +kernel
theorem d_Model_counts_89 : decode b_Model_counts 89 = .ok (.aload_n 0, 1) := by decide +kernel
theorem d_Model_counts_90 : decode b_Model_counts 90 = .ok (.getfield 126, 3) := by decide +kernel
theorem d_Model_counts_93 : decode b_Model_counts 93 = .ok (.iload_n 3, 1) := by decide +kernel
theorem d_Model_counts_94 : decode b_Model_counts 94 = .ok (.iaload, 1) := by decide +kernel
theorem d_Model_counts_95 : decode b_Model_counts 95 = .ok (.invokevirtual 306, 3) := by decide +kernel
theorem d_Model_counts_98 : decode b_Model_counts 98 = .ok (.iconst 1, 1) := by decide +kernel
theorem d_Model_counts_99 : decode b_Model_counts 99 = .ok (.istore 4, 2) := by decide +kernel
theorem d_Model_counts_101 : decode b_Model_counts 101 = .ok (.iconst 0, 1) := by decide +kernel
theorem d_Model_counts_102 : decode b_Model_counts 102 = .ok (.istore 5, 2) := by decide +kernel
theorem d_Model_counts_104 : decode b_Model_counts 104 = .ok (.iload 5, 2) := by decide +kernel
theorem d_Model_counts_106 : decode b_Model_counts 106 = .ok (.aload_n 0, 1) := by decide +kernel
theorem d_Model_counts_107 : decode b_Model_counts 107 = .ok (.iconst 3, 1) := by decide +kernel
theorem d_Model_counts_108 : decode b_Model_counts 108 = .ok (.invokevirtual 294, 3) := by decide +kernel
theorem d_Model_counts_111 : decode b_Model_counts 111 = .ok (.if_icmp .ge 27, 3) := by decide +kernel
theorem d_Model_counts_114 : decode b_Model_counts 114 = .ok (.iload 4, 2) := by decide +kernel
theorem d_Model_counts_116 : decode b_Model_counts 116 = .ok (.ifCond .eq 22, 3) := by decide +kernel
theorem d_Model_counts_119 : decode b_Model_counts 119 = .ok (.aload_n 0, 1) := by decide +kernel
theorem d_Model_counts_120 : decode b_Model_counts 120 = .ok (.aload_n 0, 1) := by decide +kernel
theorem d_Model_counts_121 : decode b_Model_counts 121 = .ok (.iconst 3, 1) := by decide +kernel
theorem d_Model_counts_122 : decode b_Model_counts 122 = .ok (.iload 5, 2) := by decide +kernel
theorem d_Model_counts_124 : decode b_Model_counts 124 = .ok (.invokevirtual 297, 3) := by decide +kernel
theorem d_Model_counts_127 : decode b_Model_counts 127 = .ok (.invokevirtual 300, 3) := by decide +kernel
theorem d_Model_counts_130 : decode b_Model_counts 130 = .ok (.istore 4, 2) := by decide +kernel
theorem d_Model_counts_132 : decode b_Model_counts 132 = .ok (.iinc 5 1, 3) := by decide +kernel
theorem d_Model_counts_135 : decode b_Model_counts 135 = .ok (.goto (-31), 3) := by decide +kernel
theorem d_Model_counts_138 : decode b_Model_counts 138 = .ok (.aload_n 0, 1) := by decide +kernel
theorem d_Model_counts_139 : decode b_Model_counts 139 = .ok (.getfield 147, 3) := by decide +kernel
theorem d_Model_counts_142 : decode b_Model_counts 142 = .ok (.bipush 64, 2) := by decide +kernel
theorem d_Model_counts_144 : decode b_Model_counts 144 = .ok (.iload_n 2, 1) := by decide +kernel
theorem d_Model_counts_145 : decode b_Model_counts 145 = .ok (.imul, 1) := by decide +kernel
theorem d_Model_counts_146 : decode b_Model_counts 146 = .ok (.iload_n 3, 1) := by decide +kernel
theorem d_Model_counts_147 : decode b_Model_counts 147 = .ok (.iadd, 1) := by decide +kernel
theorem d_Model_counts_148 : decode b_Model_counts 148 = .ok (.iload 4, 2) := by decide +kernel
theorem d_Model_counts_150 : decode b_Model_counts 150 = .ok (.bastore, 1) := by decide +kernel
theorem d_Model_counts_151 : decode b_Model_counts 151 = .ok (.iinc 3 1, 3) := by decide +kernel
theorem d_Model_counts_154 : decode b_Model_counts 154 = .ok (.goto (-74), 3) := by decide +kernel
theorem d_Model_counts_157 : decode b_Model_counts 157 = .ok (.iinc 2 1, 3) := by decide +kernel
theorem d_Model_counts_160 : decode b_Model_counts 160 = .ok (.goto (-128), 3) := by decide +kernel
theorem d_Model_counts_163 : decode b_Model_counts 163 = .ok (.iconst 0, 1) := by decide +kernel
theorem d_Model_counts_164 : decode b_Model_counts 164 = .ok (.istore_n 2, 1) := by decide +kernel
theorem d_Model_counts_165 : decode b_Model_counts 165 = .ok (.iload_n 2, 1) := by decide +kernel
theorem d_Model_counts_166 : decode b_Model_counts 166 = .ok (.aload_n 0, 1) := by decide +kernel
theorem d_Model_counts_167 : decode b_Model_counts 167 = .ok (.getfield 326, 3) := by decide +kernel
theorem d_Model_counts_170 : decode b_Model_counts 170 = .ok (.if_icmp .ge 19, 3) := by decide +kernel
theorem d_Model_counts_173 : decode b_Model_counts 173 = .ok (.aload_n 0, 1) := by decide +kernel
theorem d_Model_counts_174 : decode b_Model_counts 174 = .ok (.getfield 150, 3) := by decide +kernel
theorem d_Model_counts_177 : decode b_Model_counts 177 = .ok (.bipush 64, 2) := by decide +kernel
theorem d_Model_counts_179 : decode b_Model_counts 179 = .ok (.iload_n 2, 1) := by decide +kernel
theorem d_Model_counts_180 : decode b_Model_counts 180 = .ok (.iadd, 1) := by decide +kernel
theorem d_Model_counts_181 : decode b_Model_counts 181 = .ok (.lconst 1, 1) := by decide +kernel
theorem d_Model_counts_182 : decode b_Model_counts 182 = .ok (.lastore, 1) := by decide +kernel
theorem d_Model_counts_183 : decode b_Model_counts 183 = .ok (.iinc 2 1, 3) := by decide +kernel
theorem d_Model_counts_186 : decode b_Model_counts 186 = .ok (.goto (-21), 3) := by decide +kernel
theorem d_Model_counts_189 : decode b_Model_counts 189 = .ok (.iconst 2, 1) := by decide +kernel
theorem d_Model_counts_190 : decode b_Model_counts 190 = .ok (.istore_n 2, 1) := by decide +kernel
theorem d_Model_counts_191 : decode b_Model_counts 191 = .ok (.iload_n 2, 1) := by decide +kernel
theorem d_Model_counts_192 : decode b_Model_counts 192 = .ok (.iload_n 1, 1) := by decide +kernel
theorem d_Model_counts_193 : decode b_Model_counts 193 = .ok (.if_icmp .gt 93, 3) := by decide +kernel
theorem d_Model_counts_196 : decode b_Model_counts 196 = .ok (.iconst 0, 1) := by decide +kernel
theorem d_Model_counts_197 : decode b_Model_counts 197 = .ok (.istore_n 3, 1) := by decide +kernel
theorem d_Model_counts_198 : decode b_Model_counts 198 = .ok (.iload_n 3, 1) := by decide +kernel
theorem d_Model_counts_199 : decode b_Model_counts 199 = .ok (.aload_n 0, 1) := by decide +kernel
theorem d_Model_counts_200 : decode b_Model_counts 200 = .ok (.getfield 326, 3) := by decide +kernel
theorem d_Model_counts_203 : decode b_Model_counts 203 = .ok (.if_icmp .ge 77, 3) := by decide +kernel
theorem d_Model_counts_206 : decode b_Model_counts 206 = .ok (.lconst 0, 1) := by decide +kernel
theorem d_Model_counts_207 : decode b_Model_counts 207 = .ok (.lstore 4, 2) := by decide +kernel
theorem d_Model_counts_209 : decode b_Model_counts 209 = .ok (.iconst 0, 1) := by decide +kernel
theorem d_Model_counts_210 : decode b_Model_counts 210 = .ok (.istore 6, 2) := by decide +kernel
theorem d_Model_counts_212 : decode b_Model_counts 212 = .ok (.iload 6, 2) := by decide +kernel
theorem d_Model_counts_214 : decode b_Model_counts 214 = .ok (.aload_n 0, 1) := by decide +kernel
theorem d_Model_counts_215 : decode b_Model_counts 215 = .ok (.getfield 326, 3) := by decide +kernel
theorem d_Model_counts_218 : decode b_Model_counts 218 = .ok (.if_icmp .ge 43, 3) := by decide +kernel
theorem d_Model_counts_221 : decode b_Model_counts 221 = .ok (.aload_n 0, 1) := by decide +kernel
theorem d_Model_counts_222 : decode b_Model_counts 222 = .ok (.getfield 147, 3) := by decide +kernel
theorem d_Model_counts_225 : decode b_Model_counts 225 = .ok (.bipush 64, 2) := by decide +kernel
theorem d_Model_counts_227 : decode b_Model_counts 227 = .ok (.iload_n 3, 1) := by decide +kernel
theorem d_Model_counts_228 : decode b_Model_counts 228 = .ok (.imul, 1) := by decide +kernel
theorem d_Model_counts_229 : decode b_Model_counts 229 = .ok (.iload 6, 2) := by decide +kernel
theorem d_Model_counts_231 : decode b_Model_counts 231 = .ok (.iadd, 1) := by decide +kernel
theorem d_Model_counts_232 : decode b_Model_counts 232 = .ok (.baload, 1) := by decide +kernel
theorem d_Model_counts_233 : decode b_Model_counts 233 = .ok (.ifCond .eq 22, 3) := by decide +kernel
theorem d_Model_counts_236 : decode b_Model_counts 236 = .ok (.lload 4, 2) := by decide +kernel
theorem d_Model_counts_238 : decode b_Model_counts 238 = .ok (.aload_n 0, 1) := by decide +kernel
theorem d_Model_counts_239 : decode b_Model_counts 239 = .ok (.getfield 150, 3) := by decide +kernel
theorem d_Model_counts_242 : decode b_Model_counts 242 = .ok (.bipush 64, 2) := by decide +kernel
theorem d_Model_counts_244 : decode b_Model_counts 244 = .ok (.iload_n 2, 1) := by decide +kernel
theorem d_Model_counts_245 : decode b_Model_counts 245 = .ok (.iconst 1, 1) := by decide +kernel
theorem d_Model_counts_246 : decode b_Model_counts 246 = .ok (.isub, 1) := by decide +kernel
theorem d_Model_counts_247 : decode b_Model_counts 247 = .ok (.imul, 1) := by decide +kernel
theorem d_Model_counts_248 : decode b_Model_counts 248 = .ok (.iload 6, 2) := by decide +kernel
theorem d_Model_counts_250 : decode b_Model_counts 250 = .ok (.iadd, 1) := by decide +kernel
theorem d_Model_counts_251 : decode b_Model_counts 251 = .ok (.laload, 1) := by decide +kernel
theorem d_Model_counts_252 : decode b_Model_counts 252 = .ok (.ladd, 1) := by decide +kernel
theorem d_Model_counts_253 : decode b_Model_counts 253 = .ok (.lstore 4, 2) := by decide +kernel
theorem d_Model_counts_255 : decode b_Model_counts 255 = .ok (.iinc 6 1, 3) := by decide +kernel
theorem d_Model_counts_258 : decode b_Model_counts 258 = .ok (.goto (-46), 3) := by decide +kernel
theorem d_Model_counts_261 : decode b_Model_counts 261 = .ok (.aload_n 0, 1) := by decide +kernel
theorem d_Model_counts_262 : decode b_Model_counts 262 = .ok (.getfield 150, 3) := by decide +kernel
theorem d_Model_counts_265 : decode b_Model_counts 265 = .ok (.bipush 64, 2) := by decide +kernel
theorem d_Model_counts_267 : decode b_Model_counts 267 = .ok (.iload_n 2, 1) := by decide +kernel
theorem d_Model_counts_268 : decode b_Model_counts 268 = .ok (.imul, 1) := by decide +kernel
theorem d_Model_counts_269 : decode b_Model_counts 269 = .ok (.iload_n 3, 1) := by decide +kernel
theorem d_Model_counts_270 : decode b_Model_counts 270 = .ok (.iadd, 1) := by decide +kernel
theorem d_Model_counts_271 : decode b_Model_counts 271 = .ok (.lload 4, 2) := by decide +kernel
theorem d_Model_counts_273 : decode b_Model_counts 273 = .ok (.lastore, 1) := by decide +kernel
theorem d_Model_counts_274 : decode b_Model_counts 274 = .ok (.iinc 3 1, 3) := by decide +kernel
theorem d_Model_counts_277 : decode b_Model_counts 277 = .ok (.goto (-79), 3) := by decide +kernel
theorem d_Model_counts_280 : decode b_Model_counts 280 = .ok (.iinc 2 1, 3) := by decide +kernel
theorem d_Model_counts_283 : decode b_Model_counts 283 = .ok (.goto (-92), 3) := by decide +kernel
theorem d_Model_counts_286 : decode b_Model_counts 286 = .ok (.iconst 1, 1) := by decide +kernel
theorem d_Model_counts_287 : decode b_Model_counts 287 = .ok (.ireturn, 1) := by decide +kernel
set_option maxHeartbeats 4000000 in
set_option maxRecDepth 100000 in
theorem c_Model_counts (l : Launch) {S : St} {x1 : Int32} {S' : St} {r : Int32} (h : f_Model_counts S x1 = some (r, S')) : MI mw l y_Model_counts b_Model_counts 7 (some .boolean) 2 54 0 0 (fun ad => [.ref (ad 0 0), .int x1]) aT aE S r S' := by
  refine MZ_of "LawfulLotsModel" rfl (by decide) (fun _ => Nat.le_of_ble_eq_true rfl) ?_
  intro p e s m args below meth c D ar ad A Q ls hP F hK hA hw hl hQ
  have hl : lv_has ls 7 [(0, .ref (ad 0 0)), (1, .int x1)] := hl
  obtain ⟨X_0, eX_0⟩ : ∃ X : (Int32 × St) → Prop, X = (fun q => ∀ (H : Heap) (locs : List Loc) (pc : Nat) (ls : Array Slot), isB q.1 = true → decode b_Model_counts pc = .ok (.ireturn, 1) → Bw mw D ar A s.heap H locs ad q.2 → W p l e (RM 2 54) s m args below meth c H locs 0 0 Q (F0 m pc ls [.int q.1])) := ⟨_, rfl⟩
  have key : ∀ (H : Heap) (locs : List Loc), Bw mw D ar A s.heap H locs ad S → ∀ o, f_Model_counts S x1 = some o → X_0 o → W p l e (RM 2 54) s m args below meth c H locs 0 0 Q (F0 m 0 ls []) := by
    intro H locs hw o h ho
    unfold f_Model_counts at h
    have J_28 : ∀ (S : St) (H : Heap) (locs : List Loc) (ls : Array Slot), Bw mw D ar A s.heap H locs ad S → lv_has ls 7 [] → ∀ o, Model_counts_j28 S = some o → X_0 o → W p l e (RM 2 54) s m args below meth c H locs 0 0 Q (F0 m 28 ls []) := by
      intro S H locs ls hw hl o h ho
      unfold Model_counts_j28 at h
      refine lv_iconst (v := 0) F.1 F.2.1 d_Model_counts_28 (by decide) ?_
      cases h
      have ho : X_0 _ := ho
      rw [eX_0] at ho
      exact ho H locs _ ls isB0 d_Model_counts_29 hw
    refine lv_iload_n F.1 F.2.1 d_Model_counts_0 rfl (lv_at hl 1 rfl) ?_
    refine lv_iconst (v := 1) F.1 F.2.1 d_Model_counts_1 (by decide) ?_
    refine lv_icmp_lt (tgt := 28) F.1 F.2.1 d_Model_counts_2 (by decide) (fun c_1 => ?_) (fun c_1 => ?_)
    · replace h := ip c_1 h
      exact J_28 S H locs ls hw (lv_sub hl [] rfl) o h ho
    · replace h := iq c_1 h
      refine lv_iload_n F.1 F.2.1 d_Model_counts_5 rfl (lv_at hl 1 rfl) ?_
      refine lv_bipush (v := 10) F.1 F.2.1 d_Model_counts_6 (by decide) ?_
      refine lv_icmp_gt (tgt := 28) F.1 F.2.1 d_Model_counts_8 (by decide) (fun c_2 => ?_) (fun c_2 => ?_)
      · replace h := ip c_2 h
        exact J_28 S H locs ls hw (lv_sub hl [] rfl) o h ho
      · replace h := iq c_2 h
        refine lv_aload_n F.1 F.2.1 d_Model_counts_11 rfl (lv_at hl 0 rfl) ?_
        refine mg_0_54 F hK hw lk_1065 d_Model_counts_12 ?_
        refine lv_iconst (v := 1) F.1 F.2.1 d_Model_counts_15 (by decide) ?_
        refine lv_icmp_lt (tgt := 28) F.1 F.2.1 d_Model_counts_16 (by decide) (fun c_3 => ?_) (fun c_3 => ?_)
        · replace h := ip c_3 h
          exact J_28 S H locs ls hw (lv_sub hl [] rfl) o h ho
        · replace h := iq c_3 h
          refine lv_aload_n F.1 F.2.1 d_Model_counts_19 rfl (lv_at hl 0 rfl) ?_
          refine mg_0_54 F hK hw lk_1065 d_Model_counts_20 ?_
          refine lv_bipush (v := 64) F.1 F.2.1 d_Model_counts_23 (by decide) ?_
          refine lv_icmp_le (tgt := 30) F.1 F.2.1 d_Model_counts_25 (by decide) (fun c_4 => ?_) (fun c_4 => ?_)
          · replace h := ip c_4 h
            refine lv_iconst (v := 0) F.1 F.2.1 d_Model_counts_30 (by decide) ?_
            refine lv_istore_n (lv' := [(2, .int (0 : Int32)), (0, .ref (ad 0 0)), (1, .int x1)]) F.1 F.2.1 d_Model_counts_31 rfl hl (by decide) rfl (fun ls hl => ?_)
            obtain ⟨S_39, hc_40, h⟩ := bd_ex h
            obtain ⟨X_32, eX_32⟩ : ∃ X : St → Prop, X = (fun q => ∀ (H : Heap) (locs : List Loc) (ls : Array Slot), Bw mw D ar A s.heap H locs ad q → lv_has ls 7 [(0, .ref (ad 0 0)), (1, .int x1)] → W p l e (RM 2 54) s m args below meth c H locs 0 0 Q (F0 m 163 ls [])) := ⟨_, rfl⟩
            have hX_32 : X_32 S_39 := by
              rw [eX_32]
              intro H locs ls hw hl
              refine lv_iconst (v := 0) F.1 F.2.1 d_Model_counts_163 (by decide) ?_
              refine lv_istore_n (lv' := [(2, .int (0 : Int32)), (0, .ref (ad 0 0)), (1, .int x1)]) F.1 F.2.1 d_Model_counts_164 rfl hl (by decide) rfl (fun ls hl => ?_)
              obtain ⟨S_45, hc_46, h⟩ := bd_ex h
              obtain ⟨X_165, eX_165⟩ : ∃ X : St → Prop, X = (fun q => ∀ (H : Heap) (locs : List Loc) (ls : Array Slot), Bw mw D ar A s.heap H locs ad q → lv_has ls 7 [(0, .ref (ad 0 0)), (1, .int x1)] → W p l e (RM 2 54) s m args below meth c H locs 0 0 Q (F0 m 189 ls [])) := ⟨_, rfl⟩
              have hX_165 : X_165 S_45 := by
                rw [eX_165]
                intro H locs ls hw hl
                refine lv_iconst (v := 2) F.1 F.2.1 d_Model_counts_189 (by decide) ?_
                refine lv_istore_n (lv' := [(2, .int (2 : Int32)), (0, .ref (ad 0 0)), (1, .int x1)]) F.1 F.2.1 d_Model_counts_190 rfl hl (by decide) rfl (fun ls hl => ?_)
                obtain ⟨S_63, hc_64, h⟩ := bd_ex h
                obtain ⟨X_191, eX_191⟩ : ∃ X : St → Prop, X = (fun q => ∀ (H : Heap) (locs : List Loc) (ls : Array Slot), Bw mw D ar A s.heap H locs ad q → lv_has ls 7 [] → W p l e (RM 2 54) s m args below meth c H locs 0 0 Q (F0 m 286 ls [])) := ⟨_, rfl⟩
                have hX_191 : X_191 S_63 := by
                  rw [eX_191]
                  intro H locs ls hw hl
                  refine lv_iconst (v := 1) F.1 F.2.1 d_Model_counts_286 (by decide) ?_
                  cases h
                  have ho : X_0 _ := ho
                  rw [eX_0] at ho
                  exact ho H locs _ ls isB1 d_Model_counts_287 hw
                obtain ⟨P_191, eP_191⟩ : ∃ P : (St × Int32) → Prop, P = (fun q => ∀ (H : Heap) (locs : List Loc) (ls : Array Slot), Bw mw D ar A s.heap H locs ad q.1 → lv_has ls 7 [(0, .ref (ad 0 0)), (1, .int x1), (2, .int q.2)] → W p l e (RM 2 54) s m args below meth c H locs 0 0 Q (F0 m 191 ls [])) := ⟨_, rfl⟩
                have hL_191 : P_191 (S_45, (2 : Int32)) := by
                  refine wh_gp (P := P_191) (X := X_191) hc_64 hX_191 ?_
                  clear h
                  intro q o h ho
                  obtain ⟨S, x2⟩ := q
                  have h : Model_counts_l191 x1 S x2 = some o := h
                  unfold Model_counts_l191 at h
                  rw [eP_191]
                  intro H locs ls hw hl
                  refine lv_iload_n F.1 F.2.1 d_Model_counts_191 rfl (lv_at hl 2 rfl) ?_
                  refine lv_iload_n F.1 F.2.1 d_Model_counts_192 rfl (lv_at hl 1 rfl) ?_
                  refine lv_icmp_gt (tgt := 286) F.1 F.2.1 d_Model_counts_193 (by decide) (fun c_47 => ?_) (fun c_47 => ?_)
                  · replace h := ip c_47 h
                    cases h
                    have ho : X_191 _ := ho
                    rw [eX_191] at ho
                    exact ho H locs ls hw (lv_sub hl [] rfl)
                  · replace h := iq c_47 h
                    refine lv_iconst (v := 0) F.1 F.2.1 d_Model_counts_196 (by decide) ?_
                    refine lv_istore_n (lv' := [(3, .int (0 : Int32)), (0, .ref (ad 0 0)), (1, .int x1), (2, .int x2)]) F.1 F.2.1 d_Model_counts_197 rfl hl (by decide) rfl (fun ls hl => ?_)
                    obtain ⟨S_60, hc_61, h⟩ := bd_ex h
                    obtain ⟨X_198, eX_198⟩ : ∃ X : St → Prop, X = (fun q => ∀ (H : Heap) (locs : List Loc) (ls : Array Slot), Bw mw D ar A s.heap H locs ad q → lv_has ls 7 [(0, .ref (ad 0 0)), (1, .int x1), (2, .int x2)] → W p l e (RM 2 54) s m args below meth c H locs 0 0 Q (F0 m 280 ls [])) := ⟨_, rfl⟩
                    have hX_198 : X_198 S_60 := by
                      rw [eX_198]
                      intro H locs ls hw hl
                      obtain ⟨x2_62, ex2_62, h⟩ := nm_ex h
                      refine lv_iinc (v := x2_62) (lv' := [(2, .int x2_62), (0, .ref (ad 0 0)), (1, .int x1)]) F.1 F.2.1 d_Model_counts_280 hl (k := 2) rfl (by rw [ex2_62]; rfl) (by decide) rfl (fun ls hl => ?_)
                      refine lv_goto (tgt := 191) F.1 F.2.1 d_Model_counts_283 (by decide) ?_
                      cases h
                      have ho : P_191 _ := ho
                      rw [eP_191] at ho
                      exact ho H locs ls hw (lv_sub hl [1, 2, 0] rfl)
                    obtain ⟨P_198, eP_198⟩ : ∃ P : (St × Int32) → Prop, P = (fun q => ∀ (H : Heap) (locs : List Loc) (ls : Array Slot), Bw mw D ar A s.heap H locs ad q.1 → lv_has ls 7 [(0, .ref (ad 0 0)), (1, .int x1), (2, .int x2), (3, .int q.2)] → W p l e (RM 2 54) s m args below meth c H locs 0 0 Q (F0 m 198 ls [])) := ⟨_, rfl⟩
                    have hL_198 : P_198 (S, (0 : Int32)) := by
                      refine wh_gp (P := P_198) (X := X_198) hc_61 hX_198 ?_
                      clear h
                      intro q o h ho
                      obtain ⟨S, x3⟩ := q
                      have h : Model_counts_l198 x1 x2 S x3 = some o := h
                      unfold Model_counts_l198 at h
                      rw [eP_198]
                      intro H locs ls hw hl
                      refine lv_iload_n F.1 F.2.1 d_Model_counts_198 rfl (lv_at hl 3 rfl) ?_
                      refine lv_aload_n F.1 F.2.1 d_Model_counts_199 rfl (lv_at hl 0 rfl) ?_
                      refine mg_0_54 F hK hw lk_1065 d_Model_counts_200 ?_
                      refine lv_icmp_ge (tgt := 280) F.1 F.2.1 d_Model_counts_203 (by decide) (fun c_48 => ?_) (fun c_48 => ?_)
                      · replace h := ip c_48 h
                        cases h
                        have ho : X_198 _ := ho
                        rw [eX_198] at ho
                        exact ho H locs ls hw (lv_sub hl [0, 1, 2] rfl)
                      · replace h := iq c_48 h
                        refine lv_lconst (v := 0) F.1 F.2.1 d_Model_counts_206 (by decide) ?_
                        refine lv_lstore (lv' := [(4, .long (0 : Int64)), (0, .ref (ad 0 0)), (1, .int x1), (2, .int x2), (3, .int x3)]) F.1 F.2.1 d_Model_counts_207 hl (by decide) rfl (fun ls hl => ?_)
                        refine lv_iconst (v := 0) F.1 F.2.1 d_Model_counts_209 (by decide) ?_
                        refine lv_istore (lv' := [(6, .int (0 : Int32)), (4, .long (0 : Int64)), (0, .ref (ad 0 0)), (1, .int x1), (2, .int x2), (3, .int x3)]) F.1 F.2.1 d_Model_counts_210 hl (by decide) rfl (fun ls hl => ?_)
                        obtain ⟨x4_55, hc_56, h⟩ := bd_ex h
                        obtain ⟨X_212, eX_212⟩ : ∃ X : Int64 → Prop, X = (fun q => ∀ (H : Heap) (locs : List Loc) (ls : Array Slot), Bw mw D ar A s.heap H locs ad S → lv_has ls 7 [(0, .ref (ad 0 0)), (1, .int x1), (2, .int x2), (3, .int x3), (4, .long q)] → W p l e (RM 2 54) s m args below meth c H locs 0 0 Q (F0 m 261 ls [])) := ⟨_, rfl⟩
                        have hX_212 : X_212 x4_55 := by
                          rw [eX_212]
                          intro H locs ls hw hl
                          refine lv_aload_n F.1 F.2.1 d_Model_counts_261 rfl (lv_at hl 0 rfl) ?_
                          refine mg_0_66 F hK hw lk_1077 d_Model_counts_262 ?_
                          refine lv_bipush (v := 64) F.1 F.2.1 d_Model_counts_265 (by decide) ?_
                          refine lv_iload_n F.1 F.2.1 d_Model_counts_267 rfl (lv_at hl 2 rfl) ?_
                          refine lv_imul F.1 F.2.1 d_Model_counts_268 ?_
                          refine lv_iload_n F.1 F.2.1 d_Model_counts_269 rfl (lv_at hl 3 rfl) ?_
                          refine lv_iadd F.1 F.2.1 d_Model_counts_270 ?_
                          refine lv_lload F.1 F.2.1 d_Model_counts_271 (lv_at hl 4 rfl) ?_
                          obtain ⟨hi_57, h⟩ := gd_ex h
                          obtain ⟨S_58, eS_58, h⟩ := nm_ex h
                          refine ms_0_66 F hK hw hi_57 d_Model_counts_273 eS_58 (fun H locs hw => ?_)
                          obtain ⟨x3_59, ex3_59, h⟩ := nm_ex h
                          refine lv_iinc (v := x3_59) (lv' := [(3, .int x3_59), (0, .ref (ad 0 0)), (1, .int x1), (2, .int x2), (4, .long x4_55)]) F.1 F.2.1 d_Model_counts_274 hl (k := 3) rfl (by rw [ex3_59]; rfl) (by decide) rfl (fun ls hl => ?_)
                          refine lv_goto (tgt := 198) F.1 F.2.1 d_Model_counts_277 (by decide) ?_
                          cases h
                          have ho : P_198 _ := ho
                          rw [eP_198] at ho
                          exact ho H locs ls hw (lv_sub hl [1, 2, 3, 0] rfl)
                        obtain ⟨P_212, eP_212⟩ : ∃ P : (Int64 × Int32) → Prop, P = (fun q => ∀ (H : Heap) (locs : List Loc) (ls : Array Slot), Bw mw D ar A s.heap H locs ad S → lv_has ls 7 [(0, .ref (ad 0 0)), (1, .int x1), (2, .int x2), (3, .int x3), (4, .long q.1), (6, .int q.2)] → W p l e (RM 2 54) s m args below meth c H locs 0 0 Q (F0 m 212 ls [])) := ⟨_, rfl⟩
                        have hL_212 : P_212 ((0 : Int64), (0 : Int32)) := by
                          refine wh_gp (P := P_212) (X := X_212) hc_56 hX_212 ?_
                          clear h
                          intro q o h ho
                          obtain ⟨x4, x6⟩ := q
                          have h : Model_counts_l212 S x1 x2 x3 x4 x6 = some o := h
                          unfold Model_counts_l212 at h
                          rw [eP_212]
                          intro H locs ls hw hl
                          have J_255_l212 : ∀ (x4 : Int64) (x6 : Int32) (H : Heap) (locs : List Loc) (ls : Array Slot), Bw mw D ar A s.heap H locs ad S → lv_has ls 7 [(0, .ref (ad 0 0)), (1, .int x1), (2, .int x2), (3, .int x3), (4, .long x4), (6, .int x6)] → ∀ o, Model_counts_j255_l212 S x1 x2 x3 x4 x6 = some o → (Sum.elim P_212 X_212) o → W p l e (RM 2 54) s m args below meth c H locs 0 0 Q (F0 m 255 ls []) := by
                            intro x4 x6 H locs ls hw hl o h ho
                            unfold Model_counts_j255_l212 at h
                            obtain ⟨x6_54, ex6_54, h⟩ := nm_ex h
                            refine lv_iinc (v := x6_54) (lv' := [(6, .int x6_54), (0, .ref (ad 0 0)), (1, .int x1), (2, .int x2), (3, .int x3), (4, .long x4)]) F.1 F.2.1 d_Model_counts_255 hl (k := 5) rfl (by rw [ex6_54]; rfl) (by decide) rfl (fun ls hl => ?_)
                            refine lv_goto (tgt := 212) F.1 F.2.1 d_Model_counts_258 (by decide) ?_
                            cases h
                            have ho : P_212 _ := ho
                            rw [eP_212] at ho
                            exact ho H locs ls hw (lv_sub hl [1, 2, 3, 4, 5, 0] rfl)
                          refine lv_iload F.1 F.2.1 d_Model_counts_212 (lv_at hl 5 rfl) ?_
                          refine lv_aload_n F.1 F.2.1 d_Model_counts_214 rfl (lv_at hl 0 rfl) ?_
                          refine mg_0_54 F hK hw lk_1065 d_Model_counts_215 ?_
                          refine lv_icmp_ge (tgt := 261) F.1 F.2.1 d_Model_counts_218 (by decide) (fun c_49 => ?_) (fun c_49 => ?_)
                          · replace h := ip c_49 h
                            cases h
                            have ho : X_212 _ := ho
                            rw [eX_212] at ho
                            exact ho H locs ls hw (lv_sub hl [0, 1, 2, 3, 4] rfl)
                          · replace h := iq c_49 h
                            refine lv_aload_n F.1 F.2.1 d_Model_counts_221 rfl (lv_at hl 0 rfl) ?_
                            refine mg_0_65 F hK hw lk_1076 d_Model_counts_222 ?_
                            refine lv_bipush (v := 64) F.1 F.2.1 d_Model_counts_225 (by decide) ?_
                            refine lv_iload_n F.1 F.2.1 d_Model_counts_227 rfl (lv_at hl 3 rfl) ?_
                            refine lv_imul F.1 F.2.1 d_Model_counts_228 ?_
                            refine lv_iload F.1 F.2.1 d_Model_counts_229 (lv_at hl 5 rfl) ?_
                            refine lv_iadd F.1 F.2.1 d_Model_counts_231 ?_
                            obtain ⟨hi_50, h⟩ := gd_ex h
                            refine ml_0_65 F hK hw hi_50 d_Model_counts_232 ?_
                            refine lv_if_eq (tgt := 255) F.1 F.2.1 d_Model_counts_233 (by decide) (fun c_51 => ?_) (fun c_51 => ?_)
                            · replace h := ip c_51 h
                              exact J_255_l212 x4 x6 H locs ls hw (lv_sub hl [0, 1, 2, 3, 4, 5] rfl) o h ho
                            · replace h := iq c_51 h
                              refine lv_lload F.1 F.2.1 d_Model_counts_236 (lv_at hl 4 rfl) ?_
                              refine lv_aload_n F.1 F.2.1 d_Model_counts_238 rfl (lv_at hl 0 rfl) ?_
                              refine mg_0_66 F hK hw lk_1077 d_Model_counts_239 ?_
                              refine lv_bipush (v := 64) F.1 F.2.1 d_Model_counts_242 (by decide) ?_
                              refine lv_iload_n F.1 F.2.1 d_Model_counts_244 rfl (lv_at hl 2 rfl) ?_
                              refine lv_iconst (v := 1) F.1 F.2.1 d_Model_counts_245 (by decide) ?_
                              refine lv_isub F.1 F.2.1 d_Model_counts_246 ?_
                              refine lv_imul F.1 F.2.1 d_Model_counts_247 ?_
                              refine lv_iload F.1 F.2.1 d_Model_counts_248 (lv_at hl 5 rfl) ?_
                              refine lv_iadd F.1 F.2.1 d_Model_counts_250 ?_
                              obtain ⟨hi_52, h⟩ := gd_ex h
                              refine ml_0_66 F hK hw hi_52 d_Model_counts_251 ?_
                              refine lv_ladd F.1 F.2.1 d_Model_counts_252 ?_
                              obtain ⟨x4_53, ex4_53, h⟩ := nm_ex h
                              refine lv_nmL ex4_53 ?_
                              refine lv_lstore (lv' := [(4, .long x4_53), (0, .ref (ad 0 0)), (1, .int x1), (2, .int x2), (3, .int x3), (6, .int x6)]) F.1 F.2.1 d_Model_counts_253 hl (by decide) rfl (fun ls hl => ?_)
                              exact J_255_l212 x4_53 x6 H locs ls hw (lv_sub hl [1, 2, 3, 4, 0, 5] rfl) o h ho
                        rw [eP_212] at hL_212
                        exact hL_212 H locs ls hw (lv_sub hl [2, 3, 4, 5, 1, 0] rfl)
                    rw [eP_198] at hL_198
                    exact hL_198 H locs ls hw (lv_sub hl [1, 2, 3, 0] rfl)
                rw [eP_191] at hL_191
                exact hL_191 H locs ls hw (lv_sub hl [1, 2, 0] rfl)
              obtain ⟨P_165, eP_165⟩ : ∃ P : (St × Int32) → Prop, P = (fun q => ∀ (H : Heap) (locs : List Loc) (ls : Array Slot), Bw mw D ar A s.heap H locs ad q.1 → lv_has ls 7 [(0, .ref (ad 0 0)), (1, .int x1), (2, .int q.2)] → W p l e (RM 2 54) s m args below meth c H locs 0 0 Q (F0 m 165 ls [])) := ⟨_, rfl⟩
              have hL_165 : P_165 (S_39, (0 : Int32)) := by
                refine wh_gp (P := P_165) (X := X_165) hc_46 hX_165 ?_
                clear h
                intro q o h ho
                obtain ⟨S, x2⟩ := q
                have h : Model_counts_l165 x1 S x2 = some o := h
                unfold Model_counts_l165 at h
                rw [eP_165]
                intro H locs ls hw hl
                refine lv_iload_n F.1 F.2.1 d_Model_counts_165 rfl (lv_at hl 2 rfl) ?_
                refine lv_aload_n F.1 F.2.1 d_Model_counts_166 rfl (lv_at hl 0 rfl) ?_
                refine mg_0_54 F hK hw lk_1065 d_Model_counts_167 ?_
                refine lv_icmp_ge (tgt := 189) F.1 F.2.1 d_Model_counts_170 (by decide) (fun c_41 => ?_) (fun c_41 => ?_)
                · replace h := ip c_41 h
                  cases h
                  have ho : X_165 _ := ho
                  rw [eX_165] at ho
                  exact ho H locs ls hw (lv_sub hl [0, 1] rfl)
                · replace h := iq c_41 h
                  refine lv_aload_n F.1 F.2.1 d_Model_counts_173 rfl (lv_at hl 0 rfl) ?_
                  refine mg_0_66 F hK hw lk_1077 d_Model_counts_174 ?_
                  refine lv_bipush (v := 64) F.1 F.2.1 d_Model_counts_177 (by decide) ?_
                  refine lv_iload_n F.1 F.2.1 d_Model_counts_179 rfl (lv_at hl 2 rfl) ?_
                  refine lv_iadd F.1 F.2.1 d_Model_counts_180 ?_
                  refine lv_lconst (v := 1) F.1 F.2.1 d_Model_counts_181 (by decide) ?_
                  obtain ⟨hi_42, h⟩ := gd_ex h
                  obtain ⟨S_43, eS_43, h⟩ := nm_ex h
                  refine ms_0_66 F hK hw hi_42 d_Model_counts_182 eS_43 (fun H locs hw => ?_)
                  obtain ⟨x2_44, ex2_44, h⟩ := nm_ex h
                  refine lv_iinc (v := x2_44) (lv' := [(2, .int x2_44), (0, .ref (ad 0 0)), (1, .int x1)]) F.1 F.2.1 d_Model_counts_183 hl (k := 2) rfl (by rw [ex2_44]; rfl) (by decide) rfl (fun ls hl => ?_)
                  refine lv_goto (tgt := 165) F.1 F.2.1 d_Model_counts_186 (by decide) ?_
                  cases h
                  have ho : P_165 _ := ho
                  rw [eP_165] at ho
                  exact ho H locs ls hw (lv_sub hl [1, 2, 0] rfl)
              rw [eP_165] at hL_165
              exact hL_165 H locs ls hw (lv_sub hl [1, 2, 0] rfl)
            obtain ⟨P_32, eP_32⟩ : ∃ P : (St × Int32) → Prop, P = (fun q => ∀ (H : Heap) (locs : List Loc) (ls : Array Slot), Bw mw D ar A s.heap H locs ad q.1 → lv_has ls 7 [(0, .ref (ad 0 0)), (1, .int x1), (2, .int q.2)] → W p l e (RM 2 54) s m args below meth c H locs 0 0 Q (F0 m 32 ls [])) := ⟨_, rfl⟩
            have hL_32 : P_32 (S, (0 : Int32)) := by
              refine wh_gp (P := P_32) (X := X_32) hc_40 hX_32 ?_
              clear h
              intro q o h ho
              obtain ⟨S, x2⟩ := q
              have h : Model_counts_l32 x1 S x2 = some o := h
              unfold Model_counts_l32 at h
              rw [eP_32]
              intro H locs ls hw hl
              refine lv_iload_n F.1 F.2.1 d_Model_counts_32 rfl (lv_at hl 2 rfl) ?_
              refine lv_aload_n F.1 F.2.1 d_Model_counts_33 rfl (lv_at hl 0 rfl) ?_
              refine mg_0_54 F hK hw lk_1065 d_Model_counts_34 ?_
              refine lv_icmp_ge (tgt := 163) F.1 F.2.1 d_Model_counts_37 (by decide) (fun c_5 => ?_) (fun c_5 => ?_)
              · replace h := ip c_5 h
                cases h
                have ho : X_32 _ := ho
                rw [eX_32] at ho
                exact ho H locs ls hw (lv_sub hl [0, 1] rfl)
              · replace h := iq c_5 h
                refine lv_iconst (v := 0) F.1 F.2.1 d_Model_counts_40 (by decide) ?_
                refine lv_istore_n (lv' := [(3, .int (0 : Int32)), (0, .ref (ad 0 0)), (1, .int x1), (2, .int x2)]) F.1 F.2.1 d_Model_counts_41 rfl hl (by decide) rfl (fun ls hl => ?_)
                obtain ⟨S_14, hc_15, h⟩ := bd_ex h
                obtain ⟨X_42, eX_42⟩ : ∃ X : St → Prop, X = (fun q => ∀ (H : Heap) (locs : List Loc) (ls : Array Slot), Bw mw D ar A s.heap H locs ad q → lv_has ls 7 [(0, .ref (ad 0 0)), (1, .int x1), (2, .int x2)] → W p l e (RM 2 54) s m args below meth c H locs 0 0 Q (F0 m 78 ls [])) := ⟨_, rfl⟩
                have hX_42 : X_42 S_14 := by
                  rw [eX_42]
                  intro H locs ls hw hl
                  refine lv_iconst (v := 0) F.1 F.2.1 d_Model_counts_78 (by decide) ?_
                  refine lv_istore_n (lv' := [(3, .int (0 : Int32)), (0, .ref (ad 0 0)), (1, .int x1), (2, .int x2)]) F.1 F.2.1 d_Model_counts_79 rfl hl (by decide) rfl (fun ls hl => ?_)
                  obtain ⟨S_36, hc_37, h⟩ := bd_ex h
                  obtain ⟨X_80, eX_80⟩ : ∃ X : St → Prop, X = (fun q => ∀ (H : Heap) (locs : List Loc) (ls : Array Slot), Bw mw D ar A s.heap H locs ad q → lv_has ls 7 [(0, .ref (ad 0 0)), (1, .int x1), (2, .int x2)] → W p l e (RM 2 54) s m args below meth c H locs 0 0 Q (F0 m 157 ls [])) := ⟨_, rfl⟩
                  have hX_80 : X_80 S_36 := by
                    rw [eX_80]
                    intro H locs ls hw hl
                    obtain ⟨x2_38, ex2_38, h⟩ := nm_ex h
                    refine lv_iinc (v := x2_38) (lv' := [(2, .int x2_38), (0, .ref (ad 0 0)), (1, .int x1)]) F.1 F.2.1 d_Model_counts_157 hl (k := 2) rfl (by rw [ex2_38]; rfl) (by decide) rfl (fun ls hl => ?_)
                    refine lv_goto (tgt := 32) F.1 F.2.1 d_Model_counts_160 (by decide) ?_
                    cases h
                    have ho : P_32 _ := ho
                    rw [eP_32] at ho
                    exact ho H locs ls hw (lv_sub hl [1, 2, 0] rfl)
                  obtain ⟨P_80, eP_80⟩ : ∃ P : (St × Int32) → Prop, P = (fun q => ∀ (H : Heap) (locs : List Loc) (ls : Array Slot), Bw mw D ar A s.heap H locs ad q.1 → lv_has ls 7 [(0, .ref (ad 0 0)), (1, .int x1), (2, .int x2), (3, .int q.2)] → W p l e (RM 2 54) s m args below meth c H locs 0 0 Q (F0 m 80 ls [])) := ⟨_, rfl⟩
                  have hL_80 : P_80 (S_14, (0 : Int32)) := by
                    refine wh_gp (P := P_80) (X := X_80) hc_37 hX_80 ?_
                    clear h
                    intro q o h ho
                    obtain ⟨S, x3⟩ := q
                    have h : Model_counts_l80 x1 x2 S x3 = some o := h
                    unfold Model_counts_l80 at h
                    rw [eP_80]
                    intro H locs ls hw hl
                    have J_138_l80 : ∀ (S : St) (x3 : Int32) (x4 : Int32) (H : Heap) (locs : List Loc) (ls : Array Slot), Bw mw D ar A s.heap H locs ad S → lv_has ls 7 [(0, .ref (ad 0 0)), (1, .int x1), (2, .int x2), (3, .int x3), (4, .int x4)] → ∀ o, Model_counts_j138_l80 S x1 x2 x3 x4 = some o → (Sum.elim P_80 X_80) o → W p l e (RM 2 54) s m args below meth c H locs 0 0 Q (F0 m 138 ls []) := by
                      intro S x3 x4 H locs ls hw hl o h ho
                      unfold Model_counts_j138_l80 at h
                      refine lv_aload_n F.1 F.2.1 d_Model_counts_138 rfl (lv_at hl 0 rfl) ?_
                      refine mg_0_65 F hK hw lk_1076 d_Model_counts_139 ?_
                      refine lv_bipush (v := 64) F.1 F.2.1 d_Model_counts_142 (by decide) ?_
                      refine lv_iload_n F.1 F.2.1 d_Model_counts_144 rfl (lv_at hl 2 rfl) ?_
                      refine lv_imul F.1 F.2.1 d_Model_counts_145 ?_
                      refine lv_iload_n F.1 F.2.1 d_Model_counts_146 rfl (lv_at hl 3 rfl) ?_
                      refine lv_iadd F.1 F.2.1 d_Model_counts_147 ?_
                      refine lv_iload F.1 F.2.1 d_Model_counts_148 (lv_at hl 4 rfl) ?_
                      obtain ⟨hi_33, h⟩ := gd_ex h
                      obtain ⟨S_34, eS_34, h⟩ := nm_ex h
                      refine ms_0_65 F hK hw hi_33 d_Model_counts_150 eS_34 (fun H locs hw => ?_)
                      obtain ⟨x3_35, ex3_35, h⟩ := nm_ex h
                      refine lv_iinc (v := x3_35) (lv' := [(3, .int x3_35), (0, .ref (ad 0 0)), (1, .int x1), (2, .int x2), (4, .int x4)]) F.1 F.2.1 d_Model_counts_151 hl (k := 3) rfl (by rw [ex3_35]; rfl) (by decide) rfl (fun ls hl => ?_)
                      refine lv_goto (tgt := 80) F.1 F.2.1 d_Model_counts_154 (by decide) ?_
                      cases h
                      have ho : P_80 _ := ho
                      rw [eP_80] at ho
                      exact ho H locs ls hw (lv_sub hl [1, 2, 3, 0] rfl)
                    refine lv_iload_n F.1 F.2.1 d_Model_counts_80 rfl (lv_at hl 3 rfl) ?_
                    refine lv_aload_n F.1 F.2.1 d_Model_counts_81 rfl (lv_at hl 0 rfl) ?_
                    refine mg_0_54 F hK hw lk_1065 d_Model_counts_82 ?_
                    refine lv_icmp_ge (tgt := 157) F.1 F.2.1 d_Model_counts_85 (by decide) (fun c_16 => ?_) (fun c_16 => ?_)
                    · replace h := ip c_16 h
                      cases h
                      have ho : X_80 _ := ho
                      rw [eX_80] at ho
                      exact ho H locs ls hw (lv_sub hl [0, 1, 2] rfl)
                    · replace h := iq c_16 h
                      refine lv_aload_n F.1 F.2.1 d_Model_counts_88 rfl (lv_at hl 0 rfl) ?_
                      refine lv_aload_n F.1 F.2.1 d_Model_counts_89 rfl (lv_at hl 0 rfl) ?_
                      refine mg_0_55 F hK hw lk_1066 d_Model_counts_90 ?_
                      refine lv_iload_n F.1 F.2.1 d_Model_counts_93 rfl (lv_at hl 3 rfl) ?_
                      obtain ⟨hi_17, h⟩ := gd_ex h
                      refine ml_0_55 F hK hw hi_17 d_Model_counts_94 ?_
                      obtain ⟨S_19, hc_18, h⟩ := bd_ex h
                      refine cV_v F hA rfl hK hw (c_Model_looksAt l hc_18) trivial rfl (good_V lk_964 lk_966 ls_45 lk_10 lk_967) (mr_0 hK hw) hd_Model_looksAt ⟨Nat.le_of_ble_eq_true rfl, Nat.le_of_ble_eq_true rfl⟩ rfl hl.1 rfl (Nat.le_of_ble_eq_true rfl) d_Model_counts_95 ⟨(Nat.zero_le _), (Nat.zero_le _)⟩ (fun H locs hw => ?_)
                      refine lv_iconst (v := 1) F.1 F.2.1 d_Model_counts_98 (by decide) ?_
                      refine lv_istore (lv' := [(4, .int (1 : Int32)), (0, .ref (ad 0 0)), (1, .int x1), (2, .int x2), (3, .int x3)]) F.1 F.2.1 d_Model_counts_99 hl (by decide) rfl (fun ls hl => ?_)
                      refine lv_iconst (v := 0) F.1 F.2.1 d_Model_counts_101 (by decide) ?_
                      refine lv_istore (lv' := [(5, .int (0 : Int32)), (4, .int (1 : Int32)), (0, .ref (ad 0 0)), (1, .int x1), (2, .int x2), (3, .int x3)]) F.1 F.2.1 d_Model_counts_102 hl (by decide) rfl (fun ls hl => ?_)
                      obtain ⟨S_30, x4_31, hc_32, h⟩ := bd2_ex h
                      obtain ⟨X_104, eX_104⟩ : ∃ X : (St × Int32) → Prop, X = (fun q => ∀ (H : Heap) (locs : List Loc) (ls : Array Slot), Bw mw D ar A s.heap H locs ad q.1 → lv_has ls 7 [(0, .ref (ad 0 0)), (1, .int x1), (2, .int x2), (3, .int x3), (4, .int q.2)] → W p l e (RM 2 54) s m args below meth c H locs 0 0 Q (F0 m 138 ls [])) := ⟨_, rfl⟩
                      have hX_104 : X_104 (S_30, x4_31) := by
                        rw [eX_104]
                        intro H locs ls hw hl
                        exact J_138_l80 S_30 x3 x4_31 H locs ls hw (lv_sub hl [0, 1, 2, 3, 4] rfl) o h ho
                      obtain ⟨P_104, eP_104⟩ : ∃ P : (St × Int32 × Int32) → Prop, P = (fun q => ∀ (H : Heap) (locs : List Loc) (ls : Array Slot), Bw mw D ar A s.heap H locs ad q.1 → lv_has ls 7 [(0, .ref (ad 0 0)), (1, .int x1), (2, .int x2), (3, .int x3), (4, .int q.2.1), (5, .int q.2.2)] → W p l e (RM 2 54) s m args below meth c H locs 0 0 Q (F0 m 104 ls [])) := ⟨_, rfl⟩
                      have hL_104 : P_104 (S_19, (1 : Int32), (0 : Int32)) := by
                        refine wh_gp (P := P_104) (X := X_104) hc_32 hX_104 ?_
                        clear h
                        intro q o h ho
                        obtain ⟨S, x4, x5⟩ := q
                        have h : Model_counts_l104 x1 x2 x3 S x4 x5 = some o := h
                        unfold Model_counts_l104 at h
                        rw [eP_104]
                        intro H locs ls hw hl
                        refine lv_iload F.1 F.2.1 d_Model_counts_104 (lv_at hl 5 rfl) ?_
                        refine lv_aload_n F.1 F.2.1 d_Model_counts_106 rfl (lv_at hl 0 rfl) ?_
                        refine lv_iconst (v := 3) F.1 F.2.1 d_Model_counts_107 (by decide) ?_
                        obtain ⟨v_21, hc_20, h⟩ := bd_ex h
                        refine cV_i F hA rfl hK hw (c_Model_tellsOf l hc_20) trivial rfl (good_V lk_976 lk_978 ls_48 lk_10 lk_979) (mr_0 hK hw) hd_Model_tellsOf ⟨Nat.le_of_ble_eq_true rfl, Nat.le_of_ble_eq_true rfl⟩ rfl hl.1 rfl (Nat.le_of_ble_eq_true rfl) d_Model_counts_108 ⟨(Nat.zero_le _), (Nat.zero_le _)⟩ (fun H locs hw => ?_)
                        refine lv_icmp_ge (tgt := 138) F.1 F.2.1 d_Model_counts_111 (by decide) (fun c_22 => ?_) (fun c_22 => ?_)
                        · replace h := ip c_22 h
                          cases h
                          have ho : X_104 _ := ho
                          rw [eX_104] at ho
                          exact ho H locs ls hw (lv_sub hl [0, 1, 2, 3, 4] rfl)
                        · replace h := iq c_22 h
                          refine lv_iload F.1 F.2.1 d_Model_counts_114 (lv_at hl 4 rfl) ?_
                          refine lv_if_eq (tgt := 138) F.1 F.2.1 d_Model_counts_116 (by decide) (fun c_23 => ?_) (fun c_23 => ?_)
                          · replace h := ip c_23 h
                            cases h
                            have ho : X_104 _ := ho
                            rw [eX_104] at ho
                            exact ho H locs ls hw (lv_sub hl [0, 1, 2, 3, 4] rfl)
                          · replace h := iq c_23 h
                            refine lv_aload_n F.1 F.2.1 d_Model_counts_119 rfl (lv_at hl 0 rfl) ?_
                            refine lv_aload_n F.1 F.2.1 d_Model_counts_120 rfl (lv_at hl 0 rfl) ?_
                            refine lv_iconst (v := 3) F.1 F.2.1 d_Model_counts_121 (by decide) ?_
                            refine lv_iload F.1 F.2.1 d_Model_counts_122 (lv_at hl 5 rfl) ?_
                            obtain ⟨v_25, hc_24, h⟩ := bd_ex h
                            refine cV_i F hA rfl hK hw (c_Model_condOf l hc_24) trivial rfl (good_V lk_980 lk_982 ls_49 lk_10 lk_983) (mr_0 hK hw) hd_Model_condOf ⟨Nat.le_of_ble_eq_true rfl, Nat.le_of_ble_eq_true rfl⟩ rfl hl.1 rfl (Nat.le_of_ble_eq_true rfl) d_Model_counts_124 ⟨(Nat.zero_le _), (Nat.zero_le _)⟩ (fun H locs hw => ?_)
                            obtain ⟨v_27, S_28, hc_26, h⟩ := bd2_ex h
                            refine cV_i F hA rfl hK hw (c_Model_holds l hc_26) trivial rfl (good_V lk_984 lk_986 ls_50 lk_10 lk_987) (mr_0 hK hw) hd_Model_holds ⟨Nat.le_of_ble_eq_true rfl, Nat.le_of_ble_eq_true rfl⟩ rfl hl.1 rfl (Nat.le_of_ble_eq_true rfl) d_Model_counts_127 ⟨(Nat.zero_le _), (Nat.zero_le _)⟩ (fun H locs hw => ?_)
                            refine lv_istore (lv' := [(4, .int v_27), (0, .ref (ad 0 0)), (1, .int x1), (2, .int x2), (3, .int x3), (5, .int x5)]) F.1 F.2.1 d_Model_counts_130 hl (by decide) rfl (fun ls hl => ?_)
                            obtain ⟨x5_29, ex5_29, h⟩ := nm_ex h
                            refine lv_iinc (v := x5_29) (lv' := [(5, .int x5_29), (4, .int v_27), (0, .ref (ad 0 0)), (1, .int x1), (2, .int x2), (3, .int x3)]) F.1 F.2.1 d_Model_counts_132 hl (k := 5) rfl (by rw [ex5_29]; rfl) (by decide) rfl (fun ls hl => ?_)
                            refine lv_goto (tgt := 104) F.1 F.2.1 d_Model_counts_135 (by decide) ?_
                            cases h
                            have ho : P_104 _ := ho
                            rw [eP_104] at ho
                            exact ho H locs ls hw (lv_sub hl [2, 3, 4, 5, 1, 0] rfl)
                      rw [eP_104] at hL_104
                      exact hL_104 H locs ls hw (lv_sub hl [2, 3, 4, 5, 1, 0] rfl)
                  rw [eP_80] at hL_80
                  exact hL_80 H locs ls hw (lv_sub hl [1, 2, 3, 0] rfl)
                obtain ⟨P_42, eP_42⟩ : ∃ P : (St × Int32) → Prop, P = (fun q => ∀ (H : Heap) (locs : List Loc) (ls : Array Slot), Bw mw D ar A s.heap H locs ad q.1 → lv_has ls 7 [(0, .ref (ad 0 0)), (1, .int x1), (2, .int x2), (3, .int q.2)] → W p l e (RM 2 54) s m args below meth c H locs 0 0 Q (F0 m 42 ls [])) := ⟨_, rfl⟩
                have hL_42 : P_42 (S, (0 : Int32)) := by
                  refine wh_gp (P := P_42) (X := X_42) hc_15 hX_42 ?_
                  clear h
                  intro q o h ho
                  obtain ⟨S, x3⟩ := q
                  have h : Model_counts_l42 x1 x2 S x3 = some o := h
                  unfold Model_counts_l42 at h
                  rw [eP_42]
                  intro H locs ls hw hl
                  refine lv_iload_n F.1 F.2.1 d_Model_counts_42 rfl (lv_at hl 3 rfl) ?_
                  refine lv_aload_n F.1 F.2.1 d_Model_counts_43 rfl (lv_at hl 0 rfl) ?_
                  refine mg_0_20 F hK hw lk_1031 d_Model_counts_44 ?_
                  refine lv_aload_n F.1 F.2.1 d_Model_counts_47 rfl (lv_at hl 0 rfl) ?_
                  refine mg_0_18 F hK hw lk_1029 d_Model_counts_48 ?_
                  obtain ⟨hi_6, h⟩ := gd_ex h
                  refine ml_0_20 F hK hw hi_6 d_Model_counts_51 ?_
                  refine lv_icmp_ge (tgt := 78) F.1 F.2.1 d_Model_counts_52 (by decide) (fun c_7 => ?_) (fun c_7 => ?_)
                  · replace h := ip c_7 h
                    cases h
                    have ho : X_42 _ := ho
                    rw [eX_42] at ho
                    exact ho H locs ls hw (lv_sub hl [0, 1, 2] rfl)
                  · replace h := iq c_7 h
                    refine lv_aload_n F.1 F.2.1 d_Model_counts_55 rfl (lv_at hl 0 rfl) ?_
                    refine mg_0_50 F hK hw lk_1061 d_Model_counts_56 ?_
                    refine lv_iload_n F.1 F.2.1 d_Model_counts_59 rfl (lv_at hl 3 rfl) ?_
                    refine lv_aload_n F.1 F.2.1 d_Model_counts_60 rfl (lv_at hl 0 rfl) ?_
                    refine lv_aload_n F.1 F.2.1 d_Model_counts_61 rfl (lv_at hl 0 rfl) ?_
                    refine mg_0_55 F hK hw lk_1066 d_Model_counts_62 ?_
                    refine lv_iload_n F.1 F.2.1 d_Model_counts_65 rfl (lv_at hl 2 rfl) ?_
                    obtain ⟨hi_8, h⟩ := gd_ex h
                    refine ml_0_55 F hK hw hi_8 d_Model_counts_66 ?_
                    refine lv_iload_n F.1 F.2.1 d_Model_counts_67 rfl (lv_at hl 3 rfl) ?_
                    obtain ⟨v_10, hc_9, h⟩ := bd_ex h
                    refine cV_i F hA rfl hK hw (c_Model_valueOf l hc_9) trivial rfl (good_V lk_968 lk_970 ls_46 lk_10 lk_971) (mr_0 hK hw) hd_Model_valueOf ⟨Nat.le_of_ble_eq_true rfl, Nat.le_of_ble_eq_true rfl⟩ rfl hl.1 rfl (Nat.le_of_ble_eq_true rfl) d_Model_counts_68 ⟨(Nat.zero_le _), (Nat.zero_le _)⟩ (fun H locs hw => ?_)
                    obtain ⟨hi_11, h⟩ := gd_ex h
                    obtain ⟨S_12, eS_12, h⟩ := nm_ex h
                    refine ms_0_50 F hK hw hi_11 d_Model_counts_71 eS_12 (fun H locs hw => ?_)
                    obtain ⟨x3_13, ex3_13, h⟩ := nm_ex h
                    refine lv_iinc (v := x3_13) (lv' := [(3, .int x3_13), (0, .ref (ad 0 0)), (1, .int x1), (2, .int x2)]) F.1 F.2.1 d_Model_counts_72 hl (k := 3) rfl (by rw [ex3_13]; rfl) (by decide) rfl (fun ls hl => ?_)
                    refine lv_goto (tgt := 42) F.1 F.2.1 d_Model_counts_75 (by decide) ?_
                    cases h
                    have ho : P_42 _ := ho
                    rw [eP_42] at ho
                    exact ho H locs ls hw (lv_sub hl [1, 2, 3, 0] rfl)
                rw [eP_42] at hL_42
                exact hL_42 H locs ls hw (lv_sub hl [1, 2, 3, 0] rfl)
            rw [eP_32] at hL_32
            exact hL_32 H locs ls hw (lv_sub hl [1, 2, 0] rfl)
          · replace h := iq c_4 h
            exact J_28 S H locs ls hw (lv_sub hl [] rfl) o h ho
  exact key _ _ hw _ h (by rw [eX_0]; exact fun H locs pc ls hb hd hw => hQ H locs pc ls ad hb rfl hd hw)
theorem d_Model_rows_0 : decode b_Model_rows 0 = .ok (.aload_n 0, 1) := by decide +kernel
theorem d_Model_rows_1 : decode b_Model_rows 1 = .ok (.iload_n 1, 1) := by decide +kernel
theorem d_Model_rows_2 : decode b_Model_rows 2 = .ok (.invokevirtual 375, 3) := by decide +kernel
theorem d_Model_rows_5 : decode b_Model_rows 5 = .ok (.ifCond .ne 7, 3) := by decide +kernel
theorem d_Model_rows_8 : decode b_Model_rows 8 = .ok (.ldc2_w 378, 3) := by decide +kernel
theorem d_Model_rows_11 : decode b_Model_rows 11 = .ok (.lreturn, 1) := by decide +kernel
theorem d_Model_rows_12 : decode b_Model_rows 12 = .ok (.lconst 0, 1) := by decide +kernel
theorem d_Model_rows_13 : decode b_Model_rows 13 = .ok (.lstore_n 2, 1) := by decide +kernel
theorem d_Model_rows_14 : decode b_Model_rows 14 = .ok (.iconst 0, 1) := by decide +kernel
theorem d_Model_rows_15 : decode b_Model_rows 15 = .ok (.istore 4, 2) := by decide +kernel
theorem d_Model_rows_17 : decode b_Model_rows 17 = .ok (.iload 4, 2) := by decide +kernel
theorem d_Model_rows_19 : decode b_Model_rows 19 = .ok (.aload_n 0, 1) := by decide +kernel
theorem d_Model_rows_20 : decode b_Model_rows 20 = .ok (.getfield 326, 3) := by decide +kernel
theorem d_Model_rows_23 : decode b_Model_rows 23 = .ok (.if_icmp .ge 24, 3) := by decide +kernel
theorem d_Model_rows_26 : decode b_Model_rows 26 = .ok (.lload_n 2, 1) := by decide +kernel
theorem d_Model_rows_27 : decode b_Model_rows 27 = .ok (.aload_n 0, 1) := by decide +kernel
theorem d_Model_rows_28 : decode b_Model_rows 28 = .ok (.getfield 150, 3) := by decide +kernel
theorem d_Model_rows_31 : decode b_Model_rows 31 = .ok (.bipush 64, 2) := by decide +kernel
theorem d_Model_rows_33 : decode b_Model_rows 33 = .ok (.iload_n 1, 1) := by decide +kernel
theorem d_Model_rows_34 : decode b_Model_rows 34 = .ok (.imul, 1) := by decide +kernel
theorem d_Model_rows_35 : decode b_Model_rows 35 = .ok (.iload 4, 2) := by decide +kernel
theorem d_Model_rows_37 : decode b_Model_rows 37 = .ok (.iadd, 1) := by decide +kernel
theorem d_Model_rows_38 : decode b_Model_rows 38 = .ok (.laload, 1) := by decide +kernel
theorem d_Model_rows_39 : decode b_Model_rows 39 = .ok (.ladd, 1) := by decide +kernel
theorem d_Model_rows_40 : decode b_Model_rows 40 = .ok (.lstore_n 2, 1) := by decide +kernel
theorem d_Model_rows_41 : decode b_Model_rows 41 = .ok (.iinc 4 1, 3) := by decide +kernel
theorem d_Model_rows_44 : decode b_Model_rows 44 = .ok (.goto (-27), 3) := by decide +kernel
theorem d_Model_rows_47 : decode b_Model_rows 47 = .ok (.lload_n 2, 1) := by decide +kernel
theorem d_Model_rows_48 : decode b_Model_rows 48 = .ok (.lreturn, 1) := by decide +kernel
set_option maxHeartbeats 4000000 in
set_option maxRecDepth 100000 in
theorem c_Model_rows (l : Launch) {S : St} {x1 : Int32} {S' : St} {r : Int64} (h : f_Model_rows S x1 = some (r, S')) : ML mw l y_Model_rows b_Model_rows 5 (some .long) 3 80 0 0 (fun ad => [.ref (ad 0 0), .int x1]) aT aE S r S' := by
  refine ML_of "LawfulLotsModel" rfl (by decide) (fun _ => Nat.le_of_ble_eq_true rfl) ?_
  intro p e s m args below meth c D ar ad A Q ls hP F hK hA hw hl hQ
  have hl : lv_has ls 5 [(0, .ref (ad 0 0)), (1, .int x1)] := hl
  obtain ⟨X_0, eX_0⟩ : ∃ X : (Int64 × St) → Prop, X = (fun q => ∀ (H : Heap) (locs : List Loc) (pc : Nat) (ls : Array Slot), decode b_Model_rows pc = .ok (.lreturn, 1) → Bw mw D ar A s.heap H locs ad q.2 → W p l e (RM 3 80) s m args below meth c H locs 0 0 Q (F0 m pc ls [.long q.1])) := ⟨_, rfl⟩
  have key : ∀ (H : Heap) (locs : List Loc), Bw mw D ar A s.heap H locs ad S → ∀ o, f_Model_rows S x1 = some o → X_0 o → W p l e (RM 3 80) s m args below meth c H locs 0 0 Q (F0 m 0 ls []) := by
    intro H locs hw o h ho
    unfold f_Model_rows at h
    refine lv_aload_n F.1 F.2.1 d_Model_rows_0 rfl (lv_at hl 0 rfl) ?_
    refine lv_iload_n F.1 F.2.1 d_Model_rows_1 rfl (lv_at hl 1 rfl) ?_
    obtain ⟨v_2, S_3, hc_1, h⟩ := bd2_ex h
    refine cV_i F hA rfl hK hw (c_Model_counts l hc_1) trivial rfl (good_V lk_1428 lk_1430 ls_84 lk_10 lk_1431) (mr_0 hK hw) hd_Model_counts ⟨Nat.le_of_ble_eq_true rfl, Nat.le_of_ble_eq_true rfl⟩ rfl hl.1 rfl (Nat.le_of_ble_eq_true rfl) d_Model_rows_2 ⟨(Nat.zero_le _), (Nat.zero_le _)⟩ (fun H locs hw => ?_)
    refine lv_if_ne (tgt := 12) F.1 F.2.1 d_Model_rows_5 (by decide) (fun c_4 => ?_) (fun c_4 => ?_)
    · replace h := iq c_4 h
      refine lv_lconst (v := 0) F.1 F.2.1 d_Model_rows_12 (by decide) ?_
      refine lv_lstore_n (lv' := [(2, .long (0 : Int64)), (0, .ref (ad 0 0)), (1, .int x1)]) F.1 F.2.1 d_Model_rows_13 rfl hl (by decide) rfl (fun ls hl => ?_)
      refine lv_iconst (v := 0) F.1 F.2.1 d_Model_rows_14 (by decide) ?_
      refine lv_istore (lv' := [(4, .int (0 : Int32)), (2, .long (0 : Int64)), (0, .ref (ad 0 0)), (1, .int x1)]) F.1 F.2.1 d_Model_rows_15 hl (by decide) rfl (fun ls hl => ?_)
      obtain ⟨x2_9, hc_10, h⟩ := bd_ex h
      obtain ⟨X_17, eX_17⟩ : ∃ X : Int64 → Prop, X = (fun q => ∀ (H : Heap) (locs : List Loc) (ls : Array Slot), Bw mw D ar A s.heap H locs ad S_3 → lv_has ls 5 [(2, .long q)] → W p l e (RM 3 80) s m args below meth c H locs 0 0 Q (F0 m 47 ls [])) := ⟨_, rfl⟩
      have hX_17 : X_17 x2_9 := by
        rw [eX_17]
        intro H locs ls hw hl
        refine lv_lload_n F.1 F.2.1 d_Model_rows_47 rfl (lv_at hl 0 rfl) ?_
        cases h
        have ho : X_0 _ := ho
        rw [eX_0] at ho
        exact ho H locs _ ls d_Model_rows_48 hw
      obtain ⟨P_17, eP_17⟩ : ∃ P : (Int64 × Int32) → Prop, P = (fun q => ∀ (H : Heap) (locs : List Loc) (ls : Array Slot), Bw mw D ar A s.heap H locs ad S_3 → lv_has ls 5 [(0, .ref (ad 0 0)), (1, .int x1), (2, .long q.1), (4, .int q.2)] → W p l e (RM 3 80) s m args below meth c H locs 0 0 Q (F0 m 17 ls [])) := ⟨_, rfl⟩
      have hL_17 : P_17 ((0 : Int64), (0 : Int32)) := by
        refine wh_gp (P := P_17) (X := X_17) hc_10 hX_17 ?_
        clear h
        intro q o h ho
        obtain ⟨x2, x4⟩ := q
        have h : Model_rows_l17 S_3 x1 x2 x4 = some o := h
        unfold Model_rows_l17 at h
        rw [eP_17]
        intro H locs ls hw hl
        refine lv_iload F.1 F.2.1 d_Model_rows_17 (lv_at hl 3 rfl) ?_
        refine lv_aload_n F.1 F.2.1 d_Model_rows_19 rfl (lv_at hl 0 rfl) ?_
        refine mg_0_54 F hK hw lk_1065 d_Model_rows_20 ?_
        refine lv_icmp_ge (tgt := 47) F.1 F.2.1 d_Model_rows_23 (by decide) (fun c_5 => ?_) (fun c_5 => ?_)
        · replace h := ip c_5 h
          cases h
          have ho : X_17 _ := ho
          rw [eX_17] at ho
          exact ho H locs ls hw (lv_sub hl [2] rfl)
        · replace h := iq c_5 h
          refine lv_lload_n F.1 F.2.1 d_Model_rows_26 rfl (lv_at hl 2 rfl) ?_
          refine lv_aload_n F.1 F.2.1 d_Model_rows_27 rfl (lv_at hl 0 rfl) ?_
          refine mg_0_66 F hK hw lk_1077 d_Model_rows_28 ?_
          refine lv_bipush (v := 64) F.1 F.2.1 d_Model_rows_31 (by decide) ?_
          refine lv_iload_n F.1 F.2.1 d_Model_rows_33 rfl (lv_at hl 1 rfl) ?_
          refine lv_imul F.1 F.2.1 d_Model_rows_34 ?_
          refine lv_iload F.1 F.2.1 d_Model_rows_35 (lv_at hl 3 rfl) ?_
          refine lv_iadd F.1 F.2.1 d_Model_rows_37 ?_
          obtain ⟨hi_6, h⟩ := gd_ex h
          refine ml_0_66 F hK hw hi_6 d_Model_rows_38 ?_
          refine lv_ladd F.1 F.2.1 d_Model_rows_39 ?_
          obtain ⟨x2_7, ex2_7, h⟩ := nm_ex h
          refine lv_nmL ex2_7 ?_
          refine lv_lstore_n (lv' := [(2, .long x2_7), (0, .ref (ad 0 0)), (1, .int x1), (4, .int x4)]) F.1 F.2.1 d_Model_rows_40 rfl hl (by decide) rfl (fun ls hl => ?_)
          obtain ⟨x4_8, ex4_8, h⟩ := nm_ex h
          refine lv_iinc (v := x4_8) (lv' := [(4, .int x4_8), (2, .long x2_7), (0, .ref (ad 0 0)), (1, .int x1)]) F.1 F.2.1 d_Model_rows_41 hl (k := 3) rfl (by rw [ex4_8]; rfl) (by decide) rfl (fun ls hl => ?_)
          refine lv_goto (tgt := 17) F.1 F.2.1 d_Model_rows_44 (by decide) ?_
          cases h
          have ho : P_17 _ := ho
          rw [eP_17] at ho
          exact ho H locs ls hw (lv_sub hl [2, 3, 1, 0] rfl)
      rw [eP_17] at hL_17
      exact hL_17 H locs ls hw (lv_sub hl [2, 3, 1, 0] rfl)
    · replace h := ip c_4 h
      refine lv_ldc2 F.1 F.2.1 F.2.2.2.1 (F.2.2.2.2 _ lk_1432) d_Model_rows_8 ?_
      cases h
      have ho : X_0 _ := ho
      rw [eX_0] at ho
      exact ho H locs _ ls d_Model_rows_11 hw
  exact key _ _ hw _ h (by rw [eX_0]; exact fun H locs pc ls hd hw => hQ H locs pc ls ad rfl hd hw)
theorem d_Model_row_0 : decode b_Model_row 0 = .ok (.lload_n 2, 1) := by decide +kernel
theorem d_Model_row_1 : decode b_Model_row 1 = .ok (.lconst 0, 1) := by decide +kernel
theorem d_Model_row_2 : decode b_Model_row 2 = .ok (.lcmp, 1) := by decide +kernel
theorem d_Model_row_3 : decode b_Model_row 3 = .ok (.ifCond .lt 22, 3) := by decide +kernel
theorem d_Model_row_6 : decode b_Model_row 6 = .ok (.iload 4, 2) := by decide +kernel
theorem d_Model_row_8 : decode b_Model_row 8 = .ok (.ifCond .lt 17, 3) := by decide +kernel
theorem d_Model_row_11 : decode b_Model_row 11 = .ok (.iload 4, 2) := by decide +kernel
theorem d_Model_row_13 : decode b_Model_row 13 = .ok (.iload_n 1, 1) := by decide +kernel
theorem d_Model_row_14 : decode b_Model_row 14 = .ok (.if_icmp .ge 11, 3) := by decide +kernel
theorem d_Model_row_17 : decode b_Model_row 17 = .ok (.aload_n 0, 1) := by decide +kernel
theorem d_Model_row_18 : decode b_Model_row 18 = .ok (.iload_n 1, 1) := by decide +kernel
theorem d_Model_row_19 : decode b_Model_row 19 = .ok (.invokevirtual 375, 3) := by decide +kernel
theorem d_Model_row_22 : decode b_Model_row 22 = .ok (.ifCond .ne 5, 3) := by decide +kernel
theorem d_Model_row_25 : decode b_Model_row 25 = .ok (.iconst (-1), 1) := by decide +kernel
theorem d_Model_row_26 : decode b_Model_row 26 = .ok (.ireturn, 1) := by decide +kernel
theorem d_Model_row_27 : decode b_Model_row 27 = .ok (.lload_n 2, 1) := by decide +kernel
theorem d_Model_row_28 : decode b_Model_row 28 = .ok (.lstore 5, 2) := by decide +kernel
theorem d_Model_row_30 : decode b_Model_row 30 = .ok (.iconst (-1), 1) := by decide +kernel
theorem d_Model_row_31 : decode b_Model_row 31 = .ok (.istore 7, 2) := by decide +kernel
theorem d_Model_row_33 : decode b_Model_row 33 = .ok (.iconst 0, 1) := by decide +kernel
theorem d_Model_row_34 : decode b_Model_row 34 = .ok (.istore 8, 2) := by decide +kernel
theorem d_Model_row_36 : decode b_Model_row 36 = .ok (.iload 8, 2) := by decide +kernel
theorem d_Model_row_38 : decode b_Model_row 38 = .ok (.iload 4, 2) := by decide +kernel
theorem d_Model_row_40 : decode b_Model_row 40 = .ok (.if_icmp .gt 121, 3) := by decide +kernel
theorem d_Model_row_43 : decode b_Model_row 43 = .ok (.iconst (-1), 1) := by decide +kernel
theorem d_Model_row_44 : decode b_Model_row 44 = .ok (.istore 9, 2) := by decide +kernel
theorem d_Model_row_46 : decode b_Model_row 46 = .ok (.iconst 0, 1) := by decide +kernel
theorem d_Model_row_47 : decode b_Model_row 47 = .ok (.istore 10, 2) := by decide +kernel
theorem d_Model_row_49 : decode b_Model_row 49 = .ok (.iload 10, 2) := by decide +kernel
theorem d_Model_row_51 : decode b_Model_row 51 = .ok (.aload_n 0, 1) := by decide +kernel
theorem d_Model_row_52 : decode b_Model_row 52 = .ok (.getfield 326, 3) := by decide +kernel
theorem d_Model_row_55 : decode b_Model_row 55 = .ok (.if_icmp .ge 88, 3) := by decide +kernel
theorem d_Model_row_58 : decode b_Model_row 58 = .ok (.iload 9, 2) := by decide +kernel
theorem d_Model_row_60 : decode b_Model_row 60 = .ok (.iconst (-1), 1) := by decide +kernel
theorem d_Model_row_61 : decode b_Model_row 61 = .ok (.if_icmp .ne 82, 3) := by decide +kernel
theorem d_Model_row_64 : decode b_Model_row 64 = .ok (.iload 7, 2) := by decide +kernel
theorem d_Model_row_66 : decode b_Model_row 66 = .ok (.iconst (-1), 1) := by decide +kernel
theorem d_Model_row_67 : decode b_Model_row 67 = .ok (.if_icmp .eq 22, 3) := by decide +kernel
theorem d_Model_row_70 : decode b_Model_row 70 = .ok (.aload_n 0, 1) := by decide +kernel
theorem d_Model_row_71 : decode b_Model_row 71 = .ok (.getfield 147, 3) := by decide +kernel
theorem d_Model_row_74 : decode b_Model_row 74 = .ok (.bipush 64, 2) := by decide +kernel
theorem d_Model_row_76 : decode b_Model_row 76 = .ok (.iload 7, 2) := by decide +kernel
theorem d_Model_row_78 : decode b_Model_row 78 = .ok (.imul, 1) := by decide +kernel
theorem d_Model_row_79 : decode b_Model_row 79 = .ok (.iload 10, 2) := by decide +kernel
theorem d_Model_row_81 : decode b_Model_row 81 = .ok (.iadd, 1) := by decide +kernel
theorem d_Model_row_82 : decode b_Model_row 82 = .ok (.baload, 1) := by decide +kernel
theorem d_Model_row_83 : decode b_Model_row 83 = .ok (.ifCond .ne 6, 3) := by decide +kernel
theorem d_Model_row_86 : decode b_Model_row 86 = .ok (.goto 51, 3) := by decide +kernel
theorem d_Model_row_89 : decode b_Model_row 89 = .ok (.lload 5, 2) := by decide +kernel
theorem d_Model_row_91 : decode b_Model_row 91 = .ok (.aload_n 0, 1) := by decide +kernel
theorem d_Model_row_92 : decode b_Model_row 92 = .ok (.getfield 150, 3) := by decide +kernel
theorem d_Model_row_95 : decode b_Model_row 95 = .ok (.bipush 64, 2) := by decide +kernel
theorem d_Model_row_97 : decode b_Model_row 97 = .ok (.iload_n 1, 1) := by decide +kernel
theorem d_Model_row_98 : decode b_Model_row 98 = .ok (.iload 8, 2) := by decide +kernel
theorem d_Model_row_100 : decode b_Model_row 100 = .ok (.isub, 1) := by decide +kernel
theorem d_Model_row_101 : decode b_Model_row 101 = .ok (.imul, 1) := by decide +kernel
theorem d_Model_row_102 : decode b_Model_row 102 = .ok (.iload 10, 2) := by decide +kernel
theorem d_Model_row_104 : decode b_Model_row 104 = .ok (.iadd, 1) := by decide +kernel
theorem d_Model_row_105 : decode b_Model_row 105 = .ok (.laload, 1) := by decide +kernel
theorem d_Model_row_106 : decode b_Model_row 106 = .ok (.lcmp, 1) := by decide +kernel
theorem d_Model_row_107 : decode b_Model_row 107 = .ok (.ifCond .ge 10, 3) := by decide +kernel
theorem d_Model_row_110 : decode b_Model_row 110 = .ok (.iload 10, 2) := by decide +kernel
theorem d_Model_row_112 : decode b_Model_row 112 = .ok (.istore 9, 2) := by decide +kernel
theorem d_Model_row_114 : decode b_Model_row 114 = .ok (.goto 23, 3) := by decide +kernel
theorem d_Model_row_117 : decode b_Model_row 117 = .ok (.lload 5, 2) := by decide +kernel
theorem d_Model_row_119 : decode b_Model_row 119 = .ok (.aload_n 0, 1) := by decide +kernel
theorem d_Model_row_120 : decode b_Model_row 120 = .ok (.getfield 150, 3) := by decide +kernel
theorem d_Model_row_123 : decode b_Model_row 123 = .ok (.bipush 64, 2) := by decide +kernel
theorem d_Model_row_125 : decode b_Model_row 125 = .ok (.iload_n 1, 1) := by decide +kernel
theorem d_Model_row_126 : decode b_Model_row 126 = .ok (.iload 8, 2) := by decide +kernel
theorem d_Model_row_128 : decode b_Model_row 128 = .ok (.isub, 1) := by decide +kernel
theorem d_Model_row_129 : decode b_Model_row 129 = .ok (.imul, 1) := by decide +kernel
theorem d_Model_row_130 : decode b_Model_row 130 = .ok (.iload 10, 2) := by decide +kernel
theorem d_Model_row_132 : decode b_Model_row 132 = .ok (.iadd, 1) := by decide +kernel
theorem d_Model_row_133 : decode b_Model_row 133 = .ok (.laload, 1) := by decide +kernel
theorem d_Model_row_134 : decode b_Model_row 134 = .ok (.lsub, 1) := by decide +kernel
theorem d_Model_row_135 : decode b_Model_row 135 = .ok (.lstore 5, 2) := by decide +kernel
theorem d_Model_row_137 : decode b_Model_row 137 = .ok (.iinc 10 1, 3) := by decide +kernel
theorem d_Model_row_140 : decode b_Model_row 140 = .ok (.goto (-91), 3) := by decide +kernel
theorem d_Model_row_143 : decode b_Model_row 143 = .ok (.iload 9, 2) := by decide +kernel
theorem d_Model_row_145 : decode b_Model_row 145 = .ok (.iconst (-1), 1) := by decide +kernel
theorem d_Model_row_146 : decode b_Model_row 146 = .ok (.if_icmp .ne 5, 3) := by decide +kernel
theorem d_Model_row_149 : decode b_Model_row 149 = .ok (.iconst (-1), 1) := by decide +kernel
theorem d_Model_row_150 : decode b_Model_row 150 = .ok (.ireturn, 1) := by decide +kernel
theorem d_Model_row_151 : decode b_Model_row 151 = .ok (.iload 9, 2) := by decide +kernel
theorem d_Model_row_153 : decode b_Model_row 153 = .ok (.istore 7, 2) := by decide +kernel
theorem d_Model_row_155 : decode b_Model_row 155 = .ok (.iinc 8 1, 3) := by decide +kernel
theorem d_Model_row_158 : decode b_Model_row 158 = .ok (.goto (-122), 3) := by decide +kernel
theorem d_Model_row_161 : decode b_Model_row 161 = .ok (.iload 7, 2) := by decide +kernel
theorem d_Model_row_163 : decode b_Model_row 163 = .ok (.ireturn, 1) := by decide +kernel
set_option maxHeartbeats 4000000 in
set_option maxRecDepth 100000 in
theorem c_Model_row (l : Launch) {S : St} {x1 : Int32} {x2 : Int64} {x4 : Int32} {S' : St} {r : Int32} (h : f_Model_row S x1 x2 x4 = some (r, S')) : MI mw l y_Model_row b_Model_row 11 (some .int) 3 80 0 0 (fun ad => [.ref (ad 0 0), .int x1, .long x2, .int x4]) aT aE S r S' := by
  refine MI_of "LawfulLotsModel" rfl (by decide) (fun _ => Nat.le_of_ble_eq_true rfl) ?_
  intro p e s m args below meth c D ar ad A Q ls hP F hK hA hw hl hQ
  have hl : lv_has ls 11 [(0, .ref (ad 0 0)), (1, .int x1), (2, .long x2), (4, .int x4)] := hl
  obtain ⟨X_0, eX_0⟩ : ∃ X : (Int32 × St) → Prop, X = (fun q => ∀ (H : Heap) (locs : List Loc) (pc : Nat) (ls : Array Slot), decode b_Model_row pc = .ok (.ireturn, 1) → Bw mw D ar A s.heap H locs ad q.2 → W p l e (RM 3 80) s m args below meth c H locs 0 0 Q (F0 m pc ls [.int q.1])) := ⟨_, rfl⟩
  have key : ∀ (H : Heap) (locs : List Loc), Bw mw D ar A s.heap H locs ad S → ∀ o, f_Model_row S x1 x2 x4 = some o → X_0 o → W p l e (RM 3 80) s m args below meth c H locs 0 0 Q (F0 m 0 ls []) := by
    intro H locs hw o h ho
    unfold f_Model_row at h
    have J_25 : ∀ (S : St) (H : Heap) (locs : List Loc) (ls : Array Slot), Bw mw D ar A s.heap H locs ad S → lv_has ls 11 [] → ∀ o, Model_row_j25 S = some o → X_0 o → W p l e (RM 3 80) s m args below meth c H locs 0 0 Q (F0 m 25 ls []) := by
      intro S H locs ls hw hl o h ho
      unfold Model_row_j25 at h
      refine lv_iconst (v := -1) F.1 F.2.1 d_Model_row_25 (by decide) ?_
      cases h
      have ho : X_0 _ := ho
      rw [eX_0] at ho
      exact ho H locs _ ls d_Model_row_26 hw
    refine lv_lload_n F.1 F.2.1 d_Model_row_0 rfl (lv_at hl 2 rfl) ?_
    refine lv_lconst (v := 0) F.1 F.2.1 d_Model_row_1 (by decide) ?_
    refine W.lcmp F.1 F.2.1 d_Model_row_2 ?_
    refine lv_if_lt (tgt := 25) F.1 F.2.1 d_Model_row_3 (by decide) (fun c_1 => ?_) (fun c_1 => ?_)
    · replace h := ip c_1 h
      exact J_25 S H locs ls hw (lv_sub hl [] rfl) o h ho
    · replace h := iq c_1 h
      refine lv_iload F.1 F.2.1 d_Model_row_6 (lv_at hl 3 rfl) ?_
      refine lv_if_lt (tgt := 25) F.1 F.2.1 d_Model_row_8 (by decide) (fun c_2 => ?_) (fun c_2 => ?_)
      · replace h := ip c_2 h
        exact J_25 S H locs ls hw (lv_sub hl [] rfl) o h ho
      · replace h := iq c_2 h
        refine lv_iload F.1 F.2.1 d_Model_row_11 (lv_at hl 3 rfl) ?_
        refine lv_iload_n F.1 F.2.1 d_Model_row_13 rfl (lv_at hl 1 rfl) ?_
        refine lv_icmp_ge (tgt := 25) F.1 F.2.1 d_Model_row_14 (by decide) (fun c_3 => ?_) (fun c_3 => ?_)
        · replace h := ip c_3 h
          exact J_25 S H locs ls hw (lv_sub hl [] rfl) o h ho
        · replace h := iq c_3 h
          refine lv_aload_n F.1 F.2.1 d_Model_row_17 rfl (lv_at hl 0 rfl) ?_
          refine lv_iload_n F.1 F.2.1 d_Model_row_18 rfl (lv_at hl 1 rfl) ?_
          obtain ⟨v_5, S_6, hc_4, h⟩ := bd2_ex h
          refine cV_i F hA rfl hK hw (c_Model_counts l hc_4) trivial rfl (good_V lk_1428 lk_1430 ls_84 lk_10 lk_1431) (mr_0 hK hw) hd_Model_counts ⟨Nat.le_of_ble_eq_true rfl, Nat.le_of_ble_eq_true rfl⟩ rfl hl.1 rfl (Nat.le_of_ble_eq_true rfl) d_Model_row_19 ⟨(Nat.zero_le _), (Nat.zero_le _)⟩ (fun H locs hw => ?_)
          refine lv_if_ne (tgt := 27) F.1 F.2.1 d_Model_row_22 (by decide) (fun c_7 => ?_) (fun c_7 => ?_)
          · replace h := iq c_7 h
            refine lv_lload_n F.1 F.2.1 d_Model_row_27 rfl (lv_at hl 2 rfl) ?_
            refine lv_lstore (lv' := [(5, .long x2), (0, .ref (ad 0 0)), (1, .int x1), (2, .long x2), (4, .int x4)]) F.1 F.2.1 d_Model_row_28 hl (by decide) rfl (fun ls hl => ?_)
            refine lv_iconst (v := -1) F.1 F.2.1 d_Model_row_30 (by decide) ?_
            refine lv_istore (lv' := [(7, .int (-1 : Int32)), (5, .long x2), (0, .ref (ad 0 0)), (1, .int x1), (2, .long x2), (4, .int x4)]) F.1 F.2.1 d_Model_row_31 hl (by decide) rfl (fun ls hl => ?_)
            refine lv_iconst (v := 0) F.1 F.2.1 d_Model_row_33 (by decide) ?_
            refine lv_istore (lv' := [(8, .int (0 : Int32)), (7, .int (-1 : Int32)), (5, .long x2), (0, .ref (ad 0 0)), (1, .int x1), (2, .long x2), (4, .int x4)]) F.1 F.2.1 d_Model_row_34 hl (by decide) rfl (fun ls hl => ?_)
            obtain ⟨P_36, eP_36⟩ : ∃ P : (Int64 × Int32 × Int32) → Prop, P = (fun q => ∀ (H : Heap) (locs : List Loc) (ls : Array Slot), Bw mw D ar A s.heap H locs ad S_6 → lv_has ls 11 [(0, .ref (ad 0 0)), (1, .int x1), (4, .int x4), (5, .long q.1), (7, .int q.2.1), (8, .int q.2.2)] → W p l e (RM 3 80) s m args below meth c H locs 0 0 Q (F0 m 36 ls [])) := ⟨_, rfl⟩
            have hL_36 : P_36 (x2, (-1 : Int32), (0 : Int32)) := by
              refine wh_gp (P := P_36) (X := X_0) h ho ?_
              clear h ho
              intro q o h ho
              obtain ⟨x5, x7, x8⟩ := q
              have h : Model_row_l36 S_6 x1 x4 x5 x7 x8 = some o := h
              unfold Model_row_l36 at h
              rw [eP_36]
              intro H locs ls hw hl
              have J_143_l36 : ∀ (x5 : Int64) (x8 : Int32) (x9 : Int32) (H : Heap) (locs : List Loc) (ls : Array Slot), Bw mw D ar A s.heap H locs ad S_6 → lv_has ls 11 [(0, .ref (ad 0 0)), (1, .int x1), (4, .int x4), (5, .long x5), (8, .int x8), (9, .int x9)] → ∀ o, Model_row_j143_l36 S_6 x1 x4 x5 x8 x9 = some o → (Sum.elim P_36 X_0) o → W p l e (RM 3 80) s m args below meth c H locs 0 0 Q (F0 m 143 ls []) := by
                intro x5 x8 x9 H locs ls hw hl o h ho
                unfold Model_row_j143_l36 at h
                refine lv_iload F.1 F.2.1 d_Model_row_143 (lv_at hl 5 rfl) ?_
                refine lv_iconst (v := -1) F.1 F.2.1 d_Model_row_145 (by decide) ?_
                refine lv_icmp_ne (tgt := 151) F.1 F.2.1 d_Model_row_146 (by decide) (fun c_22 => ?_) (fun c_22 => ?_)
                · replace h := iq c_22 h
                  refine lv_iload F.1 F.2.1 d_Model_row_151 (lv_at hl 5 rfl) ?_
                  refine lv_istore (lv' := [(7, .int x9), (0, .ref (ad 0 0)), (1, .int x1), (4, .int x4), (5, .long x5), (8, .int x8), (9, .int x9)]) F.1 F.2.1 d_Model_row_153 hl (by decide) rfl (fun ls hl => ?_)
                  obtain ⟨x8_23, ex8_23, h⟩ := nm_ex h
                  refine lv_iinc (v := x8_23) (lv' := [(8, .int x8_23), (7, .int x9), (0, .ref (ad 0 0)), (1, .int x1), (4, .int x4), (5, .long x5), (9, .int x9)]) F.1 F.2.1 d_Model_row_155 hl (k := 5) rfl (by rw [ex8_23]; rfl) (by decide) rfl (fun ls hl => ?_)
                  refine lv_goto (tgt := 36) F.1 F.2.1 d_Model_row_158 (by decide) ?_
                  cases h
                  have ho : P_36 _ := ho
                  rw [eP_36] at ho
                  exact ho H locs ls hw (lv_sub hl [2, 3, 4, 5, 1, 0] rfl)
                · replace h := ip c_22 h
                  refine lv_iconst (v := -1) F.1 F.2.1 d_Model_row_149 (by decide) ?_
                  cases h
                  have ho : X_0 _ := ho
                  rw [eX_0] at ho
                  exact ho H locs _ ls d_Model_row_150 hw
              refine lv_iload F.1 F.2.1 d_Model_row_36 (lv_at hl 5 rfl) ?_
              refine lv_iload F.1 F.2.1 d_Model_row_38 (lv_at hl 2 rfl) ?_
              refine lv_icmp_gt (tgt := 161) F.1 F.2.1 d_Model_row_40 (by decide) (fun c_8 => ?_) (fun c_8 => ?_)
              · replace h := ip c_8 h
                refine lv_iload F.1 F.2.1 d_Model_row_161 (lv_at hl 4 rfl) ?_
                cases h
                have ho : X_0 _ := ho
                rw [eX_0] at ho
                exact ho H locs _ ls d_Model_row_163 hw
              · replace h := iq c_8 h
                refine lv_iconst (v := -1) F.1 F.2.1 d_Model_row_43 (by decide) ?_
                refine lv_istore (lv' := [(9, .int (-1 : Int32)), (0, .ref (ad 0 0)), (1, .int x1), (4, .int x4), (5, .long x5), (7, .int x7), (8, .int x8)]) F.1 F.2.1 d_Model_row_44 hl (by decide) rfl (fun ls hl => ?_)
                refine lv_iconst (v := 0) F.1 F.2.1 d_Model_row_46 (by decide) ?_
                refine lv_istore (lv' := [(10, .int (0 : Int32)), (9, .int (-1 : Int32)), (0, .ref (ad 0 0)), (1, .int x1), (4, .int x4), (5, .long x5), (7, .int x7), (8, .int x8)]) F.1 F.2.1 d_Model_row_47 hl (by decide) rfl (fun ls hl => ?_)
                obtain ⟨x5_19, x9_20, hc_21, h⟩ := bd2_ex h
                obtain ⟨X_49, eX_49⟩ : ∃ X : (Int64 × Int32) → Prop, X = (fun q => ∀ (H : Heap) (locs : List Loc) (ls : Array Slot), Bw mw D ar A s.heap H locs ad S_6 → lv_has ls 11 [(0, .ref (ad 0 0)), (1, .int x1), (4, .int x4), (5, .long q.1), (8, .int x8), (9, .int q.2)] → W p l e (RM 3 80) s m args below meth c H locs 0 0 Q (F0 m 143 ls [])) := ⟨_, rfl⟩
                have hX_49 : X_49 (x5_19, x9_20) := by
                  rw [eX_49]
                  intro H locs ls hw hl
                  exact J_143_l36 x5_19 x8 x9_20 H locs ls hw (lv_sub hl [0, 1, 2, 3, 4, 5] rfl) o h ho
                obtain ⟨P_49, eP_49⟩ : ∃ P : (Int64 × Int32 × Int32) → Prop, P = (fun q => ∀ (H : Heap) (locs : List Loc) (ls : Array Slot), Bw mw D ar A s.heap H locs ad S_6 → lv_has ls 11 [(0, .ref (ad 0 0)), (1, .int x1), (4, .int x4), (5, .long q.1), (7, .int x7), (8, .int x8), (9, .int q.2.1), (10, .int q.2.2)] → W p l e (RM 3 80) s m args below meth c H locs 0 0 Q (F0 m 49 ls [])) := ⟨_, rfl⟩
                have hL_49 : P_49 (x5, (-1 : Int32), (0 : Int32)) := by
                  refine wh_gp (P := P_49) (X := X_49) hc_21 hX_49 ?_
                  clear h
                  intro q o h ho
                  obtain ⟨x5, x9, x10⟩ := q
                  have h : Model_row_l49 S_6 x1 x4 x7 x8 x5 x9 x10 = some o := h
                  unfold Model_row_l49 at h
                  rw [eP_49]
                  intro H locs ls hw hl
                  have J_137_l49 : ∀ (x5 : Int64) (x9 : Int32) (x10 : Int32) (H : Heap) (locs : List Loc) (ls : Array Slot), Bw mw D ar A s.heap H locs ad S_6 → lv_has ls 11 [(0, .ref (ad 0 0)), (1, .int x1), (4, .int x4), (5, .long x5), (7, .int x7), (8, .int x8), (9, .int x9), (10, .int x10)] → ∀ o, Model_row_j137_l49 S_6 x1 x4 x5 x7 x8 x9 x10 = some o → (Sum.elim P_49 X_49) o → W p l e (RM 3 80) s m args below meth c H locs 0 0 Q (F0 m 137 ls []) := by
                    intro x5 x9 x10 H locs ls hw hl o h ho
                    unfold Model_row_j137_l49 at h
                    obtain ⟨x10_18, ex10_18, h⟩ := nm_ex h
                    refine lv_iinc (v := x10_18) (lv' := [(10, .int x10_18), (0, .ref (ad 0 0)), (1, .int x1), (4, .int x4), (5, .long x5), (7, .int x7), (8, .int x8), (9, .int x9)]) F.1 F.2.1 d_Model_row_137 hl (k := 7) rfl (by rw [ex10_18]; rfl) (by decide) rfl (fun ls hl => ?_)
                    refine lv_goto (tgt := 49) F.1 F.2.1 d_Model_row_140 (by decide) ?_
                    cases h
                    have ho : P_49 _ := ho
                    rw [eP_49] at ho
                    exact ho H locs ls hw (lv_sub hl [1, 2, 3, 4, 5, 6, 7, 0] rfl)
                  have J_89_l49 : ∀ (x5 : Int64) (x9 : Int32) (x10 : Int32) (H : Heap) (locs : List Loc) (ls : Array Slot), Bw mw D ar A s.heap H locs ad S_6 → lv_has ls 11 [(0, .ref (ad 0 0)), (1, .int x1), (4, .int x4), (5, .long x5), (7, .int x7), (8, .int x8), (9, .int x9), (10, .int x10)] → ∀ o, Model_row_j89_l49 S_6 x1 x4 x5 x7 x8 x9 x10 = some o → (Sum.elim P_49 X_49) o → W p l e (RM 3 80) s m args below meth c H locs 0 0 Q (F0 m 89 ls []) := by
                    intro x5 x9 x10 H locs ls hw hl o h ho
                    unfold Model_row_j89_l49 at h
                    refine lv_lload F.1 F.2.1 d_Model_row_89 (lv_at hl 3 rfl) ?_
                    refine lv_aload_n F.1 F.2.1 d_Model_row_91 rfl (lv_at hl 0 rfl) ?_
                    refine mg_0_66 F hK hw lk_1077 d_Model_row_92 ?_
                    refine lv_bipush (v := 64) F.1 F.2.1 d_Model_row_95 (by decide) ?_
                    refine lv_iload_n F.1 F.2.1 d_Model_row_97 rfl (lv_at hl 1 rfl) ?_
                    refine lv_iload F.1 F.2.1 d_Model_row_98 (lv_at hl 5 rfl) ?_
                    refine lv_isub F.1 F.2.1 d_Model_row_100 ?_
                    refine lv_imul F.1 F.2.1 d_Model_row_101 ?_
                    refine lv_iload F.1 F.2.1 d_Model_row_102 (lv_at hl 7 rfl) ?_
                    refine lv_iadd F.1 F.2.1 d_Model_row_104 ?_
                    obtain ⟨hi_14, h⟩ := gd_ex h
                    refine ml_0_66 F hK hw hi_14 d_Model_row_105 ?_
                    refine W.lcmp F.1 F.2.1 d_Model_row_106 ?_
                    refine lv_if_ge (tgt := 117) F.1 F.2.1 d_Model_row_107 (by decide) (fun c_15 => ?_) (fun c_15 => ?_)
                    · replace h := ip c_15 h
                      refine lv_lload F.1 F.2.1 d_Model_row_117 (lv_at hl 3 rfl) ?_
                      refine lv_aload_n F.1 F.2.1 d_Model_row_119 rfl (lv_at hl 0 rfl) ?_
                      refine mg_0_66 F hK hw lk_1077 d_Model_row_120 ?_
                      refine lv_bipush (v := 64) F.1 F.2.1 d_Model_row_123 (by decide) ?_
                      refine lv_iload_n F.1 F.2.1 d_Model_row_125 rfl (lv_at hl 1 rfl) ?_
                      refine lv_iload F.1 F.2.1 d_Model_row_126 (lv_at hl 5 rfl) ?_
                      refine lv_isub F.1 F.2.1 d_Model_row_128 ?_
                      refine lv_imul F.1 F.2.1 d_Model_row_129 ?_
                      refine lv_iload F.1 F.2.1 d_Model_row_130 (lv_at hl 7 rfl) ?_
                      refine lv_iadd F.1 F.2.1 d_Model_row_132 ?_
                      obtain ⟨hi_16, h⟩ := gd_ex h
                      refine ml_0_66 F hK hw hi_16 d_Model_row_133 ?_
                      refine lv_lsub F.1 F.2.1 d_Model_row_134 ?_
                      obtain ⟨x5_17, ex5_17, h⟩ := nm_ex h
                      refine lv_nmL ex5_17 ?_
                      refine lv_lstore (lv' := [(5, .long x5_17), (0, .ref (ad 0 0)), (1, .int x1), (4, .int x4), (7, .int x7), (8, .int x8), (9, .int x9), (10, .int x10)]) F.1 F.2.1 d_Model_row_135 hl (by decide) rfl (fun ls hl => ?_)
                      exact J_137_l49 x5_17 x9 x10 H locs ls hw (lv_sub hl [1, 2, 3, 0, 4, 5, 6, 7] rfl) o h ho
                    · replace h := iq c_15 h
                      refine lv_iload F.1 F.2.1 d_Model_row_110 (lv_at hl 7 rfl) ?_
                      refine lv_istore (lv' := [(9, .int x10), (0, .ref (ad 0 0)), (1, .int x1), (4, .int x4), (5, .long x5), (7, .int x7), (8, .int x8), (10, .int x10)]) F.1 F.2.1 d_Model_row_112 hl (by decide) rfl (fun ls hl => ?_)
                      refine lv_goto (tgt := 137) F.1 F.2.1 d_Model_row_114 (by decide) ?_
                      exact J_137_l49 x5 x10 x10 H locs ls hw (lv_sub hl [1, 2, 3, 4, 5, 6, 0, 7] rfl) o h ho
                  refine lv_iload F.1 F.2.1 d_Model_row_49 (lv_at hl 7 rfl) ?_
                  refine lv_aload_n F.1 F.2.1 d_Model_row_51 rfl (lv_at hl 0 rfl) ?_
                  refine mg_0_54 F hK hw lk_1065 d_Model_row_52 ?_
                  refine lv_icmp_ge (tgt := 143) F.1 F.2.1 d_Model_row_55 (by decide) (fun c_9 => ?_) (fun c_9 => ?_)
                  · replace h := ip c_9 h
                    cases h
                    have ho : X_49 _ := ho
                    rw [eX_49] at ho
                    exact ho H locs ls hw (lv_sub hl [0, 1, 2, 3, 5, 6] rfl)
                  · replace h := iq c_9 h
                    refine lv_iload F.1 F.2.1 d_Model_row_58 (lv_at hl 6 rfl) ?_
                    refine lv_iconst (v := -1) F.1 F.2.1 d_Model_row_60 (by decide) ?_
                    refine lv_icmp_ne (tgt := 143) F.1 F.2.1 d_Model_row_61 (by decide) (fun c_10 => ?_) (fun c_10 => ?_)
                    · replace h := iq c_10 h
                      cases h
                      have ho : X_49 _ := ho
                      rw [eX_49] at ho
                      exact ho H locs ls hw (lv_sub hl [0, 1, 2, 3, 5, 6] rfl)
                    · replace h := ip c_10 h
                      refine lv_iload F.1 F.2.1 d_Model_row_64 (lv_at hl 4 rfl) ?_
                      refine lv_iconst (v := -1) F.1 F.2.1 d_Model_row_66 (by decide) ?_
                      refine lv_icmp_eq (tgt := 89) F.1 F.2.1 d_Model_row_67 (by decide) (fun c_11 => ?_) (fun c_11 => ?_)
                      · replace h := ip c_11 h
                        exact J_89_l49 x5 x9 x10 H locs ls hw (lv_sub hl [0, 1, 2, 3, 4, 5, 6, 7] rfl) o h ho
                      · replace h := iq c_11 h
                        refine lv_aload_n F.1 F.2.1 d_Model_row_70 rfl (lv_at hl 0 rfl) ?_
                        refine mg_0_65 F hK hw lk_1076 d_Model_row_71 ?_
                        refine lv_bipush (v := 64) F.1 F.2.1 d_Model_row_74 (by decide) ?_
                        refine lv_iload F.1 F.2.1 d_Model_row_76 (lv_at hl 4 rfl) ?_
                        refine lv_imul F.1 F.2.1 d_Model_row_78 ?_
                        refine lv_iload F.1 F.2.1 d_Model_row_79 (lv_at hl 7 rfl) ?_
                        refine lv_iadd F.1 F.2.1 d_Model_row_81 ?_
                        obtain ⟨hi_12, h⟩ := gd_ex h
                        refine ml_0_65 F hK hw hi_12 d_Model_row_82 ?_
                        refine lv_if_ne (tgt := 89) F.1 F.2.1 d_Model_row_83 (by decide) (fun c_13 => ?_) (fun c_13 => ?_)
                        · replace h := iq c_13 h
                          exact J_89_l49 x5 x9 x10 H locs ls hw (lv_sub hl [0, 1, 2, 3, 4, 5, 6, 7] rfl) o h ho
                        · replace h := ip c_13 h
                          refine lv_goto (tgt := 137) F.1 F.2.1 d_Model_row_86 (by decide) ?_
                          exact J_137_l49 x5 x9 x10 H locs ls hw (lv_sub hl [0, 1, 2, 3, 4, 5, 6, 7] rfl) o h ho
                rw [eP_49] at hL_49
                exact hL_49 H locs ls hw (lv_sub hl [2, 3, 4, 5, 6, 7, 1, 0] rfl)
            rw [eP_36] at hL_36
            exact hL_36 H locs ls hw (lv_sub hl [3, 4, 6, 2, 1, 0] rfl)
          · replace h := ip c_7 h
            exact J_25 S_6 H locs ls hw (lv_sub hl [] rfl) o h ho
  exact key _ _ hw _ h (by rw [eX_0]; exact fun H locs pc ls hd hw => hQ H locs pc ls ad rfl hd hw)
theorem d_Model_count_0 : decode b_Model_count 0 = .ok (.iload_n 1, 1) := by decide +kernel
theorem d_Model_count_1 : decode b_Model_count 1 = .ok (.tableswitch 84 0 8 #[51, 61, 61, 61, 61, 61, 69, 74, 79], 51) := by decide +kernel
theorem d_Model_count_52 : decode b_Model_count 52 = .ok (.aload_n 0, 1) := by decide +kernel
theorem d_Model_count_53 : decode b_Model_count 53 = .ok (.getfield 40, 3) := by decide +kernel
theorem d_Model_count_56 : decode b_Model_count 56 = .ok (.aload_n 0, 1) := by decide +kernel
theorem d_Model_count_57 : decode b_Model_count 57 = .ok (.getfield 228, 3) := by decide +kernel
theorem d_Model_count_60 : decode b_Model_count 60 = .ok (.iaload, 1) := by decide +kernel
theorem d_Model_count_61 : decode b_Model_count 61 = .ok (.ireturn, 1) := by decide +kernel
theorem d_Model_count_62 : decode b_Model_count 62 = .ok (.aload_n 0, 1) := by decide +kernel
theorem d_Model_count_63 : decode b_Model_count 63 = .ok (.iload_n 1, 1) := by decide +kernel
theorem d_Model_count_64 : decode b_Model_count 64 = .ok (.iconst 1, 1) := by decide +kernel
theorem d_Model_count_65 : decode b_Model_count 65 = .ok (.isub, 1) := by decide +kernel
theorem d_Model_count_66 : decode b_Model_count 66 = .ok (.invokevirtual 294, 3) := by decide +kernel
theorem d_Model_count_69 : decode b_Model_count 69 = .ok (.ireturn, 1) := by decide +kernel
theorem d_Model_count_70 : decode b_Model_count 70 = .ok (.aload_n 0, 1) := by decide +kernel
theorem d_Model_count_71 : decode b_Model_count 71 = .ok (.getfield 303, 3) := by decide +kernel
theorem d_Model_count_74 : decode b_Model_count 74 = .ok (.ireturn, 1) := by decide +kernel
theorem d_Model_count_75 : decode b_Model_count 75 = .ok (.aload_n 0, 1) := by decide +kernel
theorem d_Model_count_76 : decode b_Model_count 76 = .ok (.getfield 244, 3) := by decide +kernel
theorem d_Model_count_79 : decode b_Model_count 79 = .ok (.ireturn, 1) := by decide +kernel
theorem d_Model_count_80 : decode b_Model_count 80 = .ok (.aload_n 0, 1) := by decide +kernel
theorem d_Model_count_81 : decode b_Model_count 81 = .ok (.getfield 160, 3) := by decide +kernel
theorem d_Model_count_84 : decode b_Model_count 84 = .ok (.ireturn, 1) := by decide +kernel
theorem d_Model_count_85 : decode b_Model_count 85 = .ok (.iconst (-1), 1) := by decide +kernel
theorem d_Model_count_86 : decode b_Model_count 86 = .ok (.ireturn, 1) := by decide +kernel
set_option maxHeartbeats 4000000 in
set_option maxRecDepth 100000 in
theorem c_Model_count (l : Launch) {S : St} {x1 : Int32} {r : Int32} (h : f_Model_count S x1 = some r) : MI mw l y_Model_count b_Model_count 2 (some .int) 1 21 0 0 (fun ad => [.ref (ad 0 0), .int x1]) aT aE S r S := by
  refine MI_of "LawfulLotsModel" rfl (by decide) (fun _ => Nat.le_of_ble_eq_true rfl) ?_
  intro p e s m args below meth c D ar ad A Q ls hP F hK hA hw hl hQ
  have hl : lv_has ls 2 [(0, .ref (ad 0 0)), (1, .int x1)] := hl
  obtain ⟨X_0, eX_0⟩ : ∃ X : Int32 → Prop, X = (fun q => ∀ (H : Heap) (locs : List Loc) (pc : Nat) (ls : Array Slot), decode b_Model_count pc = .ok (.ireturn, 1) → Bw mw D ar A s.heap H locs ad S → W p l e (RM 1 21) s m args below meth c H locs 0 0 Q (F0 m pc ls [.int q])) := ⟨_, rfl⟩
  have key : ∀ (H : Heap) (locs : List Loc), Bw mw D ar A s.heap H locs ad S → ∀ o, f_Model_count S x1 = some o → X_0 o → W p l e (RM 1 21) s m args below meth c H locs 0 0 Q (F0 m 0 ls []) := by
    intro H locs hw o h ho
    unfold f_Model_count at h
    have J_62 : ∀ (H : Heap) (locs : List Loc) (ls : Array Slot), Bw mw D ar A s.heap H locs ad S → lv_has ls 2 [(0, .ref (ad 0 0)), (1, .int x1)] → ∀ o, Model_count_j62 S x1 = some o → X_0 o → W p l e (RM 1 21) s m args below meth c H locs 0 0 Q (F0 m 62 ls []) := by
      intro H locs ls hw hl o h ho
      unfold Model_count_j62 at h
      refine lv_aload_n F.1 F.2.1 d_Model_count_62 rfl (lv_at hl 0 rfl) ?_
      refine lv_iload_n F.1 F.2.1 d_Model_count_63 rfl (lv_at hl 1 rfl) ?_
      refine lv_iconst (v := 1) F.1 F.2.1 d_Model_count_64 (by decide) ?_
      refine lv_isub F.1 F.2.1 d_Model_count_65 ?_
      obtain ⟨v_12, hc_11, h⟩ := bd_ex h
      refine cV_i F hA rfl hK hw (c_Model_tellsOf l hc_11) trivial rfl (good_V lk_976 lk_978 ls_48 lk_10 lk_979) (mr_0 hK hw) hd_Model_tellsOf ⟨Nat.le_of_ble_eq_true rfl, Nat.le_of_ble_eq_true rfl⟩ rfl hl.1 rfl (Nat.le_of_ble_eq_true rfl) d_Model_count_66 ⟨(Nat.zero_le _), (Nat.zero_le _)⟩ (fun H locs hw => ?_)
      cases h
      have ho : X_0 _ := ho
      rw [eX_0] at ho
      exact ho H locs _ ls d_Model_count_69 hw
    refine lv_iload_n F.1 F.2.1 d_Model_count_0 rfl (lv_at hl 1 rfl) ?_
    rcases Decidable.em (x1 = (0 : Int32)) with c_1 | c_1
    · replace h := ip c_1 h
      refine lv_tableIn (off := 51) (tgt := 52) F.1 F.2.1 d_Model_count_1 (by rw [c_1]; decide) (by rw [c_1]; decide) (by rw [c_1]; decide) (by decide) ?_
      refine lv_aload_n F.1 F.2.1 d_Model_count_52 rfl (lv_at hl 0 rfl) ?_
      refine mg_0_20 F hK hw lk_1031 d_Model_count_53 ?_
      refine lv_aload_n F.1 F.2.1 d_Model_count_56 rfl (lv_at hl 0 rfl) ?_
      refine mg_0_18 F hK hw lk_1029 d_Model_count_57 ?_
      obtain ⟨hi_2, h⟩ := gd_ex h
      refine ml_0_20 F hK hw hi_2 d_Model_count_60 ?_
      cases h
      have ho : X_0 _ := ho
      rw [eX_0] at ho
      exact ho H locs _ ls d_Model_count_61 hw
    replace h := iq c_1 h
    rcases Decidable.em (x1 = (1 : Int32)) with c_3 | c_3
    · replace h := ip c_3 h
      refine lv_tableIn (off := 61) (tgt := 62) F.1 F.2.1 d_Model_count_1 (by rw [c_3]; decide) (by rw [c_3]; decide) (by rw [c_3]; decide) (by decide) ?_
      exact J_62 H locs ls hw (lv_sub hl [0, 1] rfl) o h ho
    replace h := iq c_3 h
    rcases Decidable.em (x1 = (2 : Int32)) with c_4 | c_4
    · replace h := ip c_4 h
      refine lv_tableIn (off := 61) (tgt := 62) F.1 F.2.1 d_Model_count_1 (by rw [c_4]; decide) (by rw [c_4]; decide) (by rw [c_4]; decide) (by decide) ?_
      exact J_62 H locs ls hw (lv_sub hl [0, 1] rfl) o h ho
    replace h := iq c_4 h
    rcases Decidable.em (x1 = (3 : Int32)) with c_5 | c_5
    · replace h := ip c_5 h
      refine lv_tableIn (off := 61) (tgt := 62) F.1 F.2.1 d_Model_count_1 (by rw [c_5]; decide) (by rw [c_5]; decide) (by rw [c_5]; decide) (by decide) ?_
      exact J_62 H locs ls hw (lv_sub hl [0, 1] rfl) o h ho
    replace h := iq c_5 h
    rcases Decidable.em (x1 = (4 : Int32)) with c_6 | c_6
    · replace h := ip c_6 h
      refine lv_tableIn (off := 61) (tgt := 62) F.1 F.2.1 d_Model_count_1 (by rw [c_6]; decide) (by rw [c_6]; decide) (by rw [c_6]; decide) (by decide) ?_
      exact J_62 H locs ls hw (lv_sub hl [0, 1] rfl) o h ho
    replace h := iq c_6 h
    rcases Decidable.em (x1 = (5 : Int32)) with c_7 | c_7
    · replace h := ip c_7 h
      refine lv_tableIn (off := 61) (tgt := 62) F.1 F.2.1 d_Model_count_1 (by rw [c_7]; decide) (by rw [c_7]; decide) (by rw [c_7]; decide) (by decide) ?_
      exact J_62 H locs ls hw (lv_sub hl [0, 1] rfl) o h ho
    replace h := iq c_7 h
    rcases Decidable.em (x1 = (6 : Int32)) with c_8 | c_8
    · replace h := ip c_8 h
      refine lv_tableIn (off := 69) (tgt := 70) F.1 F.2.1 d_Model_count_1 (by rw [c_8]; decide) (by rw [c_8]; decide) (by rw [c_8]; decide) (by decide) ?_
      refine lv_aload_n F.1 F.2.1 d_Model_count_70 rfl (lv_at hl 0 rfl) ?_
      refine mg_0_44 F hK hw lk_1055 d_Model_count_71 ?_
      cases h
      have ho : X_0 _ := ho
      rw [eX_0] at ho
      exact ho H locs _ ls d_Model_count_74 hw
    replace h := iq c_8 h
    rcases Decidable.em (x1 = (7 : Int32)) with c_9 | c_9
    · replace h := ip c_9 h
      refine lv_tableIn (off := 74) (tgt := 75) F.1 F.2.1 d_Model_count_1 (by rw [c_9]; decide) (by rw [c_9]; decide) (by rw [c_9]; decide) (by decide) ?_
      refine lv_aload_n F.1 F.2.1 d_Model_count_75 rfl (lv_at hl 0 rfl) ?_
      refine mg_0_58 F hK hw lk_1069 d_Model_count_76 ?_
      cases h
      have ho : X_0 _ := ho
      rw [eX_0] at ho
      exact ho H locs _ ls d_Model_count_79 hw
    replace h := iq c_9 h
    rcases Decidable.em (x1 = (8 : Int32)) with c_10 | c_10
    · replace h := ip c_10 h
      refine lv_tableIn (off := 79) (tgt := 80) F.1 F.2.1 d_Model_count_1 (by rw [c_10]; decide) (by rw [c_10]; decide) (by rw [c_10]; decide) (by decide) ?_
      refine lv_aload_n F.1 F.2.1 d_Model_count_80 rfl (lv_at hl 0 rfl) ?_
      refine mg_0_2 F hK hw lk_1013 d_Model_count_81 ?_
      cases h
      have ho : X_0 _ := ho
      rw [eX_0] at ho
      exact ho H locs _ ls d_Model_count_84 hw
    replace h := iq c_10 h
    have zc_1 := lv_neT (a := 0) c_1 rfl
    have zc_3 := lv_neT (a := 1) c_3 rfl
    have zc_4 := lv_neT (a := 2) c_4 rfl
    have zc_5 := lv_neT (a := 3) c_5 rfl
    have zc_6 := lv_neT (a := 4) c_6 rfl
    have zc_7 := lv_neT (a := 5) c_7 rfl
    have zc_8 := lv_neT (a := 6) c_8 rfl
    have zc_9 := lv_neT (a := 7) c_9 rfl
    have zc_10 := lv_neT (a := 8) c_10 rfl
    refine lv_tableOut (tgt := 85) F.1 F.2.1 d_Model_count_1 (by omega) (by decide) ?_
    refine lv_iconst (v := -1) F.1 F.2.1 d_Model_count_85 (by decide) ?_
    cases h
    have ho : X_0 _ := ho
    rw [eX_0] at ho
    exact ho H locs _ ls d_Model_count_86 hw
  exact key _ _ hw _ h (by rw [eX_0]; exact fun H locs pc ls hd hw => hQ H locs pc ls ad rfl hd hw)
