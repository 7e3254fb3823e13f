theorem lg_cmp_rf (x : Int64) : lg_cmp x x = 0 := by
  unfold lg_cmp
  rw [if_neg (show ¬ x > x from Int64.lt_irrefl), if_pos rfl]
set_option maxHeartbeats 8000000 in
set_option maxRecDepth 100000 in
theorem law_loop {p : Program} {l : Launch} {e : Env} {s : State} {m : MethodId} {below : List Frame} {meth : Method} {c : Code} {D : va_G} {ar : Nat → ClassId} {b L : Nat} {xs : Nat → Int32} {Rel : St → St → Prop} {Φ : St → Nat} (hL : L ≤ 3072) (F : CallFix p m c code 4 s #[Value.ref b] gt "LawfulLotsLaw") (hr0 : meth.sig.returnType = ret) (hlocks : meth.locks = false) (hX : va_X b L xs s s.heap) (hbl : b < s.heap.size) (hK : KK D ar (fun q : Nat => s.heap.size ≤ q) s) (hok : ok_all Rel Φ) :
    ∀ (n j : Nat) (S M : St), 6 * j ≤ L → L + 1 ≤ 6 * (j + n) → Rel S M → ∀ (ad am : Nat → Nat → Nat) (H : Heap) (locs : List Loc), B2 cw mw D ar (fun q : Nat => s.heap.size ≤ q) s.heap H locs ad S am M → ∀ (ls : Array Slot), lv_has ls 4 [(0, .ref b), (1, .ref (ad 0 0)), (2, .ref (am 0 0)), (3, .int (nI (6 * j)))] → W p l e room_1 s m #[Value.ref b] below meth c H locs (98 + 3 * j) (187205 + Φ S) (lw_Z below #[Value.ref b] s) (F0 m 18 ls []) := by
  obtain ⟨hbd, hini, okfeed, okback, okread, okplace, okturn, oklawful, okkept, okvalue, okshare, oksum, okpick, okdraw, okquarrel, okalone, okmeets, okcross, okhits, okfill, okfills, okbest, okleast, oklogged, okfallen, okrows, okrow, okcount⟩ := hok
  have hA : ∀ q : Nat, s.heap.size ≤ q → (fun q : Nat => s.heap.size ≤ q) q := fun _ h => h
  have hbA : ¬ (fun q : Nat => s.heap.size ≤ q) b := Nat.not_le.mpr hbl
  intro n
  induction n with
  | zero =>
    intro j S M h1 h2
    exact absurd h2 (by omega)
  | succ n ih =>
    intro j S M hj hn hR0 ad am H locs hw ls hl
    have hb0 := hbd _ _ hR0
    obtain ⟨x3, ex3⟩ : ∃ x, x = nI (6 * j) := ⟨_, rfl⟩
    rw [← ex3] at hl
    refine lv_iload_n F.1 F.2.1 d_Law_law_18 rfl (lv_at hl 3 rfl) ?_
    refine lv_aload_n F.1 F.2.1 d_Law_law_19 rfl (lv_at hl 0 rfl) ?_
    refine va_slen F.1 F.2.1 hX hbl hbA hw.2.2 d_Law_law_20 ?_
    refine lv_bipush (v := 6) F.1 F.2.1 d_Law_law_21 (by decide) ?_
    refine lv_isub F.1 F.2.1 d_Law_law_23 ?_
    refine lv_icmp_gt (tgt := 863) F.1 F.2.1 d_Law_law_24 (by decide) (fun c1 => ?_) (fun c1 => ?_)
    · refine lv_iconst (v := 1) F.1 F.2.1 d_Law_law_863 (by decide) ?_
      refine va_forget (fun q hq => hw.2.2.2.2 q hq) ?_
      refine W.widen (k := 600000) (n := 7302250) (by omega) (by omega) ?_
      exact lw_ret F.1 F.2.1 hr0 hlocks d_Law_law_864
    · have hlt : 6 * j + 6 ≤ L := by
        rcases Nat.lt_or_ge L (6 * j + 6) with q | q
        · refine absurd ?_ c1
          have e6 : (6 : Int32) = nI 6 := rfl
          rw [ex3, Int32.lt_iff_toInt_lt, e6]
          have t1 : (nI L - nI 6).toInt = (L : Int) - 6 := pk_sub_toInt (by omega) (by omega)
          have t2 : (nI (6 * j)).toInt = ((6 * j : Nat) : Int) := nI_toInt (by omega)
          have t1' : (Int32.ofNat L - nI 6).toInt = (L : Int) - 6 := t1
          first | rw [t1, t2] | rw [t1', t2]
          omega
        · exact q
      have hi : ∀ k : Nat, k < 6 → vp_in (x3 + nI k) L := by
        intro k hk
        rw [ex3, nI_add]
        exact vp_in_nI (by omega) (by omega)
      have hi0 : vp_in x3 L := by rw [ex3]; exact vp_in_nI (by omega) (by omega)
      have hi1 : vp_in (x3 + 1) L := hi 1 (by omega)
      have hi2 : vp_in (x3 + 2) L := hi 2 (by omega)
      have hi3 : vp_in (x3 + 3) L := hi 3 (by omega)
      have hi4 : vp_in (x3 + 4) L := hi 4 (by omega)
      have hi5 : vp_in (x3 + 5) L := hi 5 (by omega)
      have END : ∀ (S' M' : St), Rel S' M' → ∀ (ad' am' : Nat → Nat → Nat) (H : Heap) (locs : List Loc), B2 cw mw D ar (fun q : Nat => s.heap.size ≤ q) s.heap H locs ad' S' am' M' → ∀ (ls : Array Slot), lv_has ls 4 [(0, .ref b), (1, .ref (ad' 0 0)), (2, .ref (am' 0 0)), (3, .int x3)] → W p l e room_1 s m #[Value.ref b] below meth c H locs (98 + 3 * (j + 1)) (187205 + Φ S') (lw_Z below #[Value.ref b] s) (F0 m 857 ls []) := by
        intro S' M' hr ad' am' H locs hw ls hl
        refine lv_iinc (v := nI (6 * (j + 1))) (lv' := [(3, .int (nI (6 * (j + 1)))), (0, .ref b), (1, .ref (ad' 0 0)), (2, .ref (am' 0 0))]) F.1 F.2.1 d_Law_law_857 hl (k := 3) rfl (by rw [ex3]; show nI (6 * j) + nI 6 = _; rw [nI_add]; rfl) (by decide) rfl (fun ls hl => ?_)
        refine lv_goto (tgt := 18) F.1 F.2.1 d_Law_law_860 (by decide) ?_
        exact ih (j + 1) S' M' (by omega) (by omega) hr ad' am' H locs hw ls (lv_sub hl [1, 2, 3, 0] rfl)
      refine lv_aload_n F.1 F.2.1 d_Law_law_27 rfl (lv_at hl 0 rfl) ?_
      refine lv_iload_n F.1 F.2.1 d_Law_law_28 rfl (lv_at hl 3 rfl) ?_
      refine va_sld F.1 F.2.1 hX hbl hbA hw.2.2 hi0 d_Law_law_29 ?_
      refine lv_bipush (v := 31) F.1 F.2.1 d_Law_law_30 (by decide) ?_
      refine lv_iand F.1 F.2.1 d_Law_law_32 ?_
      refine lv_topi (fun sel esel => ?_)
      rcases Decidable.em (sel = (0 : Int32)) with c_0 | c_0
      · refine lv_tableIn (off := 119) (tgt := 152) F.1 F.2.1 d_Law_law_33 (by rw [c_0]; decide) (by rw [c_0]; decide) (by rw [c_0]; decide) (by decide) ?_
        refine lv_aload_n F.1 F.2.1 d_Law_law_152 rfl (lv_at hl 1 rfl) ?_
        refine lv_aload_n F.1 F.2.1 d_Law_law_153 rfl (lv_at hl 0 rfl) ?_
        refine lv_iload_n F.1 F.2.1 d_Law_law_154 rfl (lv_at hl 3 rfl) ?_
        refine lv_iconst (v := 1) F.1 F.2.1 d_Law_law_155 (by decide) ?_
        refine lv_iadd F.1 F.2.1 d_Law_law_156 ?_
        refine va_sld F.1 F.2.1 hX hbl hbA hw.2.2 (hi1) d_Law_law_157 ?_
        refine lv_aload_n F.1 F.2.1 d_Law_law_158 rfl (lv_at hl 0 rfl) ?_
        refine lv_iload_n F.1 F.2.1 d_Law_law_159 rfl (lv_at hl 3 rfl) ?_
        refine lv_iconst (v := 2) F.1 F.2.1 d_Law_law_160 (by decide) ?_
        refine lv_iadd F.1 F.2.1 d_Law_law_161 ?_
        refine va_sld F.1 F.2.1 hX hbl hbA hw.2.2 (hi2) d_Law_law_162 ?_
        refine lv_aload_n F.1 F.2.1 d_Law_law_163 rfl (lv_at hl 0 rfl) ?_
        refine lv_iload_n F.1 F.2.1 d_Law_law_164 rfl (lv_at hl 3 rfl) ?_
        refine lv_iconst (v := 3) F.1 F.2.1 d_Law_law_165 (by decide) ?_
        refine lv_iadd F.1 F.2.1 d_Law_law_166 ?_
        refine va_sld F.1 F.2.1 hX hbl hbA hw.2.2 (hi3) d_Law_law_167 ?_
        refine lv_aload_n F.1 F.2.1 d_Law_law_168 rfl (lv_at hl 0 rfl) ?_
        refine lv_iload_n F.1 F.2.1 d_Law_law_169 rfl (lv_at hl 3 rfl) ?_
        refine lv_iconst (v := 4) F.1 F.2.1 d_Law_law_170 (by decide) ?_
        refine lv_iadd F.1 F.2.1 d_Law_law_171 ?_
        refine va_sld F.1 F.2.1 hX hbl hbA hw.2.2 (hi4) d_Law_law_172 ?_
        refine lv_aload_n F.1 F.2.1 d_Law_law_173 rfl (lv_at hl 0 rfl) ?_
        refine lv_iload_n F.1 F.2.1 d_Law_law_174 rfl (lv_at hl 3 rfl) ?_
        refine lv_iconst (v := 5) F.1 F.2.1 d_Law_law_175 (by decide) ?_
        refine lv_iadd F.1 F.2.1 d_Law_law_176 ?_
        refine va_sld F.1 F.2.1 hX hbl hbA hw.2.2 (hi5) d_Law_law_177 ?_
        obtain ⟨r, S', M', h1, h2, hr, hp⟩ := okfeed S M ((xs (x3 + (1 : Int32)).toNatClampNeg)) ((xs (x3 + (2 : Int32)).toNatClampNeg)) ((xs (x3 + (3 : Int32)).toNatClampNeg)) ((xs (x3 + (4 : Int32)).toNatClampNeg)) ((xs (x3 + (5 : Int32)).toNatClampNeg)) hR0
        have hb' := hbd _ _ hr
        refine c2_i F hA rfl hK hw (c_Lots_feed l h1) rfl (good_V lk_365 lk_366 lk_367 lk_1 lk_368) (cr_0 hK hw.one) hd_Lots_feed ⟨Nat.le_of_ble_eq_true rfl, Nat.le_of_ble_eq_true rfl⟩ rfl hl.1 rfl (Nat.le_of_ble_eq_true rfl) d_Law_law_178 ⟨by show _ ≤ 600000; omega, by show _ ≤ 7302250; omega⟩ (fun ad' H locs hT hw => ?_)
        refine lv_aload_n F.1 F.2.1 d_Law_law_181 rfl (lv_at hl 2 rfl) ?_
        refine lv_aload_n F.1 F.2.1 d_Law_law_182 rfl (lv_at hl 0 rfl) ?_
        refine lv_iload_n F.1 F.2.1 d_Law_law_183 rfl (lv_at hl 3 rfl) ?_
        refine lv_iconst (v := 1) F.1 F.2.1 d_Law_law_184 (by decide) ?_
        refine lv_iadd F.1 F.2.1 d_Law_law_185 ?_
        refine va_sld F.1 F.2.1 hX hbl hbA hw.2.2 (hi1) d_Law_law_186 ?_
        refine lv_aload_n F.1 F.2.1 d_Law_law_187 rfl (lv_at hl 0 rfl) ?_
        refine lv_iload_n F.1 F.2.1 d_Law_law_188 rfl (lv_at hl 3 rfl) ?_
        refine lv_iconst (v := 2) F.1 F.2.1 d_Law_law_189 (by decide) ?_
        refine lv_iadd F.1 F.2.1 d_Law_law_190 ?_
        refine va_sld F.1 F.2.1 hX hbl hbA hw.2.2 (hi2) d_Law_law_191 ?_
        refine lv_aload_n F.1 F.2.1 d_Law_law_192 rfl (lv_at hl 0 rfl) ?_
        refine lv_iload_n F.1 F.2.1 d_Law_law_193 rfl (lv_at hl 3 rfl) ?_
        refine lv_iconst (v := 3) F.1 F.2.1 d_Law_law_194 (by decide) ?_
        refine lv_iadd F.1 F.2.1 d_Law_law_195 ?_
        refine va_sld F.1 F.2.1 hX hbl hbA hw.2.2 (hi3) d_Law_law_196 ?_
        refine lv_aload_n F.1 F.2.1 d_Law_law_197 rfl (lv_at hl 0 rfl) ?_
        refine lv_iload_n F.1 F.2.1 d_Law_law_198 rfl (lv_at hl 3 rfl) ?_
        refine lv_iconst (v := 4) F.1 F.2.1 d_Law_law_199 (by decide) ?_
        refine lv_iadd F.1 F.2.1 d_Law_law_200 ?_
        refine va_sld F.1 F.2.1 hX hbl hbA hw.2.2 (hi4) d_Law_law_201 ?_
        refine lv_aload_n F.1 F.2.1 d_Law_law_202 rfl (lv_at hl 0 rfl) ?_
        refine lv_iload_n F.1 F.2.1 d_Law_law_203 rfl (lv_at hl 3 rfl) ?_
        refine lv_iconst (v := 5) F.1 F.2.1 d_Law_law_204 (by decide) ?_
        refine lv_iadd F.1 F.2.1 d_Law_law_205 ?_
        refine va_sld F.1 F.2.1 hX hbl hbA hw.2.2 (hi5) d_Law_law_206 ?_
        refine c2_i F hA rfl hK hw.comm (c_Model_feed l h2) rfl (good_V lk_1214 lk_1215 lk_1216 lk_10 lk_1217) (mr_0 hK hw.comm.one) hd_Model_feed ⟨Nat.le_of_ble_eq_true rfl, Nat.le_of_ble_eq_true rfl⟩ rfl hl.1 rfl (Nat.le_of_ble_eq_true rfl) d_Law_law_207 ⟨by show _ ≤ 600000; omega, by show _ ≤ 7302250; omega⟩ (fun am' H locs hT2 hw => ?_)
        replace hw := hw.comm
        refine lv_icmp_eq (tgt := 857) F.1 F.2.1 d_Law_law_210 (by decide) (fun _ => ?_) (fun c9 => absurd rfl c9)
        have e1 : ad' 0 0 = ad 0 0 := by rw [hT]
        have e2 : am' 0 0 = am 0 0 := by rw [hT2]
        rw [← e1, ← e2] at hl
        refine W.widen (k := 98 + 3 * (j + 1)) (n := 187205 + Φ S') (by omega) (by omega) ?_
        exact END S' M' hr ad' am' H locs hw ls hl
      rcases Decidable.em (sel = (1 : Int32)) with c_1 | c_1
      · refine lv_tableIn (off := 182) (tgt := 215) F.1 F.2.1 d_Law_law_33 (by rw [c_1]; decide) (by rw [c_1]; decide) (by rw [c_1]; decide) (by decide) ?_
        refine lv_aload_n F.1 F.2.1 d_Law_law_215 rfl (lv_at hl 1 rfl) ?_
        refine lv_aload_n F.1 F.2.1 d_Law_law_216 rfl (lv_at hl 0 rfl) ?_
        refine lv_iload_n F.1 F.2.1 d_Law_law_217 rfl (lv_at hl 3 rfl) ?_
        refine lv_iconst (v := 1) F.1 F.2.1 d_Law_law_218 (by decide) ?_
        refine lv_iadd F.1 F.2.1 d_Law_law_219 ?_
        refine va_sld F.1 F.2.1 hX hbl hbA hw.2.2 (hi1) d_Law_law_220 ?_
        obtain ⟨r, S', M', h1, h2, hr, hp⟩ := okback S M ((xs (x3 + (1 : Int32)).toNatClampNeg)) hR0
        have hb' := hbd _ _ hr
        refine c2_i F hA rfl hK hw (c_Lots_back l h1) rfl (good_V lk_373 lk_374 lk_375 lk_1 lk_376) (cr_0 hK hw.one) hd_Lots_back ⟨Nat.le_of_ble_eq_true rfl, Nat.le_of_ble_eq_true rfl⟩ rfl hl.1 rfl (Nat.le_of_ble_eq_true rfl) d_Law_law_221 ⟨by show _ ≤ 600000; omega, by show _ ≤ 7302250; omega⟩ (fun ad' H locs hT hw => ?_)
        refine lv_aload_n F.1 F.2.1 d_Law_law_224 rfl (lv_at hl 2 rfl) ?_
        refine lv_aload_n F.1 F.2.1 d_Law_law_225 rfl (lv_at hl 0 rfl) ?_
        refine lv_iload_n F.1 F.2.1 d_Law_law_226 rfl (lv_at hl 3 rfl) ?_
        refine lv_iconst (v := 1) F.1 F.2.1 d_Law_law_227 (by decide) ?_
        refine lv_iadd F.1 F.2.1 d_Law_law_228 ?_
        refine va_sld F.1 F.2.1 hX hbl hbA hw.2.2 (hi1) d_Law_law_229 ?_
        refine c2_i F hA rfl hK hw.comm (c_Model_back l h2) rfl (good_V lk_1222 lk_1223 lk_1224 lk_10 lk_1225) (mr_0 hK hw.comm.one) hd_Model_back ⟨Nat.le_of_ble_eq_true rfl, Nat.le_of_ble_eq_true rfl⟩ rfl hl.1 rfl (Nat.le_of_ble_eq_true rfl) d_Law_law_230 ⟨by show _ ≤ 600000; omega, by show _ ≤ 7302250; omega⟩ (fun am' H locs hT2 hw => ?_)
        replace hw := hw.comm
        refine lv_icmp_eq (tgt := 857) F.1 F.2.1 d_Law_law_233 (by decide) (fun _ => ?_) (fun c9 => absurd rfl c9)
        have e1 : ad' 0 0 = ad 0 0 := by rw [hT]
        have e2 : am' 0 0 = am 0 0 := by rw [hT2]
        rw [← e1, ← e2] at hl
        refine W.widen (k := 98 + 3 * (j + 1)) (n := 187205 + Φ S') (by omega) (by omega) ?_
        exact END S' M' hr ad' am' H locs hw ls hl
      rcases Decidable.em (sel = (2 : Int32)) with c_2 | c_2
      · refine lv_tableIn (off := 205) (tgt := 238) F.1 F.2.1 d_Law_law_33 (by rw [c_2]; decide) (by rw [c_2]; decide) (by rw [c_2]; decide) (by decide) ?_
        refine lv_aload_n F.1 F.2.1 d_Law_law_238 rfl (lv_at hl 1 rfl) ?_
        obtain ⟨r, S', M', h1, h2, hr, hp⟩ := okread S M hR0
        have hb' := hbd _ _ hr
        refine c2_i F hA rfl hK hw (c_Lots_read l h1) rfl (good_V lk_377 lk_378 lk_379 lk_1 lk_380) (cr_0 hK hw.one) hd_Lots_read ⟨Nat.le_of_ble_eq_true rfl, Nat.le_of_ble_eq_true rfl⟩ rfl hl.1 rfl (Nat.le_of_ble_eq_true rfl) d_Law_law_239 ⟨by show _ ≤ 600000; omega, by show _ ≤ 7302250; omega⟩ (fun ad' H locs hT hw => ?_)
        refine lv_aload_n F.1 F.2.1 d_Law_law_242 rfl (lv_at hl 2 rfl) ?_
        refine c2_i F hA rfl hK hw.comm (c_Model_read l h2) rfl (good_V lk_1226 lk_1227 lk_1228 lk_10 lk_1229) (mr_0 hK hw.comm.one) hd_Model_read ⟨Nat.le_of_ble_eq_true rfl, Nat.le_of_ble_eq_true rfl⟩ rfl hl.1 rfl (Nat.le_of_ble_eq_true rfl) d_Law_law_243 ⟨by show _ ≤ 600000; omega, by show _ ≤ 7302250; omega⟩ (fun am' H locs hT2 hw => ?_)
        replace hw := hw.comm
        refine lv_icmp_eq (tgt := 857) F.1 F.2.1 d_Law_law_246 (by decide) (fun _ => ?_) (fun c9 => absurd rfl c9)
        have e1 : ad' 0 0 = ad 0 0 := by rcases hT with rfl | rfl <;> rfl
        have e2 : am' 0 0 = am 0 0 := by rw [hT2]
        rw [← e1, ← e2] at hl
        refine W.widen (k := 98 + 3 * (j + 1)) (n := 187205 + Φ S') (by omega) (by omega) ?_
        exact END S' M' hr ad' am' H locs hw ls hl
      rcases Decidable.em (sel = (3 : Int32)) with c_3 | c_3
      · refine lv_tableIn (off := 218) (tgt := 251) F.1 F.2.1 d_Law_law_33 (by rw [c_3]; decide) (by rw [c_3]; decide) (by rw [c_3]; decide) (by decide) ?_
        refine lv_aload_n F.1 F.2.1 d_Law_law_251 rfl (lv_at hl 1 rfl) ?_
        obtain ⟨r, h1, h2, hr⟩ := okplace S M hR0
        refine c2_i F hA rfl hK hw (c_Lots_place l h1) rfl (good_V lk_565 lk_566 lk_567 lk_1 lk_568) (cr_0 hK hw.one) hd_Lots_place ⟨Nat.le_of_ble_eq_true rfl, Nat.le_of_ble_eq_true rfl⟩ rfl hl.1 rfl (Nat.le_of_ble_eq_true rfl) d_Law_law_252 ⟨by show _ ≤ 600000; omega, by show _ ≤ 7302250; omega⟩ (fun ad' H locs hT hw => ?_)
        refine lv_aload_n F.1 F.2.1 d_Law_law_255 rfl (lv_at hl 2 rfl) ?_
        refine c2_i F hA rfl hK hw.comm (c_Model_place l h2) rfl (good_V lk_1303 lk_1304 lk_1305 lk_10 lk_1306) (mr_0 hK hw.comm.one) hd_Model_place ⟨Nat.le_of_ble_eq_true rfl, Nat.le_of_ble_eq_true rfl⟩ rfl hl.1 rfl (Nat.le_of_ble_eq_true rfl) d_Law_law_256 ⟨by show _ ≤ 600000; omega, by show _ ≤ 7302250; omega⟩ (fun am' H locs hT2 hw => ?_)
        replace hw := hw.comm
        refine lv_icmp_eq (tgt := 857) F.1 F.2.1 d_Law_law_259 (by decide) (fun _ => ?_) (fun c9 => absurd rfl c9)
        have e1 : ad' 0 0 = ad 0 0 := by rw [hT]
        have e2 : am' 0 0 = am 0 0 := by rw [hT2]
        rw [← e1, ← e2] at hl
        refine W.widen (k := 98 + 3 * (j + 1)) (n := 187205 + Φ S) (by omega) (by omega) ?_
        exact END S M hr ad' am' H locs hw ls hl
      rcases Decidable.em (sel = (4 : Int32)) with c_4 | c_4
      · refine lv_tableIn (off := 231) (tgt := 264) F.1 F.2.1 d_Law_law_33 (by rw [c_4]; decide) (by rw [c_4]; decide) (by rw [c_4]; decide) (by decide) ?_
        rcases Decidable.em (xs (x3 + (2 : Int32)).toNatClampNeg = 0) with cz | cz
        · refine lv_aload_n F.1 F.2.1 d_Law_law_264 rfl (lv_at hl 1 rfl) ?_
          refine lv_aload_n F.1 F.2.1 d_Law_law_265 rfl (lv_at hl 0 rfl) ?_
          refine lv_iload_n F.1 F.2.1 d_Law_law_266 rfl (lv_at hl 3 rfl) ?_
          refine lv_iconst (v := 1) F.1 F.2.1 d_Law_law_267 (by decide) ?_
          refine lv_iadd F.1 F.2.1 d_Law_law_268 ?_
          refine va_sld F.1 F.2.1 hX hbl hbA hw.2.2 (hi1) d_Law_law_269 ?_
          refine lv_aload_n F.1 F.2.1 d_Law_law_270 rfl (lv_at hl 0 rfl) ?_
          refine lv_iload_n F.1 F.2.1 d_Law_law_271 rfl (lv_at hl 3 rfl) ?_
          refine lv_iconst (v := 2) F.1 F.2.1 d_Law_law_272 (by decide) ?_
          refine lv_iadd F.1 F.2.1 d_Law_law_273 ?_
          refine va_sld F.1 F.2.1 hX hbl hbA hw.2.2 (hi2) d_Law_law_274 ?_
          refine lv_if_eq (tgt := 282) F.1 F.2.1 d_Law_law_275 (by decide) (fun _ => ?_) (fun c9 => absurd cz c9)
          refine lv_iconst (v := 0) F.1 F.2.1 d_Law_law_282 (by decide) ?_
          obtain ⟨r, S', M', h1, h2, hr, hp⟩ := okturn S M ((xs (x3 + (1 : Int32)).toNatClampNeg)) ((0 : Int32)) hR0 isB0
          have hb' := hbd _ _ hr
          refine c2_i F hA rfl hK hw (c_Lots_turn l h1) rfl (good_V lk_569 lk_570 lk_571 lk_1 lk_572) (cr_0 hK hw.one) hd_Lots_turn ⟨Nat.le_of_ble_eq_true rfl, Nat.le_of_ble_eq_true rfl⟩ rfl hl.1 rfl (Nat.le_of_ble_eq_true rfl) d_Law_law_283 ⟨by show _ ≤ 600000; omega, by show _ ≤ 7302250; omega⟩ (fun ad' H locs hT hw => ?_)
          refine lv_aload_n F.1 F.2.1 d_Law_law_286 rfl (lv_at hl 2 rfl) ?_
          refine lv_aload_n F.1 F.2.1 d_Law_law_287 rfl (lv_at hl 0 rfl) ?_
          refine lv_iload_n F.1 F.2.1 d_Law_law_288 rfl (lv_at hl 3 rfl) ?_
          refine lv_iconst (v := 1) F.1 F.2.1 d_Law_law_289 (by decide) ?_
          refine lv_iadd F.1 F.2.1 d_Law_law_290 ?_
          refine va_sld F.1 F.2.1 hX hbl hbA hw.2.2 (hi1) d_Law_law_291 ?_
          refine lv_aload_n F.1 F.2.1 d_Law_law_292 rfl (lv_at hl 0 rfl) ?_
          refine lv_iload_n F.1 F.2.1 d_Law_law_293 rfl (lv_at hl 3 rfl) ?_
          refine lv_iconst (v := 2) F.1 F.2.1 d_Law_law_294 (by decide) ?_
          refine lv_iadd F.1 F.2.1 d_Law_law_295 ?_
          refine va_sld F.1 F.2.1 hX hbl hbA hw.2.2 (hi2) d_Law_law_296 ?_
          refine lv_if_eq (tgt := 304) F.1 F.2.1 d_Law_law_297 (by decide) (fun _ => ?_) (fun c9 => absurd cz c9)
          refine lv_iconst (v := 0) F.1 F.2.1 d_Law_law_304 (by decide) ?_
          refine c2_i F hA rfl hK hw.comm (c_Model_turn l h2) rfl (good_V lk_1307 lk_1308 lk_1309 lk_10 lk_1310) (mr_0 hK hw.comm.one) hd_Model_turn ⟨Nat.le_of_ble_eq_true rfl, Nat.le_of_ble_eq_true rfl⟩ rfl hl.1 rfl (Nat.le_of_ble_eq_true rfl) d_Law_law_305 ⟨by show _ ≤ 600000; omega, by show _ ≤ 7302250; omega⟩ (fun am' H locs hT2 hw => ?_)
          replace hw := hw.comm
          refine lv_icmp_eq (tgt := 857) F.1 F.2.1 d_Law_law_308 (by decide) (fun _ => ?_) (fun c9 => absurd rfl c9)
          have e1 : ad' 0 0 = ad 0 0 := by rw [hT]
          have e2 : am' 0 0 = am 0 0 := by rw [hT2]
          rw [← e1, ← e2] at hl
          refine W.widen (k := 98 + 3 * (j + 1)) (n := 187205 + Φ S') (by omega) (by omega) ?_
          exact END S' M' hr ad' am' H locs hw ls hl
        · refine lv_aload_n F.1 F.2.1 d_Law_law_264 rfl (lv_at hl 1 rfl) ?_
          refine lv_aload_n F.1 F.2.1 d_Law_law_265 rfl (lv_at hl 0 rfl) ?_
          refine lv_iload_n F.1 F.2.1 d_Law_law_266 rfl (lv_at hl 3 rfl) ?_
          refine lv_iconst (v := 1) F.1 F.2.1 d_Law_law_267 (by decide) ?_
          refine lv_iadd F.1 F.2.1 d_Law_law_268 ?_
          refine va_sld F.1 F.2.1 hX hbl hbA hw.2.2 (hi1) d_Law_law_269 ?_
          refine lv_aload_n F.1 F.2.1 d_Law_law_270 rfl (lv_at hl 0 rfl) ?_
          refine lv_iload_n F.1 F.2.1 d_Law_law_271 rfl (lv_at hl 3 rfl) ?_
          refine lv_iconst (v := 2) F.1 F.2.1 d_Law_law_272 (by decide) ?_
          refine lv_iadd F.1 F.2.1 d_Law_law_273 ?_
          refine va_sld F.1 F.2.1 hX hbl hbA hw.2.2 (hi2) d_Law_law_274 ?_
          refine lv_if_eq (tgt := 282) F.1 F.2.1 d_Law_law_275 (by decide) (fun c9 => absurd c9 cz) (fun _ => ?_)
          refine lv_iconst (v := 1) F.1 F.2.1 d_Law_law_278 (by decide) ?_
          refine lv_goto (tgt := 283) F.1 F.2.1 d_Law_law_279 (by decide) ?_
          obtain ⟨r, S', M', h1, h2, hr, hp⟩ := okturn S M ((xs (x3 + (1 : Int32)).toNatClampNeg)) ((1 : Int32)) hR0 isB1
          have hb' := hbd _ _ hr
          refine c2_i F hA rfl hK hw (c_Lots_turn l h1) rfl (good_V lk_569 lk_570 lk_571 lk_1 lk_572) (cr_0 hK hw.one) hd_Lots_turn ⟨Nat.le_of_ble_eq_true rfl, Nat.le_of_ble_eq_true rfl⟩ rfl hl.1 rfl (Nat.le_of_ble_eq_true rfl) d_Law_law_283 ⟨by show _ ≤ 600000; omega, by show _ ≤ 7302250; omega⟩ (fun ad' H locs hT hw => ?_)
          refine lv_aload_n F.1 F.2.1 d_Law_law_286 rfl (lv_at hl 2 rfl) ?_
          refine lv_aload_n F.1 F.2.1 d_Law_law_287 rfl (lv_at hl 0 rfl) ?_
          refine lv_iload_n F.1 F.2.1 d_Law_law_288 rfl (lv_at hl 3 rfl) ?_
          refine lv_iconst (v := 1) F.1 F.2.1 d_Law_law_289 (by decide) ?_
          refine lv_iadd F.1 F.2.1 d_Law_law_290 ?_
          refine va_sld F.1 F.2.1 hX hbl hbA hw.2.2 (hi1) d_Law_law_291 ?_
          refine lv_aload_n F.1 F.2.1 d_Law_law_292 rfl (lv_at hl 0 rfl) ?_
          refine lv_iload_n F.1 F.2.1 d_Law_law_293 rfl (lv_at hl 3 rfl) ?_
          refine lv_iconst (v := 2) F.1 F.2.1 d_Law_law_294 (by decide) ?_
          refine lv_iadd F.1 F.2.1 d_Law_law_295 ?_
          refine va_sld F.1 F.2.1 hX hbl hbA hw.2.2 (hi2) d_Law_law_296 ?_
          refine lv_if_eq (tgt := 304) F.1 F.2.1 d_Law_law_297 (by decide) (fun c9 => absurd c9 cz) (fun _ => ?_)
          refine lv_iconst (v := 1) F.1 F.2.1 d_Law_law_300 (by decide) ?_
          refine lv_goto (tgt := 305) F.1 F.2.1 d_Law_law_301 (by decide) ?_
          refine c2_i F hA rfl hK hw.comm (c_Model_turn l h2) rfl (good_V lk_1307 lk_1308 lk_1309 lk_10 lk_1310) (mr_0 hK hw.comm.one) hd_Model_turn ⟨Nat.le_of_ble_eq_true rfl, Nat.le_of_ble_eq_true rfl⟩ rfl hl.1 rfl (Nat.le_of_ble_eq_true rfl) d_Law_law_305 ⟨by show _ ≤ 600000; omega, by show _ ≤ 7302250; omega⟩ (fun am' H locs hT2 hw => ?_)
          replace hw := hw.comm
          refine lv_icmp_eq (tgt := 857) F.1 F.2.1 d_Law_law_308 (by decide) (fun _ => ?_) (fun c9 => absurd rfl c9)
          have e1 : ad' 0 0 = ad 0 0 := by rw [hT]
          have e2 : am' 0 0 = am 0 0 := by rw [hT2]
          rw [← e1, ← e2] at hl
          refine W.widen (k := 98 + 3 * (j + 1)) (n := 187205 + Φ S') (by omega) (by omega) ?_
          exact END S' M' hr ad' am' H locs hw ls hl
      rcases Decidable.em (sel = (5 : Int32)) with c_5 | c_5
      · refine lv_tableIn (off := 280) (tgt := 313) F.1 F.2.1 d_Law_law_33 (by rw [c_5]; decide) (by rw [c_5]; decide) (by rw [c_5]; decide) (by decide) ?_
        refine lv_aload_n F.1 F.2.1 d_Law_law_313 rfl (lv_at hl 1 rfl) ?_
        obtain ⟨r, S', h1, h2, hr, hp⟩ := oklawful S M hR0
        have hb' := hbd _ _ hr
        refine c2_i F hA rfl hK hw (c_Lots_lawful l h1 rfl) rfl (good_V lk_586 lk_587 lk_588 lk_1 lk_589) (cr_0 hK hw.one) hd_Lots_lawful ⟨Nat.le_of_ble_eq_true rfl, Nat.le_of_ble_eq_true rfl⟩ rfl hl.1 rfl (Nat.le_of_ble_eq_true rfl) d_Law_law_314 ⟨by show _ ≤ 600000; omega, by show _ ≤ 7302250; omega⟩ (fun ad' H locs hT hw => ?_)
        refine lv_aload_n F.1 F.2.1 d_Law_law_317 rfl (lv_at hl 2 rfl) ?_
        refine c2_i F hA rfl hK hw.comm (c_Model_lawful l h2) rfl (good_V lk_1311 lk_1312 lk_1313 lk_10 lk_1314) (mr_0 hK hw.comm.one) hd_Model_lawful ⟨Nat.le_of_ble_eq_true rfl, Nat.le_of_ble_eq_true rfl⟩ rfl hl.1 rfl (Nat.le_of_ble_eq_true rfl) d_Law_law_318 ⟨by show _ ≤ 600000; omega, by show _ ≤ 7302250; omega⟩ (fun am' H locs hT2 hw => ?_)
        replace hw := hw.comm
        refine lv_icmp_eq (tgt := 857) F.1 F.2.1 d_Law_law_321 (by decide) (fun _ => ?_) (fun c9 => absurd rfl c9)
        have e1 : ad' 0 0 = ad 0 0 := by obtain ⟨q, rfl⟩ := hT; rfl
        have e2 : am' 0 0 = am 0 0 := by rw [hT2]
        rw [← e1, ← e2] at hl
        refine W.widen (k := 98 + 3 * (j + 1)) (n := 187205 + Φ S') (by omega) (by omega) ?_
        exact END S' M hr ad' am' H locs hw ls hl
      rcases Decidable.em (sel = (6 : Int32)) with c_6 | c_6
      · refine lv_tableIn (off := 293) (tgt := 326) F.1 F.2.1 d_Law_law_33 (by rw [c_6]; decide) (by rw [c_6]; decide) (by rw [c_6]; decide) (by decide) ?_
        refine lv_aload_n F.1 F.2.1 d_Law_law_326 rfl (lv_at hl 1 rfl) ?_
        obtain ⟨r, S', h1, h2, hr, hp⟩ := okkept S M hR0
        have hb' := hbd _ _ hr
        refine c2_i F hA rfl hK hw (c_Lots_kept l h1 rfl) rfl (good_V lk_652 lk_653 lk_654 lk_1 lk_655) (cr_0 hK hw.one) hd_Lots_kept ⟨Nat.le_of_ble_eq_true rfl, Nat.le_of_ble_eq_true rfl⟩ rfl hl.1 rfl (Nat.le_of_ble_eq_true rfl) d_Law_law_327 ⟨by show _ ≤ 600000; omega, by show _ ≤ 7302250; omega⟩ (fun ad' H locs hT hw => ?_)
        refine lv_aload_n F.1 F.2.1 d_Law_law_330 rfl (lv_at hl 2 rfl) ?_
        refine c2_i F hA rfl hK hw.comm (c_Model_kept l h2) rfl (good_V lk_1315 lk_1316 lk_1317 lk_10 lk_1318) (mr_0 hK hw.comm.one) hd_Model_kept ⟨Nat.le_of_ble_eq_true rfl, Nat.le_of_ble_eq_true rfl⟩ rfl hl.1 rfl (Nat.le_of_ble_eq_true rfl) d_Law_law_331 ⟨by show _ ≤ 600000; omega, by show _ ≤ 7302250; omega⟩ (fun am' H locs hT2 hw => ?_)
        replace hw := hw.comm
        refine lv_icmp_eq (tgt := 857) F.1 F.2.1 d_Law_law_334 (by decide) (fun _ => ?_) (fun c9 => absurd rfl c9)
        have e1 : ad' 0 0 = ad 0 0 := by obtain ⟨q, rfl⟩ := hT; rfl
        have e2 : am' 0 0 = am 0 0 := by rw [hT2]
        rw [← e1, ← e2] at hl
        refine W.widen (k := 98 + 3 * (j + 1)) (n := 187205 + Φ S') (by omega) (by omega) ?_
        exact END S' M hr ad' am' H locs hw ls hl
      rcases Decidable.em (sel = (7 : Int32)) with c_7 | c_7
      · refine lv_tableIn (off := 306) (tgt := 339) F.1 F.2.1 d_Law_law_33 (by rw [c_7]; decide) (by rw [c_7]; decide) (by rw [c_7]; decide) (by decide) ?_
        refine lv_aload_n F.1 F.2.1 d_Law_law_339 rfl (lv_at hl 1 rfl) ?_
        refine lv_aload_n F.1 F.2.1 d_Law_law_340 rfl (lv_at hl 0 rfl) ?_
        refine lv_iload_n F.1 F.2.1 d_Law_law_341 rfl (lv_at hl 3 rfl) ?_
        refine lv_iconst (v := 1) F.1 F.2.1 d_Law_law_342 (by decide) ?_
        refine lv_iadd F.1 F.2.1 d_Law_law_343 ?_
        refine va_sld F.1 F.2.1 hX hbl hbA hw.2.2 (hi1) d_Law_law_344 ?_
        refine lv_aload_n F.1 F.2.1 d_Law_law_345 rfl (lv_at hl 0 rfl) ?_
        refine lv_iload_n F.1 F.2.1 d_Law_law_346 rfl (lv_at hl 3 rfl) ?_
        refine lv_iconst (v := 2) F.1 F.2.1 d_Law_law_347 (by decide) ?_
        refine lv_iadd F.1 F.2.1 d_Law_law_348 ?_
        refine va_sld F.1 F.2.1 hX hbl hbA hw.2.2 (hi2) d_Law_law_349 ?_
        obtain ⟨r, S', h1, h2, hr, hp⟩ := okvalue S M ((xs (x3 + (1 : Int32)).toNatClampNeg)) ((xs (x3 + (2 : Int32)).toNatClampNeg)) hR0
        have hb' := hbd _ _ hr
        refine c2_i F hA rfl hK hw (c_Lots_value l h1 rfl) rfl (good_V lk_656 lk_657 lk_658 lk_1 lk_659) (cr_0 hK hw.one) hd_Lots_value ⟨Nat.le_of_ble_eq_true rfl, Nat.le_of_ble_eq_true rfl⟩ rfl hl.1 rfl (Nat.le_of_ble_eq_true rfl) d_Law_law_350 ⟨by show _ ≤ 600000; omega, by show _ ≤ 7302250; omega⟩ (fun ad' H locs hT hw => ?_)
        refine lv_aload_n F.1 F.2.1 d_Law_law_353 rfl (lv_at hl 2 rfl) ?_
        refine lv_aload_n F.1 F.2.1 d_Law_law_354 rfl (lv_at hl 0 rfl) ?_
        refine lv_iload_n F.1 F.2.1 d_Law_law_355 rfl (lv_at hl 3 rfl) ?_
        refine lv_iconst (v := 1) F.1 F.2.1 d_Law_law_356 (by decide) ?_
        refine lv_iadd F.1 F.2.1 d_Law_law_357 ?_
        refine va_sld F.1 F.2.1 hX hbl hbA hw.2.2 (hi1) d_Law_law_358 ?_
        refine lv_aload_n F.1 F.2.1 d_Law_law_359 rfl (lv_at hl 0 rfl) ?_
        refine lv_iload_n F.1 F.2.1 d_Law_law_360 rfl (lv_at hl 3 rfl) ?_
        refine lv_iconst (v := 2) F.1 F.2.1 d_Law_law_361 (by decide) ?_
        refine lv_iadd F.1 F.2.1 d_Law_law_362 ?_
        refine va_sld F.1 F.2.1 hX hbl hbA hw.2.2 (hi2) d_Law_law_363 ?_
        refine c2_i F hA rfl hK hw.comm (c_Model_value l h2) rfl (good_V lk_1319 lk_1320 lk_1321 lk_10 lk_1322) (mr_0 hK hw.comm.one) hd_Model_value ⟨Nat.le_of_ble_eq_true rfl, Nat.le_of_ble_eq_true rfl⟩ rfl hl.1 rfl (Nat.le_of_ble_eq_true rfl) d_Law_law_364 ⟨by show _ ≤ 600000; omega, by show _ ≤ 7302250; omega⟩ (fun am' H locs hT2 hw => ?_)
        replace hw := hw.comm
        refine lv_icmp_eq (tgt := 857) F.1 F.2.1 d_Law_law_367 (by decide) (fun _ => ?_) (fun c9 => absurd rfl c9)
        have e1 : ad' 0 0 = ad 0 0 := by obtain ⟨q, rfl⟩ := hT; rfl
        have e2 : am' 0 0 = am 0 0 := by rw [hT2]
        rw [← e1, ← e2] at hl
        refine W.widen (k := 98 + 3 * (j + 1)) (n := 187205 + Φ S') (by omega) (by omega) ?_
        exact END S' M hr ad' am' H locs hw ls hl
      rcases Decidable.em (sel = (8 : Int32)) with c_8 | c_8
      · refine lv_tableIn (off := 339) (tgt := 372) F.1 F.2.1 d_Law_law_33 (by rw [c_8]; decide) (by rw [c_8]; decide) (by rw [c_8]; decide) (by decide) ?_
        refine lv_aload_n F.1 F.2.1 d_Law_law_372 rfl (lv_at hl 1 rfl) ?_
        refine lv_aload_n F.1 F.2.1 d_Law_law_373 rfl (lv_at hl 0 rfl) ?_
        refine lv_iload_n F.1 F.2.1 d_Law_law_374 rfl (lv_at hl 3 rfl) ?_
        refine lv_iconst (v := 1) F.1 F.2.1 d_Law_law_375 (by decide) ?_
        refine lv_iadd F.1 F.2.1 d_Law_law_376 ?_
        refine va_sld F.1 F.2.1 hX hbl hbA hw.2.2 (hi1) d_Law_law_377 ?_
        obtain ⟨r, S', h1, h2, hr, hp⟩ := okshare S M ((xs (x3 + (1 : Int32)).toNatClampNeg)) hR0
        have hb' := hbd _ _ hr
        refine c2_i F hA rfl hK hw (c_Lots_share l h1 rfl) rfl (good_V lk_668 lk_669 lk_670 lk_1 lk_671) (cr_0 hK hw.one) hd_Lots_share ⟨Nat.le_of_ble_eq_true rfl, Nat.le_of_ble_eq_true rfl⟩ rfl hl.1 rfl (Nat.le_of_ble_eq_true rfl) d_Law_law_378 ⟨by show _ ≤ 600000; omega, by show _ ≤ 7302250; omega⟩ (fun ad' H locs hT hw => ?_)
        refine lv_aload_n F.1 F.2.1 d_Law_law_381 rfl (lv_at hl 2 rfl) ?_
        refine lv_aload_n F.1 F.2.1 d_Law_law_382 rfl (lv_at hl 0 rfl) ?_
        refine lv_iload_n F.1 F.2.1 d_Law_law_383 rfl (lv_at hl 3 rfl) ?_
        refine lv_iconst (v := 1) F.1 F.2.1 d_Law_law_384 (by decide) ?_
        refine lv_iadd F.1 F.2.1 d_Law_law_385 ?_
        refine va_sld F.1 F.2.1 hX hbl hbA hw.2.2 (hi1) d_Law_law_386 ?_
        refine c2_i F hA rfl hK hw.comm (c_Model_share l h2) rfl (good_V lk_1331 lk_1332 lk_1333 lk_10 lk_1334) (mr_0 hK hw.comm.one) hd_Model_share ⟨Nat.le_of_ble_eq_true rfl, Nat.le_of_ble_eq_true rfl⟩ rfl hl.1 rfl (Nat.le_of_ble_eq_true rfl) d_Law_law_387 ⟨by show _ ≤ 600000; omega, by show _ ≤ 7302250; omega⟩ (fun am' H locs hT2 hw => ?_)
        replace hw := hw.comm
        refine lv_icmp_eq (tgt := 857) F.1 F.2.1 d_Law_law_390 (by decide) (fun _ => ?_) (fun c9 => absurd rfl c9)
        have e1 : ad' 0 0 = ad 0 0 := by obtain ⟨q, rfl⟩ := hT; rfl
        have e2 : am' 0 0 = am 0 0 := by rw [hT2]
        rw [← e1, ← e2] at hl
        refine W.widen (k := 98 + 3 * (j + 1)) (n := 187205 + Φ S') (by omega) (by omega) ?_
        exact END S' M hr ad' am' H locs hw ls hl
      rcases Decidable.em (sel = (9 : Int32)) with c_9 | c_9
      · refine lv_tableIn (off := 362) (tgt := 395) F.1 F.2.1 d_Law_law_33 (by rw [c_9]; decide) (by rw [c_9]; decide) (by rw [c_9]; decide) (by decide) ?_
        refine lv_aload_n F.1 F.2.1 d_Law_law_395 rfl (lv_at hl 1 rfl) ?_
        obtain ⟨r, S', h1, h2, hr, hp⟩ := oksum S M hR0
        have hb' := hbd _ _ hr
        refine c2_i F hA rfl hK hw (c_Lots_sum l h1 rfl) rfl (good_V lk_708 lk_709 lk_710 lk_1 lk_711) (cr_0 hK hw.one) hd_Lots_sum ⟨Nat.le_of_ble_eq_true rfl, Nat.le_of_ble_eq_true rfl⟩ rfl hl.1 rfl (Nat.le_of_ble_eq_true rfl) d_Law_law_396 ⟨by show _ ≤ 600000; omega, by show _ ≤ 7302250; omega⟩ (fun ad' H locs hT hw => ?_)
        refine lv_aload_n F.1 F.2.1 d_Law_law_399 rfl (lv_at hl 2 rfl) ?_
        refine c2_i F hA rfl hK hw.comm (c_Model_sum l h2) rfl (good_V lk_1335 lk_1336 lk_1337 lk_10 lk_1338) (mr_0 hK hw.comm.one) hd_Model_sum ⟨Nat.le_of_ble_eq_true rfl, Nat.le_of_ble_eq_true rfl⟩ rfl hl.1 rfl (Nat.le_of_ble_eq_true rfl) d_Law_law_400 ⟨by show _ ≤ 600000; omega, by show _ ≤ 7302250; omega⟩ (fun am' H locs hT2 hw => ?_)
        replace hw := hw.comm
        refine lv_icmp_eq (tgt := 857) F.1 F.2.1 d_Law_law_403 (by decide) (fun _ => ?_) (fun c9 => absurd rfl c9)
        have e1 : ad' 0 0 = ad 0 0 := by obtain ⟨q, rfl⟩ := hT; rfl
        have e2 : am' 0 0 = am 0 0 := by rw [hT2]
        rw [← e1, ← e2] at hl
        refine W.widen (k := 98 + 3 * (j + 1)) (n := 187205 + Φ S') (by omega) (by omega) ?_
        exact END S' M hr ad' am' H locs hw ls hl
      rcases Decidable.em (sel = (10 : Int32)) with c_10 | c_10
      · refine lv_tableIn (off := 375) (tgt := 408) F.1 F.2.1 d_Law_law_33 (by rw [c_10]; decide) (by rw [c_10]; decide) (by rw [c_10]; decide) (by decide) ?_
        refine lv_aload_n F.1 F.2.1 d_Law_law_408 rfl (lv_at hl 1 rfl) ?_
        refine lv_aload_n F.1 F.2.1 d_Law_law_409 rfl (lv_at hl 0 rfl) ?_
        refine lv_iload_n F.1 F.2.1 d_Law_law_410 rfl (lv_at hl 3 rfl) ?_
        refine lv_iconst (v := 1) F.1 F.2.1 d_Law_law_411 (by decide) ?_
        refine lv_iadd F.1 F.2.1 d_Law_law_412 ?_
        refine va_sld F.1 F.2.1 hX hbl hbA hw.2.2 (hi1) d_Law_law_413 ?_
        obtain ⟨r, S', h1, h2, hr, hp⟩ := okpick S M ((xs (x3 + (1 : Int32)).toNatClampNeg)) hR0
        have hb' := hbd _ _ hr
        refine c2_i F hA rfl hK hw (c_Lots_pick l h1 rfl) rfl (good_V lk_712 lk_713 lk_714 lk_1 lk_715) (cr_0 hK hw.one) hd_Lots_pick ⟨Nat.le_of_ble_eq_true rfl, Nat.le_of_ble_eq_true rfl⟩ rfl hl.1 rfl (Nat.le_of_ble_eq_true rfl) d_Law_law_414 ⟨by show _ ≤ 600000; omega, by show _ ≤ 7302250; omega⟩ (fun ad' H locs hT hw => ?_)
        refine lv_aload_n F.1 F.2.1 d_Law_law_417 rfl (lv_at hl 2 rfl) ?_
        refine lv_aload_n F.1 F.2.1 d_Law_law_418 rfl (lv_at hl 0 rfl) ?_
        refine lv_iload_n F.1 F.2.1 d_Law_law_419 rfl (lv_at hl 3 rfl) ?_
        refine lv_iconst (v := 1) F.1 F.2.1 d_Law_law_420 (by decide) ?_
        refine lv_iadd F.1 F.2.1 d_Law_law_421 ?_
        refine va_sld F.1 F.2.1 hX hbl hbA hw.2.2 (hi1) d_Law_law_422 ?_
        refine c2_i F hA rfl hK hw.comm (c_Model_pick l h2) rfl (good_V lk_1339 lk_1340 lk_1341 lk_10 lk_1342) (mr_0 hK hw.comm.one) hd_Model_pick ⟨Nat.le_of_ble_eq_true rfl, Nat.le_of_ble_eq_true rfl⟩ rfl hl.1 rfl (Nat.le_of_ble_eq_true rfl) d_Law_law_423 ⟨by show _ ≤ 600000; omega, by show _ ≤ 7302250; omega⟩ (fun am' H locs hT2 hw => ?_)
        replace hw := hw.comm
        refine lv_icmp_eq (tgt := 857) F.1 F.2.1 d_Law_law_426 (by decide) (fun _ => ?_) (fun c9 => absurd rfl c9)
        have e1 : ad' 0 0 = ad 0 0 := by obtain ⟨q, rfl⟩ := hT; rfl
        have e2 : am' 0 0 = am 0 0 := by rw [hT2]
        rw [← e1, ← e2] at hl
        refine W.widen (k := 98 + 3 * (j + 1)) (n := 187205 + Φ S') (by omega) (by omega) ?_
        exact END S' M hr ad' am' H locs hw ls hl
      rcases Decidable.em (sel = (11 : Int32)) with c_11 | c_11
      · refine lv_tableIn (off := 398) (tgt := 431) F.1 F.2.1 d_Law_law_33 (by rw [c_11]; decide) (by rw [c_11]; decide) (by rw [c_11]; decide) (by decide) ?_
        refine lv_aload_n F.1 F.2.1 d_Law_law_431 rfl (lv_at hl 1 rfl) ?_
        refine lv_aload_n F.1 F.2.1 d_Law_law_432 rfl (lv_at hl 0 rfl) ?_
        refine lv_iload_n F.1 F.2.1 d_Law_law_433 rfl (lv_at hl 3 rfl) ?_
        refine lv_iconst (v := 1) F.1 F.2.1 d_Law_law_434 (by decide) ?_
        refine lv_iadd F.1 F.2.1 d_Law_law_435 ?_
        refine va_sld F.1 F.2.1 hX hbl hbA hw.2.2 (hi1) d_Law_law_436 ?_
        refine lv_i2l F.1 F.2.1 d_Law_law_437 rfl ?_
        refine lv_bipush (v := 32) F.1 F.2.1 d_Law_law_438 (by decide) ?_
        refine lv_lshl F.1 F.2.1 d_Law_law_440 rfl ?_
        refine lv_aload_n F.1 F.2.1 d_Law_law_441 rfl (lv_at hl 0 rfl) ?_
        refine lv_iload_n F.1 F.2.1 d_Law_law_442 rfl (lv_at hl 3 rfl) ?_
        refine lv_iconst (v := 2) F.1 F.2.1 d_Law_law_443 (by decide) ?_
        refine lv_iadd F.1 F.2.1 d_Law_law_444 ?_
        refine va_sld F.1 F.2.1 hX hbl hbA hw.2.2 (hi2) d_Law_law_445 ?_
        refine lv_i2l F.1 F.2.1 d_Law_law_446 rfl ?_
        refine lv_ldc2 F.1 F.2.1 F.2.2.2.1 (F.2.2.2.2 _ lk_1441) d_Law_law_447 ?_
        refine lv_land F.1 F.2.1 d_Law_law_450 ?_
        refine lv_lor F.1 F.2.1 d_Law_law_451 ?_
        refine lv_aload_n F.1 F.2.1 d_Law_law_452 rfl (lv_at hl 0 rfl) ?_
        refine lv_iload_n F.1 F.2.1 d_Law_law_453 rfl (lv_at hl 3 rfl) ?_
        refine lv_iconst (v := 3) F.1 F.2.1 d_Law_law_454 (by decide) ?_
        refine lv_iadd F.1 F.2.1 d_Law_law_455 ?_
        refine va_sld F.1 F.2.1 hX hbl hbA hw.2.2 (hi3) d_Law_law_456 ?_
        obtain ⟨r, S', M', h1, h2, hr, hp⟩ := okdraw S M (((((xs (x3 + (1 : Int32)).toNatClampNeg).toInt64) <<< ((32 : Int32).toInt64 &&& 63)) ||| (((xs (x3 + (2 : Int32)).toNatClampNeg).toInt64) &&& (4294967295 : Int64)))) ((xs (x3 + (3 : Int32)).toNatClampNeg)) hR0
        have hb' := hbd _ _ hr
        refine c2_i F hA rfl hK hw (c_Lots_draw l h1 rfl) rfl (good_V lk_720 lk_721 lk_722 lk_1 lk_723) (cr_0 hK hw.one) hd_Lots_draw ⟨Nat.le_of_ble_eq_true rfl, Nat.le_of_ble_eq_true rfl⟩ rfl hl.1 rfl (Nat.le_of_ble_eq_true rfl) d_Law_law_457 ⟨by show _ ≤ 600000; omega, by show _ ≤ 7302250; omega⟩ (fun ad' H locs hT hw => ?_)
        refine lv_aload_n F.1 F.2.1 d_Law_law_460 rfl (lv_at hl 2 rfl) ?_
        refine lv_aload_n F.1 F.2.1 d_Law_law_461 rfl (lv_at hl 0 rfl) ?_
        refine lv_iload_n F.1 F.2.1 d_Law_law_462 rfl (lv_at hl 3 rfl) ?_
        refine lv_iconst (v := 1) F.1 F.2.1 d_Law_law_463 (by decide) ?_
        refine lv_iadd F.1 F.2.1 d_Law_law_464 ?_
        refine va_sld F.1 F.2.1 hX hbl hbA hw.2.2 (hi1) d_Law_law_465 ?_
        refine lv_i2l F.1 F.2.1 d_Law_law_466 rfl ?_
        refine lv_bipush (v := 32) F.1 F.2.1 d_Law_law_467 (by decide) ?_
        refine lv_lshl F.1 F.2.1 d_Law_law_469 rfl ?_
        refine lv_aload_n F.1 F.2.1 d_Law_law_470 rfl (lv_at hl 0 rfl) ?_
        refine lv_iload_n F.1 F.2.1 d_Law_law_471 rfl (lv_at hl 3 rfl) ?_
        refine lv_iconst (v := 2) F.1 F.2.1 d_Law_law_472 (by decide) ?_
        refine lv_iadd F.1 F.2.1 d_Law_law_473 ?_
        refine va_sld F.1 F.2.1 hX hbl hbA hw.2.2 (hi2) d_Law_law_474 ?_
        refine lv_i2l F.1 F.2.1 d_Law_law_475 rfl ?_
        refine lv_ldc2 F.1 F.2.1 F.2.2.2.1 (F.2.2.2.2 _ lk_1441) d_Law_law_476 ?_
        refine lv_land F.1 F.2.1 d_Law_law_479 ?_
        refine lv_lor F.1 F.2.1 d_Law_law_480 ?_
        refine lv_aload_n F.1 F.2.1 d_Law_law_481 rfl (lv_at hl 0 rfl) ?_
        refine lv_iload_n F.1 F.2.1 d_Law_law_482 rfl (lv_at hl 3 rfl) ?_
        refine lv_iconst (v := 3) F.1 F.2.1 d_Law_law_483 (by decide) ?_
        refine lv_iadd F.1 F.2.1 d_Law_law_484 ?_
        refine va_sld F.1 F.2.1 hX hbl hbA hw.2.2 (hi3) d_Law_law_485 ?_
        refine c2_i F hA rfl hK hw.comm (c_Model_draw l h2) rfl (good_V lk_1347 lk_1348 lk_1349 lk_10 lk_1350) (mr_0 hK hw.comm.one) hd_Model_draw ⟨Nat.le_of_ble_eq_true rfl, Nat.le_of_ble_eq_true rfl⟩ rfl hl.1 rfl (Nat.le_of_ble_eq_true rfl) d_Law_law_486 ⟨by show _ ≤ 600000; omega, by show _ ≤ 7302250; omega⟩ (fun am' H locs hT2 hw => ?_)
        replace hw := hw.comm
        refine lv_icmp_eq (tgt := 857) F.1 F.2.1 d_Law_law_489 (by decide) (fun _ => ?_) (fun c9 => absurd rfl c9)
        have e1 : ad' 0 0 = ad 0 0 := by obtain ⟨q, rfl⟩ := hT; rfl
        have e2 : am' 0 0 = am 0 0 := by rw [hT2]
        rw [← e1, ← e2] at hl
        refine W.widen (k := 98 + 3 * (j + 1)) (n := 187205 + Φ S') (by omega) (by omega) ?_
        exact END S' M' hr ad' am' H locs hw ls hl
      rcases Decidable.em (sel = (12 : Int32)) with c_12 | c_12
      · refine lv_tableIn (off := 461) (tgt := 494) F.1 F.2.1 d_Law_law_33 (by rw [c_12]; decide) (by rw [c_12]; decide) (by rw [c_12]; decide) (by decide) ?_
        refine lv_aload_n F.1 F.2.1 d_Law_law_494 rfl (lv_at hl 1 rfl) ?_
        obtain ⟨r, S', h1, h2, hr, hp⟩ := okquarrel S M hR0
        have hb' := hbd _ _ hr
        refine c2_i F hA rfl hK hw (c_Lots_quarrel l h1 rfl) rfl (good_V lk_730 lk_731 lk_732 lk_1 lk_733) (cr_0 hK hw.one) hd_Lots_quarrel ⟨Nat.le_of_ble_eq_true rfl, Nat.le_of_ble_eq_true rfl⟩ rfl hl.1 rfl (Nat.le_of_ble_eq_true rfl) d_Law_law_495 ⟨by show _ ≤ 600000; omega, by show _ ≤ 7302250; omega⟩ (fun ad' H locs hT hw => ?_)
        refine lv_aload_n F.1 F.2.1 d_Law_law_498 rfl (lv_at hl 2 rfl) ?_
        refine c2_i F hA rfl hK hw.comm (c_Model_quarrel l h2) rfl (good_V lk_1361 lk_1362 lk_1363 lk_10 lk_1364) (mr_0 hK hw.comm.one) hd_Model_quarrel ⟨Nat.le_of_ble_eq_true rfl, Nat.le_of_ble_eq_true rfl⟩ rfl hl.1 rfl (Nat.le_of_ble_eq_true rfl) d_Law_law_499 ⟨by show _ ≤ 600000; omega, by show _ ≤ 7302250; omega⟩ (fun am' H locs hT2 hw => ?_)
        replace hw := hw.comm
        refine lv_icmp_eq (tgt := 857) F.1 F.2.1 d_Law_law_502 (by decide) (fun _ => ?_) (fun c9 => absurd rfl c9)
        have e1 : ad' 0 0 = ad 0 0 := by obtain ⟨q, rfl⟩ := hT; rfl
        have e2 : am' 0 0 = am 0 0 := by rw [hT2]
        rw [← e1, ← e2] at hl
        refine W.widen (k := 98 + 3 * (j + 1)) (n := 187205 + Φ S') (by omega) (by omega) ?_
        exact END S' M hr ad' am' H locs hw ls hl
      rcases Decidable.em (sel = (13 : Int32)) with c_13 | c_13
      · refine lv_tableIn (off := 474) (tgt := 507) F.1 F.2.1 d_Law_law_33 (by rw [c_13]; decide) (by rw [c_13]; decide) (by rw [c_13]; decide) (by decide) ?_
        refine lv_aload_n F.1 F.2.1 d_Law_law_507 rfl (lv_at hl 1 rfl) ?_
        refine lv_aload_n F.1 F.2.1 d_Law_law_508 rfl (lv_at hl 0 rfl) ?_
        refine lv_iload_n F.1 F.2.1 d_Law_law_509 rfl (lv_at hl 3 rfl) ?_
        refine lv_iconst (v := 1) F.1 F.2.1 d_Law_law_510 (by decide) ?_
        refine lv_iadd F.1 F.2.1 d_Law_law_511 ?_
        refine va_sld F.1 F.2.1 hX hbl hbA hw.2.2 (hi1) d_Law_law_512 ?_
        obtain ⟨r, S', h1, h2, hr, hp⟩ := okalone S M ((xs (x3 + (1 : Int32)).toNatClampNeg)) hR0
        have hb' := hbd _ _ hr
        refine c2_i F hA rfl hK hw (c_Lots_alone l h1 rfl) rfl (good_V lk_750 lk_751 lk_752 lk_1 lk_753) (cr_0 hK hw.one) hd_Lots_alone ⟨Nat.le_of_ble_eq_true rfl, Nat.le_of_ble_eq_true rfl⟩ rfl hl.1 rfl (Nat.le_of_ble_eq_true rfl) d_Law_law_513 ⟨by show _ ≤ 600000; omega, by show _ ≤ 7302250; omega⟩ (fun ad' H locs hT hw => ?_)
        refine lv_aload_n F.1 F.2.1 d_Law_law_516 rfl (lv_at hl 2 rfl) ?_
        refine lv_aload_n F.1 F.2.1 d_Law_law_517 rfl (lv_at hl 0 rfl) ?_
        refine lv_iload_n F.1 F.2.1 d_Law_law_518 rfl (lv_at hl 3 rfl) ?_
        refine lv_iconst (v := 1) F.1 F.2.1 d_Law_law_519 (by decide) ?_
        refine lv_iadd F.1 F.2.1 d_Law_law_520 ?_
        refine va_sld F.1 F.2.1 hX hbl hbA hw.2.2 (hi1) d_Law_law_521 ?_
        refine c2_i F hA rfl hK hw.comm (c_Model_alone l h2) rfl (good_V lk_1368 lk_1369 lk_1370 lk_10 lk_1371) (mr_0 hK hw.comm.one) hd_Model_alone ⟨Nat.le_of_ble_eq_true rfl, Nat.le_of_ble_eq_true rfl⟩ rfl hl.1 rfl (Nat.le_of_ble_eq_true rfl) d_Law_law_522 ⟨by show _ ≤ 600000; omega, by show _ ≤ 7302250; omega⟩ (fun am' H locs hT2 hw => ?_)
        replace hw := hw.comm
        refine lv_icmp_eq (tgt := 857) F.1 F.2.1 d_Law_law_525 (by decide) (fun _ => ?_) (fun c9 => absurd rfl c9)
        have e1 : ad' 0 0 = ad 0 0 := by obtain ⟨q, rfl⟩ := hT; rfl
        have e2 : am' 0 0 = am 0 0 := by rw [hT2]
        rw [← e1, ← e2] at hl
        refine W.widen (k := 98 + 3 * (j + 1)) (n := 187205 + Φ S') (by omega) (by omega) ?_
        exact END S' M hr ad' am' H locs hw ls hl
      rcases Decidable.em (sel = (14 : Int32)) with c_14 | c_14
      · refine lv_tableIn (off := 497) (tgt := 530) F.1 F.2.1 d_Law_law_33 (by rw [c_14]; decide) (by rw [c_14]; decide) (by rw [c_14]; decide) (by decide) ?_
        refine lv_aload_n F.1 F.2.1 d_Law_law_530 rfl (lv_at hl 1 rfl) ?_
        refine lv_aload_n F.1 F.2.1 d_Law_law_531 rfl (lv_at hl 0 rfl) ?_
        refine lv_iload_n F.1 F.2.1 d_Law_law_532 rfl (lv_at hl 3 rfl) ?_
        refine lv_iconst (v := 1) F.1 F.2.1 d_Law_law_533 (by decide) ?_
        refine lv_iadd F.1 F.2.1 d_Law_law_534 ?_
        refine va_sld F.1 F.2.1 hX hbl hbA hw.2.2 (hi1) d_Law_law_535 ?_
        obtain ⟨r, S', h1, h2, hr, hp⟩ := okmeets S M ((xs (x3 + (1 : Int32)).toNatClampNeg)) hR0
        have hb' := hbd _ _ hr
        refine c2_i F hA rfl hK hw (c_Lots_meets l h1 rfl) rfl (good_V lk_758 lk_759 lk_760 lk_1 lk_761) (cr_0 hK hw.one) hd_Lots_meets ⟨Nat.le_of_ble_eq_true rfl, Nat.le_of_ble_eq_true rfl⟩ rfl hl.1 rfl (Nat.le_of_ble_eq_true rfl) d_Law_law_536 ⟨by show _ ≤ 600000; omega, by show _ ≤ 7302250; omega⟩ (fun ad' H locs hT hw => ?_)
        refine lv_aload_n F.1 F.2.1 d_Law_law_539 rfl (lv_at hl 2 rfl) ?_
        refine lv_aload_n F.1 F.2.1 d_Law_law_540 rfl (lv_at hl 0 rfl) ?_
        refine lv_iload_n F.1 F.2.1 d_Law_law_541 rfl (lv_at hl 3 rfl) ?_
        refine lv_iconst (v := 1) F.1 F.2.1 d_Law_law_542 (by decide) ?_
        refine lv_iadd F.1 F.2.1 d_Law_law_543 ?_
        refine va_sld F.1 F.2.1 hX hbl hbA hw.2.2 (hi1) d_Law_law_544 ?_
        refine c2_i F hA rfl hK hw.comm (c_Model_meets l h2) rfl (good_V lk_1372 lk_1373 lk_1374 lk_10 lk_1375) (mr_0 hK hw.comm.one) hd_Model_meets ⟨Nat.le_of_ble_eq_true rfl, Nat.le_of_ble_eq_true rfl⟩ rfl hl.1 rfl (Nat.le_of_ble_eq_true rfl) d_Law_law_545 ⟨by show _ ≤ 600000; omega, by show _ ≤ 7302250; omega⟩ (fun am' H locs hT2 hw => ?_)
        replace hw := hw.comm
        refine lv_icmp_eq (tgt := 857) F.1 F.2.1 d_Law_law_548 (by decide) (fun _ => ?_) (fun c9 => absurd rfl c9)
        have e1 : ad' 0 0 = ad 0 0 := by obtain ⟨q, rfl⟩ := hT; rfl
        have e2 : am' 0 0 = am 0 0 := by rw [hT2]
        rw [← e1, ← e2] at hl
        refine W.widen (k := 98 + 3 * (j + 1)) (n := 187205 + Φ S') (by omega) (by omega) ?_
        exact END S' M hr ad' am' H locs hw ls hl
      rcases Decidable.em (sel = (15 : Int32)) with c_15 | c_15
      · refine lv_tableIn (off := 520) (tgt := 553) F.1 F.2.1 d_Law_law_33 (by rw [c_15]; decide) (by rw [c_15]; decide) (by rw [c_15]; decide) (by decide) ?_
        refine lv_aload_n F.1 F.2.1 d_Law_law_553 rfl (lv_at hl 1 rfl) ?_
        refine lv_aload_n F.1 F.2.1 d_Law_law_554 rfl (lv_at hl 0 rfl) ?_
        refine lv_iload_n F.1 F.2.1 d_Law_law_555 rfl (lv_at hl 3 rfl) ?_
        refine lv_iconst (v := 1) F.1 F.2.1 d_Law_law_556 (by decide) ?_
        refine lv_iadd F.1 F.2.1 d_Law_law_557 ?_
        refine va_sld F.1 F.2.1 hX hbl hbA hw.2.2 (hi1) d_Law_law_558 ?_
        refine lv_aload_n F.1 F.2.1 d_Law_law_559 rfl (lv_at hl 0 rfl) ?_
        refine lv_iload_n F.1 F.2.1 d_Law_law_560 rfl (lv_at hl 3 rfl) ?_
        refine lv_iconst (v := 2) F.1 F.2.1 d_Law_law_561 (by decide) ?_
        refine lv_iadd F.1 F.2.1 d_Law_law_562 ?_
        refine va_sld F.1 F.2.1 hX hbl hbA hw.2.2 (hi2) d_Law_law_563 ?_
        obtain ⟨r, S', h1, h2, hr, hp⟩ := okcross S M ((xs (x3 + (1 : Int32)).toNatClampNeg)) ((xs (x3 + (2 : Int32)).toNatClampNeg)) hR0
        have hb' := hbd _ _ hr
        refine c2_i F hA rfl hK hw (c_Lots_cross l h1 rfl) rfl (good_V lk_786 lk_787 lk_788 lk_1 lk_789) (cr_0 hK hw.one) hd_Lots_cross ⟨Nat.le_of_ble_eq_true rfl, Nat.le_of_ble_eq_true rfl⟩ rfl hl.1 rfl (Nat.le_of_ble_eq_true rfl) d_Law_law_564 ⟨by show _ ≤ 600000; omega, by show _ ≤ 7302250; omega⟩ (fun ad' H locs hT hw => ?_)
        refine lv_aload_n F.1 F.2.1 d_Law_law_567 rfl (lv_at hl 2 rfl) ?_
        refine lv_aload_n F.1 F.2.1 d_Law_law_568 rfl (lv_at hl 0 rfl) ?_
        refine lv_iload_n F.1 F.2.1 d_Law_law_569 rfl (lv_at hl 3 rfl) ?_
        refine lv_iconst (v := 1) F.1 F.2.1 d_Law_law_570 (by decide) ?_
        refine lv_iadd F.1 F.2.1 d_Law_law_571 ?_
        refine va_sld F.1 F.2.1 hX hbl hbA hw.2.2 (hi1) d_Law_law_572 ?_
        refine lv_aload_n F.1 F.2.1 d_Law_law_573 rfl (lv_at hl 0 rfl) ?_
        refine lv_iload_n F.1 F.2.1 d_Law_law_574 rfl (lv_at hl 3 rfl) ?_
        refine lv_iconst (v := 2) F.1 F.2.1 d_Law_law_575 (by decide) ?_
        refine lv_iadd F.1 F.2.1 d_Law_law_576 ?_
        refine va_sld F.1 F.2.1 hX hbl hbA hw.2.2 (hi2) d_Law_law_577 ?_
        refine c2_i F hA rfl hK hw.comm (c_Model_cross l h2) rfl (good_V lk_1384 lk_1385 lk_1386 lk_10 lk_1387) (mr_0 hK hw.comm.one) hd_Model_cross ⟨Nat.le_of_ble_eq_true rfl, Nat.le_of_ble_eq_true rfl⟩ rfl hl.1 rfl (Nat.le_of_ble_eq_true rfl) d_Law_law_578 ⟨by show _ ≤ 600000; omega, by show _ ≤ 7302250; omega⟩ (fun am' H locs hT2 hw => ?_)
        replace hw := hw.comm
        refine lv_icmp_eq (tgt := 857) F.1 F.2.1 d_Law_law_581 (by decide) (fun _ => ?_) (fun c9 => absurd rfl c9)
        have e1 : ad' 0 0 = ad 0 0 := by obtain ⟨q, rfl⟩ := hT; rfl
        have e2 : am' 0 0 = am 0 0 := by rw [hT2]
        rw [← e1, ← e2] at hl
        refine W.widen (k := 98 + 3 * (j + 1)) (n := 187205 + Φ S') (by omega) (by omega) ?_
        exact END S' M hr ad' am' H locs hw ls hl
      rcases Decidable.em (sel = (16 : Int32)) with c_16 | c_16
      · refine lv_tableIn (off := 553) (tgt := 586) F.1 F.2.1 d_Law_law_33 (by rw [c_16]; decide) (by rw [c_16]; decide) (by rw [c_16]; decide) (by decide) ?_
        refine lv_aload_n F.1 F.2.1 d_Law_law_586 rfl (lv_at hl 1 rfl) ?_
        refine lv_aload_n F.1 F.2.1 d_Law_law_587 rfl (lv_at hl 0 rfl) ?_
        refine lv_iload_n F.1 F.2.1 d_Law_law_588 rfl (lv_at hl 3 rfl) ?_
        refine lv_iconst (v := 1) F.1 F.2.1 d_Law_law_589 (by decide) ?_
        refine lv_iadd F.1 F.2.1 d_Law_law_590 ?_
        refine va_sld F.1 F.2.1 hX hbl hbA hw.2.2 (hi1) d_Law_law_591 ?_
        obtain ⟨r, S', h1, h2, hr, hp⟩ := okhits S M ((xs (x3 + (1 : Int32)).toNatClampNeg)) hR0
        have hb' := hbd _ _ hr
        refine c2_i F hA rfl hK hw (c_Lots_hits l h1 rfl) rfl (good_V lk_790 lk_791 lk_792 lk_1 lk_793) (cr_0 hK hw.one) hd_Lots_hits ⟨Nat.le_of_ble_eq_true rfl, Nat.le_of_ble_eq_true rfl⟩ rfl hl.1 rfl (Nat.le_of_ble_eq_true rfl) d_Law_law_592 ⟨by show _ ≤ 600000; omega, by show _ ≤ 7302250; omega⟩ (fun ad' H locs hT hw => ?_)
        refine lv_aload_n F.1 F.2.1 d_Law_law_595 rfl (lv_at hl 2 rfl) ?_
        refine lv_aload_n F.1 F.2.1 d_Law_law_596 rfl (lv_at hl 0 rfl) ?_
        refine lv_iload_n F.1 F.2.1 d_Law_law_597 rfl (lv_at hl 3 rfl) ?_
        refine lv_iconst (v := 1) F.1 F.2.1 d_Law_law_598 (by decide) ?_
        refine lv_iadd F.1 F.2.1 d_Law_law_599 ?_
        refine va_sld F.1 F.2.1 hX hbl hbA hw.2.2 (hi1) d_Law_law_600 ?_
        refine c2_i F hA rfl hK hw.comm (c_Model_hits l h2) rfl (good_V lk_1388 lk_1389 lk_1390 lk_10 lk_1391) (mr_0 hK hw.comm.one) hd_Model_hits ⟨Nat.le_of_ble_eq_true rfl, Nat.le_of_ble_eq_true rfl⟩ rfl hl.1 rfl (Nat.le_of_ble_eq_true rfl) d_Law_law_601 ⟨by show _ ≤ 600000; omega, by show _ ≤ 7302250; omega⟩ (fun am' H locs hT2 hw => ?_)
        replace hw := hw.comm
        refine lv_icmp_eq (tgt := 857) F.1 F.2.1 d_Law_law_604 (by decide) (fun _ => ?_) (fun c9 => absurd rfl c9)
        have e1 : ad' 0 0 = ad 0 0 := by obtain ⟨q, rfl⟩ := hT; rfl
        have e2 : am' 0 0 = am 0 0 := by rw [hT2]
        rw [← e1, ← e2] at hl
        refine W.widen (k := 98 + 3 * (j + 1)) (n := 187205 + Φ S') (by omega) (by omega) ?_
        exact END S' M hr ad' am' H locs hw ls hl
      rcases Decidable.em (sel = (17 : Int32)) with c_17 | c_17
      · refine lv_tableIn (off := 576) (tgt := 609) F.1 F.2.1 d_Law_law_33 (by rw [c_17]; decide) (by rw [c_17]; decide) (by rw [c_17]; decide) (by decide) ?_
        refine lv_aload_n F.1 F.2.1 d_Law_law_609 rfl (lv_at hl 1 rfl) ?_
        obtain ⟨r, S', M', h1, h2, hr, hp⟩ := okfill S M hR0
        have hb' := hbd _ _ hr
        refine c2_i F hA rfl hK hw (c_Lots_fill l h1 rfl) rfl (good_V lk_803 lk_804 lk_805 lk_1 lk_806) (cr_0 hK hw.one) hd_Lots_fill ⟨Nat.le_of_ble_eq_true rfl, Nat.le_of_ble_eq_true rfl⟩ rfl hl.1 rfl (Nat.le_of_ble_eq_true rfl) d_Law_law_610 ⟨by show _ ≤ 600000; omega, by show _ ≤ 7302250; omega⟩ (fun ad' H locs hT hw => ?_)
        refine lv_aload_n F.1 F.2.1 d_Law_law_613 rfl (lv_at hl 2 rfl) ?_
        refine c2_i F hA rfl hK hw.comm (c_Model_fill l h2) rfl (good_V lk_1396 lk_1397 lk_1398 lk_10 lk_1399) (mr_0 hK hw.comm.one) hd_Model_fill ⟨Nat.le_of_ble_eq_true rfl, Nat.le_of_ble_eq_true rfl⟩ rfl hl.1 rfl (Nat.le_of_ble_eq_true rfl) d_Law_law_614 ⟨by show _ ≤ 600000; omega, by show _ ≤ 7302250; omega⟩ (fun am' H locs hT2 hw => ?_)
        replace hw := hw.comm
        refine lv_icmp_eq (tgt := 857) F.1 F.2.1 d_Law_law_617 (by decide) (fun _ => ?_) (fun c9 => absurd rfl c9)
        have e1 : ad' 0 0 = ad 0 0 := by obtain ⟨q, rfl⟩ := hT; rfl
        have e2 : am' 0 0 = am 0 0 := by rw [hT2]
        rw [← e1, ← e2] at hl
        refine W.widen (k := 98 + 3 * (j + 1)) (n := 187205 + Φ S') (by omega) (by omega) ?_
        exact END S' M' hr ad' am' H locs hw ls hl
      rcases Decidable.em (sel = (18 : Int32)) with c_18 | c_18
      · refine lv_tableIn (off := 589) (tgt := 622) F.1 F.2.1 d_Law_law_33 (by rw [c_18]; decide) (by rw [c_18]; decide) (by rw [c_18]; decide) (by decide) ?_
        refine lv_aload_n F.1 F.2.1 d_Law_law_622 rfl (lv_at hl 1 rfl) ?_
        refine lv_aload_n F.1 F.2.1 d_Law_law_623 rfl (lv_at hl 0 rfl) ?_
        refine lv_iload_n F.1 F.2.1 d_Law_law_624 rfl (lv_at hl 3 rfl) ?_
        refine lv_iconst (v := 1) F.1 F.2.1 d_Law_law_625 (by decide) ?_
        refine lv_iadd F.1 F.2.1 d_Law_law_626 ?_
        refine va_sld F.1 F.2.1 hX hbl hbA hw.2.2 (hi1) d_Law_law_627 ?_
        obtain ⟨r, S', M', h1, h2, hr, hp⟩ := okfills S M ((xs (x3 + (1 : Int32)).toNatClampNeg)) hR0
        have hb' := hbd _ _ hr
        refine c2_i F hA rfl hK hw (c_Lots_fills l h1 rfl) rfl (good_V lk_827 lk_828 lk_829 lk_1 lk_830) (cr_0 hK hw.one) hd_Lots_fills ⟨Nat.le_of_ble_eq_true rfl, Nat.le_of_ble_eq_true rfl⟩ rfl hl.1 rfl (Nat.le_of_ble_eq_true rfl) d_Law_law_628 ⟨by show _ ≤ 600000; omega, by show _ ≤ 7302250; omega⟩ (fun ad' H locs hT hw => ?_)
        refine lv_aload_n F.1 F.2.1 d_Law_law_631 rfl (lv_at hl 2 rfl) ?_
        refine lv_aload_n F.1 F.2.1 d_Law_law_632 rfl (lv_at hl 0 rfl) ?_
        refine lv_iload_n F.1 F.2.1 d_Law_law_633 rfl (lv_at hl 3 rfl) ?_
        refine lv_iconst (v := 1) F.1 F.2.1 d_Law_law_634 (by decide) ?_
        refine lv_iadd F.1 F.2.1 d_Law_law_635 ?_
        refine va_sld F.1 F.2.1 hX hbl hbA hw.2.2 (hi1) d_Law_law_636 ?_
        refine c2_i F hA rfl hK hw.comm (c_Model_fills l h2) rfl (good_V lk_1412 lk_1413 lk_1414 lk_10 lk_1415) (mr_0 hK hw.comm.one) hd_Model_fills ⟨Nat.le_of_ble_eq_true rfl, Nat.le_of_ble_eq_true rfl⟩ rfl hl.1 rfl (Nat.le_of_ble_eq_true rfl) d_Law_law_637 ⟨by show _ ≤ 600000; omega, by show _ ≤ 7302250; omega⟩ (fun am' H locs hT2 hw => ?_)
        replace hw := hw.comm
        refine lv_icmp_eq (tgt := 857) F.1 F.2.1 d_Law_law_640 (by decide) (fun _ => ?_) (fun c9 => absurd rfl c9)
        have e1 : ad' 0 0 = ad 0 0 := by obtain ⟨q, rfl⟩ := hT; rfl
        have e2 : am' 0 0 = am 0 0 := by rw [hT2]
        rw [← e1, ← e2] at hl
        refine W.widen (k := 98 + 3 * (j + 1)) (n := 187205 + Φ S') (by omega) (by omega) ?_
        exact END S' M' hr ad' am' H locs hw ls hl
      rcases Decidable.em (sel = (19 : Int32)) with c_19 | c_19
      · refine lv_tableIn (off := 612) (tgt := 645) F.1 F.2.1 d_Law_law_33 (by rw [c_19]; decide) (by rw [c_19]; decide) (by rw [c_19]; decide) (by decide) ?_
        refine lv_aload_n F.1 F.2.1 d_Law_law_645 rfl (lv_at hl 1 rfl) ?_
        obtain ⟨r, S', h1, h2, hr, hp⟩ := okbest S M hR0
        have hb' := hbd _ _ hr
        refine c2_i F hA rfl hK hw (c_Lots_best l h1 rfl) rfl (good_V lk_840 lk_841 lk_842 lk_1 lk_843) (cr_0 hK hw.one) hd_Lots_best ⟨Nat.le_of_ble_eq_true rfl, Nat.le_of_ble_eq_true rfl⟩ rfl hl.1 rfl (Nat.le_of_ble_eq_true rfl) d_Law_law_646 ⟨by show _ ≤ 600000; omega, by show _ ≤ 7302250; omega⟩ (fun ad' H locs hT hw => ?_)
        refine lv_aload_n F.1 F.2.1 d_Law_law_649 rfl (lv_at hl 2 rfl) ?_
        refine c2_i F hA rfl hK hw.comm (c_Model_best l h2) rfl (good_V lk_1416 lk_1417 lk_1418 lk_10 lk_1419) (mr_0 hK hw.comm.one) hd_Model_best ⟨Nat.le_of_ble_eq_true rfl, Nat.le_of_ble_eq_true rfl⟩ rfl hl.1 rfl (Nat.le_of_ble_eq_true rfl) d_Law_law_650 ⟨by show _ ≤ 600000; omega, by show _ ≤ 7302250; omega⟩ (fun am' H locs hT2 hw => ?_)
        replace hw := hw.comm
        refine lv_icmp_eq (tgt := 857) F.1 F.2.1 d_Law_law_653 (by decide) (fun _ => ?_) (fun c9 => absurd rfl c9)
        have e1 : ad' 0 0 = ad 0 0 := by obtain ⟨q, rfl⟩ := hT; rfl
        have e2 : am' 0 0 = am 0 0 := by rw [hT2]
        rw [← e1, ← e2] at hl
        refine W.widen (k := 98 + 3 * (j + 1)) (n := 187205 + Φ S') (by omega) (by omega) ?_
        exact END S' M hr ad' am' H locs hw ls hl
      rcases Decidable.em (sel = (20 : Int32)) with c_20 | c_20
      · refine lv_tableIn (off := 625) (tgt := 658) F.1 F.2.1 d_Law_law_33 (by rw [c_20]; decide) (by rw [c_20]; decide) (by rw [c_20]; decide) (by decide) ?_
        refine lv_aload_n F.1 F.2.1 d_Law_law_658 rfl (lv_at hl 1 rfl) ?_
        refine lv_aload_n F.1 F.2.1 d_Law_law_659 rfl (lv_at hl 0 rfl) ?_
        refine lv_iload_n F.1 F.2.1 d_Law_law_660 rfl (lv_at hl 3 rfl) ?_
        refine lv_iconst (v := 1) F.1 F.2.1 d_Law_law_661 (by decide) ?_
        refine lv_iadd F.1 F.2.1 d_Law_law_662 ?_
        refine va_sld F.1 F.2.1 hX hbl hbA hw.2.2 (hi1) d_Law_law_663 ?_
        obtain ⟨r, S', h1, h2, hr, hp⟩ := okleast S M ((xs (x3 + (1 : Int32)).toNatClampNeg)) hR0
        have hb' := hbd _ _ hr
        refine c2_i F hA rfl hK hw (c_Lots_least l h1 rfl) rfl (good_V lk_850 lk_851 lk_852 lk_1 lk_853) (cr_0 hK hw.one) hd_Lots_least ⟨Nat.le_of_ble_eq_true rfl, Nat.le_of_ble_eq_true rfl⟩ rfl hl.1 rfl (Nat.le_of_ble_eq_true rfl) d_Law_law_664 ⟨by show _ ≤ 600000; omega, by show _ ≤ 7302250; omega⟩ (fun ad' H locs hT hw => ?_)
        refine lv_aload_n F.1 F.2.1 d_Law_law_667 rfl (lv_at hl 2 rfl) ?_
        refine lv_aload_n F.1 F.2.1 d_Law_law_668 rfl (lv_at hl 0 rfl) ?_
        refine lv_iload_n F.1 F.2.1 d_Law_law_669 rfl (lv_at hl 3 rfl) ?_
        refine lv_iconst (v := 1) F.1 F.2.1 d_Law_law_670 (by decide) ?_
        refine lv_iadd F.1 F.2.1 d_Law_law_671 ?_
        refine va_sld F.1 F.2.1 hX hbl hbA hw.2.2 (hi1) d_Law_law_672 ?_
        refine c2_i F hA rfl hK hw.comm (c_Model_least l h2) rfl (good_V lk_1420 lk_1421 lk_1422 lk_10 lk_1423) (mr_0 hK hw.comm.one) hd_Model_least ⟨Nat.le_of_ble_eq_true rfl, Nat.le_of_ble_eq_true rfl⟩ rfl hl.1 rfl (Nat.le_of_ble_eq_true rfl) d_Law_law_673 ⟨by show _ ≤ 600000; omega, by show _ ≤ 7302250; omega⟩ (fun am' H locs hT2 hw => ?_)
        replace hw := hw.comm
        refine lv_icmp_eq (tgt := 857) F.1 F.2.1 d_Law_law_676 (by decide) (fun _ => ?_) (fun c9 => absurd rfl c9)
        have e1 : ad' 0 0 = ad 0 0 := by obtain ⟨q, rfl⟩ := hT; rfl
        have e2 : am' 0 0 = am 0 0 := by rw [hT2]
        rw [← e1, ← e2] at hl
        refine W.widen (k := 98 + 3 * (j + 1)) (n := 187205 + Φ S') (by omega) (by omega) ?_
        exact END S' M hr ad' am' H locs hw ls hl
      rcases Decidable.em (sel = (21 : Int32)) with c_21 | c_21
      · refine lv_tableIn (off := 648) (tgt := 681) F.1 F.2.1 d_Law_law_33 (by rw [c_21]; decide) (by rw [c_21]; decide) (by rw [c_21]; decide) (by decide) ?_
        refine lv_aload_n F.1 F.2.1 d_Law_law_681 rfl (lv_at hl 1 rfl) ?_
        refine lv_aload_n F.1 F.2.1 d_Law_law_682 rfl (lv_at hl 0 rfl) ?_
        refine lv_iload_n F.1 F.2.1 d_Law_law_683 rfl (lv_at hl 3 rfl) ?_
        refine lv_iconst (v := 1) F.1 F.2.1 d_Law_law_684 (by decide) ?_
        refine lv_iadd F.1 F.2.1 d_Law_law_685 ?_
        refine va_sld F.1 F.2.1 hX hbl hbA hw.2.2 (hi1) d_Law_law_686 ?_
        refine lv_aload_n F.1 F.2.1 d_Law_law_687 rfl (lv_at hl 0 rfl) ?_
        refine lv_iload_n F.1 F.2.1 d_Law_law_688 rfl (lv_at hl 3 rfl) ?_
        refine lv_iconst (v := 2) F.1 F.2.1 d_Law_law_689 (by decide) ?_
        refine lv_iadd F.1 F.2.1 d_Law_law_690 ?_
        refine va_sld F.1 F.2.1 hX hbl hbA hw.2.2 (hi2) d_Law_law_691 ?_
        obtain ⟨r, h1, h2, hr⟩ := oklogged S M ((xs (x3 + (1 : Int32)).toNatClampNeg)) ((xs (x3 + (2 : Int32)).toNatClampNeg)) hR0
        refine c2_i F hA rfl hK hw (c_Lots_logged l h1) rfl (good_V lk_870 lk_871 lk_872 lk_1 lk_873) (cr_0 hK hw.one) hd_Lots_logged ⟨Nat.le_of_ble_eq_true rfl, Nat.le_of_ble_eq_true rfl⟩ rfl hl.1 rfl (Nat.le_of_ble_eq_true rfl) d_Law_law_692 ⟨by show _ ≤ 600000; omega, by show _ ≤ 7302250; omega⟩ (fun ad' H locs hT hw => ?_)
        refine lv_aload_n F.1 F.2.1 d_Law_law_695 rfl (lv_at hl 2 rfl) ?_
        refine lv_aload_n F.1 F.2.1 d_Law_law_696 rfl (lv_at hl 0 rfl) ?_
        refine lv_iload_n F.1 F.2.1 d_Law_law_697 rfl (lv_at hl 3 rfl) ?_
        refine lv_iconst (v := 1) F.1 F.2.1 d_Law_law_698 (by decide) ?_
        refine lv_iadd F.1 F.2.1 d_Law_law_699 ?_
        refine va_sld F.1 F.2.1 hX hbl hbA hw.2.2 (hi1) d_Law_law_700 ?_
        refine lv_aload_n F.1 F.2.1 d_Law_law_701 rfl (lv_at hl 0 rfl) ?_
        refine lv_iload_n F.1 F.2.1 d_Law_law_702 rfl (lv_at hl 3 rfl) ?_
        refine lv_iconst (v := 2) F.1 F.2.1 d_Law_law_703 (by decide) ?_
        refine lv_iadd F.1 F.2.1 d_Law_law_704 ?_
        refine va_sld F.1 F.2.1 hX hbl hbA hw.2.2 (hi2) d_Law_law_705 ?_
        refine c2_i F hA rfl hK hw.comm (c_Model_logged l h2) rfl (good_V lk_1353 lk_1354 lk_1355 lk_10 lk_1356) (mr_0 hK hw.comm.one) hd_Model_logged ⟨Nat.le_of_ble_eq_true rfl, Nat.le_of_ble_eq_true rfl⟩ rfl hl.1 rfl (Nat.le_of_ble_eq_true rfl) d_Law_law_706 ⟨by show _ ≤ 600000; omega, by show _ ≤ 7302250; omega⟩ (fun am' H locs hT2 hw => ?_)
        replace hw := hw.comm
        refine lv_icmp_eq (tgt := 857) F.1 F.2.1 d_Law_law_709 (by decide) (fun _ => ?_) (fun c9 => absurd rfl c9)
        have e1 : ad' 0 0 = ad 0 0 := by rw [hT]
        have e2 : am' 0 0 = am 0 0 := by rw [hT2]
        rw [← e1, ← e2] at hl
        refine W.widen (k := 98 + 3 * (j + 1)) (n := 187205 + Φ S) (by omega) (by omega) ?_
        exact END S M hr ad' am' H locs hw ls hl
      rcases Decidable.em (sel = (22 : Int32)) with c_22 | c_22
      · refine lv_tableIn (off := 681) (tgt := 714) F.1 F.2.1 d_Law_law_33 (by rw [c_22]; decide) (by rw [c_22]; decide) (by rw [c_22]; decide) (by decide) ?_
        refine lv_aload_n F.1 F.2.1 d_Law_law_714 rfl (lv_at hl 1 rfl) ?_
        refine lv_aload_n F.1 F.2.1 d_Law_law_715 rfl (lv_at hl 0 rfl) ?_
        refine lv_iload_n F.1 F.2.1 d_Law_law_716 rfl (lv_at hl 3 rfl) ?_
        refine lv_iconst (v := 1) F.1 F.2.1 d_Law_law_717 (by decide) ?_
        refine lv_iadd F.1 F.2.1 d_Law_law_718 ?_
        refine va_sld F.1 F.2.1 hX hbl hbA hw.2.2 (hi1) d_Law_law_719 ?_
        obtain ⟨r, S', h1, h2, hr, hp⟩ := okfallen S M ((xs (x3 + (1 : Int32)).toNatClampNeg)) hR0
        have hb' := hbd _ _ hr
        refine c2_i F hA rfl hK hw (c_Lots_fallen l h1 rfl) rfl (good_V lk_875 lk_876 lk_877 lk_1 lk_878) (cr_0 hK hw.one) hd_Lots_fallen ⟨Nat.le_of_ble_eq_true rfl, Nat.le_of_ble_eq_true rfl⟩ rfl hl.1 rfl (Nat.le_of_ble_eq_true rfl) d_Law_law_720 ⟨by show _ ≤ 600000; omega, by show _ ≤ 7302250; omega⟩ (fun ad' H locs hT hw => ?_)
        refine lv_aload_n F.1 F.2.1 d_Law_law_723 rfl (lv_at hl 2 rfl) ?_
        refine lv_aload_n F.1 F.2.1 d_Law_law_724 rfl (lv_at hl 0 rfl) ?_
        refine lv_iload_n F.1 F.2.1 d_Law_law_725 rfl (lv_at hl 3 rfl) ?_
        refine lv_iconst (v := 1) F.1 F.2.1 d_Law_law_726 (by decide) ?_
        refine lv_iadd F.1 F.2.1 d_Law_law_727 ?_
        refine va_sld F.1 F.2.1 hX hbl hbA hw.2.2 (hi1) d_Law_law_728 ?_
        refine c2_i F hA rfl hK hw.comm (c_Model_fallen l h2) rfl (good_V lk_1357 lk_1358 lk_1359 lk_10 lk_1360) (mr_0 hK hw.comm.one) hd_Model_fallen ⟨Nat.le_of_ble_eq_true rfl, Nat.le_of_ble_eq_true rfl⟩ rfl hl.1 rfl (Nat.le_of_ble_eq_true rfl) d_Law_law_729 ⟨by show _ ≤ 600000; omega, by show _ ≤ 7302250; omega⟩ (fun am' H locs hT2 hw => ?_)
        replace hw := hw.comm
        refine lv_icmp_eq (tgt := 857) F.1 F.2.1 d_Law_law_732 (by decide) (fun _ => ?_) (fun c9 => absurd rfl c9)
        have e1 : ad' 0 0 = ad 0 0 := by obtain ⟨q, rfl⟩ := hT; rfl
        have e2 : am' 0 0 = am 0 0 := by rw [hT2]
        rw [← e1, ← e2] at hl
        refine W.widen (k := 98 + 3 * (j + 1)) (n := 187205 + Φ S') (by omega) (by omega) ?_
        exact END S' M hr ad' am' H locs hw ls hl
      rcases Decidable.em (sel = (23 : Int32)) with c_23 | c_23
      · refine lv_tableIn (off := 704) (tgt := 737) F.1 F.2.1 d_Law_law_33 (by rw [c_23]; decide) (by rw [c_23]; decide) (by rw [c_23]; decide) (by decide) ?_
        refine lv_aload_n F.1 F.2.1 d_Law_law_737 rfl (lv_at hl 1 rfl) ?_
        refine lv_aload_n F.1 F.2.1 d_Law_law_738 rfl (lv_at hl 0 rfl) ?_
        refine lv_iload_n F.1 F.2.1 d_Law_law_739 rfl (lv_at hl 3 rfl) ?_
        refine lv_iconst (v := 1) F.1 F.2.1 d_Law_law_740 (by decide) ?_
        refine lv_iadd F.1 F.2.1 d_Law_law_741 ?_
        refine va_sld F.1 F.2.1 hX hbl hbA hw.2.2 (hi1) d_Law_law_742 ?_
        obtain ⟨r, S', M', h1, h2, hr, hp⟩ := okrows S M ((xs (x3 + (1 : Int32)).toNatClampNeg)) hR0
        have hb' := hbd _ _ hr
        refine c2_l F hA rfl hK hw (c_Lots_rows l h1 rfl) rfl (good_V lk_887 lk_888 lk_889 lk_1 lk_890) (cr_0 hK hw.one) hd_Lots_rows ⟨Nat.le_of_ble_eq_true rfl, Nat.le_of_ble_eq_true rfl⟩ rfl hl.1 rfl (Nat.le_of_ble_eq_true rfl) d_Law_law_743 ⟨by show _ ≤ 600000; omega, by show _ ≤ 7302250; omega⟩ (fun ad' H locs hT hw => ?_)
        refine lv_aload_n F.1 F.2.1 d_Law_law_746 rfl (lv_at hl 2 rfl) ?_
        refine lv_aload_n F.1 F.2.1 d_Law_law_747 rfl (lv_at hl 0 rfl) ?_
        refine lv_iload_n F.1 F.2.1 d_Law_law_748 rfl (lv_at hl 3 rfl) ?_
        refine lv_iconst (v := 1) F.1 F.2.1 d_Law_law_749 (by decide) ?_
        refine lv_iadd F.1 F.2.1 d_Law_law_750 ?_
        refine va_sld F.1 F.2.1 hX hbl hbA hw.2.2 (hi1) d_Law_law_751 ?_
        refine c2_l F hA rfl hK hw.comm (c_Model_rows l h2) rfl (good_V lk_1424 lk_1425 lk_1426 lk_10 lk_1427) (mr_0 hK hw.comm.one) hd_Model_rows ⟨Nat.le_of_ble_eq_true rfl, Nat.le_of_ble_eq_true rfl⟩ rfl hl.1 rfl (Nat.le_of_ble_eq_true rfl) d_Law_law_752 ⟨by show _ ≤ 600000; omega, by show _ ≤ 7302250; omega⟩ (fun am' H locs hT2 hw => ?_)
        replace hw := hw.comm
        refine W.lcmp F.1 F.2.1 d_Law_law_755 ?_
        refine lv_if_eq (tgt := 857) F.1 F.2.1 d_Law_law_756 (by decide) (fun _ => ?_) (fun c9 => absurd (lg_cmp_rf r) c9)
        have e1 : ad' 0 0 = ad 0 0 := by obtain ⟨q, rfl⟩ := hT; rfl
        have e2 : am' 0 0 = am 0 0 := by rw [hT2]
        rw [← e1, ← e2] at hl
        refine W.widen (k := 98 + 3 * (j + 1)) (n := 187205 + Φ S') (by omega) (by omega) ?_
        exact END S' M' hr ad' am' H locs hw ls hl
      rcases Decidable.em (sel = (24 : Int32)) with c_24 | c_24
      · refine lv_tableIn (off := 728) (tgt := 761) F.1 F.2.1 d_Law_law_33 (by rw [c_24]; decide) (by rw [c_24]; decide) (by rw [c_24]; decide) (by decide) ?_
        refine lv_aload_n F.1 F.2.1 d_Law_law_761 rfl (lv_at hl 1 rfl) ?_
        refine lv_aload_n F.1 F.2.1 d_Law_law_762 rfl (lv_at hl 0 rfl) ?_
        refine lv_iload_n F.1 F.2.1 d_Law_law_763 rfl (lv_at hl 3 rfl) ?_
        refine lv_iconst (v := 1) F.1 F.2.1 d_Law_law_764 (by decide) ?_
        refine lv_iadd F.1 F.2.1 d_Law_law_765 ?_
        refine va_sld F.1 F.2.1 hX hbl hbA hw.2.2 (hi1) d_Law_law_766 ?_
        refine lv_aload_n F.1 F.2.1 d_Law_law_767 rfl (lv_at hl 0 rfl) ?_
        refine lv_iload_n F.1 F.2.1 d_Law_law_768 rfl (lv_at hl 3 rfl) ?_
        refine lv_iconst (v := 2) F.1 F.2.1 d_Law_law_769 (by decide) ?_
        refine lv_iadd F.1 F.2.1 d_Law_law_770 ?_
        refine va_sld F.1 F.2.1 hX hbl hbA hw.2.2 (hi2) d_Law_law_771 ?_
        refine lv_i2l F.1 F.2.1 d_Law_law_772 rfl ?_
        refine lv_bipush (v := 32) F.1 F.2.1 d_Law_law_773 (by decide) ?_
        refine lv_lshl F.1 F.2.1 d_Law_law_775 rfl ?_
        refine lv_aload_n F.1 F.2.1 d_Law_law_776 rfl (lv_at hl 0 rfl) ?_
        refine lv_iload_n F.1 F.2.1 d_Law_law_777 rfl (lv_at hl 3 rfl) ?_
        refine lv_iconst (v := 3) F.1 F.2.1 d_Law_law_778 (by decide) ?_
        refine lv_iadd F.1 F.2.1 d_Law_law_779 ?_
        refine va_sld F.1 F.2.1 hX hbl hbA hw.2.2 (hi3) d_Law_law_780 ?_
        refine lv_i2l F.1 F.2.1 d_Law_law_781 rfl ?_
        refine lv_ldc2 F.1 F.2.1 F.2.2.2.1 (F.2.2.2.2 _ lk_1441) d_Law_law_782 ?_
        refine lv_land F.1 F.2.1 d_Law_law_785 ?_
        refine lv_lor F.1 F.2.1 d_Law_law_786 ?_
        refine lv_aload_n F.1 F.2.1 d_Law_law_787 rfl (lv_at hl 0 rfl) ?_
        refine lv_iload_n F.1 F.2.1 d_Law_law_788 rfl (lv_at hl 3 rfl) ?_
        refine lv_iconst (v := 4) F.1 F.2.1 d_Law_law_789 (by decide) ?_
        refine lv_iadd F.1 F.2.1 d_Law_law_790 ?_
        refine va_sld F.1 F.2.1 hX hbl hbA hw.2.2 (hi4) d_Law_law_791 ?_
        obtain ⟨r, S', M', h1, h2, hr, hp⟩ := okrow S M ((xs (x3 + (1 : Int32)).toNatClampNeg)) (((((xs (x3 + (2 : Int32)).toNatClampNeg).toInt64) <<< ((32 : Int32).toInt64 &&& 63)) ||| (((xs (x3 + (3 : Int32)).toNatClampNeg).toInt64) &&& (4294967295 : Int64)))) ((xs (x3 + (4 : Int32)).toNatClampNeg)) hR0
        have hb' := hbd _ _ hr
        refine c2_i F hA rfl hK hw (c_Lots_row l h1 rfl) rfl (good_V lk_930 lk_931 lk_932 lk_1 lk_933) (cr_0 hK hw.one) hd_Lots_row ⟨Nat.le_of_ble_eq_true rfl, Nat.le_of_ble_eq_true rfl⟩ rfl hl.1 rfl (Nat.le_of_ble_eq_true rfl) d_Law_law_792 ⟨by show _ ≤ 600000; omega, by show _ ≤ 7302250; omega⟩ (fun ad' H locs hT hw => ?_)
        refine lv_aload_n F.1 F.2.1 d_Law_law_795 rfl (lv_at hl 2 rfl) ?_
        refine lv_aload_n F.1 F.2.1 d_Law_law_796 rfl (lv_at hl 0 rfl) ?_
        refine lv_iload_n F.1 F.2.1 d_Law_law_797 rfl (lv_at hl 3 rfl) ?_
        refine lv_iconst (v := 1) F.1 F.2.1 d_Law_law_798 (by decide) ?_
        refine lv_iadd F.1 F.2.1 d_Law_law_799 ?_
        refine va_sld F.1 F.2.1 hX hbl hbA hw.2.2 (hi1) d_Law_law_800 ?_
        refine lv_aload_n F.1 F.2.1 d_Law_law_801 rfl (lv_at hl 0 rfl) ?_
        refine lv_iload_n F.1 F.2.1 d_Law_law_802 rfl (lv_at hl 3 rfl) ?_
        refine lv_iconst (v := 2) F.1 F.2.1 d_Law_law_803 (by decide) ?_
        refine lv_iadd F.1 F.2.1 d_Law_law_804 ?_
        refine va_sld F.1 F.2.1 hX hbl hbA hw.2.2 (hi2) d_Law_law_805 ?_
        refine lv_i2l F.1 F.2.1 d_Law_law_806 rfl ?_
        refine lv_bipush (v := 32) F.1 F.2.1 d_Law_law_807 (by decide) ?_
        refine lv_lshl F.1 F.2.1 d_Law_law_809 rfl ?_
        refine lv_aload_n F.1 F.2.1 d_Law_law_810 rfl (lv_at hl 0 rfl) ?_
        refine lv_iload_n F.1 F.2.1 d_Law_law_811 rfl (lv_at hl 3 rfl) ?_
        refine lv_iconst (v := 3) F.1 F.2.1 d_Law_law_812 (by decide) ?_
        refine lv_iadd F.1 F.2.1 d_Law_law_813 ?_
        refine va_sld F.1 F.2.1 hX hbl hbA hw.2.2 (hi3) d_Law_law_814 ?_
        refine lv_i2l F.1 F.2.1 d_Law_law_815 rfl ?_
        refine lv_ldc2 F.1 F.2.1 F.2.2.2.1 (F.2.2.2.2 _ lk_1441) d_Law_law_816 ?_
        refine lv_land F.1 F.2.1 d_Law_law_819 ?_
        refine lv_lor F.1 F.2.1 d_Law_law_820 ?_
        refine lv_aload_n F.1 F.2.1 d_Law_law_821 rfl (lv_at hl 0 rfl) ?_
        refine lv_iload_n F.1 F.2.1 d_Law_law_822 rfl (lv_at hl 3 rfl) ?_
        refine lv_iconst (v := 4) F.1 F.2.1 d_Law_law_823 (by decide) ?_
        refine lv_iadd F.1 F.2.1 d_Law_law_824 ?_
        refine va_sld F.1 F.2.1 hX hbl hbA hw.2.2 (hi4) d_Law_law_825 ?_
        refine c2_i F hA rfl hK hw.comm (c_Model_row l h2) rfl (good_V lk_1433 lk_1434 lk_1435 lk_10 lk_1436) (mr_0 hK hw.comm.one) hd_Model_row ⟨Nat.le_of_ble_eq_true rfl, Nat.le_of_ble_eq_true rfl⟩ rfl hl.1 rfl (Nat.le_of_ble_eq_true rfl) d_Law_law_826 ⟨by show _ ≤ 600000; omega, by show _ ≤ 7302250; omega⟩ (fun am' H locs hT2 hw => ?_)
        replace hw := hw.comm
        refine lv_icmp_eq (tgt := 857) F.1 F.2.1 d_Law_law_829 (by decide) (fun _ => ?_) (fun c9 => absurd rfl c9)
        have e1 : ad' 0 0 = ad 0 0 := by obtain ⟨q, rfl⟩ := hT; rfl
        have e2 : am' 0 0 = am 0 0 := by rw [hT2]
        rw [← e1, ← e2] at hl
        refine W.widen (k := 98 + 3 * (j + 1)) (n := 187205 + Φ S') (by omega) (by omega) ?_
        exact END S' M' hr ad' am' H locs hw ls hl
      rcases Decidable.em (sel = (25 : Int32)) with c_25 | c_25
      · refine lv_tableIn (off := 801) (tgt := 834) F.1 F.2.1 d_Law_law_33 (by rw [c_25]; decide) (by rw [c_25]; decide) (by rw [c_25]; decide) (by decide) ?_
        refine lv_aload_n F.1 F.2.1 d_Law_law_834 rfl (lv_at hl 1 rfl) ?_
        refine lv_aload_n F.1 F.2.1 d_Law_law_835 rfl (lv_at hl 0 rfl) ?_
        refine lv_iload_n F.1 F.2.1 d_Law_law_836 rfl (lv_at hl 3 rfl) ?_
        refine lv_iconst (v := 1) F.1 F.2.1 d_Law_law_837 (by decide) ?_
        refine lv_iadd F.1 F.2.1 d_Law_law_838 ?_
        refine va_sld F.1 F.2.1 hX hbl hbA hw.2.2 (hi1) d_Law_law_839 ?_
        obtain ⟨r, h1, h2, hr⟩ := okcount S M ((xs (x3 + (1 : Int32)).toNatClampNeg)) hR0
        refine c2_i F hA rfl hK hw (c_Lots_count l h1) rfl (good_V lk_938 lk_939 lk_940 lk_1 lk_941) (cr_0 hK hw.one) hd_Lots_count ⟨Nat.le_of_ble_eq_true rfl, Nat.le_of_ble_eq_true rfl⟩ rfl hl.1 rfl (Nat.le_of_ble_eq_true rfl) d_Law_law_840 ⟨by show _ ≤ 600000; omega, by show _ ≤ 7302250; omega⟩ (fun ad' H locs hT hw => ?_)
        refine lv_aload_n F.1 F.2.1 d_Law_law_843 rfl (lv_at hl 2 rfl) ?_
        refine lv_aload_n F.1 F.2.1 d_Law_law_844 rfl (lv_at hl 0 rfl) ?_
        refine lv_iload_n F.1 F.2.1 d_Law_law_845 rfl (lv_at hl 3 rfl) ?_
        refine lv_iconst (v := 1) F.1 F.2.1 d_Law_law_846 (by decide) ?_
        refine lv_iadd F.1 F.2.1 d_Law_law_847 ?_
        refine va_sld F.1 F.2.1 hX hbl hbA hw.2.2 (hi1) d_Law_law_848 ?_
        refine c2_i F hA rfl hK hw.comm (c_Model_count l h2) rfl (good_V lk_1437 lk_1438 lk_1439 lk_10 lk_1440) (mr_0 hK hw.comm.one) hd_Model_count ⟨Nat.le_of_ble_eq_true rfl, Nat.le_of_ble_eq_true rfl⟩ rfl hl.1 rfl (Nat.le_of_ble_eq_true rfl) d_Law_law_849 ⟨by show _ ≤ 600000; omega, by show _ ≤ 7302250; omega⟩ (fun am' H locs hT2 hw => ?_)
        replace hw := hw.comm
        refine lv_icmp_eq (tgt := 857) F.1 F.2.1 d_Law_law_852 (by decide) (fun _ => ?_) (fun c9 => absurd rfl c9)
        have e1 : ad' 0 0 = ad 0 0 := by rw [hT]
        have e2 : am' 0 0 = am 0 0 := by rw [hT2]
        rw [← e1, ← e2] at hl
        refine W.widen (k := 98 + 3 * (j + 1)) (n := 187205 + Φ S) (by omega) (by omega) ?_
        exact END S M hr ad' am' H locs hw ls hl
      have zc_0 := lv_neT (a := 0) c_0 rfl
      have zc_1 := lv_neT (a := 1) c_1 rfl
      have zc_2 := lv_neT (a := 2) c_2 rfl
      have zc_3 := lv_neT (a := 3) c_3 rfl
      have zc_4 := lv_neT (a := 4) c_4 rfl
      have zc_5 := lv_neT (a := 5) c_5 rfl
      have zc_6 := lv_neT (a := 6) c_6 rfl
      have zc_7 := lv_neT (a := 7) c_7 rfl
      have zc_8 := lv_neT (a := 8) c_8 rfl
      have zc_9 := lv_neT (a := 9) c_9 rfl
      have zc_10 := lv_neT (a := 10) c_10 rfl
      have zc_11 := lv_neT (a := 11) c_11 rfl
      have zc_12 := lv_neT (a := 12) c_12 rfl
      have zc_13 := lv_neT (a := 13) c_13 rfl
      have zc_14 := lv_neT (a := 14) c_14 rfl
      have zc_15 := lv_neT (a := 15) c_15 rfl
      have zc_16 := lv_neT (a := 16) c_16 rfl
      have zc_17 := lv_neT (a := 17) c_17 rfl
      have zc_18 := lv_neT (a := 18) c_18 rfl
      have zc_19 := lv_neT (a := 19) c_19 rfl
      have zc_20 := lv_neT (a := 20) c_20 rfl
      have zc_21 := lv_neT (a := 21) c_21 rfl
      have zc_22 := lv_neT (a := 22) c_22 rfl
      have zc_23 := lv_neT (a := 23) c_23 rfl
      have zc_24 := lv_neT (a := 24) c_24 rfl
      have zc_25 := lv_neT (a := 25) c_25 rfl
      refine lv_tableOut (tgt := 857) F.1 F.2.1 d_Law_law_33 (by omega) (by decide) ?_
      refine W.widen (k := 98 + 3 * (j + 1)) (n := 187205 + Φ S) (by omega) (by omega) ?_
      exact END S M hR0 ad am H locs hw ls hl
