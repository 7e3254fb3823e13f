/-! THE CLAIM OUT OF ONE WALK OF THE LAW'S BODY. Your part is whole_start (and what it stands on); all else here is the same for every law, but numbers. -/
def R_law : String := "LawfulLotsLaw"
def lw_P (b : Addr) (xs : List Int32) (args : Array Value) (s : State) : Prop := args = #[.ref b] ∧ s.IntsAt b xs ∧ xs.length ≤ 3072 ∧ (Jvm.Cond.and given_1 narrow_1).before args s = true
def lw_Q (_ : Array Value) (s : State) (o : Outcome) (t : State) : Prop := o = .returned (some (.int 1)) ∧ Framed s o t [] 600000 7302250
def lw_Z (below : List Frame) (a : Array Value) (s : State) : State → Prop := fun t => ∃ o, t.status = .running ∧ Ended t below o ∧ lw_Q a s o t
/-- the law's own end, with 1 on the stack, nothing written that was there before, its room as the claim has it -/
theorem lw_ret {p : Program} {l : Launch} {e : Env} {s : State} {m : MethodId} {below : List Frame} {meth : Method} {c : Code} {b : Nat} (hx : p.tables.exec = Jvm.exec) (hb : c.code = code) (hr : meth.sig.returnType = ret) (hlocks : meth.locks = false) {pc : Nat} {H : Heap} {ls : Array Slot} (hdg : decode code pc = .ok (.ireturn, 1)) : W p l e room_1 s m #[Value.ref b] below meth c H [] 600000 7302250 (lw_Z below #[Value.ref b] s) (F0 m pc ls [.int 1]) := by
  intro T hT X
  obtain ⟨fs, hret, hrun, hended, hW, hframe⟩ := X.leave (v := some (.int 1)) (hlocks := hlocks) (fun h => by rw [hr] at h; cases h)
  have hmeth' : T.vm.method? m = some meth := X.method'
  refine ⟨T.setFrames fs, ?_, .returned (some (.int 1)), hrun, hended, rfl, ⟨_, rfl⟩, hW, hframe⟩
  jvm_step X.here [X.here.top, hx, hb, hdg, hmeth', hr, ret, narrow_b1]
  (try refine ⟨rfl, ?_⟩); (try refine ⟨rfl, ?_⟩)
  first | (intro acts; rw [hret _ acts rfl rfl rfl]) | rw [hret _ _ rfl rfl rfl]
  exact Steps.refl _
/-- what holds at the law's entry: the machine, the code, the tables' words (any of lw_tbl by 'hts w (by decide +kernel)'), the script of L ints xs at the cell b, what the Statement gives of the start (any of its parts by flat_of_before) -/
def lw_At (p : Program) (s : State) (m : MethodId) (meth : Method) (c : Code) (b L : Nat) (xs : Nat → Int32) : Prop :=
  p.tables.exec = Jvm.exec ∧ c.code = code ∧ meth.sig.returnType = ret ∧ c.maxLocals = 4 ∧ s.vm.findClass R_law = some m.cls ∧ (∀ w ∈ lw_tbl, w.before #[Value.ref b] s = true) ∧ va_X b L xs s s.heap ∧ b < s.heap.size ∧ meth.locks = false ∧ (Jvm.Cond.and given_1 narrow_1).before #[Value.ref b] s = true
/-! two systems side by side; the law -/
def B2 (f g : WF) (D : va_G) (ar : Nat → ClassId) (A : Nat → Prop) (H0 H : Heap) (locs : List Loc) (ad : Nat → Nat → Nat) (S : St) (am : Nat → Nat → Nat) (M : St) : Prop := va_P D classes (g ar am M ++ f ar ad S) H ∧ va_D A (g ar am M ++ f ar ad S) ∧ va_S A H0 H locs
theorem B2.comm {f g : WF} {D : va_G} {ar : Nat → ClassId} {A : Nat → Prop} {H0 H : Heap} {locs : List Loc} {ad am : Nat → Nat → Nat} {S M : St} (h : B2 f g D ar A H0 H locs ad S am M) : B2 g f D ar A H0 H locs am M ad S := ⟨h.1.comm, h.2.1.comm, h.2.2⟩
theorem B2.one {f g : WF} {D : va_G} {ar : Nat → ClassId} {A : Nat → Prop} {H0 H : Heap} {locs : List Loc} {ad am : Nat → Nat → Nat} {S M : St} (h : B2 f g D ar A H0 H locs ad S am M) : Bw f D ar A H0 H locs ad S := ⟨h.1.comm.left, h.2.1.right, h.2.2⟩
section RC3
variable {p : Program} {l : Launch} {e : Env} {R : Room} {s : State} {m : MethodId} {args : Array Value} {below : List Frame} {meth : Method} {c : Code} {H H0 : Heap} {locs : List Loc} {cells slots : Nat} {Q : State → Prop} {cc bc : ByteArray} {nL mL pc idx n b fr lo mc ms : Nat} {ls : Array Slot} {rest As st : List Value} {own C : String} {y : MethodName} {rt : Option FieldType} {f g : WF} {D : va_G} {ar : Nat → ClassId} {A : Nat → Prop} {ad am : Nat → Nat → Nat} {S S' M : St} {av : (Nat → Nat → Nat) → List Value} {T : (Nat → Nat → Nat) → (Nat → Nat → Nat) → Prop}
theorem c2_i {r : Int32} (F : CallFix p m c cc nL s args gt own) (hA : ∀ q, H0.size ≤ q → A q) (e0 : H0 = s.heap) (hK : KK D ar A s) (hw : B2 f g D ar A H0 H locs ad S am M) (hM : MI f l y bc mL rt fr lo mc ms av aT T S r S') (hav : av ad = .ref b :: As) (hg : GoodIn gt (wsV own idx C y (.code y bc mL rt :: gt))) (hrec : ∃ cell : Cell, H[b]? = some cell ∧ cell.vm.isStatics = false ∧ s.vm.findClass C = some cell.cls) (hd : y.cls = C ∧ y.cls ≠ "java/lang/invoke/MethodHandle" ∧ y.cls ≠ "java/lang/invoke/VarHandle" ∧ (parseMethodDescriptor y.desc).map (fun d => d.parameters.length) = some n) (hR : fr + 1 ≤ R.frames ∧ 8 + (mL + 11) + lo ≤ R.locals) (hn : As.length = n) (hsz : ls.size = nL) (hst : st = As.reverse ++ .ref b :: rest) (hrm : (rest.map fun v => v.category).sum ≤ 8) (hdg : decode cc pc = .ok (.invokevirtual idx, 3)) (hf : cells + mc ≤ R.cells ∧ slots + ms ≤ R.slots)
    (kk : ∀ (ad' : Nat → Nat → Nat) (H1 : Heap) (locs1 : List Loc), T ad ad' → B2 f g D ar A H0 H1 locs1 ad' S' am M → W p l e R s m args below meth c H1 locs1 (cells + mc) (slots + ms) Q (F0 m (pc + 3) ls (.int r :: rest))) : W p l e R s m args below meth c H locs cells slots Q (F0 m pc ls st) := by
  refine va_calli (run_V F hA e0 hK hw.one (hM D ar ad H.size trivial) hav hg hrec hd hR hn hsz hst hrm hdg hf) hw.2.2 (fun q _ h => hw.one.free hA q h) (hw.one.free hA) (fun r' u t H1 locs1 ht hvm hp hB hz hk hS => ?_)
  obtain ⟨rfl, rfl, hT⟩ := hp
  obtain ⟨b1, b2⟩ := hB
  rw [ht] at b1
  obtain ⟨hP2, hD2⟩ := join_app hw.1 hw.2.1 hk (hw.one.free hA) b1 b2
  exact kk u.1 H1 locs1 hT ⟨hP2, hD2, hS⟩
theorem c2_l {r : Int64} (F : CallFix p m c cc nL s args gt own) (hA : ∀ q, H0.size ≤ q → A q) (e0 : H0 = s.heap) (hK : KK D ar A s) (hw : B2 f g D ar A H0 H locs ad S am M) (hM : ML f l y bc mL rt fr lo mc ms av aT T S r S') (hav : av ad = .ref b :: As) (hg : GoodIn gt (wsV own idx C y (.code y bc mL rt :: gt))) (hrec : ∃ cell : Cell, H[b]? = some cell ∧ cell.vm.isStatics = false ∧ s.vm.findClass C = some cell.cls) (hd : y.cls = C ∧ y.cls ≠ "java/lang/invoke/MethodHandle" ∧ y.cls ≠ "java/lang/invoke/VarHandle" ∧ (parseMethodDescriptor y.desc).map (fun d => d.parameters.length) = some n) (hR : fr + 1 ≤ R.frames ∧ 8 + (mL + 11) + lo ≤ R.locals) (hn : As.length = n) (hsz : ls.size = nL) (hst : st = As.reverse ++ .ref b :: rest) (hrm : (rest.map fun v => v.category).sum ≤ 8) (hdg : decode cc pc = .ok (.invokevirtual idx, 3)) (hf : cells + mc ≤ R.cells ∧ slots + ms ≤ R.slots)
    (kk : ∀ (ad' : Nat → Nat → Nat) (H1 : Heap) (locs1 : List Loc), T ad ad' → B2 f g D ar A H0 H1 locs1 ad' S' am M → W p l e R s m args below meth c H1 locs1 (cells + mc) (slots + ms) Q (F0 m (pc + 3) ls (.long r :: rest))) : W p l e R s m args below meth c H locs cells slots Q (F0 m pc ls st) := by
  refine va_calll (run_V F hA e0 hK hw.one (hM D ar ad H.size trivial) hav hg hrec hd hR hn hsz hst hrm hdg hf) hw.2.2 (fun q _ h => hw.one.free hA q h) (hw.one.free hA) (fun r' u t H1 locs1 ht hvm hp hB hz hk hS => ?_)
  obtain ⟨rfl, rfl, hT⟩ := hp
  obtain ⟨b1, b2⟩ := hB
  rw [ht] at b1
  obtain ⟨hP2, hD2⟩ := join_app hw.1 hw.2.1 hk (hw.one.free hA) b1 b2
  exact kk u.1 H1 locs1 hT ⟨hP2, hD2, hS⟩
end RC3
def ok_feed (Rel : St → St → Prop) (Φ : St → Nat) : Prop := ∀ (S M : St) (a1 : Int32) (a2 : Int32) (a3 : Int32) (a4 : Int32) (a5 : Int32), Rel S M → ∃ (r : Int32) (S' : St) (M' : St), f_Lots_feed S a1 a2 a3 a4 a5 = some (r, S') ∧ f_Model_feed M a1 a2 a3 a4 a5 = some (r, M') ∧ Rel S' M' ∧ Φ S ≤ Φ S'
def ok_back (Rel : St → St → Prop) (Φ : St → Nat) : Prop := ∀ (S M : St) (a1 : Int32), Rel S M → ∃ (r : Int32) (S' : St) (M' : St), f_Lots_back S a1 = some (r, S') ∧ f_Model_back M a1 = some (r, M') ∧ Rel S' M' ∧ Φ S ≤ Φ S'
def ok_read (Rel : St → St → Prop) (Φ : St → Nat) : Prop := ∀ (S M : St), Rel S M → ∃ (r : Int32) (S' : St) (M' : St), f_Lots_read S = some (r, S') ∧ f_Model_read M = some (r, M') ∧ Rel S' M' ∧ Φ S ≤ Φ S'
def ok_place (Rel : St → St → Prop) (Φ : St → Nat) : Prop := ∀ (S M : St), Rel S M → ∃ (r : Int32), f_Lots_place S = some r ∧ f_Model_place M = some r ∧ Rel S M
def ok_turn (Rel : St → St → Prop) (Φ : St → Nat) : Prop := ∀ (S M : St) (a1 : Int32) (a2 : Int32), Rel S M → isB a2 = true → ∃ (r : Int32) (S' : St) (M' : St), f_Lots_turn S a1 a2 = some (r, S') ∧ f_Model_turn M a1 a2 = some (r, M') ∧ Rel S' M' ∧ Φ S ≤ Φ S'
def ok_lawful (Rel : St → St → Prop) (Φ : St → Nat) : Prop := ∀ (S M : St), Rel S M → ∃ (r : Int32) (S' : St), f_Lots_lawful S = some (r, S') ∧ f_Model_lawful M = some r ∧ Rel S' M ∧ Φ S + kMark S ≤ Φ S'
def ok_kept (Rel : St → St → Prop) (Φ : St → Nat) : Prop := ∀ (S M : St), Rel S M → ∃ (r : Int32) (S' : St), f_Lots_kept S = some (r, S') ∧ f_Model_kept M = some r ∧ Rel S' M ∧ Φ S + kMark S ≤ Φ S'
def ok_value (Rel : St → St → Prop) (Φ : St → Nat) : Prop := ∀ (S M : St) (a1 : Int32) (a2 : Int32), Rel S M → ∃ (r : Int32) (S' : St), f_Lots_value S a1 a2 = some (r, S') ∧ f_Model_value M a1 a2 = some r ∧ Rel S' M ∧ Φ S + kMark S ≤ Φ S'
def ok_share (Rel : St → St → Prop) (Φ : St → Nat) : Prop := ∀ (S M : St) (a1 : Int32), Rel S M → ∃ (r : Int32) (S' : St), f_Lots_share S a1 = some (r, S') ∧ f_Model_share M a1 = some r ∧ Rel S' M ∧ Φ S + kSh S ≤ Φ S'
def ok_sum (Rel : St → St → Prop) (Φ : St → Nat) : Prop := ∀ (S M : St), Rel S M → ∃ (r : Int32) (S' : St), f_Lots_sum S = some (r, S') ∧ f_Model_sum M = some r ∧ Rel S' M ∧ Φ S + kSh S ≤ Φ S'
def ok_pick (Rel : St → St → Prop) (Φ : St → Nat) : Prop := ∀ (S M : St) (a1 : Int32), Rel S M → ∃ (r : Int32) (S' : St), f_Lots_pick S a1 = some (r, S') ∧ f_Model_pick M a1 = some r ∧ Rel S' M ∧ Φ S + kSh S ≤ Φ S'
def ok_draw (Rel : St → St → Prop) (Φ : St → Nat) : Prop := ∀ (S M : St) (a1 : Int64) (a2 : Int32), Rel S M → ∃ (r : Int32) (S' : St) (M' : St), f_Lots_draw S a1 a2 = some (r, S') ∧ f_Model_draw M a1 a2 = some (r, M') ∧ Rel S' M' ∧ Φ S + kSh S ≤ Φ S'
def ok_quarrel (Rel : St → St → Prop) (Φ : St → Nat) : Prop := ∀ (S M : St), Rel S M → ∃ (r : Int32) (S' : St), f_Lots_quarrel S = some (r, S') ∧ f_Model_quarrel M = some r ∧ Rel S' M ∧ Φ S + kMark S ≤ Φ S'
def ok_alone (Rel : St → St → Prop) (Φ : St → Nat) : Prop := ∀ (S M : St) (a1 : Int32), Rel S M → ∃ (r : Int32) (S' : St), f_Lots_alone S a1 = some (r, S') ∧ f_Model_alone M a1 = some r ∧ Rel S' M ∧ Φ S + kAlone S a1 ≤ Φ S'
def ok_meets (Rel : St → St → Prop) (Φ : St → Nat) : Prop := ∀ (S M : St) (a1 : Int32), Rel S M → ∃ (r : Int32) (S' : St), f_Lots_meets S a1 = some (r, S') ∧ f_Model_meets M a1 = some r ∧ Rel S' M ∧ Φ S + kBin S a1 ≤ Φ S'
def ok_cross (Rel : St → St → Prop) (Φ : St → Nat) : Prop := ∀ (S M : St) (a1 : Int32) (a2 : Int32), Rel S M → ∃ (r : Int32) (S' : St), f_Lots_cross S a1 a2 = some (r, S') ∧ f_Model_cross M a1 a2 = some r ∧ Rel S' M ∧ Φ S + kCross S a1 a2 ≤ Φ S'
def ok_hits (Rel : St → St → Prop) (Φ : St → Nat) : Prop := ∀ (S M : St) (a1 : Int32), Rel S M → ∃ (r : Int32) (S' : St), f_Lots_hits S a1 = some (r, S') ∧ f_Model_hits M a1 = some r ∧ Rel S' M ∧ Φ S + kBin S a1 ≤ Φ S'
def ok_fill (Rel : St → St → Prop) (Φ : St → Nat) : Prop := ∀ (S M : St), Rel S M → ∃ (r : Int32) (S' : St) (M' : St), f_Lots_fill S = some (r, S') ∧ f_Model_fill M = some (r, M') ∧ Rel S' M' ∧ Φ S + kMark S ≤ Φ S'
def ok_fills (Rel : St → St → Prop) (Φ : St → Nat) : Prop := ∀ (S M : St) (a1 : Int32), Rel S M → ∃ (r : Int32) (S' : St) (M' : St), f_Lots_fills S a1 = some (r, S') ∧ f_Model_fills M a1 = some (r, M') ∧ Rel S' M' ∧ Φ S + kMark S ≤ Φ S'
def ok_best (Rel : St → St → Prop) (Φ : St → Nat) : Prop := ∀ (S M : St), Rel S M → ∃ (r : Int32) (S' : St), f_Lots_best S = some (r, S') ∧ f_Model_best M = some r ∧ Rel S' M ∧ Φ S + kMark S ≤ Φ S'
def ok_least (Rel : St → St → Prop) (Φ : St → Nat) : Prop := ∀ (S M : St) (a1 : Int32), Rel S M → ∃ (r : Int32) (S' : St), f_Lots_least S a1 = some (r, S') ∧ f_Model_least M a1 = some r ∧ Rel S' M ∧ Φ S + kBin S a1 ≤ Φ S'
def ok_logged (Rel : St → St → Prop) (Φ : St → Nat) : Prop := ∀ (S M : St) (a1 : Int32) (a2 : Int32), Rel S M → ∃ (r : Int32), f_Lots_logged S a1 a2 = some r ∧ f_Model_logged M a1 a2 = some r ∧ Rel S M
def ok_fallen (Rel : St → St → Prop) (Φ : St → Nat) : Prop := ∀ (S M : St) (a1 : Int32), Rel S M → ∃ (r : Int32) (S' : St), f_Lots_fallen S a1 = some (r, S') ∧ f_Model_fallen M a1 = some r ∧ Rel S' M ∧ Φ S + kMark S ≤ Φ S'
def ok_rows (Rel : St → St → Prop) (Φ : St → Nat) : Prop := ∀ (S M : St) (a1 : Int32), Rel S M → ∃ (r : Int64) (S' : St) (M' : St), f_Lots_rows S a1 = some (r, S') ∧ f_Model_rows M a1 = some (r, M') ∧ Rel S' M' ∧ Φ S + kRows S a1 ≤ Φ S'
def ok_row (Rel : St → St → Prop) (Φ : St → Nat) : Prop := ∀ (S M : St) (a1 : Int32) (a2 : Int64) (a3 : Int32), Rel S M → ∃ (r : Int32) (S' : St) (M' : St), f_Lots_row S a1 a2 a3 = some (r, S') ∧ f_Model_row M a1 a2 a3 = some (r, M') ∧ Rel S' M' ∧ Φ S + kRows S a1 ≤ Φ S'
def ok_count (Rel : St → St → Prop) (Φ : St → Nat) : Prop := ∀ (S M : St) (a1 : Int32), Rel S M → ∃ (r : Int32), f_Lots_count S a1 = some r ∧ f_Model_count M a1 = some r ∧ Rel S M
def ok_all (Rel : St → St → Prop) (Φ : St → Nat) : Prop := (∀ S M, Rel S M → Φ S ≤ 1000000) ∧ (∃ M0, f_Model_init mS0 = some M0 ∧ Rel cS0 M0) ∧ ok_feed Rel Φ ∧ ok_back Rel Φ ∧ ok_read Rel Φ ∧ ok_place Rel Φ ∧ ok_turn Rel Φ ∧ ok_lawful Rel Φ ∧ ok_kept Rel Φ ∧ ok_value Rel Φ ∧ ok_share Rel Φ ∧ ok_sum Rel Φ ∧ ok_pick Rel Φ ∧ ok_draw Rel Φ ∧ ok_quarrel Rel Φ ∧ ok_alone Rel Φ ∧ ok_meets Rel Φ ∧ ok_cross Rel Φ ∧ ok_hits Rel Φ ∧ ok_fill Rel Φ ∧ ok_fills Rel Φ ∧ ok_best Rel Φ ∧ ok_least Rel Φ ∧ ok_logged Rel Φ ∧ ok_fallen Rel Φ ∧ ok_rows Rel Φ ∧ ok_row Rel Φ ∧ ok_count Rel Φ
theorem d_Law_law_0 : decode code 0 = .ok (.new 7, 3) := by decide +kernel
theorem d_Law_law_3 : decode code 3 = .ok (.dup, 1) := by decide +kernel
theorem d_Law_law_4 : decode code 4 = .ok (.invokespecial 9, 3) := by decide +kernel
theorem d_Law_law_7 : decode code 7 = .ok (.astore_n 1, 1) := by decide +kernel
theorem d_Law_law_8 : decode code 8 = .ok (.new 10, 3) := by decide +kernel
theorem d_Law_law_11 : decode code 11 = .ok (.dup, 1) := by decide +kernel
theorem d_Law_law_12 : decode code 12 = .ok (.invokespecial 12, 3) := by decide +kernel
theorem d_Law_law_15 : decode code 15 = .ok (.astore_n 2, 1) := by decide +kernel
theorem d_Law_law_16 : decode code 16 = .ok (.iconst 0, 1) := by decide +kernel
theorem d_Law_law_17 : decode code 17 = .ok (.istore_n 3, 1) := by decide +kernel
theorem d_Law_law_18 : decode code 18 = .ok (.iload_n 3, 1) := by decide +kernel
theorem d_Law_law_19 : decode code 19 = .ok (.aload_n 0, 1) := by decide +kernel
theorem d_Law_law_20 : decode code 20 = .ok (.arraylength, 1) := by decide +kernel
theorem d_Law_law_21 : decode code 21 = .ok (.bipush 6, 2) := by decide +kernel
theorem d_Law_law_23 : decode code 23 = .ok (.isub, 1) := by decide +kernel
theorem d_Law_law_24 : decode code 24 = .ok (.if_icmp .gt 839, 3) := by decide +kernel
theorem d_Law_law_27 : decode code 27 = .ok (.aload_n 0, 1) := by decide +kernel
theorem d_Law_law_28 : decode code 28 = .ok (.iload_n 3, 1) := by decide +kernel
theorem d_Law_law_29 : decode code 29 = .ok (.iaload, 1) := by decide +kernel
theorem d_Law_law_30 : decode code 30 = .ok (.bipush 31, 2) := by decide +kernel
theorem d_Law_law_32 : decode code 32 = .ok (.iand, 1) := by decide +kernel
theorem d_Law_law_33 : decode code 33 = .ok (.tableswitch 824 0 25 #[119, 182, 205, 218, 231, 280, 293, 306, 339, 362, 375, 398, 461, 474, 497, 520, 553, 576, 589, 612, 625, 648, 681, 704, 728, 801], 119) := by decide +kernel
theorem d_Law_law_152 : decode code 152 = .ok (.aload_n 1, 1) := by decide +kernel
theorem d_Law_law_153 : decode code 153 = .ok (.aload_n 0, 1) := by decide +kernel
theorem d_Law_law_154 : decode code 154 = .ok (.iload_n 3, 1) := by decide +kernel
theorem d_Law_law_155 : decode code 155 = .ok (.iconst 1, 1) := by decide +kernel
theorem d_Law_law_156 : decode code 156 = .ok (.iadd, 1) := by decide +kernel
theorem d_Law_law_157 : decode code 157 = .ok (.iaload, 1) := by decide +kernel
theorem d_Law_law_158 : decode code 158 = .ok (.aload_n 0, 1) := by decide +kernel
theorem d_Law_law_159 : decode code 159 = .ok (.iload_n 3, 1) := by decide +kernel
theorem d_Law_law_160 : decode code 160 = .ok (.iconst 2, 1) := by decide +kernel
theorem d_Law_law_161 : decode code 161 = .ok (.iadd, 1) := by decide +kernel
theorem d_Law_law_162 : decode code 162 = .ok (.iaload, 1) := by decide +kernel
theorem d_Law_law_163 : decode code 163 = .ok (.aload_n 0, 1) := by decide +kernel
theorem d_Law_law_164 : decode code 164 = .ok (.iload_n 3, 1) := by decide +kernel
theorem d_Law_law_165 : decode code 165 = .ok (.iconst 3, 1) := by decide +kernel
theorem d_Law_law_166 : decode code 166 = .ok (.iadd, 1) := by decide +kernel
theorem d_Law_law_167 : decode code 167 = .ok (.iaload, 1) := by decide +kernel
theorem d_Law_law_168 : decode code 168 = .ok (.aload_n 0, 1) := by decide +kernel
theorem d_Law_law_169 : decode code 169 = .ok (.iload_n 3, 1) := by decide +kernel
theorem d_Law_law_170 : decode code 170 = .ok (.iconst 4, 1) := by decide +kernel
theorem d_Law_law_171 : decode code 171 = .ok (.iadd, 1) := by decide +kernel
theorem d_Law_law_172 : decode code 172 = .ok (.iaload, 1) := by decide +kernel
theorem d_Law_law_173 : decode code 173 = .ok (.aload_n 0, 1) := by decide +kernel
theorem d_Law_law_174 : decode code 174 = .ok (.iload_n 3, 1) := by decide +kernel
theorem d_Law_law_175 : decode code 175 = .ok (.iconst 5, 1) := by decide +kernel
theorem d_Law_law_176 : decode code 176 = .ok (.iadd, 1) := by decide +kernel
theorem d_Law_law_177 : decode code 177 = .ok (.iaload, 1) := by decide +kernel
theorem d_Law_law_178 : decode code 178 = .ok (.invokevirtual 13, 3) := by decide +kernel
theorem d_Law_law_181 : decode code 181 = .ok (.aload_n 2, 1) := by decide +kernel
theorem d_Law_law_182 : decode code 182 = .ok (.aload_n 0, 1) := by decide +kernel
theorem d_Law_law_183 : decode code 183 = .ok (.iload_n 3, 1) := by decide +kernel
theorem d_Law_law_184 : decode code 184 = .ok (.iconst 1, 1) := by decide +kernel
theorem d_Law_law_185 : decode code 185 = .ok (.iadd, 1) := by decide +kernel
theorem d_Law_law_186 : decode code 186 = .ok (.iaload, 1) := by decide +kernel
theorem d_Law_law_187 : decode code 187 = .ok (.aload_n 0, 1) := by decide +kernel
theorem d_Law_law_188 : decode code 188 = .ok (.iload_n 3, 1) := by decide +kernel
theorem d_Law_law_189 : decode code 189 = .ok (.iconst 2, 1) := by decide +kernel
theorem d_Law_law_190 : decode code 190 = .ok (.iadd, 1) := by decide +kernel
theorem d_Law_law_191 : decode code 191 = .ok (.iaload, 1) := by decide +kernel
theorem d_Law_law_192 : decode code 192 = .ok (.aload_n 0, 1) := by decide +kernel
theorem d_Law_law_193 : decode code 193 = .ok (.iload_n 3, 1) := by decide +kernel
theorem d_Law_law_194 : decode code 194 = .ok (.iconst 3, 1) := by decide +kernel
theorem d_Law_law_195 : decode code 195 = .ok (.iadd, 1) := by decide +kernel
theorem d_Law_law_196 : decode code 196 = .ok (.iaload, 1) := by decide +kernel
theorem d_Law_law_197 : decode code 197 = .ok (.aload_n 0, 1) := by decide +kernel
theorem d_Law_law_198 : decode code 198 = .ok (.iload_n 3, 1) := by decide +kernel
theorem d_Law_law_199 : decode code 199 = .ok (.iconst 4, 1) := by decide +kernel
theorem d_Law_law_200 : decode code 200 = .ok (.iadd, 1) := by decide +kernel
theorem d_Law_law_201 : decode code 201 = .ok (.iaload, 1) := by decide +kernel
theorem d_Law_law_202 : decode code 202 = .ok (.aload_n 0, 1) := by decide +kernel
theorem d_Law_law_203 : decode code 203 = .ok (.iload_n 3, 1) := by decide +kernel
theorem d_Law_law_204 : decode code 204 = .ok (.iconst 5, 1) := by decide +kernel
theorem d_Law_law_205 : decode code 205 = .ok (.iadd, 1) := by decide +kernel
theorem d_Law_law_206 : decode code 206 = .ok (.iaload, 1) := by decide +kernel
theorem d_Law_law_207 : decode code 207 = .ok (.invokevirtual 17, 3) := by decide +kernel
theorem d_Law_law_210 : decode code 210 = .ok (.if_icmp .eq 647, 3) := by decide +kernel
theorem d_Law_law_213 : decode code 213 = .ok (.iconst 0, 1) := by decide +kernel
theorem d_Law_law_214 : decode code 214 = .ok (.ireturn, 1) := by decide +kernel
theorem d_Law_law_215 : decode code 215 = .ok (.aload_n 1, 1) := by decide +kernel
theorem d_Law_law_216 : decode code 216 = .ok (.aload_n 0, 1) := by decide +kernel
theorem d_Law_law_217 : decode code 217 = .ok (.iload_n 3, 1) := by decide +kernel
theorem d_Law_law_218 : decode code 218 = .ok (.iconst 1, 1) := by decide +kernel
theorem d_Law_law_219 : decode code 219 = .ok (.iadd, 1) := by decide +kernel
theorem d_Law_law_220 : decode code 220 = .ok (.iaload, 1) := by decide +kernel
theorem d_Law_law_221 : decode code 221 = .ok (.invokevirtual 18, 3) := by decide +kernel
theorem d_Law_law_224 : decode code 224 = .ok (.aload_n 2, 1) := by decide +kernel
theorem d_Law_law_225 : decode code 225 = .ok (.aload_n 0, 1) := by decide +kernel
theorem d_Law_law_226 : decode code 226 = .ok (.iload_n 3, 1) := by decide +kernel
theorem d_Law_law_227 : decode code 227 = .ok (.iconst 1, 1) := by decide +kernel
theorem d_Law_law_228 : decode code 228 = .ok (.iadd, 1) := by decide +kernel
theorem d_Law_law_229 : decode code 229 = .ok (.iaload, 1) := by decide +kernel
theorem d_Law_law_230 : decode code 230 = .ok (.invokevirtual 22, 3) := by decide +kernel
theorem d_Law_law_233 : decode code 233 = .ok (.if_icmp .eq 624, 3) := by decide +kernel
theorem d_Law_law_236 : decode code 236 = .ok (.iconst 0, 1) := by decide +kernel
theorem d_Law_law_237 : decode code 237 = .ok (.ireturn, 1) := by decide +kernel
theorem d_Law_law_238 : decode code 238 = .ok (.aload_n 1, 1) := by decide +kernel
theorem d_Law_law_239 : decode code 239 = .ok (.invokevirtual 23, 3) := by decide +kernel
theorem d_Law_law_242 : decode code 242 = .ok (.aload_n 2, 1) := by decide +kernel
theorem d_Law_law_243 : decode code 243 = .ok (.invokevirtual 27, 3) := by decide +kernel
theorem d_Law_law_246 : decode code 246 = .ok (.if_icmp .eq 611, 3) := by decide +kernel
theorem d_Law_law_249 : decode code 249 = .ok (.iconst 0, 1) := by decide +kernel
theorem d_Law_law_250 : decode code 250 = .ok (.ireturn, 1) := by decide +kernel
theorem d_Law_law_251 : decode code 251 = .ok (.aload_n 1, 1) := by decide +kernel
theorem d_Law_law_252 : decode code 252 = .ok (.invokevirtual 28, 3) := by decide +kernel
theorem d_Law_law_255 : decode code 255 = .ok (.aload_n 2, 1) := by decide +kernel
theorem d_Law_law_256 : decode code 256 = .ok (.invokevirtual 31, 3) := by decide +kernel
theorem d_Law_law_259 : decode code 259 = .ok (.if_icmp .eq 598, 3) := by decide +kernel
theorem d_Law_law_262 : decode code 262 = .ok (.iconst 0, 1) := by decide +kernel
theorem d_Law_law_263 : decode code 263 = .ok (.ireturn, 1) := by decide +kernel
theorem d_Law_law_264 : decode code 264 = .ok (.aload_n 1, 1) := by decide +kernel
theorem d_Law_law_265 : decode code 265 = .ok (.aload_n 0, 1) := by decide +kernel
theorem d_Law_law_266 : decode code 266 = .ok (.iload_n 3, 1) := by decide +kernel
theorem d_Law_law_267 : decode code 267 = .ok (.iconst 1, 1) := by decide +kernel
theorem d_Law_law_268 : decode code 268 = .ok (.iadd, 1) := by decide +kernel
theorem d_Law_law_269 : decode code 269 = .ok (.iaload, 1) := by decide +kernel
theorem d_Law_law_270 : decode code 270 = .ok (.aload_n 0, 1) := by decide +kernel
theorem d_Law_law_271 : decode code 271 = .ok (.iload_n 3, 1) := by decide +kernel
theorem d_Law_law_272 : decode code 272 = .ok (.iconst 2, 1) := by decide +kernel
theorem d_Law_law_273 : decode code 273 = .ok (.iadd, 1) := by decide +kernel
theorem d_Law_law_274 : decode code 274 = .ok (.iaload, 1) := by decide +kernel
theorem d_Law_law_275 : decode code 275 = .ok (.ifCond .eq 7, 3) := by decide +kernel
theorem d_Law_law_278 : decode code 278 = .ok (.iconst 1, 1) := by decide +kernel
theorem d_Law_law_279 : decode code 279 = .ok (.goto 4, 3) := by decide +kernel
theorem d_Law_law_282 : decode code 282 = .ok (.iconst 0, 1) := by decide +kernel
theorem d_Law_law_283 : decode code 283 = .ok (.invokevirtual 32, 3) := by decide +kernel
theorem d_Law_law_286 : decode code 286 = .ok (.aload_n 2, 1) := by decide +kernel
theorem d_Law_law_287 : decode code 287 = .ok (.aload_n 0, 1) := by decide +kernel
theorem d_Law_law_288 : decode code 288 = .ok (.iload_n 3, 1) := by decide +kernel
theorem d_Law_law_289 : decode code 289 = .ok (.iconst 1, 1) := by decide +kernel
theorem d_Law_law_290 : decode code 290 = .ok (.iadd, 1) := by decide +kernel
theorem d_Law_law_291 : decode code 291 = .ok (.iaload, 1) := by decide +kernel
theorem d_Law_law_292 : decode code 292 = .ok (.aload_n 0, 1) := by decide +kernel
theorem d_Law_law_293 : decode code 293 = .ok (.iload_n 3, 1) := by decide +kernel
theorem d_Law_law_294 : decode code 294 = .ok (.iconst 2, 1) := by decide +kernel
theorem d_Law_law_295 : decode code 295 = .ok (.iadd, 1) := by decide +kernel
theorem d_Law_law_296 : decode code 296 = .ok (.iaload, 1) := by decide +kernel
theorem d_Law_law_297 : decode code 297 = .ok (.ifCond .eq 7, 3) := by decide +kernel
theorem d_Law_law_300 : decode code 300 = .ok (.iconst 1, 1) := by decide +kernel
theorem d_Law_law_301 : decode code 301 = .ok (.goto 4, 3) := by decide +kernel
theorem d_Law_law_304 : decode code 304 = .ok (.iconst 0, 1) := by decide +kernel
theorem d_Law_law_305 : decode code 305 = .ok (.invokevirtual 36, 3) := by decide +kernel
theorem d_Law_law_308 : decode code 308 = .ok (.if_icmp .eq 549, 3) := by decide +kernel
theorem d_Law_law_311 : decode code 311 = .ok (.iconst 0, 1) := by decide +kernel
theorem d_Law_law_312 : decode code 312 = .ok (.ireturn, 1) := by decide +kernel
theorem d_Law_law_313 : decode code 313 = .ok (.aload_n 1, 1) := by decide +kernel
theorem d_Law_law_314 : decode code 314 = .ok (.invokevirtual 37, 3) := by decide +kernel
theorem d_Law_law_317 : decode code 317 = .ok (.aload_n 2, 1) := by decide +kernel
theorem d_Law_law_318 : decode code 318 = .ok (.invokevirtual 40, 3) := by decide +kernel
theorem d_Law_law_321 : decode code 321 = .ok (.if_icmp .eq 536, 3) := by decide +kernel
theorem d_Law_law_324 : decode code 324 = .ok (.iconst 0, 1) := by decide +kernel
theorem d_Law_law_325 : decode code 325 = .ok (.ireturn, 1) := by decide +kernel
theorem d_Law_law_326 : decode code 326 = .ok (.aload_n 1, 1) := by decide +kernel
theorem d_Law_law_327 : decode code 327 = .ok (.invokevirtual 41, 3) := by decide +kernel
theorem d_Law_law_330 : decode code 330 = .ok (.aload_n 2, 1) := by decide +kernel
theorem d_Law_law_331 : decode code 331 = .ok (.invokevirtual 44, 3) := by decide +kernel
theorem d_Law_law_334 : decode code 334 = .ok (.if_icmp .eq 523, 3) := by decide +kernel
theorem d_Law_law_337 : decode code 337 = .ok (.iconst 0, 1) := by decide +kernel
theorem d_Law_law_338 : decode code 338 = .ok (.ireturn, 1) := by decide +kernel
theorem d_Law_law_339 : decode code 339 = .ok (.aload_n 1, 1) := by decide +kernel
theorem d_Law_law_340 : decode code 340 = .ok (.aload_n 0, 1) := by decide +kernel
theorem d_Law_law_341 : decode code 341 = .ok (.iload_n 3, 1) := by decide +kernel
theorem d_Law_law_342 : decode code 342 = .ok (.iconst 1, 1) := by decide +kernel
theorem d_Law_law_343 : decode code 343 = .ok (.iadd, 1) := by decide +kernel
theorem d_Law_law_344 : decode code 344 = .ok (.iaload, 1) := by decide +kernel
theorem d_Law_law_345 : decode code 345 = .ok (.aload_n 0, 1) := by decide +kernel
theorem d_Law_law_346 : decode code 346 = .ok (.iload_n 3, 1) := by decide +kernel
theorem d_Law_law_347 : decode code 347 = .ok (.iconst 2, 1) := by decide +kernel
theorem d_Law_law_348 : decode code 348 = .ok (.iadd, 1) := by decide +kernel
theorem d_Law_law_349 : decode code 349 = .ok (.iaload, 1) := by decide +kernel
theorem d_Law_law_350 : decode code 350 = .ok (.invokevirtual 45, 3) := by decide +kernel
theorem d_Law_law_353 : decode code 353 = .ok (.aload_n 2, 1) := by decide +kernel
theorem d_Law_law_354 : decode code 354 = .ok (.aload_n 0, 1) := by decide +kernel
theorem d_Law_law_355 : decode code 355 = .ok (.iload_n 3, 1) := by decide +kernel
theorem d_Law_law_356 : decode code 356 = .ok (.iconst 1, 1) := by decide +kernel
theorem d_Law_law_357 : decode code 357 = .ok (.iadd, 1) := by decide +kernel
theorem d_Law_law_358 : decode code 358 = .ok (.iaload, 1) := by decide +kernel
theorem d_Law_law_359 : decode code 359 = .ok (.aload_n 0, 1) := by decide +kernel
theorem d_Law_law_360 : decode code 360 = .ok (.iload_n 3, 1) := by decide +kernel
theorem d_Law_law_361 : decode code 361 = .ok (.iconst 2, 1) := by decide +kernel
theorem d_Law_law_362 : decode code 362 = .ok (.iadd, 1) := by decide +kernel
theorem d_Law_law_363 : decode code 363 = .ok (.iaload, 1) := by decide +kernel
theorem d_Law_law_364 : decode code 364 = .ok (.invokevirtual 49, 3) := by decide +kernel
theorem d_Law_law_367 : decode code 367 = .ok (.if_icmp .eq 490, 3) := by decide +kernel
theorem d_Law_law_370 : decode code 370 = .ok (.iconst 0, 1) := by decide +kernel
theorem d_Law_law_371 : decode code 371 = .ok (.ireturn, 1) := by decide +kernel
theorem d_Law_law_372 : decode code 372 = .ok (.aload_n 1, 1) := by decide +kernel
theorem d_Law_law_373 : decode code 373 = .ok (.aload_n 0, 1) := by decide +kernel
theorem d_Law_law_374 : decode code 374 = .ok (.iload_n 3, 1) := by decide +kernel
theorem d_Law_law_375 : decode code 375 = .ok (.iconst 1, 1) := by decide +kernel
theorem d_Law_law_376 : decode code 376 = .ok (.iadd, 1) := by decide +kernel
theorem d_Law_law_377 : decode code 377 = .ok (.iaload, 1) := by decide +kernel
theorem d_Law_law_378 : decode code 378 = .ok (.invokevirtual 50, 3) := by decide +kernel
theorem d_Law_law_381 : decode code 381 = .ok (.aload_n 2, 1) := by decide +kernel
theorem d_Law_law_382 : decode code 382 = .ok (.aload_n 0, 1) := by decide +kernel
theorem d_Law_law_383 : decode code 383 = .ok (.iload_n 3, 1) := by decide +kernel
theorem d_Law_law_384 : decode code 384 = .ok (.iconst 1, 1) := by decide +kernel
theorem d_Law_law_385 : decode code 385 = .ok (.iadd, 1) := by decide +kernel
theorem d_Law_law_386 : decode code 386 = .ok (.iaload, 1) := by decide +kernel
theorem d_Law_law_387 : decode code 387 = .ok (.invokevirtual 53, 3) := by decide +kernel
theorem d_Law_law_390 : decode code 390 = .ok (.if_icmp .eq 467, 3) := by decide +kernel
theorem d_Law_law_393 : decode code 393 = .ok (.iconst 0, 1) := by decide +kernel
theorem d_Law_law_394 : decode code 394 = .ok (.ireturn, 1) := by decide +kernel
theorem d_Law_law_395 : decode code 395 = .ok (.aload_n 1, 1) := by decide +kernel
theorem d_Law_law_396 : decode code 396 = .ok (.invokevirtual 54, 3) := by decide +kernel
theorem d_Law_law_399 : decode code 399 = .ok (.aload_n 2, 1) := by decide +kernel
theorem d_Law_law_400 : decode code 400 = .ok (.invokevirtual 57, 3) := by decide +kernel
theorem d_Law_law_403 : decode code 403 = .ok (.if_icmp .eq 454, 3) := by decide +kernel
theorem d_Law_law_406 : decode code 406 = .ok (.iconst 0, 1) := by decide +kernel
theorem d_Law_law_407 : decode code 407 = .ok (.ireturn, 1) := by decide +kernel
theorem d_Law_law_408 : decode code 408 = .ok (.aload_n 1, 1) := by decide +kernel
theorem d_Law_law_409 : decode code 409 = .ok (.aload_n 0, 1) := by decide +kernel
theorem d_Law_law_410 : decode code 410 = .ok (.iload_n 3, 1) := by decide +kernel
theorem d_Law_law_411 : decode code 411 = .ok (.iconst 1, 1) := by decide +kernel
theorem d_Law_law_412 : decode code 412 = .ok (.iadd, 1) := by decide +kernel
theorem d_Law_law_413 : decode code 413 = .ok (.iaload, 1) := by decide +kernel
theorem d_Law_law_414 : decode code 414 = .ok (.invokevirtual 58, 3) := by decide +kernel
theorem d_Law_law_417 : decode code 417 = .ok (.aload_n 2, 1) := by decide +kernel
theorem d_Law_law_418 : decode code 418 = .ok (.aload_n 0, 1) := by decide +kernel
theorem d_Law_law_419 : decode code 419 = .ok (.iload_n 3, 1) := by decide +kernel
theorem d_Law_law_420 : decode code 420 = .ok (.iconst 1, 1) := by decide +kernel
theorem d_Law_law_421 : decode code 421 = .ok (.iadd, 1) := by decide +kernel
theorem d_Law_law_422 : decode code 422 = .ok (.iaload, 1) := by decide +kernel
theorem d_Law_law_423 : decode code 423 = .ok (.invokevirtual 61, 3) := by decide +kernel
theorem d_Law_law_426 : decode code 426 = .ok (.if_icmp .eq 431, 3) := by decide +kernel
theorem d_Law_law_429 : decode code 429 = .ok (.iconst 0, 1) := by decide +kernel
theorem d_Law_law_430 : decode code 430 = .ok (.ireturn, 1) := by decide +kernel
theorem d_Law_law_431 : decode code 431 = .ok (.aload_n 1, 1) := by decide +kernel
theorem d_Law_law_432 : decode code 432 = .ok (.aload_n 0, 1) := by decide +kernel
theorem d_Law_law_433 : decode code 433 = .ok (.iload_n 3, 1) := by decide +kernel
theorem d_Law_law_434 : decode code 434 = .ok (.iconst 1, 1) := by decide +kernel
theorem d_Law_law_435 : decode code 435 = .ok (.iadd, 1) := by decide +kernel
theorem d_Law_law_436 : decode code 436 = .ok (.iaload, 1) := by decide +kernel
theorem d_Law_law_437 : decode code 437 = .ok (.i2l, 1) := by decide +kernel
theorem d_Law_law_438 : decode code 438 = .ok (.bipush 32, 2) := by decide +kernel
theorem d_Law_law_440 : decode code 440 = .ok (.lshl, 1) := by decide +kernel
theorem d_Law_law_441 : decode code 441 = .ok (.aload_n 0, 1) := by decide +kernel
theorem d_Law_law_442 : decode code 442 = .ok (.iload_n 3, 1) := by decide +kernel
theorem d_Law_law_443 : decode code 443 = .ok (.iconst 2, 1) := by decide +kernel
theorem d_Law_law_444 : decode code 444 = .ok (.iadd, 1) := by decide +kernel
theorem d_Law_law_445 : decode code 445 = .ok (.iaload, 1) := by decide +kernel
theorem d_Law_law_446 : decode code 446 = .ok (.i2l, 1) := by decide +kernel
theorem d_Law_law_447 : decode code 447 = .ok (.ldc2_w 62, 3) := by decide +kernel
theorem d_Law_law_450 : decode code 450 = .ok (.land, 1) := by decide +kernel
theorem d_Law_law_451 : decode code 451 = .ok (.lor, 1) := by decide +kernel
theorem d_Law_law_452 : decode code 452 = .ok (.aload_n 0, 1) := by decide +kernel
theorem d_Law_law_453 : decode code 453 = .ok (.iload_n 3, 1) := by decide +kernel
theorem d_Law_law_454 : decode code 454 = .ok (.iconst 3, 1) := by decide +kernel
theorem d_Law_law_455 : decode code 455 = .ok (.iadd, 1) := by decide +kernel
theorem d_Law_law_456 : decode code 456 = .ok (.iaload, 1) := by decide +kernel
theorem d_Law_law_457 : decode code 457 = .ok (.invokevirtual 64, 3) := by decide +kernel
theorem d_Law_law_460 : decode code 460 = .ok (.aload_n 2, 1) := by decide +kernel
theorem d_Law_law_461 : decode code 461 = .ok (.aload_n 0, 1) := by decide +kernel
theorem d_Law_law_462 : decode code 462 = .ok (.iload_n 3, 1) := by decide +kernel
theorem d_Law_law_463 : decode code 463 = .ok (.iconst 1, 1) := by decide +kernel
theorem d_Law_law_464 : decode code 464 = .ok (.iadd, 1) := by decide +kernel
theorem d_Law_law_465 : decode code 465 = .ok (.iaload, 1) := by decide +kernel
theorem d_Law_law_466 : decode code 466 = .ok (.i2l, 1) := by decide +kernel
theorem d_Law_law_467 : decode code 467 = .ok (.bipush 32, 2) := by decide +kernel
theorem d_Law_law_469 : decode code 469 = .ok (.lshl, 1) := by decide +kernel
theorem d_Law_law_470 : decode code 470 = .ok (.aload_n 0, 1) := by decide +kernel
theorem d_Law_law_471 : decode code 471 = .ok (.iload_n 3, 1) := by decide +kernel
theorem d_Law_law_472 : decode code 472 = .ok (.iconst 2, 1) := by decide +kernel
theorem d_Law_law_473 : decode code 473 = .ok (.iadd, 1) := by decide +kernel
theorem d_Law_law_474 : decode code 474 = .ok (.iaload, 1) := by decide +kernel
theorem d_Law_law_475 : decode code 475 = .ok (.i2l, 1) := by decide +kernel
theorem d_Law_law_476 : decode code 476 = .ok (.ldc2_w 62, 3) := by decide +kernel
theorem d_Law_law_479 : decode code 479 = .ok (.land, 1) := by decide +kernel
theorem d_Law_law_480 : decode code 480 = .ok (.lor, 1) := by decide +kernel
theorem d_Law_law_481 : decode code 481 = .ok (.aload_n 0, 1) := by decide +kernel
theorem d_Law_law_482 : decode code 482 = .ok (.iload_n 3, 1) := by decide +kernel
theorem d_Law_law_483 : decode code 483 = .ok (.iconst 3, 1) := by decide +kernel
theorem d_Law_law_484 : decode code 484 = .ok (.iadd, 1) := by decide +kernel
theorem d_Law_law_485 : decode code 485 = .ok (.iaload, 1) := by decide +kernel
theorem d_Law_law_486 : decode code 486 = .ok (.invokevirtual 68, 3) := by decide +kernel
theorem d_Law_law_489 : decode code 489 = .ok (.if_icmp .eq 368, 3) := by decide +kernel
theorem d_Law_law_492 : decode code 492 = .ok (.iconst 0, 1) := by decide +kernel
theorem d_Law_law_493 : decode code 493 = .ok (.ireturn, 1) := by decide +kernel
theorem d_Law_law_494 : decode code 494 = .ok (.aload_n 1, 1) := by decide +kernel
theorem d_Law_law_495 : decode code 495 = .ok (.invokevirtual 69, 3) := by decide +kernel
theorem d_Law_law_498 : decode code 498 = .ok (.aload_n 2, 1) := by decide +kernel
theorem d_Law_law_499 : decode code 499 = .ok (.invokevirtual 72, 3) := by decide +kernel
theorem d_Law_law_502 : decode code 502 = .ok (.if_icmp .eq 355, 3) := by decide +kernel
theorem d_Law_law_505 : decode code 505 = .ok (.iconst 0, 1) := by decide +kernel
theorem d_Law_law_506 : decode code 506 = .ok (.ireturn, 1) := by decide +kernel
theorem d_Law_law_507 : decode code 507 = .ok (.aload_n 1, 1) := by decide +kernel
theorem d_Law_law_508 : decode code 508 = .ok (.aload_n 0, 1) := by decide +kernel
theorem d_Law_law_509 : decode code 509 = .ok (.iload_n 3, 1) := by decide +kernel
theorem d_Law_law_510 : decode code 510 = .ok (.iconst 1, 1) := by decide +kernel
theorem d_Law_law_511 : decode code 511 = .ok (.iadd, 1) := by decide +kernel
theorem d_Law_law_512 : decode code 512 = .ok (.iaload, 1) := by decide +kernel
theorem d_Law_law_513 : decode code 513 = .ok (.invokevirtual 73, 3) := by decide +kernel
theorem d_Law_law_516 : decode code 516 = .ok (.aload_n 2, 1) := by decide +kernel
theorem d_Law_law_517 : decode code 517 = .ok (.aload_n 0, 1) := by decide +kernel
theorem d_Law_law_518 : decode code 518 = .ok (.iload_n 3, 1) := by decide +kernel
theorem d_Law_law_519 : decode code 519 = .ok (.iconst 1, 1) := by decide +kernel
theorem d_Law_law_520 : decode code 520 = .ok (.iadd, 1) := by decide +kernel
theorem d_Law_law_521 : decode code 521 = .ok (.iaload, 1) := by decide +kernel
theorem d_Law_law_522 : decode code 522 = .ok (.invokevirtual 76, 3) := by decide +kernel
theorem d_Law_law_525 : decode code 525 = .ok (.if_icmp .eq 332, 3) := by decide +kernel
theorem d_Law_law_528 : decode code 528 = .ok (.iconst 0, 1) := by decide +kernel
theorem d_Law_law_529 : decode code 529 = .ok (.ireturn, 1) := by decide +kernel
theorem d_Law_law_530 : decode code 530 = .ok (.aload_n 1, 1) := by decide +kernel
theorem d_Law_law_531 : decode code 531 = .ok (.aload_n 0, 1) := by decide +kernel
theorem d_Law_law_532 : decode code 532 = .ok (.iload_n 3, 1) := by decide +kernel
theorem d_Law_law_533 : decode code 533 = .ok (.iconst 1, 1) := by decide +kernel
theorem d_Law_law_534 : decode code 534 = .ok (.iadd, 1) := by decide +kernel
theorem d_Law_law_535 : decode code 535 = .ok (.iaload, 1) := by decide +kernel
theorem d_Law_law_536 : decode code 536 = .ok (.invokevirtual 77, 3) := by decide +kernel
theorem d_Law_law_539 : decode code 539 = .ok (.aload_n 2, 1) := by decide +kernel
theorem d_Law_law_540 : decode code 540 = .ok (.aload_n 0, 1) := by decide +kernel
theorem d_Law_law_541 : decode code 541 = .ok (.iload_n 3, 1) := by decide +kernel
theorem d_Law_law_542 : decode code 542 = .ok (.iconst 1, 1) := by decide +kernel
theorem d_Law_law_543 : decode code 543 = .ok (.iadd, 1) := by decide +kernel
theorem d_Law_law_544 : decode code 544 = .ok (.iaload, 1) := by decide +kernel
theorem d_Law_law_545 : decode code 545 = .ok (.invokevirtual 80, 3) := by decide +kernel
theorem d_Law_law_548 : decode code 548 = .ok (.if_icmp .eq 309, 3) := by decide +kernel
theorem d_Law_law_551 : decode code 551 = .ok (.iconst 0, 1) := by decide +kernel
theorem d_Law_law_552 : decode code 552 = .ok (.ireturn, 1) := by decide +kernel
theorem d_Law_law_553 : decode code 553 = .ok (.aload_n 1, 1) := by decide +kernel
theorem d_Law_law_554 : decode code 554 = .ok (.aload_n 0, 1) := by decide +kernel
theorem d_Law_law_555 : decode code 555 = .ok (.iload_n 3, 1) := by decide +kernel
theorem d_Law_law_556 : decode code 556 = .ok (.iconst 1, 1) := by decide +kernel
theorem d_Law_law_557 : decode code 557 = .ok (.iadd, 1) := by decide +kernel
theorem d_Law_law_558 : decode code 558 = .ok (.iaload, 1) := by decide +kernel
theorem d_Law_law_559 : decode code 559 = .ok (.aload_n 0, 1) := by decide +kernel
theorem d_Law_law_560 : decode code 560 = .ok (.iload_n 3, 1) := by decide +kernel
theorem d_Law_law_561 : decode code 561 = .ok (.iconst 2, 1) := by decide +kernel
theorem d_Law_law_562 : decode code 562 = .ok (.iadd, 1) := by decide +kernel
theorem d_Law_law_563 : decode code 563 = .ok (.iaload, 1) := by decide +kernel
theorem d_Law_law_564 : decode code 564 = .ok (.invokevirtual 81, 3) := by decide +kernel
theorem d_Law_law_567 : decode code 567 = .ok (.aload_n 2, 1) := by decide +kernel
theorem d_Law_law_568 : decode code 568 = .ok (.aload_n 0, 1) := by decide +kernel
theorem d_Law_law_569 : decode code 569 = .ok (.iload_n 3, 1) := by decide +kernel
theorem d_Law_law_570 : decode code 570 = .ok (.iconst 1, 1) := by decide +kernel
theorem d_Law_law_571 : decode code 571 = .ok (.iadd, 1) := by decide +kernel
theorem d_Law_law_572 : decode code 572 = .ok (.iaload, 1) := by decide +kernel
theorem d_Law_law_573 : decode code 573 = .ok (.aload_n 0, 1) := by decide +kernel
theorem d_Law_law_574 : decode code 574 = .ok (.iload_n 3, 1) := by decide +kernel
theorem d_Law_law_575 : decode code 575 = .ok (.iconst 2, 1) := by decide +kernel
theorem d_Law_law_576 : decode code 576 = .ok (.iadd, 1) := by decide +kernel
theorem d_Law_law_577 : decode code 577 = .ok (.iaload, 1) := by decide +kernel
theorem d_Law_law_578 : decode code 578 = .ok (.invokevirtual 84, 3) := by decide +kernel
theorem d_Law_law_581 : decode code 581 = .ok (.if_icmp .eq 276, 3) := by decide +kernel
theorem d_Law_law_584 : decode code 584 = .ok (.iconst 0, 1) := by decide +kernel
theorem d_Law_law_585 : decode code 585 = .ok (.ireturn, 1) := by decide +kernel
theorem d_Law_law_586 : decode code 586 = .ok (.aload_n 1, 1) := by decide +kernel
theorem d_Law_law_587 : decode code 587 = .ok (.aload_n 0, 1) := by decide +kernel
theorem d_Law_law_588 : decode code 588 = .ok (.iload_n 3, 1) := by decide +kernel
theorem d_Law_law_589 : decode code 589 = .ok (.iconst 1, 1) := by decide +kernel
theorem d_Law_law_590 : decode code 590 = .ok (.iadd, 1) := by decide +kernel
theorem d_Law_law_591 : decode code 591 = .ok (.iaload, 1) := by decide +kernel
theorem d_Law_law_592 : decode code 592 = .ok (.invokevirtual 85, 3) := by decide +kernel
theorem d_Law_law_595 : decode code 595 = .ok (.aload_n 2, 1) := by decide +kernel
theorem d_Law_law_596 : decode code 596 = .ok (.aload_n 0, 1) := by decide +kernel
theorem d_Law_law_597 : decode code 597 = .ok (.iload_n 3, 1) := by decide +kernel
theorem d_Law_law_598 : decode code 598 = .ok (.iconst 1, 1) := by decide +kernel
theorem d_Law_law_599 : decode code 599 = .ok (.iadd, 1) := by decide +kernel
theorem d_Law_law_600 : decode code 600 = .ok (.iaload, 1) := by decide +kernel
theorem d_Law_law_601 : decode code 601 = .ok (.invokevirtual 88, 3) := by decide +kernel
theorem d_Law_law_604 : decode code 604 = .ok (.if_icmp .eq 253, 3) := by decide +kernel
theorem d_Law_law_607 : decode code 607 = .ok (.iconst 0, 1) := by decide +kernel
theorem d_Law_law_608 : decode code 608 = .ok (.ireturn, 1) := by decide +kernel
theorem d_Law_law_609 : decode code 609 = .ok (.aload_n 1, 1) := by decide +kernel
theorem d_Law_law_610 : decode code 610 = .ok (.invokevirtual 89, 3) := by decide +kernel
theorem d_Law_law_613 : decode code 613 = .ok (.aload_n 2, 1) := by decide +kernel
theorem d_Law_law_614 : decode code 614 = .ok (.invokevirtual 92, 3) := by decide +kernel
theorem d_Law_law_617 : decode code 617 = .ok (.if_icmp .eq 240, 3) := by decide +kernel
theorem d_Law_law_620 : decode code 620 = .ok (.iconst 0, 1) := by decide +kernel
theorem d_Law_law_621 : decode code 621 = .ok (.ireturn, 1) := by decide +kernel
theorem d_Law_law_622 : decode code 622 = .ok (.aload_n 1, 1) := by decide +kernel
theorem d_Law_law_623 : decode code 623 = .ok (.aload_n 0, 1) := by decide +kernel
theorem d_Law_law_624 : decode code 624 = .ok (.iload_n 3, 1) := by decide +kernel
theorem d_Law_law_625 : decode code 625 = .ok (.iconst 1, 1) := by decide +kernel
theorem d_Law_law_626 : decode code 626 = .ok (.iadd, 1) := by decide +kernel
theorem d_Law_law_627 : decode code 627 = .ok (.iaload, 1) := by decide +kernel
theorem d_Law_law_628 : decode code 628 = .ok (.invokevirtual 93, 3) := by decide +kernel
theorem d_Law_law_631 : decode code 631 = .ok (.aload_n 2, 1) := by decide +kernel
theorem d_Law_law_632 : decode code 632 = .ok (.aload_n 0, 1) := by decide +kernel
theorem d_Law_law_633 : decode code 633 = .ok (.iload_n 3, 1) := by decide +kernel
theorem d_Law_law_634 : decode code 634 = .ok (.iconst 1, 1) := by decide +kernel
theorem d_Law_law_635 : decode code 635 = .ok (.iadd, 1) := by decide +kernel
theorem d_Law_law_636 : decode code 636 = .ok (.iaload, 1) := by decide +kernel
theorem d_Law_law_637 : decode code 637 = .ok (.invokevirtual 96, 3) := by decide +kernel
theorem d_Law_law_640 : decode code 640 = .ok (.if_icmp .eq 217, 3) := by decide +kernel
theorem d_Law_law_643 : decode code 643 = .ok (.iconst 0, 1) := by decide +kernel
theorem d_Law_law_644 : decode code 644 = .ok (.ireturn, 1) := by decide +kernel
theorem d_Law_law_645 : decode code 645 = .ok (.aload_n 1, 1) := by decide +kernel
theorem d_Law_law_646 : decode code 646 = .ok (.invokevirtual 97, 3) := by decide +kernel
theorem d_Law_law_649 : decode code 649 = .ok (.aload_n 2, 1) := by decide +kernel
theorem d_Law_law_650 : decode code 650 = .ok (.invokevirtual 100, 3) := by decide +kernel
theorem d_Law_law_653 : decode code 653 = .ok (.if_icmp .eq 204, 3) := by decide +kernel
theorem d_Law_law_656 : decode code 656 = .ok (.iconst 0, 1) := by decide +kernel
theorem d_Law_law_657 : decode code 657 = .ok (.ireturn, 1) := by decide +kernel
theorem d_Law_law_658 : decode code 658 = .ok (.aload_n 1, 1) := by decide +kernel
theorem d_Law_law_659 : decode code 659 = .ok (.aload_n 0, 1) := by decide +kernel
theorem d_Law_law_660 : decode code 660 = .ok (.iload_n 3, 1) := by decide +kernel
theorem d_Law_law_661 : decode code 661 = .ok (.iconst 1, 1) := by decide +kernel
theorem d_Law_law_662 : decode code 662 = .ok (.iadd, 1) := by decide +kernel
theorem d_Law_law_663 : decode code 663 = .ok (.iaload, 1) := by decide +kernel
theorem d_Law_law_664 : decode code 664 = .ok (.invokevirtual 101, 3) := by decide +kernel
theorem d_Law_law_667 : decode code 667 = .ok (.aload_n 2, 1) := by decide +kernel
theorem d_Law_law_668 : decode code 668 = .ok (.aload_n 0, 1) := by decide +kernel
theorem d_Law_law_669 : decode code 669 = .ok (.iload_n 3, 1) := by decide +kernel
theorem d_Law_law_670 : decode code 670 = .ok (.iconst 1, 1) := by decide +kernel
theorem d_Law_law_671 : decode code 671 = .ok (.iadd, 1) := by decide +kernel
theorem d_Law_law_672 : decode code 672 = .ok (.iaload, 1) := by decide +kernel
theorem d_Law_law_673 : decode code 673 = .ok (.invokevirtual 104, 3) := by decide +kernel
theorem d_Law_law_676 : decode code 676 = .ok (.if_icmp .eq 181, 3) := by decide +kernel
theorem d_Law_law_679 : decode code 679 = .ok (.iconst 0, 1) := by decide +kernel
theorem d_Law_law_680 : decode code 680 = .ok (.ireturn, 1) := by decide +kernel
theorem d_Law_law_681 : decode code 681 = .ok (.aload_n 1, 1) := by decide +kernel
theorem d_Law_law_682 : decode code 682 = .ok (.aload_n 0, 1) := by decide +kernel
theorem d_Law_law_683 : decode code 683 = .ok (.iload_n 3, 1) := by decide +kernel
theorem d_Law_law_684 : decode code 684 = .ok (.iconst 1, 1) := by decide +kernel
theorem d_Law_law_685 : decode code 685 = .ok (.iadd, 1) := by decide +kernel
theorem d_Law_law_686 : decode code 686 = .ok (.iaload, 1) := by decide +kernel
theorem d_Law_law_687 : decode code 687 = .ok (.aload_n 0, 1) := by decide +kernel
theorem d_Law_law_688 : decode code 688 = .ok (.iload_n 3, 1) := by decide +kernel
theorem d_Law_law_689 : decode code 689 = .ok (.iconst 2, 1) := by decide +kernel
theorem d_Law_law_690 : decode code 690 = .ok (.iadd, 1) := by decide +kernel
theorem d_Law_law_691 : decode code 691 = .ok (.iaload, 1) := by decide +kernel
theorem d_Law_law_692 : decode code 692 = .ok (.invokevirtual 105, 3) := by decide +kernel
theorem d_Law_law_695 : decode code 695 = .ok (.aload_n 2, 1) := by decide +kernel
theorem d_Law_law_696 : decode code 696 = .ok (.aload_n 0, 1) := by decide +kernel
theorem d_Law_law_697 : decode code 697 = .ok (.iload_n 3, 1) := by decide +kernel
theorem d_Law_law_698 : decode code 698 = .ok (.iconst 1, 1) := by decide +kernel
theorem d_Law_law_699 : decode code 699 = .ok (.iadd, 1) := by decide +kernel
theorem d_Law_law_700 : decode code 700 = .ok (.iaload, 1) := by decide +kernel
theorem d_Law_law_701 : decode code 701 = .ok (.aload_n 0, 1) := by decide +kernel
theorem d_Law_law_702 : decode code 702 = .ok (.iload_n 3, 1) := by decide +kernel
theorem d_Law_law_703 : decode code 703 = .ok (.iconst 2, 1) := by decide +kernel
theorem d_Law_law_704 : decode code 704 = .ok (.iadd, 1) := by decide +kernel
theorem d_Law_law_705 : decode code 705 = .ok (.iaload, 1) := by decide +kernel
theorem d_Law_law_706 : decode code 706 = .ok (.invokevirtual 108, 3) := by decide +kernel
theorem d_Law_law_709 : decode code 709 = .ok (.if_icmp .eq 148, 3) := by decide +kernel
theorem d_Law_law_712 : decode code 712 = .ok (.iconst 0, 1) := by decide +kernel
theorem d_Law_law_713 : decode code 713 = .ok (.ireturn, 1) := by decide +kernel
theorem d_Law_law_714 : decode code 714 = .ok (.aload_n 1, 1) := by decide +kernel
theorem d_Law_law_715 : decode code 715 = .ok (.aload_n 0, 1) := by decide +kernel
theorem d_Law_law_716 : decode code 716 = .ok (.iload_n 3, 1) := by decide +kernel
theorem d_Law_law_717 : decode code 717 = .ok (.iconst 1, 1) := by decide +kernel
theorem d_Law_law_718 : decode code 718 = .ok (.iadd, 1) := by decide +kernel
theorem d_Law_law_719 : decode code 719 = .ok (.iaload, 1) := by decide +kernel
theorem d_Law_law_720 : decode code 720 = .ok (.invokevirtual 109, 3) := by decide +kernel
theorem d_Law_law_723 : decode code 723 = .ok (.aload_n 2, 1) := by decide +kernel
theorem d_Law_law_724 : decode code 724 = .ok (.aload_n 0, 1) := by decide +kernel
theorem d_Law_law_725 : decode code 725 = .ok (.iload_n 3, 1) := by decide +kernel
theorem d_Law_law_726 : decode code 726 = .ok (.iconst 1, 1) := by decide +kernel
theorem d_Law_law_727 : decode code 727 = .ok (.iadd, 1) := by decide +kernel
theorem d_Law_law_728 : decode code 728 = .ok (.iaload, 1) := by decide +kernel
theorem d_Law_law_729 : decode code 729 = .ok (.invokevirtual 112, 3) := by decide +kernel
theorem d_Law_law_732 : decode code 732 = .ok (.if_icmp .eq 125, 3) := by decide +kernel
theorem d_Law_law_735 : decode code 735 = .ok (.iconst 0, 1) := by decide +kernel
theorem d_Law_law_736 : decode code 736 = .ok (.ireturn, 1) := by decide +kernel
theorem d_Law_law_737 : decode code 737 = .ok (.aload_n 1, 1) := by decide +kernel
theorem d_Law_law_738 : decode code 738 = .ok (.aload_n 0, 1) := by decide +kernel
theorem d_Law_law_739 : decode code 739 = .ok (.iload_n 3, 1) := by decide +kernel
theorem d_Law_law_740 : decode code 740 = .ok (.iconst 1, 1) := by decide +kernel
theorem d_Law_law_741 : decode code 741 = .ok (.iadd, 1) := by decide +kernel
theorem d_Law_law_742 : decode code 742 = .ok (.iaload, 1) := by decide +kernel
theorem d_Law_law_743 : decode code 743 = .ok (.invokevirtual 113, 3) := by decide +kernel
theorem d_Law_law_746 : decode code 746 = .ok (.aload_n 2, 1) := by decide +kernel
theorem d_Law_law_747 : decode code 747 = .ok (.aload_n 0, 1) := by decide +kernel
theorem d_Law_law_748 : decode code 748 = .ok (.iload_n 3, 1) := by decide +kernel
theorem d_Law_law_749 : decode code 749 = .ok (.iconst 1, 1) := by decide +kernel
theorem d_Law_law_750 : decode code 750 = .ok (.iadd, 1) := by decide +kernel
theorem d_Law_law_751 : decode code 751 = .ok (.iaload, 1) := by decide +kernel
theorem d_Law_law_752 : decode code 752 = .ok (.invokevirtual 117, 3) := by decide +kernel
theorem d_Law_law_755 : decode code 755 = .ok (.lcmp, 1) := by decide +kernel
theorem d_Law_law_756 : decode code 756 = .ok (.ifCond .eq 101, 3) := by decide +kernel
theorem d_Law_law_759 : decode code 759 = .ok (.iconst 0, 1) := by decide +kernel
theorem d_Law_law_760 : decode code 760 = .ok (.ireturn, 1) := by decide +kernel
theorem d_Law_law_761 : decode code 761 = .ok (.aload_n 1, 1) := by decide +kernel
theorem d_Law_law_762 : decode code 762 = .ok (.aload_n 0, 1) := by decide +kernel
theorem d_Law_law_763 : decode code 763 = .ok (.iload_n 3, 1) := by decide +kernel
theorem d_Law_law_764 : decode code 764 = .ok (.iconst 1, 1) := by decide +kernel
theorem d_Law_law_765 : decode code 765 = .ok (.iadd, 1) := by decide +kernel
theorem d_Law_law_766 : decode code 766 = .ok (.iaload, 1) := by decide +kernel
theorem d_Law_law_767 : decode code 767 = .ok (.aload_n 0, 1) := by decide +kernel
theorem d_Law_law_768 : decode code 768 = .ok (.iload_n 3, 1) := by decide +kernel
theorem d_Law_law_769 : decode code 769 = .ok (.iconst 2, 1) := by decide +kernel
theorem d_Law_law_770 : decode code 770 = .ok (.iadd, 1) := by decide +kernel
theorem d_Law_law_771 : decode code 771 = .ok (.iaload, 1) := by decide +kernel
theorem d_Law_law_772 : decode code 772 = .ok (.i2l, 1) := by decide +kernel
theorem d_Law_law_773 : decode code 773 = .ok (.bipush 32, 2) := by decide +kernel
theorem d_Law_law_775 : decode code 775 = .ok (.lshl, 1) := by decide +kernel
theorem d_Law_law_776 : decode code 776 = .ok (.aload_n 0, 1) := by decide +kernel
theorem d_Law_law_777 : decode code 777 = .ok (.iload_n 3, 1) := by decide +kernel
theorem d_Law_law_778 : decode code 778 = .ok (.iconst 3, 1) := by decide +kernel
theorem d_Law_law_779 : decode code 779 = .ok (.iadd, 1) := by decide +kernel
theorem d_Law_law_780 : decode code 780 = .ok (.iaload, 1) := by decide +kernel
theorem d_Law_law_781 : decode code 781 = .ok (.i2l, 1) := by decide +kernel
theorem d_Law_law_782 : decode code 782 = .ok (.ldc2_w 62, 3) := by decide +kernel
theorem d_Law_law_785 : decode code 785 = .ok (.land, 1) := by decide +kernel
theorem d_Law_law_786 : decode code 786 = .ok (.lor, 1) := by decide +kernel
theorem d_Law_law_787 : decode code 787 = .ok (.aload_n 0, 1) := by decide +kernel
theorem d_Law_law_788 : decode code 788 = .ok (.iload_n 3, 1) := by decide +kernel
theorem d_Law_law_789 : decode code 789 = .ok (.iconst 4, 1) := by decide +kernel
theorem d_Law_law_790 : decode code 790 = .ok (.iadd, 1) := by decide +kernel
theorem d_Law_law_791 : decode code 791 = .ok (.iaload, 1) := by decide +kernel
theorem d_Law_law_792 : decode code 792 = .ok (.invokevirtual 118, 3) := by decide +kernel
theorem d_Law_law_795 : decode code 795 = .ok (.aload_n 2, 1) := by decide +kernel
theorem d_Law_law_796 : decode code 796 = .ok (.aload_n 0, 1) := by decide +kernel
theorem d_Law_law_797 : decode code 797 = .ok (.iload_n 3, 1) := by decide +kernel
theorem d_Law_law_798 : decode code 798 = .ok (.iconst 1, 1) := by decide +kernel
theorem d_Law_law_799 : decode code 799 = .ok (.iadd, 1) := by decide +kernel
theorem d_Law_law_800 : decode code 800 = .ok (.iaload, 1) := by decide +kernel
theorem d_Law_law_801 : decode code 801 = .ok (.aload_n 0, 1) := by decide +kernel
theorem d_Law_law_802 : decode code 802 = .ok (.iload_n 3, 1) := by decide +kernel
theorem d_Law_law_803 : decode code 803 = .ok (.iconst 2, 1) := by decide +kernel
theorem d_Law_law_804 : decode code 804 = .ok (.iadd, 1) := by decide +kernel
theorem d_Law_law_805 : decode code 805 = .ok (.iaload, 1) := by decide +kernel
theorem d_Law_law_806 : decode code 806 = .ok (.i2l, 1) := by decide +kernel
theorem d_Law_law_807 : decode code 807 = .ok (.bipush 32, 2) := by decide +kernel
theorem d_Law_law_809 : decode code 809 = .ok (.lshl, 1) := by decide +kernel
theorem d_Law_law_810 : decode code 810 = .ok (.aload_n 0, 1) := by decide +kernel
theorem d_Law_law_811 : decode code 811 = .ok (.iload_n 3, 1) := by decide +kernel
theorem d_Law_law_812 : decode code 812 = .ok (.iconst 3, 1) := by decide +kernel
theorem d_Law_law_813 : decode code 813 = .ok (.iadd, 1) := by decide +kernel
theorem d_Law_law_814 : decode code 814 = .ok (.iaload, 1) := by decide +kernel
theorem d_Law_law_815 : decode code 815 = .ok (.i2l, 1) := by decide +kernel
theorem d_Law_law_816 : decode code 816 = .ok (.ldc2_w 62, 3) := by decide +kernel
theorem d_Law_law_819 : decode code 819 = .ok (.land, 1) := by decide +kernel
theorem d_Law_law_820 : decode code 820 = .ok (.lor, 1) := by decide +kernel
theorem d_Law_law_821 : decode code 821 = .ok (.aload_n 0, 1) := by decide +kernel
theorem d_Law_law_822 : decode code 822 = .ok (.iload_n 3, 1) := by decide +kernel
theorem d_Law_law_823 : decode code 823 = .ok (.iconst 4, 1) := by decide +kernel
theorem d_Law_law_824 : decode code 824 = .ok (.iadd, 1) := by decide +kernel
theorem d_Law_law_825 : decode code 825 = .ok (.iaload, 1) := by decide +kernel
theorem d_Law_law_826 : decode code 826 = .ok (.invokevirtual 122, 3) := by decide +kernel
theorem d_Law_law_829 : decode code 829 = .ok (.if_icmp .eq 28, 3) := by decide +kernel
theorem d_Law_law_832 : decode code 832 = .ok (.iconst 0, 1) := by decide +kernel
theorem d_Law_law_833 : decode code 833 = .ok (.ireturn, 1) := by decide +kernel
theorem d_Law_law_834 : decode code 834 = .ok (.aload_n 1, 1) := by decide +kernel
theorem d_Law_law_835 : decode code 835 = .ok (.aload_n 0, 1) := by decide +kernel
theorem d_Law_law_836 : decode code 836 = .ok (.iload_n 3, 1) := by decide +kernel
theorem d_Law_law_837 : decode code 837 = .ok (.iconst 1, 1) := by decide +kernel
theorem d_Law_law_838 : decode code 838 = .ok (.iadd, 1) := by decide +kernel
theorem d_Law_law_839 : decode code 839 = .ok (.iaload, 1) := by decide +kernel
theorem d_Law_law_840 : decode code 840 = .ok (.invokevirtual 123, 3) := by decide +kernel
theorem d_Law_law_843 : decode code 843 = .ok (.aload_n 2, 1) := by decide +kernel
theorem d_Law_law_844 : decode code 844 = .ok (.aload_n 0, 1) := by decide +kernel
theorem d_Law_law_845 : decode code 845 = .ok (.iload_n 3, 1) := by decide +kernel
theorem d_Law_law_846 : decode code 846 = .ok (.iconst 1, 1) := by decide +kernel
theorem d_Law_law_847 : decode code 847 = .ok (.iadd, 1) := by decide +kernel
theorem d_Law_law_848 : decode code 848 = .ok (.iaload, 1) := by decide +kernel
theorem d_Law_law_849 : decode code 849 = .ok (.invokevirtual 126, 3) := by decide +kernel
theorem d_Law_law_852 : decode code 852 = .ok (.if_icmp .eq 5, 3) := by decide +kernel
theorem d_Law_law_855 : decode code 855 = .ok (.iconst 0, 1) := by decide +kernel
theorem d_Law_law_856 : decode code 856 = .ok (.ireturn, 1) := by decide +kernel
theorem d_Law_law_857 : decode code 857 = .ok (.iinc 3 6, 3) := by decide +kernel
theorem d_Law_law_860 : decode code 860 = .ok (.goto (-842), 3) := by decide +kernel
theorem d_Law_law_863 : decode code 863 = .ok (.iconst 1, 1) := by decide +kernel
theorem d_Law_law_864 : decode code 864 = .ok (.ireturn, 1) := by decide +kernel
