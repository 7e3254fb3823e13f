/-! the state of a system of objects, as functions of (object, slot); programs that may fail -/
abbrev St : Type := (Nat → Nat → Int32) × (Nat → Nat → Int64) × (Nat → Nat → Nat → Int32) × (Nat → Nat → Nat → Int64) × (Nat → Nat → Nat)
def gI (S : St) (o k : Nat) : Int32 := S.1 o k
def gL (S : St) (o k : Nat) : Int64 := S.2.1 o k
def gA (S : St) (o k : Nat) : Nat → Int32 := S.2.2.1 o k
def gB (S : St) (o k : Nat) : Nat → Int64 := S.2.2.2.1 o k
def gN (S : St) (o k : Nat) : Nat := S.2.2.2.2 o k
def pI (S : St) (o k : Nat) (v : Int32) : St := (fun a b => cond (Nat.beq a o && Nat.beq b k) v (S.1 a b), S.2)
def pL (S : St) (o k : Nat) (v : Int64) : St := (S.1, fun a b => cond (Nat.beq a o && Nat.beq b k) v (S.2.1 a b), S.2.2)
def pA (S : St) (o k j : Nat) (v : Int32) : St := (S.1, S.2.1, fun a b => cond (Nat.beq a o && Nat.beq b k) (upd (S.2.2.1 a b) j v) (S.2.2.1 a b), S.2.2.2)
def pB (S : St) (o k j : Nat) (v : Int64) : St := (S.1, S.2.1, S.2.2.1, fun a b => cond (Nat.beq a o && Nat.beq b k) (vp_updL (S.2.2.2.1 a b) j v) (S.2.2.2.1 a b), S.2.2.2.2)
/-- an array of zeroes of a new length in place of the one that was there -/
def pZ (S : St) (o k n : Nat) : St := (S.1, S.2.1, fun a b => cond (Nat.beq a o && Nat.beq b k) (fun _ => 0) (S.2.2.1 a b), S.2.2.2.1, fun a b => cond (Nat.beq a o && Nat.beq b k) n (S.2.2.2.2 a b))
def inb (i : Int32) (n : Nat) : Bool := decide (¬ (i < 0 ∨ n ≤ i.toNatClampNeg))
theorem inb_in {i : Int32} {n : Nat} (h : inb i n = true) : vp_in i n := (of_decide_eq_true h : ¬ (i < 0 ∨ n ≤ i.toNatClampNeg))
def isB (v : Int32) : Bool := decide (v = 0 ∨ v = 1)
theorem isB_narrow {v : Int32} (h : isB v = true) : narrow .boolean (.int v) = .int v := by
  rcases (of_decide_eq_true h : v = 0 ∨ v = 1) with rfl | rfl <;> rfl
theorem isB_fits {v : Int32} (h : isB v = true) : fits .boolean (.int v) = true := by
  rcases (of_decide_eq_true h : v = 0 ∨ v = 1) with rfl | rfl <;> rfl
def gd {α : Type} (b : Bool) (x : Option α) : Option α := cond b x none
theorem gd_ex {α : Type} {b : Bool} {x : Option α} {o : α} (h : gd b x = some o) : b = true ∧ x = some o := by
  cases b with
  | true => exact ⟨rfl, h⟩
  | false => cases h
def nm {α β : Type} (e : α) (f : α → β) : β := f e
theorem nm_ex {α β : Type} {e : α} {f : α → β} {o : β} (h : nm e f = o) : ∃ x, x = e ∧ f x = o := ⟨e, rfl, h⟩
def bd {α β : Type} (x : Option α) (f : α → Option β) : Option β := match x with
  | none => none
  | some a => f a
theorem bd_ex {α β : Type} {x : Option α} {f : α → Option β} {o : β} (h : bd x f = some o) : ∃ a, x = some a ∧ f a = some o := by
  cases x with
  | none => cases h
  | some a => exact ⟨a, rfl, h⟩
theorem ip {α : Type} {c : Prop} [Decidable c] {x y : Option α} {o : α} (hc : c) (h : (if c then x else y) = some o) : x = some o := by rwa [if_pos hc] at h
theorem iq {α : Type} {c : Prop} [Decidable c] {x y : Option α} {o : α} (hc : ¬ c) (h : (if c then x else y) = some o) : y = some o := by rwa [if_neg hc] at h
/-! loops: the least answer that some number of turns gives -/
def itr {σ ρ : Type} (f : σ → Option (σ ⊕ ρ)) : Nat → σ → Option ρ
  | 0, _ => none
  | n + 1, s => match f s with
    | none => none
    | some (.inl t) => itr f n t
    | some (.inr r) => some r
theorem itr_more {σ ρ : Type} (f : σ → Option (σ ⊕ ρ)) : ∀ (n : Nat) (s : σ) (r : ρ), itr f n s = some r → itr f (n + 1) s = some r := by
  intro n
  induction n with
  | zero => intro s r h; cases h
  | succ n ih =>
    intro s r h
    unfold itr at h ⊢
    cases hf : f s with
    | none => rw [hf] at h; cases h
    | some o =>
      rw [hf] at h
      cases o with
      | inl t => exact ih t r h
      | inr q => exact h
theorem itr_le {σ ρ : Type} (f : σ → Option (σ ⊕ ρ)) {n m : Nat} (hnm : n ≤ m) {s : σ} {r : ρ} (h : itr f n s = some r) : itr f m s = some r := by
  induction hnm with
  | refl => exact h
  | step _ ih => exact itr_more f _ s r ih
theorem itr_one {σ ρ : Type} (f : σ → Option (σ ⊕ ρ)) {n m : Nat} {s : σ} {r q : ρ} (h : itr f n s = some r) (h2 : itr f m s = some q) : r = q := by
  have a := itr_le f (Nat.le_max_left n m) h
  have b := itr_le f (Nat.le_max_right n m) h2
  rw [a] at b
  exact Option.some.inj b
noncomputable def wh {σ ρ : Type} (f : σ → Option (σ ⊕ ρ)) (s : σ) : Option ρ :=
  @dite (Option ρ) (∃ r, ∃ n, itr f n s = some r) (Classical.propDecidable _) (fun h => some h.choose) (fun _ => none)
theorem wh_itr {σ ρ : Type} {f : σ → Option (σ ⊕ ρ)} {s : σ} {r : ρ} : wh f s = some r ↔ ∃ n, itr f n s = some r := by
  unfold wh
  constructor
  · intro h
    by_cases hx : ∃ r, ∃ n, itr f n s = some r
    · rw [dif_pos hx] at h
      have := hx.choose_spec
      rw [Option.some.inj h] at this
      exact this
    · rw [dif_neg hx] at h
      cases h
  · intro h
    have hx : ∃ r, ∃ n, itr f n s = some r := ⟨r, h⟩
    rw [dif_pos hx]
    obtain ⟨n, hn⟩ := h
    obtain ⟨m, hm⟩ := hx.choose_spec
    rw [itr_one f hm hn]
theorem wh_inl {σ ρ : Type} {f : σ → Option (σ ⊕ ρ)} {s t : σ} (h : f s = some (.inl t)) : wh f s = wh f t := by
  cases hw : wh f t with
  | some r =>
    obtain ⟨n, hn⟩ := wh_itr.mp hw
    refine wh_itr.mpr ⟨n + 1, ?_⟩
    unfold itr
    rw [h]
    exact hn
  | none =>
    cases hs : wh f s with
    | none => rfl
    | some r =>
      obtain ⟨n, hn⟩ := wh_itr.mp hs
      cases n with
      | zero => cases hn
      | succ n =>
        unfold itr at hn
        rw [h] at hn
        have := wh_itr.mpr ⟨n, hn⟩
        rw [this] at hw
        cases hw
theorem wh_inr {σ ρ : Type} {f : σ → Option (σ ⊕ ρ)} {s : σ} {r : ρ} (h : f s = some (.inr r)) : wh f s = some r := by
  refine wh_itr.mpr ⟨1, ?_⟩
  unfold itr
  rw [h]
/-- the machine's side of a loop -/
theorem wh_go {σ ρ : Type} {f : σ → Option (σ ⊕ ρ)} {s : σ} {r : ρ} {P : σ → Prop} (h : wh f s = some r)
    (hs : ∀ (s : σ) (o : σ ⊕ ρ), f s = some o → (∀ t, o = .inl t → P t) → (∀ q, o = .inr q → q = r) → P s) : P s := by
  obtain ⟨n, hn⟩ := wh_itr.mp h
  clear h
  induction n generalizing s with
  | zero => cases hn
  | succ n ih =>
    unfold itr at hn
    cases hf : f s with
    | none => rw [hf] at hn; cases hn
    | some o =>
      rw [hf] at hn
      refine hs s o hf (fun t ht => ?_) (fun q hq => ?_)
      · subst ht
        exact ih hn
      · subst hq
        exact Option.some.inj hn
/-- a loop by an invariant and a measure -/
theorem wh_by {σ ρ : Type} {f : σ → Option (σ ⊕ ρ)} (I : σ → Prop) (μ : σ → Nat) (post : ρ → Prop)
    (hs : ∀ s, I s → ∃ o, f s = some o ∧ (∀ t, o = .inl t → I t ∧ μ t < μ s) ∧ (∀ q, o = .inr q → post q)) : ∀ s, I s → ∃ r, wh f s = some r ∧ post r := by
  have key : ∀ (n : Nat) (s : σ), μ s < n → I s → ∃ r, wh f s = some r ∧ post r := by
    intro n
    induction n with
    | zero => intro s h; exact absurd h (Nat.not_lt_zero _)
    | succ n ih =>
      intro s hn hI
      obtain ⟨o, hf, h1, h2⟩ := hs s hI
      cases o with
      | inl t =>
        obtain ⟨hIt, hm⟩ := h1 t rfl
        rw [wh_inl hf]
        exact ih t (by omega) hIt
      | inr q => exact ⟨q, wh_inr hf, h2 q rfl⟩
  exact fun s hI => key (μ s + 1) s (Nat.lt_succ_self _) hI
