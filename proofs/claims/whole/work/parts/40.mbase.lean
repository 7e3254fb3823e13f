/-! pure rows: programs, stores, loops by an index -/
theorem mb_nm {α β : Type} (e : α) (f : α → β) : nm e f = f e := rfl
theorem mb_bd {α β : Type} (a : α) (f : α → Option β) : bd (some a) f = f a := rfl
theorem mb_bd2 {α β γ : Type} (a : α) (b : β) (f : α → β → Option γ) : bd2 (some (a, b)) f = f a b := rfl
theorem mb_bd3 {α β γ δ : Type} (a : α) (b : β) (c : γ) (f : α → β → γ → Option δ) : bd3 (some (a, b, c)) f = f a b c := rfl
theorem mb_gd {α : Type} (x : Option α) : gd true x = x := rfl
theorem mb_gdt {α : Type} {b : Bool} (h : b = true) (x : Option α) : gd b x = x := by rw [h]; rfl
theorem mb_II (S : St) (o k : Nat) (v : Int32) (a b : Nat) : gI (pI S o k v) a b = if a = o ∧ b = k then v else gI S a b := by
  show cond (Nat.beq a o && Nat.beq b k) v (S.1 a b) = _
  by_cases h : a = o ∧ b = k
  · rw [if_pos h, h.1, h.2]
    simp
  · rw [if_neg h]
    have : (Nat.beq a o && Nat.beq b k) = false := by
      cases hb : (Nat.beq a o && Nat.beq b k) with
      | false => rfl
      | true =>
        rw [Bool.and_eq_true] at hb
        exact absurd ⟨Nat.eq_of_beq_eq_true hb.1, Nat.eq_of_beq_eq_true hb.2⟩ h
    rw [this]
    rfl
theorem mb_LI (S : St) (o k : Nat) (v : Int32) : gL (pI S o k v) = gL S := rfl
theorem mb_AI (S : St) (o k : Nat) (v : Int32) : gA (pI S o k v) = gA S := rfl
theorem mb_BI (S : St) (o k : Nat) (v : Int32) : gB (pI S o k v) = gB S := rfl
theorem mb_NI (S : St) (o k : Nat) (v : Int32) : gN (pI S o k v) = gN S := rfl
theorem mb_IL (S : St) (o k : Nat) (v : Int64) : gI (pL S o k v) = gI S := rfl
theorem mb_LL (S : St) (o k : Nat) (v : Int64) (a b : Nat) : gL (pL S o k v) a b = if a = o ∧ b = k then v else gL S a b := by
  show cond (Nat.beq a o && Nat.beq b k) v (S.2.1 a b) = _
  by_cases h : a = o ∧ b = k
  · rw [if_pos h, h.1, h.2]
    simp
  · rw [if_neg h]
    have : (Nat.beq a o && Nat.beq b k) = false := by
      cases hb : (Nat.beq a o && Nat.beq b k) with
      | false => rfl
      | true =>
        rw [Bool.and_eq_true] at hb
        exact absurd ⟨Nat.eq_of_beq_eq_true hb.1, Nat.eq_of_beq_eq_true hb.2⟩ h
    rw [this]
    rfl
theorem mb_AL (S : St) (o k : Nat) (v : Int64) : gA (pL S o k v) = gA S := rfl
theorem mb_BL (S : St) (o k : Nat) (v : Int64) : gB (pL S o k v) = gB S := rfl
theorem mb_NL (S : St) (o k : Nat) (v : Int64) : gN (pL S o k v) = gN S := rfl
theorem mb_IA (S : St) (o k j : Nat) (v : Int32) : gI (pA S o k j v) = gI S := rfl
theorem mb_LA (S : St) (o k j : Nat) (v : Int32) : gL (pA S o k j v) = gL S := rfl
theorem mb_AA (S : St) (o k j : Nat) (v : Int32) (a b c : Nat) : gA (pA S o k j v) a b c = if a = o ∧ b = k ∧ c = j then v else gA S a b c := by
  show (cond (Nat.beq a o && Nat.beq b k) (upd (S.2.2.1 a b) j v) (S.2.2.1 a b)) c = _
  by_cases h : a = o ∧ b = k
  · have hb : (Nat.beq a o && Nat.beq b k) = true := by rw [h.1, h.2]; simp
    rw [hb]
    show upd (S.2.2.1 a b) j v c = _
    by_cases hc : c = j
    · rw [if_pos ⟨h.1, h.2, hc⟩, hc]
      exact pk_us
    · rw [if_neg (fun q => hc q.2.2)]
      exact pk_un hc
  · rw [if_neg (fun q => h ⟨q.1, q.2.1⟩)]
    have : (Nat.beq a o && Nat.beq b k) = false := by
      cases hb : (Nat.beq a o && Nat.beq b k) with
      | false => rfl
      | true =>
        rw [Bool.and_eq_true] at hb
        exact absurd ⟨Nat.eq_of_beq_eq_true hb.1, Nat.eq_of_beq_eq_true hb.2⟩ h
    rw [this]
    rfl
theorem mb_BA (S : St) (o k j : Nat) (v : Int32) : gB (pA S o k j v) = gB S := rfl
theorem mb_NA (S : St) (o k j : Nat) (v : Int32) : gN (pA S o k j v) = gN S := rfl
theorem mb_IB (S : St) (o k j : Nat) (v : Int64) : gI (pB S o k j v) = gI S := rfl
theorem mb_LB (S : St) (o k j : Nat) (v : Int64) : gL (pB S o k j v) = gL S := rfl
theorem mb_AB (S : St) (o k j : Nat) (v : Int64) : gA (pB S o k j v) = gA S := rfl
theorem mb_BB (S : St) (o k j : Nat) (v : Int64) (a b c : Nat) : gB (pB S o k j v) a b c = if a = o ∧ b = k ∧ c = j then v else gB S a b c := by
  show (cond (Nat.beq a o && Nat.beq b k) (vp_updL (S.2.2.2.1 a b) j v) (S.2.2.2.1 a b)) c = _
  by_cases h : a = o ∧ b = k
  · have hb : (Nat.beq a o && Nat.beq b k) = true := by rw [h.1, h.2]; simp
    rw [hb]
    show vp_updL (S.2.2.2.1 a b) j v c = _
    by_cases hc : c = j
    · rw [if_pos ⟨h.1, h.2, hc⟩, hc]
      exact pk_uLs
    · rw [if_neg (fun q => hc q.2.2)]
      exact pk_uLn hc
  · rw [if_neg (fun q => h ⟨q.1, q.2.1⟩)]
    have : (Nat.beq a o && Nat.beq b k) = false := by
      cases hb : (Nat.beq a o && Nat.beq b k) with
      | false => rfl
      | true =>
        rw [Bool.and_eq_true] at hb
        exact absurd ⟨Nat.eq_of_beq_eq_true hb.1, Nat.eq_of_beq_eq_true hb.2⟩ h
    rw [this]
    rfl
theorem mb_NB (S : St) (o k j : Nat) (v : Int64) : gN (pB S o k j v) = gN S := rfl
theorem mb_IZ (S : St) (o k n : Nat) : gI (pZ S o k n) = gI S := rfl
theorem mb_LZ (S : St) (o k n : Nat) : gL (pZ S o k n) = gL S := rfl
theorem mb_BZ (S : St) (o k n : Nat) : gB (pZ S o k n) = gB S := rfl
theorem mb_NZ (S : St) (o k n a b : Nat) : gN (pZ S o k n) a b = if a = o ∧ b = k then n else gN S a b := by
  show cond (Nat.beq a o && Nat.beq b k) n (S.2.2.2.2 a b) = _
  by_cases h : a = o ∧ b = k
  · rw [if_pos h, h.1, h.2]
    simp
  · rw [if_neg h]
    have : (Nat.beq a o && Nat.beq b k) = false := by
      cases hb : (Nat.beq a o && Nat.beq b k) with
      | false => rfl
      | true =>
        rw [Bool.and_eq_true] at hb
        exact absurd ⟨Nat.eq_of_beq_eq_true hb.1, Nat.eq_of_beq_eq_true hb.2⟩ h
    rw [this]
    rfl
theorem mb_AZ (S : St) (o k n a b c : Nat) : gA (pZ S o k n) a b c = if a = o ∧ b = k then 0 else gA S a b c := by
  show (cond (Nat.beq a o && Nat.beq b k) (fun _ => 0) (S.2.2.1 a b)) c = _
  by_cases h : a = o ∧ b = k
  · rw [if_pos h, h.1, h.2]
    simp
  · rw [if_neg h]
    have : (Nat.beq a o && Nat.beq b k) = false := by
      cases hb : (Nat.beq a o && Nat.beq b k) with
      | false => rfl
      | true =>
        rw [Bool.and_eq_true] at hb
        exact absurd ⟨Nat.eq_of_beq_eq_true hb.1, Nat.eq_of_beq_eq_true hb.2⟩ h
    rw [this]
    rfl
/-! numbers -/
theorem mb_in {k n : Nat} (h : k < n) (hn : n ≤ 2147483648) : inb (nI k) n = true := by
  refine decide_eq_true ?_
  have h1 : vp_in (nI k) n := by
    rcases Nat.lt_or_ge n 2147483648 with q | q
    · exact vp_in_nI h q
    · have hk : k < 2 ^ 31 := by omega
      intro z
      rcases z with z | z
      · exact nI_pos hk z
      · rw [nI_clamp hk] at z
        omega
  exact h1
theorem mb_le {a b : Nat} (ha : a < 2147483648) (hb : b < 2147483648) : (nI a ≤ nI b) = (a ≤ b) := propext (nI_leI ha hb)
theorem mb_lt {a b : Nat} (ha : a < 2147483648) (hb : b < 2147483648) : (nI a < nI b) = (a < b) := propext (nI_ltI ha hb)
theorem mb_eq {a b : Nat} (ha : a < 2147483648) (hb : b < 2147483648) : (nI a = nI b) = (a = b) := propext (nI_eq ha hb)
theorem mb_cl {a : Nat} (ha : a < 2147483648) : (nI a).toNatClampNeg = a := nI_clamp ha
theorem mb_lit (n : Nat) : (OfNat.ofNat n : Int32) = nI n := rfl
theorem mb_m1 (n : Nat) : nI (n + 1) + (-1) = nI n := pk_m1 n
/-! loops by an index -/
theorem wh_ix {σ ρ : Type} {f : σ → Option (σ ⊕ ρ)} (n : Nat) (I : Nat → σ → Prop) (post : ρ → Prop) {s : σ} (h0 : I 0 s)
    (hs : ∀ i s, i < n → I i s → (∃ t, f s = some (.inl t) ∧ I (i + 1) t) ∨ (∃ r, f s = some (.inr r) ∧ post r))
    (he : ∀ s, I n s → ∃ r, f s = some (.inr r) ∧ post r) : ∃ r, wh f s = some r ∧ post r := by
  have key : ∀ (d i : Nat) (s : σ), i + d = n → I i s → ∃ r, wh f s = some r ∧ post r := by
    intro d
    induction d with
    | zero =>
      intro i s hi h
      have : i = n := by omega
      subst this
      obtain ⟨r, h1, h2⟩ := he s h
      exact ⟨r, wh_inr h1, h2⟩
    | succ d ih =>
      intro i s hi h
      rcases hs i s (by omega) h with ⟨t, h1, h2⟩ | ⟨r, h1, h2⟩
      · obtain ⟨r, h3, h4⟩ := ih (i + 1) t (by omega) h2
        exact ⟨r, by rw [wh_inl h1]; exact h3, h4⟩
      · exact ⟨r, wh_inr h1, h2⟩
  exact key n 0 s (by omega) h0
theorem wh_for {σ ρ : Type} {f : σ → Option (σ ⊕ ρ)} (n : Nat) (st : Nat → σ) (r : ρ) (hs : ∀ i, i < n → f (st i) = some (.inl (st (i + 1)))) (he : f (st n) = some (.inr r)) : wh f (st 0) = some r := by
  obtain ⟨q, h1, h2⟩ := wh_ix (f := f) n (fun i s => s = st i) (fun q => q = r) (s := st 0) rfl (fun i s hi h => Or.inl ⟨st (i + 1), by rw [h]; exact hs i hi, rfl⟩) (fun s h => ⟨r, by rw [h]; exact he, rfl⟩)
  rw [h1, h2]
