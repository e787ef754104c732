/-! the order of the items: by key, then by slot; the one sorted order -/
def fy_L (K : Nat → Nat) (i j : Nat) : Prop := K i < K j ∨ (K i = K j ∧ i < j)
theorem fy_L_t {K : Nat → Nat} {a b c : Nat} (h1 : fy_L K a b) (h2 : fy_L K b c) : fy_L K a c := by
  unfold fy_L at *
  omega
theorem fy_L_i {K : Nat → Nat} {a : Nat} : ¬ fy_L K a a := by
  unfold fy_L
  omega
theorem fy_L_le {K : Nat → Nat} {a b : Nat} (h : fy_L K a b) : K a ≤ K b := by
  unfold fy_L at h
  omega
def fy_So (K : Nat → Nat) (n : Nat) (s : Nat → Nat) : Prop := (∀ p, p < n → s p < n) ∧ (∀ p q, p < q → q < n → fy_L K (s p) (s q)) ∧ (∀ j, j < n → ∃ q, q < n ∧ s q = j)
theorem fy_So_0 (K : Nat → Nat) : fy_So K 0 id := ⟨fun p h => absurd h (Nat.not_lt_zero p), fun p q _ h => absurd h (Nat.not_lt_zero q), fun j h => absurd h (Nat.not_lt_zero j)⟩
theorem fy_So_1 (K : Nat → Nat) : fy_So K 1 id := ⟨fun p h => h, fun p q h1 h2 => by omega, fun j h => ⟨j, h, rfl⟩⟩
def fy_in (s : Nat → Nat) (i place : Nat) : Nat → Nat := fun p => if p < place then s p else if p = place then i else s (p - 1)
theorem fy_in_lo {s : Nat → Nat} {i place p : Nat} (h : p < place) : fy_in s i place p = s p := if_pos h
theorem fy_in_at {s : Nat → Nat} {i place : Nat} : fy_in s i place place = i := by
  unfold fy_in
  rw [if_neg (Nat.lt_irrefl _), if_pos rfl]
theorem fy_in_hi {s : Nat → Nat} {i place p : Nat} (h : place < p) : fy_in s i place p = s (p - 1) := by
  unfold fy_in
  rw [if_neg (by omega), if_neg (by omega)]
theorem fy_So_in {K : Nat → Nat} {i place : Nat} {s : Nat → Nat} (h : fy_So K i s) (hp : place ≤ i) (hl : place = 0 ∨ K (s (place - 1)) ≤ K i) (hh : ∀ p, place ≤ p → p < i → K i < K (s p)) : fy_So K (i + 1) (fy_in s i place) := by
  obtain ⟨h1, h2, h3⟩ := h
  have lo : ∀ p, p < place → fy_L K (s p) i := by
    intro p hpp
    have hs := h1 p (by omega)
    have hk : K (s p) ≤ K i := by
      rcases hl with z | z
      · omega
      · rcases Nat.lt_or_ge p (place - 1) with y | y
        · have := fy_L_le (h2 p (place - 1) y (by omega))
          omega
        · rw [show p = place - 1 by omega]
          exact z
    unfold fy_L
    omega
  refine ⟨fun p hpn => ?_, fun p q hpq hq => ?_, fun j hj => ?_⟩
  · rcases Nat.lt_trichotomy p place with z | z | z
    · rw [fy_in_lo z]; have := h1 p (by omega); omega
    · rw [z, fy_in_at]; omega
    · rw [fy_in_hi z]; have := h1 (p - 1) (by omega); omega
  · rcases Nat.lt_trichotomy p place with z | z | z
    · rw [fy_in_lo z]
      rcases Nat.lt_trichotomy q place with y | y | y
      · rw [fy_in_lo y]; exact h2 p q hpq (by omega)
      · rw [y, fy_in_at]; exact lo p z
      · rw [fy_in_hi y]; exact fy_L_t (lo p z) (Or.inl (hh (q - 1) (by omega) (by omega)))
    · rw [z, fy_in_at, fy_in_hi (by omega)]
      exact Or.inl (hh (q - 1) (by omega) (by omega))
    · rw [fy_in_hi z, fy_in_hi (by omega)]
      exact h2 (p - 1) (q - 1) (by omega) (by omega)
  · rcases Nat.lt_or_ge j i with z | z
    · obtain ⟨q, hq, e⟩ := h3 j z
      rcases Nat.lt_or_ge q place with y | y
      · exact ⟨q, by omega, by rw [fy_in_lo y]; exact e⟩
      · exact ⟨q + 1, by omega, by rw [fy_in_hi (by omega), Nat.add_sub_cancel]; exact e⟩
    · exact ⟨place, by omega, by rw [fy_in_at]; omega⟩
theorem fy_sel {K : Nat → Nat} {n pos b : Nat} {s : Nat → Nat} (h : fy_So K n s) (hp : pos < n) (hb : b < n) (hu : ∀ q, q < pos → s q ≠ b)
    (hm : ∀ j, j < n → (∀ q, q < pos → s q ≠ j) → j = b ∨ fy_L K b j) : b = s pos := by
  obtain ⟨h1, h2, h3⟩ := h
  obtain ⟨q, hq, e⟩ := h3 b hb
  have hqp : pos ≤ q := by
    rcases Nat.lt_or_ge q pos with z | z
    · exact absurd e (hu q z)
    · exact z
  rcases Nat.lt_or_ge pos q with z | z
  · have a1 := h2 pos q z hq
    rw [e] at a1
    rcases hm (s pos) (h1 pos hp) (fun r hr er => by have := h2 r pos hr hp; rw [er] at this; exact fy_L_i this) with y | y
    · exact y.symm
    · exact absurd (fy_L_t a1 y) fy_L_i
  · rw [← e, show q = pos by omega]
theorem fy_inj {K : Nat → Nat} {n : Nat} {s : Nat → Nat} (h : fy_So K n s) {p q : Nat} (hp : p < n) (hq : q < n) (e : s p = s q) : p = q := by
  obtain ⟨-, h2, -⟩ := h
  rcases Nat.lt_trichotomy p q with z | z | z
  · have := h2 p q z hq; rw [e] at this; exact absurd this fy_L_i
  · exact z
  · have := h2 q p z hp; rw [e] at this; exact absurd this fy_L_i
theorem fy_orL (k d : Nat) (hd : d < 4) : lN (k * 4) ||| lN d = lN (k * 4 + d) := by
  have h1 : k * 4 ||| d = k * 4 + d := by
    have := Nat.two_pow_add_eq_or_of_lt (i := 2) (b := d) hd k
    rw [Nat.mul_comm] at this
    exact this.symm
  apply wb_inj
  rw [Int64.toBitVec_or, wb_tb, wb_tb, wb_tb, ← h1]
  apply BitVec.eq_of_getLsbD_eq
  intro i hi
  simp [hi]
theorem fy_orL4 (k d : Nat) (hd : d < 16) : lN (k * 16) ||| lN d = lN (k * 16 + d) := by
  have h1 : k * 16 ||| d = k * 16 + d := by
    have := Nat.two_pow_add_eq_or_of_lt (i := 4) (b := d) hd k
    rw [Nat.mul_comm] at this
    exact this.symm
  apply wb_inj
  rw [Int64.toBitVec_or, wb_tb, wb_tb, wb_tb, ← h1]
  apply BitVec.eq_of_getLsbD_eq
  intro i hi
  simp [hi]
theorem fy_shL2 (k : Nat) : lN k <<< ((2 : Int32).toInt64 &&& 63) = lN (k * 4) := wb_shl k (k := 2) (by decide)
theorem fy_shL4 (k : Nat) : lN k <<< ((4 : Int32).toInt64 &&& 63) = lN (k * 16) := wb_shl k (k := 4) (by decide)
/-! one insertion, array by array: a while it runs, a0 before the sort -/
def fy_iv {A : Type} (a a0 : Nat → A) (s : Nat → Nat) (p i : Nat) : Prop := (∀ q, q < p → a q = a0 (s q)) ∧ (∀ q, p < q → q ≤ i → a q = a0 (s (q - 1))) ∧ (∀ q, i < q → a q = a0 q)
theorem fy_iv_0 {A : Type} {a a0 : Nat → A} {s : Nat → Nat} {i : Nat} (h1 : ∀ q, q < i → a q = a0 (s q)) (h2 : ∀ q, i ≤ q → a q = a0 q) : fy_iv a a0 s i i := ⟨h1, fun q h3 h4 => by omega, fun q h => h2 q (by omega)⟩
theorem fy_iv_s {A : Type} {a a0 b : Nat → A} {s : Nat → Nat} {p i : Nat} (h : fy_iv a a0 s (p + 1) i) (hp : p + 1 ≤ i) (hb : b (p + 1) = a p) (hn : ∀ q, q ≠ p + 1 → b q = a q) : fy_iv b a0 s p i := by
  obtain ⟨h1, h2, h3⟩ := h
  refine ⟨fun q hq => ?_, fun q hq hi => ?_, fun q hq => ?_⟩
  · rw [hn q (by omega)]; exact h1 q (by omega)
  · by_cases e : q = p + 1
    · subst e
      rw [hb, Nat.add_sub_cancel]
      exact h1 p (by omega)
    · rw [hn q e]; exact h2 q (by omega) hi
  · rw [hn q (by omega)]; exact h3 q hq
theorem fy_iv_e {A : Type} {a a0 b : Nat → A} {s : Nat → Nat} {p i : Nat} (h : fy_iv a a0 s p i) (hp : p ≤ i) (hb : b p = a0 i) (hn : ∀ q, q ≠ p → b q = a q) : (∀ q, q < i + 1 → b q = a0 (fy_in s i p q)) ∧ (∀ q, i + 1 ≤ q → b q = a0 q) := by
  obtain ⟨h1, h2, h3⟩ := h
  refine ⟨fun q hq => ?_, fun q hq => ?_⟩
  · rcases Nat.lt_trichotomy q p with z | z | z
    · rw [fy_in_lo z, hn q (by omega)]; exact h1 q z
    · rw [z, fy_in_at]; exact hb
    · rw [fy_in_hi z, hn q (by omega)]; exact h2 q z (by omega)
  · rw [hn q (by omega)]; exact h3 q (by omega)
