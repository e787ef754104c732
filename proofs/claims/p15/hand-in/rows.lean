section
/-! rows of kit/laws, pasted by name (wip/p15/gen.py) -/
def bt (x : Int32) (i : Nat) : Bool := x.toBitVec.getLsbD i
theorem b_ext {x y : Int32} (h : ∀ i, i < 32 → bt x i = bt y i) : x = y := Int32.toBitVec_inj.mp (BitVec.eq_of_getLsbD_eq (fun i hi => h i hi))
theorem b_or (x y : Int32) (i : Nat) : bt (x ||| y) i = (bt x i || bt y i) := by unfold bt; rw [Int32.toBitVec_or, BitVec.getLsbD_or]
theorem b_and (x y : Int32) (i : Nat) : bt (x &&& y) i = (bt x i && bt y i) := by unfold bt; rw [Int32.toBitVec_and, BitVec.getLsbD_and]
theorem b_xor (x y : Int32) (i : Nat) : bt (x ^^^ y) i = (bt x i ^^ bt y i) := by unfold bt; rw [Int32.toBitVec_xor, BitVec.getLsbD_xor]
theorem b_big {x : Int32} {i : Nat} (h : 32 ≤ i) : bt x i = false := BitVec.getLsbD_of_ge _ _ h
theorem b_m1 : ∀ i, i < 32 → bt (-1) i = true := by decide +kernel
theorem b_0 (i : Nat) : bt 0 i = false := BitVec.getLsbD_zero
theorem s_l : ∀ n, n < 32 → ((nI n &&& 31).toBitVec.smod 32).toNat = n := by decide +kernel
theorem b_shl (n : Nat) (hn : n < 32) (x : Int32) {i : Nat} (hi : i < 32) : bt (x <<< (nI n &&& 31)) i = (decide (n ≤ i) && bt x (i - n)) := by
  unfold bt
  rw [Int32.toBitVec_shiftLeft]
  show (x.toBitVec <<< ((nI n &&& 31).toBitVec.smod 32).toNat).getLsbD i = _
  rw [s_l n hn, BitVec.getLsbD_shiftLeft]
  rcases Nat.lt_or_ge i n with h | h
  · simp [h, Nat.not_le.mpr h]
  · simp [hi, h, Nat.not_lt.mpr h]
theorem b_sshr (n : Nat) (hn : n < 32) (x : Int32) {i : Nat} (hi : i < 32) : bt (x >>> (nI n &&& 31)) i = if n + i < 32 then bt x (n + i) else bt x 31 := by
  unfold bt
  rw [Int32.toBitVec_shiftRight]
  show (x.toBitVec.sshiftRight ((nI n &&& 31).toBitVec.smod 32).toNat).getLsbD i = _
  rw [s_l n hn, BitVec.getLsbD_sshiftRight, BitVec.msb_eq_getLsbD_last]
  simp [hi]
theorem wb_tb (n : Nat) : (lN n).toBitVec = BitVec.ofNat 64 n := rfl
theorem wb_inj {a b : Int64} (h : a.toBitVec = b.toBitVec) : a = b := Int64.toBitVec_inj.mp h
theorem wb_c : ∀ k, k < 64 → ((nI k).toInt64 &&& 63) = lN k := by decide +kernel
theorem wb_sm : ∀ k, k < 64 → (BitVec.ofNat 64 k).smod 64 = BitVec.ofNat 64 k := by decide +kernel
theorem wb_shl (n : Nat) {k : Nat} (hk : k < 64) : lN n <<< ((nI k).toInt64 &&& 63) = lN (n * 2 ^ k) := by
  rw [wb_c k hk]
  apply wb_inj
  rw [Int64.toBitVec_shiftLeft, wb_tb, wb_tb, wb_tb, wb_sm k hk]
  apply BitVec.eq_of_toNat_eq
  rw [BitVec.shiftLeft_eq', BitVec.toNat_shiftLeft, BitVec.toNat_ofNat, BitVec.toNat_ofNat, BitVec.toNat_ofNat, Nat.mod_eq_of_lt (show k < 2 ^ 64 by omega), Nat.shiftLeft_eq, Nat.mul_mod, Nat.mod_mod, ← Nat.mul_mod]
theorem ts_nf {x : Bool} (h : ¬ x = false) : x = true := by cases x <;> first | rfl | exact absurd rfl h
theorem ts_nt {x : Bool} (h : ¬ x = true) : x = false := by cases x <;> first | rfl | exact absurd rfl h
end
section
/-! bits of an int as a set; two bits for each fixture as a row of digits -/
theorem fy_b1 : ∀ i, i < 32 → bt 1 i = decide (i = 0) := by decide +kernel
theorem fy_has (x : Int32) {f : Nat} (hf : f < 32) : ((x >>> (nI f &&& 31)) &&& 1) = 0 ↔ bt x f = false := by
  have e : ∀ i, i < 32 → bt ((x >>> (nI f &&& 31)) &&& 1) i = (decide (i = 0) && bt x f) := by
    intro i hi
    rw [b_and, fy_b1 i hi, b_sshr f hf x hi]
    cases i with
    | zero => simp [hf]
    | succ i => simp
  constructor
  · intro h
    have h0 := e 0 (by decide)
    rw [h, b_0] at h0
    simpa using h0.symm
  · intro h
    apply b_ext
    intro i hi
    rw [e i hi, h, b_0, Bool.and_false]
theorem fy_set (x : Int32) {d i : Nat} (hd : d < 32) (hi : i < 32) : bt (x ||| ((1 : Int32) <<< (nI d &&& 31))) i = (bt x i || decide (i = d)) := by
  rw [b_or, b_shl d hd 1 hi]
  congr 1
  by_cases h : d ≤ i
  · rw [fy_b1 _ (by omega), decide_eq_true h, Bool.true_and]
    exact decide_eq_decide.mpr ⟨fun h => by omega, fun h => by omega⟩
  · rw [decide_eq_false h, Bool.false_and]
    exact (decide_eq_false (by omega)).symm
theorem fy_clr (x : Int32) {g i : Nat} (hg : g < 32) (hi : i < 32) : bt (x &&& (((1 : Int32) <<< (nI g &&& 31)) ^^^ (-1))) i = (bt x i && !decide (i = g)) := by
  have h := fy_set 0 hg hi
  rw [b_or, b_0, Bool.false_or, Bool.false_or] at h
  rw [b_and, b_xor, b_m1 i hi, h, Bool.xor_true]
theorem fy_z {x : Int32} : x = 0 ↔ ∀ i, i < 32 → bt x i = false :=
  ⟨fun h i _ => by rw [h, b_0], fun h => b_ext (fun i hi => by rw [h i hi, b_0])⟩
theorem fy_nz {x : Int32} (h : ¬ x = 0) : ∃ i, i < 32 ∧ bt x i = true := by
  apply Classical.byContradiction
  intro hn
  apply h
  rw [fy_z]
  intro i hi
  cases hb : bt x i
  · rfl
  · exact absurd ⟨i, hi, hb⟩ hn
theorem fy_and0 {x y : Int32} : (x &&& y) = 0 ↔ ∀ i, i < 32 → ¬ (bt x i = true ∧ bt y i = true) := by
  rw [fy_z]
  constructor
  · intro h i hi hab
    have := h i hi
    rw [b_and, hab.1, hab.2] at this
    exact absurd this (by decide)
  · intro h i hi
    rw [b_and]
    cases ha : bt x i <;> cases hb : bt y i <;> first | rfl | exact absurd ⟨ha, hb⟩ (h i hi)
def fy_en (P : Nat → Nat) : Nat → Nat
  | 0 => 0
  | n + 1 => fy_en P n + P n * 4 ^ n
theorem fy_en_lt {P : Nat → Nat} {n : Nat} : (∀ f, f < n → P f < 4) → fy_en P n < 4 ^ n := by
  induction n with
  | zero => exact fun _ => Nat.zero_lt_one
  | succ n ih =>
    intro h
    have a := ih (fun f hf => h f (by omega))
    have b := h n (by omega)
    have c : P n * 4 ^ n ≤ 3 * 4 ^ n := Nat.mul_le_mul_right _ (by omega)
    rw [fy_en, Nat.pow_succ]
    omega
theorem fy_en_dg {P : Nat → Nat} {n f : Nat} : (∀ f, f < n → P f < 4) → f < n → fy_en P n / 4 ^ f % 4 = P f := by
  induction n with
  | zero => exact fun _ hf => absurd hf (Nat.not_lt_zero f)
  | succ n ih =>
    intro h hf
    have hb : ∀ g, g < n → P g < 4 := fun g hg => h g (by omega)
    have a := fy_en_lt hb
    rw [fy_en]
    rcases Nat.lt_or_ge f n with z | z
    · have ih2 := ih hb z
      have e : P n * 4 ^ n = 4 ^ f * (P n * 4 ^ (n - f - 1) * 4) := by
        have e1 : 4 ^ n = 4 ^ f * 4 * 4 ^ (n - f - 1) := by
          rw [← Nat.pow_succ, ← Nat.pow_add]
          exact congrArg (fun z => 4 ^ z) (by omega)
        rw [e1]
        ac_rfl
      rw [e, Nat.add_mul_div_left _ _ (Nat.pow_pos (by decide)), Nat.add_mul_mod_self_right]
      exact ih2
    · have e : f = n := by omega
      subst e
      rw [Nat.add_mul_div_right _ _ (Nat.pow_pos (by decide)), Nat.div_eq_of_lt a, Nat.zero_add, Nat.mod_eq_of_lt (h _ (by omega))]
theorem fy_en_ext {P : Nat → Nat} {m : Nat} (h : ∀ f, m ≤ f → P f = 0) : ∀ {n : Nat}, m ≤ n → fy_en P n = fy_en P m := by
  intro n
  induction n with
  | zero => intro hm; rw [show m = 0 by omega]
  | succ n ih =>
    intro hm
    rcases Nat.lt_or_ge n m with z | z
    · rw [show m = n + 1 by omega]
    · rw [fy_en, h n z, ih z, Nat.zero_mul, Nat.add_zero]
theorem fy_en_cg {P Q : Nat → Nat} : ∀ {n : Nat}, (∀ f, f < n → P f = Q f) → fy_en P n = fy_en Q n
  | 0, _ => rfl
  | n + 1, h => by rw [fy_en, fy_en, fy_en_cg (fun f hf => h f (by omega)), h n (by omega)]
theorem fy_p4 (f : Nat) : 2 ^ (f * 2) = 4 ^ f := by
  rw [Nat.mul_comm, Nat.pow_mul]
theorem fy_p12 {f : Nat} (h : f < 12) : 4 ^ f * 4 ≤ 16777216 := by
  have := Nat.pow_le_pow_right (n := 4) (by decide) (show f + 1 ≤ 12 by omega)
  rw [Nat.pow_succ] at this
  exact this
/-- what paramIn answers, of the digits e -/
theorem fy_pin {e f : Nat} (he : e < 2 ^ 31) (hf : f < 12) : ((nI e >>> ((nI f * 2) &&& 31)) &&& 3) - 1 = nI (e / 4 ^ f % 4) - 1 := by
  have h1 : nI f * 2 = nI (f * 2) := pk_mul f 2
  have h2 : e / 4 ^ f ≤ e := Nat.div_le_self _ _
  have h3 : nI (e / 4 ^ f) &&& 3 = nI (e / 4 ^ f % 4) := pk_andN (by omega) 2 (by decide)
  rw [h1, pk_shrN he _ (f * 2) (s_l _ (by omega)), fy_p4, h3]
theorem fy_or (a b : Nat) : nI a ||| nI b = nI (a ||| b) := by
  apply Int32.toBitVec_inj.1
  show BitVec.ofNat 32 a ||| BitVec.ofNat 32 b = BitVec.ofNat 32 (a ||| b)
  apply BitVec.eq_of_getLsbD_eq
  intro i hi
  simp [hi]
/-- one digit more -/
theorem fy_put {e d f : Nat} (he : e < 4 ^ f) (hd : d < 4) (hf : f < 12) : nI e ||| (nI d <<< ((nI f * 2) &&& 31)) = nI (e + d * 4 ^ f) := by
  have h1 : nI f * 2 = nI (f * 2) := pk_mul f 2
  have h3 := fy_p12 hf
  have h4 : d * 4 ^ f ≤ 3 * 4 ^ f := Nat.mul_le_mul_right _ (by omega)
  rw [h1, pk_shlN _ (f * 2) (s_l _ (by omega)) (by rw [fy_p4]; omega), fy_or, Nat.or_comm]
  have h5 := Nat.two_pow_add_eq_or_of_lt (i := f * 2) (b := e) (by rw [fy_p4]; exact he) d
  rw [Nat.mul_comm] at h5
  rw [← h5, fy_p4, Nat.add_comm]
theorem fy_m0 : nI 0 - 1 = -1 := by decide
theorem fy_ms (d : Nat) : nI (d + 1) - 1 = nI d := nI_pred d
/-- a parameter by its digit: -1 for 0 -/
theorem fy_ge {A B : Prop} (d : Nat) (hd : d < 4) (f : d = 0 → A) (g : ∀ p, d = p + 1 → p < 3 → B) : (nI d - 1 < 0 → A) ∧ (¬ nI d - 1 < 0 → B) := by
  cases d with
  | zero => exact ⟨fun _ => f rfl, fun h => absurd (show nI 0 - 1 < 0 by decide) h⟩
  | succ p => rw [fy_ms]; exact ⟨fun h => absurd h (nI_pos (by omega)), fun _ => g p rfl (by omega)⟩
theorem fy_neg1 {p : Nat} (h : p < 3) : ¬ nI p = -1 := by
  intro e
  have h2 := nI_pos (n := p) (by omega)
  rw [e] at h2
  exact h2 (by decide)
end
section
/-! closure, counts, assignments, slots, keys: pure pictures -/
/-- the downward pass over the fixtures below m -/
def fy_go (d : Nat → Int32) : Nat → Int32 → Int32
  | 0, c => c
  | m + 1, c => fy_go d m (if bt c m = true then c ||| d m else c)
theorem fy_go_p (d : Nat → Int32) : ∀ (m : Nat) (c : Int32), (∀ f, f < m → ∀ g, bt (d f) g = true → g < f) →
    (∀ g, m ≤ g + 1 → bt (fy_go d m c) g = bt c g) ∧
    (∀ g, bt (fy_go d m c) g = true ↔ bt c g = true ∨ ∃ f, f < m ∧ bt (fy_go d m c) f = true ∧ bt (d f) g = true) := by
  intro m
  induction m with
  | zero =>
    intro c _
    refine ⟨fun _ _ => rfl, fun g => ⟨Or.inl, fun h => ?_⟩⟩
    rcases h with h | ⟨f, hf, _⟩
    · exact h
    · exact absurd hf (Nat.not_lt_zero f)
  | succ m ih =>
    intro c hd
    have hm : ∀ g, bt (d m) g = true → g < m := hd m (by omega)
    obtain ⟨i1, i2⟩ := ih (if bt c m = true then c ||| d m else c) (fun f hf => hd f (by omega))
    have hc : ∀ g, bt (if bt c m = true then c ||| d m else c) g = true ↔ bt c g = true ∨ (bt c m = true ∧ bt (d m) g = true) := by
      intro g
      by_cases h : bt c m = true
      · rw [if_pos h, b_or, Bool.or_eq_true]
        exact ⟨fun x => x.elim Or.inl (fun y => Or.inr ⟨h, y⟩), fun x => x.elim Or.inl (fun y => Or.inr y.2)⟩
      · rw [if_neg h]
        exact ⟨Or.inl, fun x => x.elim id (fun y => absurd y.1 h)⟩
    have hc2 : ∀ g, m ≤ g → bt (if bt c m = true then c ||| d m else c) g = bt c g := by
      intro g hg
      have h1 := hc g
      have h2 : ¬ bt (d m) g = true := fun x => by have := hm g x; omega
      rw [Bool.eq_iff_iff, h1]
      exact ⟨fun x => x.elim id (fun y => absurd y.2 h2), Or.inl⟩
    have hmm : bt (fy_go d m (if bt c m = true then c ||| d m else c)) m = bt c m := by
      rw [i1 m (by omega), hc2 m (by omega)]
    refine ⟨fun g hg => ?_, fun g => ?_⟩
    · show bt (fy_go d m (if bt c m = true then c ||| d m else c)) g = bt c g
      rw [i1 g (by omega), hc2 g (by omega)]
    · show bt (fy_go d m (if bt c m = true then c ||| d m else c)) g = true ↔ bt c g = true ∨ ∃ f, f < m + 1 ∧ bt (fy_go d m (if bt c m = true then c ||| d m else c)) f = true ∧ bt (d f) g = true
      rw [i2 g, hc g]
      constructor
      · intro h
        rcases h with (h | h) | ⟨f, h1, h2⟩
        · exact Or.inl h
        · exact Or.inr ⟨m, by omega, by rw [hmm]; exact h.1, h.2⟩
        · exact Or.inr ⟨f, by omega, h2⟩
      · intro h
        rcases h with h | ⟨f, h1, h2, h3⟩
        · exact Or.inl (Or.inl h)
        · rcases Nat.lt_or_ge f m with z | z
          · exact Or.inr ⟨f, z, h2, h3⟩
          · have e : f = m := by omega
            subst e
            rw [hmm] at h2
            exact Or.inl (Or.inr ⟨h2, h3⟩)
/-- K is the closure of q under the dependencies d of the fixtures below F -/
def fy_K (d : Nat → Int32) (q : Int32) (F : Nat) (K : Nat → Prop) : Prop := ∀ g, K g ↔ bt q g = true ∨ ∃ f, f < F ∧ K f ∧ bt (d f) g = true
theorem fy_go_K {d : Nat → Int32} {q : Int32} {F : Nat} (hd : ∀ f, f < F → ∀ g, bt (d f) g = true → g < f) : fy_K d q F (fun g => bt (fy_go d F q) g = true) := (fy_go_p d F q hd).2
theorem fy_K_lt {d : Nat → Int32} {q : Int32} {F : Nat} {K : Nat → Prop} (hK : fy_K d q F K) (hd : ∀ f, f < F → ∀ g, bt (d f) g = true → g < f) (hq : ∀ g, bt q g = true → g < F) {g : Nat} (h : K g) : g < F := by
  rcases (hK g).mp h with h | ⟨f, h1, h2, h3⟩
  · exact hq g h
  · have := hd f h1 g h3
    omega
/-- what holds q and is closed under the dependencies holds the closure -/
theorem fy_K_min {d : Nat → Int32} {q : Int32} {F : Nat} {K S : Nat → Prop} (hK : fy_K d q F K) (hd : ∀ f, f < F → ∀ g, bt (d f) g = true → g < f) (hq : ∀ g, bt q g = true → g < F)
    (h1 : ∀ g, bt q g = true → S g) (h2 : ∀ f, f < F → S f → ∀ g, bt (d f) g = true → S g) : ∀ g, K g → S g := by
  have key : ∀ k g, F ≤ g + k → K g → S g := by
    intro k
    induction k with
    | zero =>
      intro g hg h
      have := fy_K_lt hK hd hq h
      omega
    | succ k ih =>
      intro g hg h
      rcases (hK g).mp h with h | ⟨f, e1, e2, e3⟩
      · exact h1 g h
      · have := hd f e1 g e3
        exact h2 f e1 (ih f (by omega) e2) g e3
  exact fun g h => key F g (by omega) h
/-! values -/
def fy_n (a : Nat → Int32) (f : Nat) : Nat := (a f).toNatClampNeg
def fy_vl (a : Nat → Int32) (f : Nat) : Nat := if fy_n a f = 0 then 1 else fy_n a f
/-- all below m are naturals of at most b -/
def fy_nb (a : Nat → Int32) (m b : Nat) : Prop := ∀ f, f < m → a f = nI (fy_n a f) ∧ fy_n a f ≤ b
theorem fy_nb_of {a : Nat → Int32} {m b : Nat} (hb : b < 2 ^ 31) (h : ∀ f, f < m → ∃ n, n ≤ b ∧ a f = nI n) : fy_nb a m b := by
  intro f hf
  obtain ⟨n, h1, h2⟩ := h f hf
  have e : fy_n a f = n := by unfold fy_n; rw [h2, nI_clamp (by omega)]
  rw [e]
  exact ⟨h2, h1⟩
theorem fy_nb_upd {a : Nat → Int32} {m b n : Nat} (h : fy_nb a m b) (hb : b < 2 ^ 31) (hn : n ≤ b) : fy_nb (upd a m (nI n)) (m + 1) b := by
  apply fy_nb_of hb
  intro f hf
  by_cases e : f = m
  · subst e
    exact ⟨n, hn, pk_us⟩
  · have := h f (by omega)
    exact ⟨fy_n a f, this.2, by rw [pk_un e]; exact this.1⟩
theorem fy_vl_b {a : Nat → Int32} {m f : Nat} (h : fy_nb a m 3) (hf : f < m) : 1 ≤ fy_vl a f ∧ fy_vl a f ≤ 3 := by
  have := (h f hf).2
  unfold fy_vl
  split <;> omega
/-! how many items a closure gives -/
def fy_ct (C : Int32) (a : Nat → Int32) : Nat → Nat
  | 0 => 1
  | f + 1 => if bt C f = true then fy_ct C a f * fy_vl a f else fy_ct C a f
theorem fy_ct_b {C : Int32} {a : Nat → Int32} {m : Nat} (h : fy_nb a m 3) : ∀ f, f ≤ m → 1 ≤ fy_ct C a f ∧ fy_ct C a f ≤ 3 ^ f := by
  intro f
  induction f with
  | zero => exact fun _ => ⟨Nat.le_refl 1, Nat.le_refl 1⟩
  | succ f ih =>
    intro hf
    obtain ⟨h1, h2⟩ := ih (by omega)
    obtain ⟨v1, v2⟩ := fy_vl_b h (show f < m by omega)
    rw [fy_ct, Nat.pow_succ]
    split
    · exact ⟨Nat.mul_pos h1 v1, Nat.mul_le_mul h2 v2⟩
    · omega
theorem fy_3p {f : Nat} (h : f ≤ 12) : 3 ^ f ≤ 531441 := Nat.pow_le_pow_right (n := 3) (by decide) h
def fy_tt (g : Nat → Nat) : Nat → Nat
  | 0 => 0
  | t + 1 => fy_tt g t + g t
theorem fy_tt_m {g : Nat → Nat} {a b : Nat} (h : a ≤ b) : fy_tt g a ≤ fy_tt g b := by
  induction b with
  | zero => rw [show a = 0 by omega]; exact Nat.le_refl _
  | succ b ih =>
    rcases Nat.lt_or_ge b a with z | z
    · rw [show a = b + 1 by omega]; exact Nat.le_refl _
    · have := ih z
      rw [fy_tt]
      omega
theorem fy_tt_b {g : Nat → Nat} {b : Nat} : ∀ t, (∀ s, s < t → g s ≤ b) → fy_tt g t ≤ t * b := by
  intro t
  induction t with
  | zero => intro _; rw [fy_tt]; omega
  | succ t ih =>
    intro h
    have h1 := ih (fun s hs => h s (by omega))
    have h2 := h t (by omega)
    rw [fy_tt, Nat.add_mul]
    omega
theorem fy_tt_cg {g g' : Nat → Nat} : ∀ t, (∀ s, s < t → g s = g' s) → fy_tt g t = fy_tt g' t := by
  intro t
  induction t with
  | zero => intro _; rfl
  | succ t ih => intro h; rw [fy_tt, fy_tt, ih (fun s hs => h s (by omega)), h t (by omega)]
/-- the test of slot j -/
def fy_tf (g : Nat → Nat) : Nat → Nat → Nat
  | 0, _ => 0
  | t + 1, j => if fy_tt g t ≤ j then t else fy_tf g t j
theorem fy_tf_e {g : Nat → Nat} : ∀ (N : Nat) {t k : Nat}, t < N → k < g t → fy_tf g N (fy_tt g t + k) = t := by
  intro N
  induction N with
  | zero => intro t k h; omega
  | succ N ih =>
    intro t k ht hk
    rw [fy_tf]
    have h1 : fy_tt g (t + 1) = fy_tt g t + g t := rfl
    rcases Nat.lt_or_ge t N with z | z
    · have h2 := fy_tt_m (g := g) (show t + 1 ≤ N by omega)
      rw [if_neg (by omega)]
      exact ih z hk
    · have e : t = N := by omega
      subst e
      rw [if_pos (by omega)]
theorem fy_tf_lt {g : Nat → Nat} : ∀ (N : Nat) (j : Nat), 0 < N → fy_tf g N j < N := by
  intro N
  induction N with
  | zero => intro j h; omega
  | succ N ih =>
    intro j _
    rw [fy_tf]
    split
    · omega
    · rcases Nat.eq_zero_or_pos N with z | z
      · subst z
        exact Nat.lt_succ_self 0
      · have := ih j z
        omega
/-! the n-th assignment -/
def fy_rs (C : Int32) (a : Nat → Int32) (n : Nat) : Nat → Nat
  | 0 => n
  | f + 1 => if bt C f = true then fy_rs C a n f / fy_vl a f else fy_rs C a n f
theorem fy_rs_le (C : Int32) (a : Nat → Int32) (n : Nat) : ∀ f, fy_rs C a n f ≤ n
  | 0 => Nat.le_refl _
  | f + 1 => by
    have := fy_rs_le C a n f
    have h2 := Nat.div_le_self (fy_rs C a n f) (fy_vl a f)
    rw [fy_rs]
    split <;> omega
def fy_dg (C : Int32) (a : Nat → Int32) (F n f : Nat) : Nat := if f < F ∧ bt C f = true then fy_rs C a n f % fy_vl a f + 1 else 0
theorem fy_dg_4 {C : Int32} {a : Nat → Int32} {F : Nat} (h : fy_nb a F 3) (n f : Nat) : fy_dg C a F n f < 4 := by
  unfold fy_dg
  split
  · rename_i z
    obtain ⟨v1, v2⟩ := fy_vl_b h z.1
    have := Nat.mod_lt (fy_rs C a n f) v1
    omega
  · omega
theorem fy_dg_0 {C : Int32} {a : Nat → Int32} {F n f : Nat} (h : F ≤ f) : fy_dg C a F n f = 0 := by
  unfold fy_dg
  rw [if_neg (by omega)]
/-! keys -/
def fy_sl (sc pc : Nat → Int32) (s : Int32) (f : Nat) : Bool := decide (sc f = s) && decide (1 ≤ pc f)
def fy_ap (sel : Nat → Bool) (P : Nat → Nat) (k : Nat) : Nat → Nat
  | 0 => k
  | f + 1 => if sel f = true then fy_ap sel P k f * 4 + P f else fy_ap sel P k f
def fy_cs (sel : Nat → Bool) : Nat → Nat
  | 0 => 0
  | f + 1 => if sel f = true then fy_cs sel f + 1 else fy_cs sel f
theorem fy_ap_b {sel : Nat → Bool} {P : Nat → Nat} {k e : Nat} (hP : ∀ f, P f < 4) (hk : k < 2 ^ e) : ∀ f, fy_ap sel P k f < 2 ^ (e + 2 * fy_cs sel f) := by
  intro f
  induction f with
  | zero => exact hk
  | succ f ih =>
    rw [fy_ap, fy_cs]
    have := hP f
    split
    · rw [show e + 2 * (fy_cs sel f + 1) = e + 2 * fy_cs sel f + 1 + 1 by omega, Nat.pow_succ, Nat.pow_succ]
      omega
    · exact ih
theorem fy_ap_lt {sel : Nat → Bool} {P Q : Nat → Nat} {k l : Nat} (hP : ∀ f, P f < 4) {f : Nat} (h : fy_ap sel P k f < fy_ap sel Q l f) : ∀ F, f ≤ F → fy_ap sel P k F < fy_ap sel Q l F := by
  intro F
  induction F with
  | zero => intro hF; rw [show f = 0 by omega] at h; exact h
  | succ F ih =>
    intro hF
    rcases Nat.lt_or_ge F f with z | z
    · rw [show f = F + 1 by omega] at h; exact h
    · have h1 := ih z
      have h2 := hP F
      rw [fy_ap, fy_ap]
      split <;> omega
theorem fy_cs4 (sc pc : Nat → Int32) : ∀ f, fy_cs (fy_sl sc pc 0) f + fy_cs (fy_sl sc pc 1) f + fy_cs (fy_sl sc pc 2) f + fy_cs (fy_sl sc pc 3) f ≤ f := by
  intro f
  induction f with
  | zero => exact Nat.le_refl 0
  | succ f ih =>
    have d01 : ∀ s t : Int32, s ≠ t → fy_sl sc pc s f = true → ¬ fy_sl sc pc t f = true := by
      intro s t hst h1 h2
      unfold fy_sl at h1 h2
      rw [Bool.and_eq_true, decide_eq_true_eq] at h1 h2
      exact hst (h1.1.symm.trans h2.1)
    have a1 := d01 0 1 (by decide)
    have a2 := d01 0 2 (by decide)
    have a3 := d01 0 3 (by decide)
    have a4 := d01 1 2 (by decide)
    have a5 := d01 1 3 (by decide)
    have a6 := d01 2 3 (by decide)
    simp only [fy_cs]
    by_cases h0 : fy_sl sc pc 0 f = true
    · rw [if_pos h0, if_neg (a1 h0), if_neg (a2 h0), if_neg (a3 h0)]; omega
    · rw [if_neg h0]
      by_cases h1 : fy_sl sc pc 1 f = true
      · rw [if_pos h1, if_neg (a4 h1), if_neg (a5 h1)]; omega
      · rw [if_neg h1]
        by_cases h2 : fy_sl sc pc 2 f = true
        · rw [if_pos h2, if_neg (a6 h2)]; omega
        · rw [if_neg h2]
          split <;> omega
def fy_ky (sc pc : Nat → Int32) (F m c t : Nat) (P : Nat → Nat) : Nat :=
  fy_ap (fy_sl sc pc 3) P (fy_ap (fy_sl sc pc 2) P (fy_ap (fy_sl sc pc 1) P (fy_ap (fy_sl sc pc 0) P 0 F * 4 + m) F * 4 + c) F * 16 + t) F
theorem fy_ky_b {sc pc : Nat → Int32} {F m c t : Nat} {P : Nat → Nat} (hP : ∀ f, P f < 4) (hF : F ≤ 12) (hm : m < 4) (hc : c < 4) (ht : t < 16) :
    fy_ap (fy_sl sc pc 0) P 0 F < 2 ^ (0 + 2 * fy_cs (fy_sl sc pc 0) F) ∧
    fy_ky sc pc F m c t P < 2 ^ 32 := by
  have h4 := fy_cs4 sc pc F
  have b0 := fy_ap_b (sel := fy_sl sc pc 0) (k := 0) (e := 0) hP (by decide) F
  have b1 : fy_ap (fy_sl sc pc 0) P 0 F * 4 + m < 2 ^ (0 + 2 * fy_cs (fy_sl sc pc 0) F + 2) := by rw [Nat.pow_succ, Nat.pow_succ]; omega
  have b2 := fy_ap_b (sel := fy_sl sc pc 1) hP b1 F
  have b3 : fy_ap (fy_sl sc pc 1) P (fy_ap (fy_sl sc pc 0) P 0 F * 4 + m) F * 4 + c < 2 ^ (0 + 2 * fy_cs (fy_sl sc pc 0) F + 2 + 2 * fy_cs (fy_sl sc pc 1) F + 2) := by rw [Nat.pow_succ, Nat.pow_succ]; omega
  have b4 := fy_ap_b (sel := fy_sl sc pc 2) hP b3 F
  have b5 : fy_ap (fy_sl sc pc 2) P (fy_ap (fy_sl sc pc 1) P (fy_ap (fy_sl sc pc 0) P 0 F * 4 + m) F * 4 + c) F * 16 + t < 2 ^ (0 + 2 * fy_cs (fy_sl sc pc 0) F + 2 + 2 * fy_cs (fy_sl sc pc 1) F + 2 + 2 * fy_cs (fy_sl sc pc 2) F + 4) := by rw [Nat.pow_succ, Nat.pow_succ, Nat.pow_succ, Nat.pow_succ]; omega
  have b6 := fy_ap_b (sel := fy_sl sc pc 3) hP b5 F
  refine ⟨b0, Nat.lt_of_lt_of_le b6 (Nat.pow_le_pow_right (by decide) (by omega))⟩
def fy_cp (a b : Nat) : Int32 := if a < b then -1 else if b < a then 1 else 0
theorem fy_cp_lt (a b : Nat) : fy_cp a b < 0 ↔ a < b := by
  unfold fy_cp
  split
  · exact ⟨fun _ => by assumption, fun _ => by decide⟩
  · split
    · exact ⟨fun h => absurd h (by decide), fun h => by omega⟩
    · exact ⟨fun h => absurd h (by decide), fun h => by omega⟩
/-! the closure by rounds -/
def fy_R (q : Int32) (F : Nat) (K : Nat → Prop) (r : Nat) (S : Nat → Bool) : Prop := (∀ g, bt q g = true → S g = true) ∧ (∀ g, S g = true → K g) ∧ (∀ f, f < F → F ≤ f + 1 + r → K f → S f = true)
theorem fy_R0 {d : Nat → Int32} {q : Int32} {F : Nat} {K : Nat → Prop} (hK : fy_K d q F K) (hd : ∀ f, f < F → ∀ g, bt (d f) g = true → g < f) : fy_R q F K 0 (fun g => bt q g) := by
  refine ⟨fun g h => h, fun g h => (hK g).mpr (Or.inl h), fun f h1 h2 h3 => ?_⟩
  rcases (hK f).mp h3 with h | ⟨f', e1, e2, e3⟩
  · exact h
  · have := hd f' e1 f e3
    omega
theorem fy_Rs {d : Nat → Int32} {q : Int32} {F r : Nat} {K : Nat → Prop} {S0 S : Nat → Bool} (hK : fy_K d q F K) (hd : ∀ f, f < F → ∀ g, bt (d f) g = true → g < f) (h : fy_R q F K r S0)
    (h1 : ∀ g, S0 g = true → S g = true) (h2 : ∀ g, S g = true → K g) (h3 : ∀ f, f < F → S0 f = true → ∀ g, bt (d f) g = true → S g = true) : fy_R q F K (r + 1) S := by
  obtain ⟨a1, a2, a3⟩ := h
  refine ⟨fun g hg => h1 g (a1 g hg), h2, fun f hf hr hk => ?_⟩
  rcases (hK f).mp hk with h | ⟨f', e1, e2, e3⟩
  · exact h1 f (a1 f h)
  · have := hd f' e1 f e3
    exact h3 f' e1 (a3 f' e1 (by omega) e2) f e3
theorem fy_Re {d : Nat → Int32} {q : Int32} {F r : Nat} {K : Nat → Prop} {S : Nat → Bool} (hK : fy_K d q F K) (hd : ∀ f, f < F → ∀ g, bt (d f) g = true → g < f) (hq : ∀ g, bt q g = true → g < F) (h : fy_R q F K r S)
    (hr : F ≤ r ∨ ∀ f, f < F → S f = true → ∀ g, bt (d f) g = true → S g = true) (g : Nat) : S g = true ↔ K g := by
  obtain ⟨a1, a2, a3⟩ := h
  refine ⟨a2 g, fun hk => ?_⟩
  rcases hr with hr | hr
  · exact a3 g (fy_K_lt hK hd hq hk) (by omega) hk
  · exact fy_K_min (S := fun g => S g = true) hK hd hq a1 hr g hk
def fy_bi (b : Bool) : Int32 := if b = true then 1 else 0
theorem fy_bi_t : fy_bi true = 1 := rfl
theorem fy_bi_f : fy_bi false = 0 := rfl
theorem fy_bi_n (b : Bool) : narrow .boolean (.int (fy_bi b)) = .int (fy_bi b) := by cases b <;> rfl
theorem fy_bi_0 {b : Bool} : fy_bi b = 0 ↔ b = false := by cases b <;> decide
theorem fy_bi_z {A B : Prop} {b : Bool} (f : b = false → A) (g : b = true → B) : (fy_bi b = 0 → A) ∧ (¬ fy_bi b = 0 → B) := by
  cases b
  · exact ⟨fun _ => f rfl, fun h => absurd rfl h⟩
  · exact ⟨fun h => absurd h (by decide), fun _ => g rfl⟩
end
section
/-! the order of the items: by key, then by slot; the one sorted order -/
def fy_L (K : Nat → Nat) (i j : Nat) : Prop := K i < K j ∨ (K i = K j ∧ i < j)
theorem fy_L_t {K : Nat → Nat} {a b c : Nat} (h1 : fy_L K a b) (h2 : fy_L K b c) : fy_L K a c := by
  unfold fy_L at *
  omega
theorem fy_L_i {K : Nat → Nat} {a : Nat} : ¬ fy_L K a a := by
  unfold fy_L
  omega
theorem fy_L_le {K : Nat → Nat} {a b : Nat} (h : fy_L K a b) : K a ≤ K b := by
  unfold fy_L at h
  omega
def fy_So (K : Nat → Nat) (n : Nat) (s : Nat → Nat) : Prop := (∀ p, p < n → s p < n) ∧ (∀ p q, p < q → q < n → fy_L K (s p) (s q)) ∧ (∀ j, j < n → ∃ q, q < n ∧ s q = j)
theorem fy_So_0 (K : Nat → Nat) : fy_So K 0 id := ⟨fun p h => absurd h (Nat.not_lt_zero p), fun p q _ h => absurd h (Nat.not_lt_zero q), fun j h => absurd h (Nat.not_lt_zero j)⟩
theorem fy_So_1 (K : Nat → Nat) : fy_So K 1 id := ⟨fun p h => h, fun p q h1 h2 => by omega, fun j h => ⟨j, h, rfl⟩⟩
def fy_in (s : Nat → Nat) (i place : Nat) : Nat → Nat := fun p => if p < place then s p else if p = place then i else s (p - 1)
theorem fy_in_lo {s : Nat → Nat} {i place p : Nat} (h : p < place) : fy_in s i place p = s p := if_pos h
theorem fy_in_at {s : Nat → Nat} {i place : Nat} : fy_in s i place place = i := by
  unfold fy_in
  rw [if_neg (Nat.lt_irrefl _), if_pos rfl]
theorem fy_in_hi {s : Nat → Nat} {i place p : Nat} (h : place < p) : fy_in s i place p = s (p - 1) := by
  unfold fy_in
  rw [if_neg (by omega), if_neg (by omega)]
theorem fy_So_in {K : Nat → Nat} {i place : Nat} {s : Nat → Nat} (h : fy_So K i s) (hp : place ≤ i) (hl : place = 0 ∨ K (s (place - 1)) ≤ K i) (hh : ∀ p, place ≤ p → p < i → K i < K (s p)) : fy_So K (i + 1) (fy_in s i place) := by
  obtain ⟨h1, h2, h3⟩ := h
  have lo : ∀ p, p < place → fy_L K (s p) i := by
    intro p hpp
    have hs := h1 p (by omega)
    have hk : K (s p) ≤ K i := by
      rcases hl with z | z
      · omega
      · rcases Nat.lt_or_ge p (place - 1) with y | y
        · have := fy_L_le (h2 p (place - 1) y (by omega))
          omega
        · rw [show p = place - 1 by omega]
          exact z
    unfold fy_L
    omega
  refine ⟨fun p hpn => ?_, fun p q hpq hq => ?_, fun j hj => ?_⟩
  · rcases Nat.lt_trichotomy p place with z | z | z
    · rw [fy_in_lo z]; have := h1 p (by omega); omega
    · rw [z, fy_in_at]; omega
    · rw [fy_in_hi z]; have := h1 (p - 1) (by omega); omega
  · rcases Nat.lt_trichotomy p place with z | z | z
    · rw [fy_in_lo z]
      rcases Nat.lt_trichotomy q place with y | y | y
      · rw [fy_in_lo y]; exact h2 p q hpq (by omega)
      · rw [y, fy_in_at]; exact lo p z
      · rw [fy_in_hi y]; exact fy_L_t (lo p z) (Or.inl (hh (q - 1) (by omega) (by omega)))
    · rw [z, fy_in_at, fy_in_hi (by omega)]
      exact Or.inl (hh (q - 1) (by omega) (by omega))
    · rw [fy_in_hi z, fy_in_hi (by omega)]
      exact h2 (p - 1) (q - 1) (by omega) (by omega)
  · rcases Nat.lt_or_ge j i with z | z
    · obtain ⟨q, hq, e⟩ := h3 j z
      rcases Nat.lt_or_ge q place with y | y
      · exact ⟨q, by omega, by rw [fy_in_lo y]; exact e⟩
      · exact ⟨q + 1, by omega, by rw [fy_in_hi (by omega), Nat.add_sub_cancel]; exact e⟩
    · exact ⟨place, by omega, by rw [fy_in_at]; omega⟩
theorem fy_sel {K : Nat → Nat} {n pos b : Nat} {s : Nat → Nat} (h : fy_So K n s) (hp : pos < n) (hb : b < n) (hu : ∀ q, q < pos → s q ≠ b)
    (hm : ∀ j, j < n → (∀ q, q < pos → s q ≠ j) → j = b ∨ fy_L K b j) : b = s pos := by
  obtain ⟨h1, h2, h3⟩ := h
  obtain ⟨q, hq, e⟩ := h3 b hb
  have hqp : pos ≤ q := by
    rcases Nat.lt_or_ge q pos with z | z
    · exact absurd e (hu q z)
    · exact z
  rcases Nat.lt_or_ge pos q with z | z
  · have a1 := h2 pos q z hq
    rw [e] at a1
    rcases hm (s pos) (h1 pos hp) (fun r hr er => by have := h2 r pos hr hp; rw [er] at this; exact fy_L_i this) with y | y
    · exact y.symm
    · exact absurd (fy_L_t a1 y) fy_L_i
  · rw [← e, show q = pos by omega]
theorem fy_inj {K : Nat → Nat} {n : Nat} {s : Nat → Nat} (h : fy_So K n s) {p q : Nat} (hp : p < n) (hq : q < n) (e : s p = s q) : p = q := by
  obtain ⟨-, h2, -⟩ := h
  rcases Nat.lt_trichotomy p q with z | z | z
  · have := h2 p q z hq; rw [e] at this; exact absurd this fy_L_i
  · exact z
  · have := h2 q p z hp; rw [e] at this; exact absurd this fy_L_i
theorem fy_orL (k d : Nat) (hd : d < 4) : lN (k * 4) ||| lN d = lN (k * 4 + d) := by
  have h1 : k * 4 ||| d = k * 4 + d := by
    have := Nat.two_pow_add_eq_or_of_lt (i := 2) (b := d) hd k
    rw [Nat.mul_comm] at this
    exact this.symm
  apply wb_inj
  rw [Int64.toBitVec_or, wb_tb, wb_tb, wb_tb, ← h1]
  apply BitVec.eq_of_getLsbD_eq
  intro i hi
  simp [hi]
theorem fy_orL4 (k d : Nat) (hd : d < 16) : lN (k * 16) ||| lN d = lN (k * 16 + d) := by
  have h1 : k * 16 ||| d = k * 16 + d := by
    have := Nat.two_pow_add_eq_or_of_lt (i := 4) (b := d) hd k
    rw [Nat.mul_comm] at this
    exact this.symm
  apply wb_inj
  rw [Int64.toBitVec_or, wb_tb, wb_tb, wb_tb, ← h1]
  apply BitVec.eq_of_getLsbD_eq
  intro i hi
  simp [hi]
theorem fy_shL2 (k : Nat) : lN k <<< ((2 : Int32).toInt64 &&& 63) = lN (k * 4) := wb_shl k (k := 2) (by decide)
theorem fy_shL4 (k : Nat) : lN k <<< ((4 : Int32).toInt64 &&& 63) = lN (k * 16) := wb_shl k (k := 4) (by decide)
/-! one insertion, array by array: a while it runs, a0 before the sort -/
def fy_iv {A : Type} (a a0 : Nat → A) (s : Nat → Nat) (p i : Nat) : Prop := (∀ q, q < p → a q = a0 (s q)) ∧ (∀ q, p < q → q ≤ i → a q = a0 (s (q - 1))) ∧ (∀ q, i < q → a q = a0 q)
theorem fy_iv_0 {A : Type} {a a0 : Nat → A} {s : Nat → Nat} {i : Nat} (h1 : ∀ q, q < i → a q = a0 (s q)) (h2 : ∀ q, i ≤ q → a q = a0 q) : fy_iv a a0 s i i := ⟨h1, fun q h3 h4 => by omega, fun q h => h2 q (by omega)⟩
theorem fy_iv_s {A : Type} {a a0 b : Nat → A} {s : Nat → Nat} {p i : Nat} (h : fy_iv a a0 s (p + 1) i) (hp : p + 1 ≤ i) (hb : b (p + 1) = a p) (hn : ∀ q, q ≠ p + 1 → b q = a q) : fy_iv b a0 s p i := by
  obtain ⟨h1, h2, h3⟩ := h
  refine ⟨fun q hq => ?_, fun q hq hi => ?_, fun q hq => ?_⟩
  · rw [hn q (by omega)]; exact h1 q (by omega)
  · by_cases e : q = p + 1
    · subst e
      rw [hb, Nat.add_sub_cancel]
      exact h1 p (by omega)
    · rw [hn q e]; exact h2 q (by omega) hi
  · rw [hn q (by omega)]; exact h3 q hq
theorem fy_iv_e {A : Type} {a a0 b : Nat → A} {s : Nat → Nat} {p i : Nat} (h : fy_iv a a0 s p i) (hp : p ≤ i) (hb : b p = a0 i) (hn : ∀ q, q ≠ p → b q = a q) : (∀ q, q < i + 1 → b q = a0 (fy_in s i p q)) ∧ (∀ q, i + 1 ≤ q → b q = a0 q) := by
  obtain ⟨h1, h2, h3⟩ := h
  refine ⟨fun q hq => ?_, fun q hq => ?_⟩
  · rcases Nat.lt_trichotomy q p with z | z | z
    · rw [fy_in_lo z, hn q (by omega)]; exact h1 q z
    · rw [z, fy_in_at]; exact hb
    · rw [fy_in_hi z, hn q (by omega)]; exact h2 q z (by omega)
  · rw [hn q (by omega)]; exact h3 q (by omega)
end
section
/-! an execution as a pure picture: (events, log, attempts, stamps, alive parameter or -1, stamp of) -/
abbrev fy_E : Type := Nat × (Nat → Int32) × (Nat → Int32) × Nat × (Nat → Int32) × (Nat → Int32)
def fy_lo (kind : Int32) (i f : Nat) (p : Int32) (e : fy_E) : fy_E :=
  (e.1 + 1, (if e.1 < 256 then upd e.2.1 e.1 (kind * 100000 + nI i * 1000 + nI f * 10 + p) else e.2.1), e.2.2)
def fy_at (f p : Nat) (e : fy_E) : fy_E := (e.1, e.2.1, upd e.2.2.1 (f * 3 + p) (e.2.2.1 (f * 3 + p) + 1), e.2.2.2)
def fy_on (f p : Nat) (e : fy_E) : fy_E := (e.1, e.2.1, e.2.2.1, e.2.2.2.1 + 1, upd e.2.2.2.2.1 f (nI p), upd e.2.2.2.2.2 f (nI (e.2.2.2.1 + 1)))
def fy_of (g : Nat) (e : fy_E) : fy_E := (e.1, e.2.1, e.2.2.1, e.2.2.2.1, upd e.2.2.2.2.1 g (-1), e.2.2.2.2.2)
def fy_sf (fl : Nat → Int32) (i f p : Nat) (e : fy_E) : fy_E × Bool :=
  if e.2.2.1 (f * 3 + p) + 1 = fl (f * 3 + p) then (fy_lo 3 i f (nI p) (fy_at f p e), false)
  else (fy_on f p (fy_lo 1 i f (nI p) (fy_at f p e)), true)
/-- the setup of item i, of whose fixtures f and k more are left -/
def fy_su (fl : Nat → Int32) (D : Nat → Nat) (i : Nat) : Nat → Nat → fy_E → fy_E × Bool
  | 0, _, e => (e, true)
  | k + 1, f, e =>
    if D f = 0 ∨ e.2.2.2.2.1 f = nI (D f - 1) then fy_su fl D i k (f + 1) e
    else if (fy_sf fl i f (D f - 1) e).2 = false then ((fy_sf fl i f (D f - 1) e).1, false)
    else fy_su fl D i k (f + 1) (fy_sf fl i f (D f - 1) e).1
/-- what holds in an execution: at most b events, at most c stamps, an alive fixture has a parameter and a stamp -/
def fy_ok (F b c : Nat) (e : fy_E) : Prop := e.1 ≤ b ∧ e.2.2.2.1 ≤ c ∧ ∀ f, f < F → e.2.2.2.2.1 f = -1 ∨ ((∃ p, p < 3 ∧ e.2.2.2.2.1 f = nI p) ∧ ∃ s, 1 ≤ s ∧ s ≤ e.2.2.2.1 ∧ e.2.2.2.2.2 f = nI s)
theorem fy_ok_w {F b c b' c' : Nat} {e : fy_E} (h : fy_ok F b c e) (hb : b ≤ b') (hc : c ≤ c') : fy_ok F b' c' e := ⟨by have := h.1; omega, by have := h.2.1; omega, h.2.2⟩
theorem fy_ok_lo {F b c i f : Nat} {kind p : Int32} {e : fy_E} (h : fy_ok F b c e) : fy_ok F (b + 1) c (fy_lo kind i f p e) := ⟨by have := h.1; show e.1 + 1 ≤ b + 1; omega, h.2.1, h.2.2⟩
theorem fy_ok_at {F b c f p : Nat} {e : fy_E} (h : fy_ok F b c e) : fy_ok F b c (fy_at f p e) := ⟨h.1, h.2.1, h.2.2⟩
theorem fy_ok_on {F b c f p : Nat} {e : fy_E} (h : fy_ok F b c e) (hp : p < 3) : fy_ok F b (c + 1) (fy_on f p e) := by
  obtain ⟨h1, h2, h3⟩ := h
  refine ⟨h1, by show e.2.2.2.1 + 1 ≤ c + 1; omega, fun g hg => ?_⟩
  show upd e.2.2.2.2.1 f (nI p) g = -1 ∨ ((∃ q, q < 3 ∧ upd e.2.2.2.2.1 f (nI p) g = nI q) ∧ ∃ s, 1 ≤ s ∧ s ≤ e.2.2.2.1 + 1 ∧ upd e.2.2.2.2.2 f (nI (e.2.2.2.1 + 1)) g = nI s)
  by_cases z : g = f
  · subst z
    rw [pk_us, pk_us]
    exact Or.inr ⟨⟨p, hp, rfl⟩, _, by omega, by omega, rfl⟩
  · rw [pk_un z, pk_un z]
    rcases h3 g hg with y | ⟨y, s, a, b, d⟩
    · exact Or.inl y
    · exact Or.inr ⟨y, s, a, by omega, d⟩
theorem fy_ok_of {F b c g : Nat} {e : fy_E} (h : fy_ok F b c e) : fy_ok F b c (fy_of g e) := by
  obtain ⟨h1, h2, h3⟩ := h
  refine ⟨h1, h2, fun f hf => ?_⟩
  show upd e.2.2.2.2.1 g (-1) f = -1 ∨ ((∃ q, q < 3 ∧ upd e.2.2.2.2.1 g (-1) f = nI q) ∧ ∃ s, 1 ≤ s ∧ s ≤ e.2.2.2.1 ∧ e.2.2.2.2.2 f = nI s)
  by_cases z : f = g
  · subst z
    rw [pk_us]
    exact Or.inl rfl
  · rw [pk_un z]
    exact h3 f hf
theorem fy_ok_sf {fl : Nat → Int32} {F b c i f p : Nat} {e : fy_E} (h : fy_ok F b c e) (hp : p < 3) : fy_ok F (b + 1) (c + 1) (fy_sf fl i f p e).1 := by
  unfold fy_sf
  split
  · exact fy_ok_w (fy_ok_lo (fy_ok_at h)) (by omega) (by omega)
  · exact fy_ok_on (fy_ok_lo (fy_ok_at h)) hp
theorem fy_ok_su {fl : Nat → Int32} {D : Nat → Nat} {F i : Nat} (hD : ∀ f, D f < 4) : ∀ (k f b c : Nat) (e : fy_E), fy_ok F b c e → fy_ok F (b + k) (c + k) (fy_su fl D i k f e).1 := by
  intro k
  induction k with
  | zero => exact fun f b c e h => h
  | succ k ih =>
    intro f b c e h
    rw [fy_su]
    have hd := hD f
    split
    · exact fy_ok_w (ih (f + 1) b c e h) (by omega) (by omega)
    · rename_i z
      have h2 := fy_ok_sf (fl := fl) (i := i) (f := f) (p := D f - 1) h (by omega)
      split
      · exact fy_ok_w h2 (by omega) (by omega)
      · exact fy_ok_w (ih (f + 1) (b + 1) (c + 1) _ h2) (by omega) (by omega)
/-- what ends by itself after item i -/
def fy_eb (sc mo cl : Nat → Int32) (T : Nat → Nat) (D : Nat → Nat → Nat) (n i : Nat) (al : Nat → Int32) (g : Nat) : Bool :=
  decide (sc g = 3 ∨ n ≤ i + 1 ∨ (¬ D (i + 1) g = 0 ∧ ¬ nI (D (i + 1) g - 1) = al g) ∨ (sc g = 2 ∧ ¬ (mo (T i) = mo (T (i + 1)) ∧ cl (T i) = cl (T (i + 1)))) ∨ (sc g = 1 ∧ ¬ mo (T i) = mo (T (i + 1))))
/-- the upward pass -/
def fy_ed (dp al : Nat → Int32) (eb : Nat → Bool) : Nat → Int32
  | 0 => 0
  | g + 1 => if ¬ al g = -1 ∧ (¬ (dp g &&& fy_ed dp al eb g) = 0 ∨ eb g = true) then fy_ed dp al eb g ||| ((1 : Int32) <<< (nI g &&& 31)) else fy_ed dp al eb g
theorem fy_ed_hi {dp al : Nat → Int32} {eb : Nat → Bool} : ∀ g, g ≤ 32 → ∀ i, g ≤ i → bt (fy_ed dp al eb g) i = false := by
  intro g
  induction g with
  | zero => intro _ i _; exact b_0 i
  | succ g ih =>
    intro hg i hi
    rcases Nat.lt_or_ge i 32 with z | z
    · rw [fy_ed]
      split
      · rw [fy_set _ (by omega) z, ih (by omega) i (by omega), decide_eq_false (by omega)]
        rfl
      · exact ih (by omega) i (by omega)
    · exact b_big z
theorem fy_ed_lo {dp al : Nat → Int32} {eb : Nat → Bool} {i : Nat} : ∀ g, g ≤ 32 → i < g → bt (fy_ed dp al eb g) i = bt (fy_ed dp al eb (i + 1)) i := by
  intro g
  induction g with
  | zero => intro _ h; omega
  | succ g ih =>
    intro hg hi
    rcases Nat.lt_or_ge i g with z | z
    · rw [← ih (by omega) z, fy_ed]
      split
      · rw [fy_set _ (by omega) (by omega), decide_eq_false (by omega), Bool.or_false]
      · rfl
    · rw [show i = g by omega]
theorem fy_ed_p {dp al : Nat → Int32} {eb : Nat → Bool} {F i : Nat} (hF : F ≤ 32) (hi : i < F) :
    bt (fy_ed dp al eb F) i = true ↔ (¬ al i = -1 ∧ (eb i = true ∨ ∃ d, d < i ∧ bt (dp i) d = true ∧ bt (fy_ed dp al eb F) d = true)) := by
  have e1 : bt (fy_ed dp al eb (i + 1)) i = true ↔ (¬ al i = -1 ∧ (¬ (dp i &&& fy_ed dp al eb i) = 0 ∨ eb i = true)) := by
    rw [fy_ed]
    split
    · rename_i z
      rw [fy_set _ (by omega) (by omega), decide_eq_true rfl, Bool.or_true]
      exact ⟨fun _ => z, fun _ => rfl⟩
    · rename_i z
      rw [fy_ed_hi i (by omega) i (Nat.le_refl i)]
      exact ⟨fun h => absurd h (by decide), fun h => absurd h z⟩
  have e2 : ¬ (dp i &&& fy_ed dp al eb i) = 0 ↔ ∃ d, d < i ∧ bt (dp i) d = true ∧ bt (fy_ed dp al eb F) d = true := by
    rw [fy_and0]
    constructor
    · intro h
      apply Classical.byContradiction
      intro hn
      apply h
      intro d hd hab
      rcases Nat.lt_or_ge d i with z | z
      · apply hn
        refine ⟨d, z, hab.1, ?_⟩
        rw [fy_ed_lo F hF (by omega), ← fy_ed_lo i (by omega) z]
        exact hab.2
      · rw [fy_ed_hi i (by omega) d z] at hab
        exact absurd hab.2 (by decide)
    · intro ⟨d, h1, h2, h3⟩ h
      apply h d (by omega)
      refine ⟨h2, ?_⟩
      rw [fy_ed_lo i (by omega) h1, ← fy_ed_lo F hF (by omega)]
      exact h3
  rw [fy_ed_lo F hF hi, e1, e2]
  exact ⟨fun h => ⟨h.1, h.2.elim Or.inr Or.inl⟩, fun h => ⟨h.1, h.2.elim Or.inr Or.inl⟩⟩
/-- the member with the latest stamp, and that stamp -/
def fy_la (s : Int32) (so : Nat → Int32) : Nat → Nat × Int32
  | 0 => (0, 0)
  | g + 1 => if bt s g = true ∧ (fy_la s so g).2 < so g then (g, so g) else fy_la s so g
theorem fy_la_p {s : Int32} {so : Nat → Int32} : ∀ F, (∀ g, g < F → bt s g = true → (0 : Int32) < so g) →
    ((∀ g, g < F → bt s g = false) ∧ fy_la s so F = (0, 0)) ∨ ((fy_la s so F).1 < F ∧ bt s (fy_la s so F).1 = true ∧ (fy_la s so F).2 = so (fy_la s so F).1 ∧ (0 : Int32) < (fy_la s so F).2) := by
  intro F
  induction F with
  | zero => exact fun _ => Or.inl ⟨fun g h => absurd h (Nat.not_lt_zero g), rfl⟩
  | succ F ih =>
    intro h
    have h1 := ih (fun g hg => h g (by omega))
    rw [fy_la]
    split
    · rename_i z
      exact Or.inr ⟨Nat.lt_succ_self F, z.1, rfl, h F (Nat.lt_succ_self F) z.1⟩
    · rename_i z
      rcases h1 with ⟨a1, a2⟩ | ⟨a1, a2, a3, a4⟩
      · refine Or.inl ⟨fun g hg => ?_, a2⟩
        rcases Nat.lt_or_ge g F with y | y
        · exact a1 g y
        · have e : g = F := by omega
          subst e
          cases hb : bt s g
          · rfl
          · exact absurd ⟨hb, by rw [a2]; exact h g (Nat.lt_succ_self g) hb⟩ z
      · exact Or.inr ⟨by omega, a2, a3, a4⟩
/-- k teardowns at most of the set s after item i -/
def fy_td (F i : Nat) : Nat → Int32 → fy_E → fy_E
  | 0, _, e => e
  | k + 1, s, e => if s = 0 then e else
    fy_td F i k (s &&& (((1 : Int32) <<< (nI (fy_la s e.2.2.2.2.2 F).1 &&& 31)) ^^^ (-1))) (fy_of (fy_la s e.2.2.2.2.2 F).1 (fy_lo 2 i (fy_la s e.2.2.2.2.2 F).1 (e.2.2.2.2.1 (fy_la s e.2.2.2.2.2 F).1) e))
theorem fy_ok_td {F i : Nat} : ∀ (k b c : Nat) (s : Int32) (e : fy_E), fy_ok F b c e → fy_ok F (b + k) c (fy_td F i k s e) := by
  intro k
  induction k with
  | zero => exact fun b c s e h => h
  | succ k ih =>
    intro b c s e h
    rw [fy_td]
    split
    · exact fy_ok_w h (by omega) (by omega)
    · exact fy_ok_w (ih (b + 1) c _ _ (fy_ok_of (fy_ok_lo h))) (by omega) (by omega)
/-- how many members below F -/
def fy_cn (s : Int32) : Nat → Nat
  | 0 => 0
  | g + 1 => fy_cn s g + (if bt s g = true then 1 else 0)
theorem fy_cn_le (s : Int32) : ∀ F, fy_cn s F ≤ F
  | 0 => Nat.le_refl _
  | g + 1 => by
    have := fy_cn_le s g
    rw [fy_cn]
    split <;> omega
theorem fy_cn_0 {s : Int32} : ∀ {F : Nat}, fy_cn s F = 0 → ∀ g, g < F → bt s g = false
  | 0, _, g, hg => absurd hg (Nat.not_lt_zero g)
  | F + 1, h, g, hg => by
    rw [fy_cn] at h
    rcases Nat.lt_or_ge g F with z | z
    · exact fy_cn_0 (by omega) g z
    · have e : g = F := by omega
      subst e
      cases hb : bt s g
      · rfl
      · rw [hb, if_pos rfl] at h
        omega
theorem fy_cn_cg {s r : Int32} : ∀ {F : Nat}, (∀ g, g < F → bt s g = bt r g) → fy_cn s F = fy_cn r F
  | 0, _ => rfl
  | F + 1, h => by rw [fy_cn, fy_cn, fy_cn_cg (fun g hg => h g (by omega)), h F (by omega)]
theorem fy_cn_clr {s : Int32} {g : Nat} (hs : bt s g = true) (hg : g < 32) : ∀ F, F ≤ 32 → g < F → fy_cn (s &&& (((1 : Int32) <<< (nI g &&& 31)) ^^^ (-1))) F + 1 = fy_cn s F := by
  intro F
  induction F with
  | zero => intro _ h; omega
  | succ F ih =>
    intro hF hgF
    rw [fy_cn, fy_cn, fy_clr s hg (show F < 32 by omega)]
    rcases Nat.lt_or_ge g F with z | z
    · have := ih (by omega) z
      rw [decide_eq_false (show ¬ F = g by omega), Bool.not_false, Bool.and_true]
      omega
    · have e : g = F := by omega
      subst e
      have e2 : fy_cn (s &&& (((1 : Int32) <<< (nI g &&& 31)) ^^^ (-1))) g = fy_cn s g := fy_cn_cg (fun h hh => by
        rw [fy_clr s hg (show h < 32 by omega), decide_eq_false (show ¬ h = g by omega), Bool.not_false, Bool.and_true])
      rw [e2, decide_eq_true rfl, Bool.not_true, Bool.and_false, hs, if_neg (by decide), if_pos rfl]
/-! item after item -/
def fy_st (fl sc mo cl dp : Nat → Int32) (T : Nat → Nat) (D : Nat → Nat → Nat) (n F i : Nat) (e : fy_E) : fy_E :=
  fy_td F i F (fy_ed dp (fy_su fl (D i) i F 0 e).1.2.2.2.2.1 (fy_eb sc mo cl T D n i (fy_su fl (D i) i F 0 e).1.2.2.2.2.1) F) (fy_su fl (D i) i F 0 e).1
def fy_ex (fl sc mo cl dp : Nat → Int32) (T : Nat → Nat) (D : Nat → Nat → Nat) (n F : Nat) (e : fy_E) : Nat → fy_E
  | 0 => e
  | i + 1 => fy_st fl sc mo cl dp T D n F i (fy_ex fl sc mo cl dp T D n F e i)
/-- the outcome of item i -/
def fy_ou (fl sc mo cl dp : Nat → Int32) (T : Nat → Nat) (D : Nat → Nat → Nat) (n F : Nat) (e : fy_E) (i : Nat) : Int32 :=
  if (fy_su fl (D i) i F 0 (fy_ex fl sc mo cl dp T D n F e i)).2 = true then 1 else 2
theorem fy_ok_ex {fl sc mo cl dp : Nat → Int32} {T : Nat → Nat} {D : Nat → Nat → Nat} {n F : Nat} {e : fy_E} (hF : F ≤ 12) (hD : ∀ i f, D i f < 4) (h : fy_ok F 0 0 e) : ∀ i, fy_ok F (24 * i) (12 * i) (fy_ex fl sc mo cl dp T D n F e i) := by
  intro i
  induction i with
  | zero => exact h
  | succ i ih =>
    have h1 := fy_ok_su (fl := fl) (i := i) (hD i) F 0 _ _ _ ih
    have h2 := fy_ok_td (i := i) F _ _ (fy_ed dp (fy_su fl (D i) i F 0 (fy_ex fl sc mo cl dp T D n F e i)).1.2.2.2.2.1 (fy_eb sc mo cl T D n i (fy_su fl (D i) i F 0 (fy_ex fl sc mo cl dp T D n F e i)).1.2.2.2.2.1) F) _ h1
    exact fy_ok_w h2 (by omega) (by omega)
/-- an array with its first m places set to x -/
def fy_fill (a : Nat → Int32) (x : Int32) : Nat → Nat → Int32
  | 0 => a
  | m + 1 => upd (fy_fill a x m) m x
theorem fy_fill_e {a : Nat → Int32} {x : Int32} : ∀ {m j : Nat}, j < m → fy_fill a x m j = x
  | 0, j, h => absurd h (Nat.not_lt_zero j)
  | m + 1, j, h => by
    rw [fy_fill]
    by_cases e : j = m
    · subst e
      exact pk_us
    · rw [pk_un e]
      exact fy_fill_e (by omega)
/-- the latest member as a candidate, -1 if there is none -/
def fy_B (s : Int32) (so : Nat → Int32) (g : Nat) : Int32 := if (fy_la s so g).2 = 0 then -1 else nI (fy_la s so g).1
theorem fy_B_c {s : Int32} {so : Nat → Int32} {F : Nat} (h : ∀ g, g < F → bt s g = true → (0 : Int32) < so g) :
    ((∀ g, g < F → bt s g = false) ∧ fy_B s so F = -1 ∧ fy_la s so F = (0, 0)) ∨ ((fy_la s so F).1 < F ∧ bt s (fy_la s so F).1 = true ∧ (fy_la s so F).2 = so (fy_la s so F).1 ∧ fy_B s so F = nI (fy_la s so F).1) := by
  rcases fy_la_p F h with ⟨a1, a2⟩ | ⟨a1, a2, a3, a4⟩
  · refine Or.inl ⟨a1, ?_, a2⟩
    unfold fy_B
    rw [a2, if_pos rfl]
  · refine Or.inr ⟨a1, a2, a3, ?_⟩
    unfold fy_B
    rw [if_neg (fun z => by rw [z] at a4; exact absurd a4 (by decide))]
theorem fy_ap_st {sel : Nat → Bool} {P Q : Nat → Nat} {k l : Nat} (hP : ∀ f, P f < 4) (h : k < l) (F : Nat) : fy_ap sel P k F < fy_ap sel Q l F := fy_ap_lt hP (f := 0) h F (Nat.zero_le F)
end
section
/-! X: methods that only read, each against its pure picture -/
section
variable {xfc xtc xF xT xn xev xst : Int32} {sc pc dp fl mo cl rq te pa oc lg att al so : Nat → Int32} {ke : Nat → Int64}
theorem fx_has {post : Int32 → Prop} {x : Int32} {f : Nat} (hf : f < 32) (h : post (fy_bi (bt x f))) : wpX_contains post () x (nI f) := by
  unfold wpX_contains
  cases hb : bt x f
  · rw [hb] at h
    exact br_t ((fy_has x hf).mpr hb) h
  · rw [hb] at h
    exact br_f (fun z => by rw [(fy_has x hf).mp z] at hb; exact absurd hb (by decide)) h
theorem fx_slot {post : Int32 → Prop} {f p : Nat} (h : post (nI (f * 3 + p))) : wpX_slotOf post () (nI f) (nI p) := by
  unfold wpX_slotOf
  rw [← nI_add, ← pk_mul] at h
  exact h
theorem fx_pin {post : Int32 → Prop} {D : Nat → Nat} {f : Nat} (hD : ∀ f, D f < 4) (hf : f < 12) (h : post (nI (D f) - 1)) : wpX_paramIn post () (nI (fy_en D 12)) (nI f) := by
  unfold wpX_paramIn
  have h1 := fy_en_lt (P := D) (n := 12) (fun f _ => hD f)
  have h2 : (4 : Nat) ^ 12 = 16777216 := by decide
  rw [fy_pin (by omega) hf, fy_en_dg (fun f _ => hD f) hf]
  exact h
theorem fx_isF {post : Int32 → Prop} {x : Int32} {F : Nat} (hF : F ≤ 12) (h0 : (x < 0 ∨ nI F ≤ x) → post 0) (h1 : ∀ f, f < F → x = nI f → post 1) : wpX_isFixture post (xfc, xtc, nI F, xT, xn, xev, xst, sc, pc, dp, fl, mo, cl, rq, te, pa, ke, oc, lg, att, al, so) x := by
  unfold wpX_isFixture
  rcases pk_ix x (n := F) (by omega) with z | z | ⟨f, hf, rfl⟩
  · exact br_t z (h0 (Or.inl z))
  · by_cases z0 : x < 0
    · exact br_t z0 (h0 (Or.inl z0))
    · exact br_f z0 (br_t z (h0 (Or.inr z)))
  · exact br_f (nI_pos (by omega)) (br_f (nI_ge hf (by omega)) (h1 f hf rfl))
theorem fx_isI {post : Int32 → Prop} {x : Int32} {n : Nat} (hn : n ≤ 64) (h0 : (x < 0 ∨ nI n ≤ x) → post 0) (h1 : ∀ f, f < n → x = nI f → post 1) : wpX_isItem post (xfc, xtc, xF, xT, nI n, xev, xst, sc, pc, dp, fl, mo, cl, rq, te, pa, ke, oc, lg, att, al, so) x := by
  unfold wpX_isItem
  rcases pk_ix x (n := n) (by omega) with z | z | ⟨f, hf, rfl⟩
  · exact br_t z (h0 (Or.inl z))
  · by_cases z0 : x < 0
    · exact br_t z0 (h0 (Or.inl z0))
    · exact br_f z0 (br_t z (h0 (Or.inr z)))
  · exact br_f (nI_pos (by omega)) (br_f (nI_ge hf (by omega)) (h1 f hf rfl))
theorem fx_vc {post : Int32 → Prop} {F f : Nat} (hF : F ≤ 12) (hp : fy_nb pc F 3) (hf : f < F) (h : post (nI (fy_vl pc f))) : wpX_valueCount post (xfc, xtc, xF, xT, xn, xev, xst, sc, pc, dp, fl, mo, cl, rq, te, pa, ke, oc, lg, att, al, so) (nI f) := by
  unfold wpX_valueCount
  obtain ⟨e, hb⟩ := hp f hf
  have hi : vp_in (nI f) 12 := vp_in_nI (by omega) (by decide)
  have hc : (nI f).toNatClampNeg = f := nI_clamp (by omega)
  unfold fy_vl at h
  by_cases z : fy_n pc f = 0
  · rw [if_pos z] at h
    refine ⟨hi, ?_⟩
    rw [hc]
    refine br_t ?_ h
    rw [e, z]
    decide
  · rw [if_neg z] at h
    refine ⟨hi, ?_⟩
    rw [hc]
    refine br_f ?_ ⟨hi, ?_⟩
    · rw [e]
      exact nI_nlt (b := 1) (by omega) (by omega)
    · rw [e]
      exact h
theorem fx_cl1 {post : Int32 → Prop} {F : Nat} (hF : F ≤ 12) : ∀ (m n : Nat) (x : Int32), m ≤ F → m < n → post (fy_go dp m x) → wX_closureOf_14 post xfc xtc (nI F) xT xn xev xst sc pc dp fl mo cl rq te pa ke oc lg att al so n x (nI m + (-1)) := by
  intro m
  induction m with
  | zero =>
    intro n x _ hn h
    obtain ⟨n, rfl⟩ : ∃ q, n = q + 1 := ⟨n - 1, by omega⟩
    exact br_t (by decide) h
  | succ m ih =>
    intro n x hm hn h
    obtain ⟨n, rfl⟩ : ∃ q, n = q + 1 := ⟨n - 1, by omega⟩
    rw [pk_m1]
    refine br_f (nI_pos (by omega)) (fx_has (by omega) ?_)
    rw [fy_go] at h
    refine fy_bi_z (fun hb => nm_e ?_) (fun hb => ⟨vp_in_nI (by omega) (by decide), nm_e (nm_e ?_)⟩)
    · rw [if_neg (by rw [hb]; decide)] at h
      exact ih n x (by omega) (by omega) h
    · rw [if_pos hb] at h
      rw [nI_clamp (by omega)]
      exact ih n _ (by omega) (by omega) h
theorem fx_m1 (x : Int32) : x - 1 = x + (-1) := Int32.sub_eq_add_neg x 1
theorem fx_clo {post : Int32 → Prop} {F t : Nat} (hF : F ≤ 12) (ht : t < 16) (h : post (fy_go dp F (rq t))) : wpX_closureOf post (xfc, xtc, nI F, xT, xn, xev, xst, sc, pc, dp, fl, mo, cl, rq, te, pa, ke, oc, lg, att, al, so) (nI t) := by
  unfold wpX_closureOf
  refine ⟨vp_in_nI ht (by decide), nm_e (nm_e ⟨F + 1, ?_⟩)⟩
  rw [nI_clamp (by omega), fx_m1]
  exact fx_cl1 hF F (F + 1) _ (Nat.le_refl F) (by omega) h
theorem fx_ct1 {post : Int32 → Prop} {F : Nat} {C : Int32} (hF : F ≤ 12) (hp : fy_nb pc F 3) : ∀ (k f n : Nat), f + k = F → k < n → post (nI (fy_ct C pc F)) → wX_countItems_4 post C xfc xtc (nI F) xT xn xev xst sc pc dp fl mo cl rq te pa ke oc lg att al so n (nI (fy_ct C pc f)) (nI f) := by
  intro k
  induction k with
  | zero =>
    intro f n hk hn h
    obtain ⟨n, rfl⟩ : ∃ q, n = q + 1 := ⟨n - 1, by omega⟩
    have e : f = F := by omega
    subst e
    exact br_t (nI_le (Nat.le_refl _) (by omega)) h
  | succ k ih =>
    intro f n hk hn h
    obtain ⟨n, rfl⟩ : ∃ q, n = q + 1 := ⟨n - 1, by omega⟩
    have hi := ih (f + 1) n (by omega) (by omega) h
    rw [fy_ct] at hi
    refine br_f (nI_ge (by omega) (by omega)) (fx_has (by omega) ?_)
    refine fy_bi_z (fun hb => nm_e ?_) (fun hb => fx_vc hF hp (by omega) (nm_e (nm_e ?_)))
    · rw [if_neg (by rw [hb]; decide)] at hi
      rw [nI_1]
      exact hi
    · rw [if_pos hb] at hi
      rw [nI_1, pk_mul]
      exact hi
theorem fx_ct {post : Int32 → Prop} {F : Nat} {C : Int32} (hF : F ≤ 12) (hp : fy_nb pc F 3) (h : post (nI (fy_ct C pc F))) : wpX_countItems post (xfc, xtc, nI F, xT, xn, xev, xst, sc, pc, dp, fl, mo, cl, rq, te, pa, ke, oc, lg, att, al, so) C := by
  unfold wpX_countItems
  exact ⟨F + 1, fx_ct1 hF hp F 0 (F + 1) (by omega) (by omega) h⟩
def fx_g (dp rq pc : Nat → Int32) (F t : Nat) : Nat := fy_ct (fy_go dp F (rq t)) pc F
theorem fx_ca1 {post : Int32 → Prop} {F T : Nat} (hF : F ≤ 12) (hT : T ≤ 16) (hp : fy_nb pc F 3) : ∀ (k t n : Nat), t + k = T → k < n → post (nI (fy_tt (fx_g dp rq pc F) T)) → wX_countAllItems_4 post xfc xtc (nI F) (nI T) xn xev xst sc pc dp fl mo cl rq te pa ke oc lg att al so n (nI (fy_tt (fx_g dp rq pc F) t)) (nI t) := by
  intro k
  induction k with
  | zero =>
    intro t n hk hn h
    obtain ⟨n, rfl⟩ : ∃ q, n = q + 1 := ⟨n - 1, by omega⟩
    have e : t = T := by omega
    subst e
    exact br_t (nI_le (Nat.le_refl _) (by omega)) h
  | succ k ih =>
    intro t n hk hn h
    obtain ⟨n, rfl⟩ : ∃ q, n = q + 1 := ⟨n - 1, by omega⟩
    have hi := ih (t + 1) n (by omega) (by omega) h
    rw [fy_tt] at hi
    refine br_f (nI_ge (by omega) (by omega)) (fx_clo hF (by omega) (fx_ct hF hp (nm_e (nm_e ?_))))
    rw [nI_1, nI_add]
    exact hi
theorem fx_ca {post : Int32 → Prop} {F T : Nat} (hF : F ≤ 12) (hT : T ≤ 16) (hp : fy_nb pc F 3) (h : post (nI (fy_tt (fx_g dp rq pc F) T))) : wpX_countAllItems post (xfc, xtc, nI F, nI T, xn, xev, xst, sc, pc, dp, fl, mo, cl, rq, te, pa, ke, oc, lg, att, al, so) := by
  unfold wpX_countAllItems
  exact ⟨T + 1, fx_ca1 hF hT hp T 0 (T + 1) (by omega) (by omega) h⟩
theorem fx_as1 {post : Int32 → Prop} {F m : Nat} {C : Int32} (hF : F ≤ 12) (hm : m < 2 ^ 31) (hp : fy_nb pc F 3) : ∀ (k f n : Nat), f + k = F → k < n → post (nI (fy_en (fy_dg C pc F m) F)) → wX_assignment_8 post C xfc xtc (nI F) xT xn xev xst sc pc dp fl mo cl rq te pa ke oc lg att al so n (nI (fy_en (fy_dg C pc F m) f)) (nI (fy_rs C pc m f)) (nI f) := by
  intro k
  induction k with
  | zero =>
    intro f n hk hn h
    obtain ⟨n, rfl⟩ : ∃ q, n = q + 1 := ⟨n - 1, by omega⟩
    have e : f = F := by omega
    subst e
    exact br_t (nI_le (Nat.le_refl _) (by omega)) h
  | succ k ih =>
    intro f n hk hn h
    obtain ⟨n, rfl⟩ : ∃ q, n = q + 1 := ⟨n - 1, by omega⟩
    have hi := ih (f + 1) n (by omega) (by omega) h
    rw [fy_rs, fy_en] at hi
    have hl := fy_en_lt (P := fy_dg C pc F m) (n := f) (fun g _ => fy_dg_4 hp m g)
    have hr := fy_rs_le C pc m f
    obtain ⟨v1, v2⟩ := fy_vl_b hp (show f < F by omega)
    refine br_f (nI_ge (by omega) (by omega)) (fx_has (by omega) ?_)
    refine fy_bi_z (fun hb => nm_e ?_) (fun hb => fx_vc hF hp (by omega) ?_)
    · have e : fy_dg C pc F m f = 0 := by unfold fy_dg; rw [if_neg (by rw [hb]; simp)]
      rw [if_neg (by rw [hb]; decide), e, Nat.zero_mul, Nat.add_zero] at hi
      rw [nI_1]
      exact hi
    · have e : fy_dg C pc F m f = fy_rs C pc m f % fy_vl pc f + 1 := if_pos ⟨by omega, hb⟩
      have e2 := fy_dg_4 (C := C) hp m f
      rw [if_pos hb] at hi
      refine ⟨nI_ne0 v1 (by omega), nm_e ⟨nI_ne0 v1 (by omega), nm_e (nm_e ?_)⟩⟩
      rw [pk_rem (by omega) v1 (by omega), pk_div (by omega) v1 (by omega), nI_1, nI_1, ← e, fy_put hl e2 (by omega)]
      exact hi
theorem fx_as {post : Int32 → Prop} {F m : Nat} {C : Int32} (hF : F ≤ 12) (hm : m < 2 ^ 31) (hp : fy_nb pc F 3) (h : post (nI (fy_en (fy_dg C pc F m) 12))) : wpX_assignment post (xfc, xtc, nI F, xT, xn, xev, xst, sc, pc, dp, fl, mo, cl, rq, te, pa, ke, oc, lg, att, al, so) C (nI m) := by
  unfold wpX_assignment
  rw [fy_en_ext (fun f hf => fy_dg_0 hf) hF] at h
  exact ⟨F + 1, fx_as1 hF hm hp F 0 (F + 1) (by omega) (by omega) h⟩
theorem fx_ap1 {post : Int64 → Prop} {F k0 : Nat} {s : Int32} {D : Nat → Nat} (hF : F ≤ 12) (hD : ∀ f, D f < 4) : ∀ (k f n : Nat), f + k = F → k < n → post (lN (fy_ap (fy_sl sc pc s) D k0 F)) → wX_appendParams_6 post s (nI (fy_en D 12)) xfc xtc (nI F) xT xn xev xst sc pc dp fl mo cl rq te pa ke oc lg att al so n (lN (fy_ap (fy_sl sc pc s) D k0 f)) (nI f) := by
  intro k
  induction k with
  | zero =>
    intro f n hk hn h
    obtain ⟨n, rfl⟩ : ∃ q, n = q + 1 := ⟨n - 1, by omega⟩
    have e : f = F := by omega
    subst e
    exact br_t (nI_le (Nat.le_refl _) (by omega)) h
  | succ k ih =>
    intro f n hk hn h
    obtain ⟨n, rfl⟩ : ∃ q, n = q + 1 := ⟨n - 1, by omega⟩
    have hi := ih (f + 1) n (by omega) (by omega) h
    rw [fy_ap] at hi
    have hv : vp_in (nI f) 12 := vp_in_nI (by omega) (by decide)
    have hc : (nI f).toNatClampNeg = f := nI_clamp (by omega)
    refine br_f (nI_ge (by omega) (by omega)) ⟨hv, ?_⟩
    rw [hc]
    by_cases z1 : sc f = s
    · refine br_t z1 ⟨hv, ?_⟩
      by_cases z2 : pc f < 1
      · have e : fy_sl sc pc s f = false := by unfold fy_sl; rw [decide_eq_false (p := 1 ≤ pc f) (by rw [Int32.not_le]; exact z2), Bool.and_false]
        rw [if_neg (by rw [e]; decide)] at hi
        refine br_t z2 (nm_e ?_)
        rw [nI_1]
        exact hi
      · have e : fy_sl sc pc s f = true := by unfold fy_sl; rw [decide_eq_true z1, decide_eq_true (p := 1 ≤ pc f) (Int32.not_lt.mp z2)]; rfl
        rw [if_pos e] at hi
        refine br_f z2 (fx_pin hD (by omega) (nm_e (nm_e ?_)))
        rw [nI_1, show nI (D f) - 1 + 1 = nI (D f) by grind, nI_l (by have := hD f; omega), fy_shL2, fy_orL _ _ (hD f)]
        exact hi
    · have e : fy_sl sc pc s f = false := by unfold fy_sl; rw [decide_eq_false z1, Bool.false_and]
      rw [if_neg (by rw [e]; decide)] at hi
      refine br_f z1 (nm_e ?_)
      rw [nI_1]
      exact hi
theorem fx_ap {post : Int64 → Prop} {F k0 : Nat} {s : Int32} {D : Nat → Nat} (hF : F ≤ 12) (hD : ∀ f, D f < 4) (h : post (lN (fy_ap (fy_sl sc pc s) D k0 F))) : wpX_appendParams post (xfc, xtc, nI F, xT, xn, xev, xst, sc, pc, dp, fl, mo, cl, rq, te, pa, ke, oc, lg, att, al, so) (lN k0) s (nI (fy_en D 12)) := by
  unfold wpX_appendParams
  exact ⟨F + 1, fx_ap1 hF hD F 0 (F + 1) (by omega) (by omega) h⟩
theorem fx_key {post : Int64 → Prop} {F T t : Nat} {D : Nat → Nat} (hF : F ≤ 12) (hT : T ≤ 16) (ht : t < T) (hm : fy_nb mo T 3) (hc : fy_nb cl T 3) (hD : ∀ f, D f < 4) (h : post (lN (fy_ky sc pc F (fy_n mo t) (fy_n cl t) t D))) : wpX_sortKey post (xfc, xtc, nI F, xT, xn, xev, xst, sc, pc, dp, fl, mo, cl, rq, te, pa, ke, oc, lg, att, al, so) (nI t) (nI (fy_en D 12)) := by
  unfold wpX_sortKey
  obtain ⟨e1, b1⟩ := hm t ht
  obtain ⟨e2, b2⟩ := hc t ht
  have hv : vp_in (nI t) 16 := vp_in_nI (by omega) (by decide)
  have hcl : (nI t).toNatClampNeg = t := nI_clamp (by omega)
  refine fx_ap (k0 := 0) hF hD ⟨hv, nm_e ?_⟩
  rw [hcl, e1, nI_l (n := fy_n mo t) (by omega), fy_shL2, fy_orL _ _ (by omega)]
  refine fx_ap hF hD ⟨hv, nm_e ?_⟩
  rw [e2, nI_l (n := fy_n cl t) (by omega), fy_shL2, fy_orL _ _ (by omega)]
  refine fx_ap hF hD (nm_e ?_)
  rw [nI_l (n := t) (by omega), fy_shL4, fy_orL4 _ _ (by omega)]
  exact fx_ap hF hD h
end
end
section
/-! X: collecting and sorting -/
section
variable {xfc xtc xF xT xn xev xst : Int32} {sc pc dp fl mo cl rq te pa oc lg att al so : Nat → Int32} {ke : Nat → Int64}
/-- the test, the digits and the key of slot j -/
def fx_tj (dp rq pc : Nat → Int32) (F T j : Nat) : Nat := fy_tf (fx_g dp rq pc F) T j
def fx_dj (dp rq pc : Nat → Int32) (F T j : Nat) : Nat → Nat := fy_dg (fy_go dp F (rq (fx_tj dp rq pc F T j))) pc F (j - fy_tt (fx_g dp rq pc F) (fx_tj dp rq pc F T j))
def fx_kj (sc pc dp mo cl rq : Nat → Int32) (F T j : Nat) : Nat := fy_ky sc pc F (fy_n mo (fx_tj dp rq pc F T j)) (fy_n cl (fx_tj dp rq pc F T j)) (fx_tj dp rq pc F T j) (fx_dj dp rq pc F T j)
theorem fx_tj_e {dp rq pc : Nat → Int32} {F T t q : Nat} (ht : t < T) (hq : q < fx_g dp rq pc F t) : fx_tj dp rq pc F T (fy_tt (fx_g dp rq pc F) t + q) = t := fy_tf_e T ht hq
theorem fx_dj_e {dp rq pc : Nat → Int32} {F T t q : Nat} (ht : t < T) (hq : q < fx_g dp rq pc F t) : fx_dj dp rq pc F T (fy_tt (fx_g dp rq pc F) t + q) = fy_dg (fy_go dp F (rq t)) pc F q := by
  unfold fx_dj
  rw [fx_tj_e ht hq, Nat.add_sub_cancel_left]
theorem fx_kj_e {sc pc dp mo cl rq : Nat → Int32} {F T t q : Nat} (ht : t < T) (hq : q < fx_g dp rq pc F t) : fx_kj sc pc dp mo cl rq F T (fy_tt (fx_g dp rq pc F) t + q) = fy_ky sc pc F (fy_n mo t) (fy_n cl t) t (fy_dg (fy_go dp F (rq t)) pc F q) := by
  unfold fx_kj
  rw [fx_tj_e ht hq, fx_dj_e ht hq]
theorem fx_dj_4 {dp rq pc : Nat → Int32} {F T : Nat} (hp : fy_nb pc F 3) (j f : Nat) : fx_dj dp rq pc F T j f < 4 := fy_dg_4 hp _ f
theorem fx_dj_0 {dp rq pc : Nat → Int32} {F T j f : Nat} (h : F ≤ f) : fx_dj dp rq pc F T j f = 0 := fy_dg_0 h
/-- the first m slots hold what they ought to -/
def fx_col (sc pc dp mo cl rq : Nat → Int32) (F T m : Nat) (te pa : Nat → Int32) (ke : Nat → Int64) : Prop := ∀ j, j < m → te j = nI (fx_tj dp rq pc F T j) ∧ pa j = nI (fy_en (fx_dj dp rq pc F T j) 12) ∧ ke j = lN (fx_kj sc pc dp mo cl rq F T j)
theorem fx_col_s {F T m : Nat} (h : fx_col sc pc dp mo cl rq F T m te pa ke) {x y : Int32} {z : Int64} (h1 : x = nI (fx_tj dp rq pc F T m)) (h2 : y = nI (fy_en (fx_dj dp rq pc F T m) 12)) (h3 : z = lN (fx_kj sc pc dp mo cl rq F T m)) : fx_col sc pc dp mo cl rq F T (m + 1) (upd te m x) (upd pa m y) (vp_updL ke m z) := by
  intro j hj
  by_cases e : j = m
  · subst e
    rw [pk_us, pk_us, pk_uLs]
    exact ⟨h1, h2, h3⟩
  · rw [pk_un e, pk_un e, pk_uLn e]
    exact h j (by omega)
theorem fx_co2 {post : St2 → Prop} {J : Int32 → Int32 → (Nat → Int32) → (Nat → Int32) → (Nat → Int32) → (Nat → Int32) → (Nat → Int32) → (Nat → Int32) → (Nat → Int32) → (Nat → Int32) → (Nat → Int32) → (Nat → Int64) → (Nat → Int32) → (Nat → Int32) → (Nat → Int32) → (Nat → Int32) → (Nat → Int32) → Prop} {F T t : Nat} (hF : F ≤ 12) (hT : T ≤ 16) (ht : t < T) (hp : fy_nb pc F 3) (hm : fy_nb mo T 3) (hc : fy_nb cl T 3) (hN : fy_tt (fx_g dp rq pc F) (t + 1) ≤ 64)
    (hJ : ∀ (te pa : Nat → Int32) (ke : Nat → Int64), fx_col sc pc dp mo cl rq F T (fy_tt (fx_g dp rq pc F) (t + 1)) te pa ke → J (nI (t + 1)) (nI (fy_tt (fx_g dp rq pc F) (t + 1))) sc pc dp fl mo cl rq te pa ke oc lg att al so) :
    ∀ (k q n : Nat) (te pa : Nat → Int32) (ke : Nat → Int64), q + k = fx_g dp rq pc F t → k < n → fx_col sc pc dp mo cl rq F T (fy_tt (fx_g dp rq pc F) t + q) te pa ke →
    wX_collectItems_30 post J (nI t) (fy_go dp F (rq t)) (nI (fx_g dp rq pc F t)) xfc xtc (nI F) (nI T) xev xst n (nI q) (nI (fy_tt (fx_g dp rq pc F) t + q)) sc pc dp fl mo cl rq te pa ke oc lg att al so := by
  intro k
  induction k with
  | zero =>
    intro q n te pa ke hk hn h
    obtain ⟨n, rfl⟩ : ∃ r, n = r + 1 := ⟨n - 1, by omega⟩
    have e : q = fx_g dp rq pc F t := by omega
    subst e
    have hg : fx_g dp rq pc F t ≤ 531441 := Nat.le_trans (fy_ct_b hp F (Nat.le_refl F)).2 (fy_3p hF)
    refine br_t (nI_le (Nat.le_refl _) (by omega)) (nm_e ?_)
    rw [nI_1]
    exact hJ te pa ke h
  | succ k ih =>
    intro q n te pa ke hk hn h
    obtain ⟨n, rfl⟩ : ∃ r, n = r + 1 := ⟨n - 1, by omega⟩
    have hg : fx_g dp rq pc F t ≤ 531441 := Nat.le_trans (fy_ct_b hp F (Nat.le_refl F)).2 (fy_3p hF)
    have hq : q < fx_g dp rq pc F t := by omega
    have hN2 : fy_tt (fx_g dp rq pc F) (t + 1) = fy_tt (fx_g dp rq pc F) t + fx_g dp rq pc F t := rfl
    have hv : vp_in (nI (fy_tt (fx_g dp rq pc F) t + q)) 64 := vp_in_nI (by omega) (by decide)
    have hcl : (nI (fy_tt (fx_g dp rq pc F) t + q)).toNatClampNeg = fy_tt (fx_g dp rq pc F) t + q := nI_clamp (by omega)
    refine br_f (nI_ge hq (by omega)) (fx_as hF (by omega) hp ⟨hv, nm_e ⟨hv, nm_e ?_⟩⟩)
    refine fx_key hF hT ht hm hc (fun f => fy_dg_4 hp q f) ⟨hv, nm_e (nm_e (nm_e ?_))⟩
    rw [hcl, nI_1, nI_1]
    refine ih (q + 1) n _ _ _ (by omega) (by omega) (fx_col_s h ?_ ?_ ?_)
    · rw [fx_tj_e ht hq]
    · rw [fx_dj_e ht hq]
    · rw [fx_kj_e ht hq]
theorem fx_co1 {post : St2 → Prop} {F T : Nat} (hF : F ≤ 12) (hT : T ≤ 16) (hp : fy_nb pc F 3) (hm : fy_nb mo T 3) (hc : fy_nb cl T 3) (hN : fy_tt (fx_g dp rq pc F) T ≤ 64)
    (hJ : ∀ (te pa : Nat → Int32) (ke : Nat → Int64), fx_col sc pc dp mo cl rq F T (fy_tt (fx_g dp rq pc F) T) te pa ke → post (xfc, xtc, nI F, nI T, nI (fy_tt (fx_g dp rq pc F) T), xev, xst, sc, pc, dp, fl, mo, cl, rq, te, pa, ke, oc, lg, att, al, so)) :
    ∀ (k t n : Nat) (te pa : Nat → Int32) (ke : Nat → Int64), t + k = T → k < n → fx_col sc pc dp mo cl rq F T (fy_tt (fx_g dp rq pc F) t) te pa ke →
    wX_collectItems_7 post xfc xtc (nI F) (nI T) xev xst n (nI t) (nI (fy_tt (fx_g dp rq pc F) t)) sc pc dp fl mo cl rq te pa ke oc lg att al so := by
  intro k
  induction k with
  | zero =>
    intro t n te pa ke hk hn h
    obtain ⟨n, rfl⟩ : ∃ r, n = r + 1 := ⟨n - 1, by omega⟩
    have e : t = T := by omega
    subst e
    exact br_t (nI_le (Nat.le_refl _) (by omega)) (hJ te pa ke h)
  | succ k ih =>
    intro t n te pa ke hk hn h
    obtain ⟨n, rfl⟩ : ∃ r, n = r + 1 := ⟨n - 1, by omega⟩
    have hN2 := fy_tt_m (g := fx_g dp rq pc F) (show t + 1 ≤ T by omega)
    refine br_f (nI_ge (by omega) (by omega)) (fx_clo hF (by omega) (fx_ct hF hp ⟨fx_g dp rq pc F t + 1, ?_⟩))
    exact fx_co2 hF hT (by omega) hp hm hc (by omega) (fun te pa ke h2 => ih (t + 1) n te pa ke (by omega) (by omega) h2) (fx_g dp rq pc F t) 0 _ te pa ke (by omega) (by omega) h
theorem fx_co {post : St2 → Prop} {F T : Nat} (hF : F ≤ 12) (hT : T ≤ 16) (hp : fy_nb pc F 3) (hm : fy_nb mo T 3) (hc : fy_nb cl T 3) (hN : fy_tt (fx_g dp rq pc F) T ≤ 64)
    (hJ : ∀ (te pa : Nat → Int32) (ke : Nat → Int64), fx_col sc pc dp mo cl rq F T (fy_tt (fx_g dp rq pc F) T) te pa ke → post (xfc, xtc, nI F, nI T, nI (fy_tt (fx_g dp rq pc F) T), xev, xst, sc, pc, dp, fl, mo, cl, rq, te, pa, ke, oc, lg, att, al, so)) :
    wpX_collectItems post (xfc, xtc, nI F, nI T, xn, xev, xst, sc, pc, dp, fl, mo, cl, rq, te, pa, ke, oc, lg, att, al, so) := by
  unfold wpX_collectItems
  exact ⟨T + 1, fx_co1 hF hT hp hm hc hN hJ T 0 (T + 1) te pa ke (by omega) (by omega) (fun j hj => absurd hj (Nat.not_lt_zero j))⟩
end
end
section
/-! X: sorting by insertion -/
section
variable {xfc xtc xF xT xn xev xst : Int32} {sc pc dp fl mo cl rq te pa oc lg att al so : Nat → Int32} {ke : Nat → Int64}
theorem fx_so2 {post : St2 → Prop} {J : Int32 → (Nat → Int32) → (Nat → Int32) → (Nat → Int32) → (Nat → Int32) → (Nat → Int32) → (Nat → Int32) → (Nat → Int32) → (Nat → Int32) → (Nat → Int32) → (Nat → Int64) → (Nat → Int32) → (Nat → Int32) → (Nat → Int32) → (Nat → Int32) → (Nat → Int32) → Prop}
    {te0 pa0 : Nat → Int32} {ke0 : Nat → Int64} {K s : Nat → Nat} {m i : Nat} (hm : m ≤ 64) (hi : i < m) (hs : fy_So K i s) (hk : ∀ j, j < m → ke0 j = lN (K j) ∧ K j < 2 ^ 63)
    (hJ : ∀ (p : Nat) (te pa : Nat → Int32) (ke : Nat → Int64), fy_So K (i + 1) (fy_in s i p) → (∀ q, q < i + 1 → te q = te0 (fy_in s i p q)) ∧ (∀ q, i + 1 ≤ q → te q = te0 q) → (∀ q, q < i + 1 → pa q = pa0 (fy_in s i p q)) ∧ (∀ q, i + 1 ≤ q → pa q = pa0 q) → (∀ q, q < i + 1 → ke q = ke0 (fy_in s i p q)) ∧ (∀ q, i + 1 ≤ q → ke q = ke0 q) → J (nI (i + 1)) sc pc dp fl mo cl rq te pa ke oc lg att al so) :
    ∀ (p n : Nat) (te pa : Nat → Int32) (ke : Nat → Int64), p ≤ i → p < n → fy_iv te te0 s p i → fy_iv pa pa0 s p i → fy_iv ke ke0 s p i → (∀ q, p ≤ q → q < i → K i < K (s q)) →
    wX_sortItems_35 post J (nI i) (te0 i) (pa0 i) (ke0 i) xfc xtc xF xT (nI m) xev xst n (nI p) sc pc dp fl mo cl rq te pa ke oc lg att al so := by
  have fin : ∀ (p : Nat) (te pa : Nat → Int32) (ke : Nat → Int64), p ≤ i → fy_iv te te0 s p i → fy_iv pa pa0 s p i → fy_iv ke ke0 s p i → (∀ q, p ≤ q → q < i → K i < K (s q)) → (p = 0 ∨ K (s (p - 1)) ≤ K i) →
      J (nI i + 1) sc pc dp fl mo cl rq (upd te p (te0 i)) (upd pa p (pa0 i)) (vp_updL ke p (ke0 i)) oc lg att al so := by
    intro p te pa ke hp h1 h2 h3 h4 h5
    rw [nI_1]
    exact hJ p _ _ _ (fy_So_in hs hp h5 h4) (fy_iv_e h1 hp pk_us (fun q hq => pk_un hq)) (fy_iv_e h2 hp pk_us (fun q hq => pk_un hq)) (fy_iv_e h3 hp pk_uLs (fun q hq => pk_uLn hq))
  intro p
  induction p with
  | zero =>
    intro n te pa ke hp hn h1 h2 h3 h4
    obtain ⟨n, rfl⟩ : ∃ r, n = r + 1 := ⟨n - 1, by omega⟩
    have hv : vp_in (nI 0) 64 := vp_in_nI (by omega) (by decide)
    have F := fin 0 te pa ke hp h1 h2 h3 h4 (Or.inl rfl)
    refine br_t (by decide) ?_
    unfold wX_sortItems_109
    refine ⟨hv, nm_e ⟨hv, nm_e ⟨hv, nm_e (nm_e ?_)⟩⟩⟩
    rw [nI_clamp (by decide)]
    exact F
  | succ p ih =>
    intro n te pa ke hp hn h1 h2 h3 h4
    obtain ⟨n, rfl⟩ : ∃ r, n = r + 1 := ⟨n - 1, by omega⟩
    have hv : vp_in (nI (p + 1)) 64 := vp_in_nI (by omega) (by decide)
    have hv2 : vp_in (nI p) 64 := vp_in_nI (by omega) (by decide)
    have hc : (nI (p + 1)).toNatClampNeg = p + 1 := nI_clamp (by omega)
    have hc2 : (nI p).toNatClampNeg = p := nI_clamp (by omega)
    obtain ⟨ki, bi⟩ := hk i hi
    have hsp : s p < i := hs.1 p (by omega)
    obtain ⟨kp, bp⟩ := hk (s p) (by omega)
    have kep : ke p = lN (K (s p)) := by rw [h3.1 p (by omega), kp]
    refine br_f (nI_nle (by omega) (by omega)) ?_
    rw [nI_pred, hc2, kep, ki]
    refine ⟨hv2, ?_⟩
    by_cases z : K (s p) ≤ K i
    · refine br_t ((pk_lLE bp bi).mpr z) ?_
      have F := fin (p + 1) te pa ke hp h1 h2 h3 h4 (Or.inr (by rw [Nat.add_sub_cancel]; exact z))
      unfold wX_sortItems_109
      refine ⟨hv, nm_e ⟨hv, nm_e ⟨hv, nm_e (nm_e ?_)⟩⟩⟩
      rw [hc, ← ki]
      exact F
    · refine br_f (fun h => z ((pk_lLE bp bi).mp h)) ?_
      refine ⟨hv2, hv, nm_e ⟨hv2, hv, nm_e ⟨hv2, hv, nm_e (nm_e ?_)⟩⟩⟩
      rw [hc, pk_m1, ← ki]
      refine ih n _ _ _ (by omega) (by omega) (fy_iv_s h1 hp pk_us (fun q hq => pk_un hq)) (fy_iv_s h2 hp pk_us (fun q hq => pk_un hq)) (fy_iv_s h3 hp (by rw [pk_uLs, kep]) (fun q hq => pk_uLn hq)) (fun q hq hqi => ?_)
      by_cases e : q = p
      · subst e
        omega
      · exact h4 q (by omega) hqi
theorem fx_so1 {post : St2 → Prop} {te0 pa0 : Nat → Int32} {ke0 : Nat → Int64} {K : Nat → Nat} {m : Nat} (hm : m ≤ 64) (hk : ∀ j, j < m → ke0 j = lN (K j) ∧ K j < 2 ^ 63)
    (hJ : ∀ (s : Nat → Nat) (te pa : Nat → Int32) (ke : Nat → Int64), fy_So K m s → (∀ q, q < m → te q = te0 (s q)) → (∀ q, q < m → pa q = pa0 (s q)) → post (xfc, xtc, xF, xT, nI m, xev, xst, sc, pc, dp, fl, mo, cl, rq, te, pa, ke, oc, lg, att, al, so)) :
    ∀ (k i n : Nat) (s : Nat → Nat) (te pa : Nat → Int32) (ke : Nat → Int64), i + k = m → 1 ≤ i → k < n → fy_So K i s → (∀ q, q < i → te q = te0 (s q)) ∧ (∀ q, i ≤ q → te q = te0 q) → (∀ q, q < i → pa q = pa0 (s q)) ∧ (∀ q, i ≤ q → pa q = pa0 q) → (∀ q, q < i → ke q = ke0 (s q)) ∧ (∀ q, i ≤ q → ke q = ke0 q) →
    wX_sortItems_2 post xfc xtc xF xT (nI m) xev xst n (nI i) sc pc dp fl mo cl rq te pa ke oc lg att al so := by
  intro k
  induction k with
  | zero =>
    intro i n s te pa ke hi h0 hn hs h1 h2 h3
    obtain ⟨n, rfl⟩ : ∃ r, n = r + 1 := ⟨n - 1, by omega⟩
    have e : i = m := by omega
    subst e
    exact br_t (nI_le (Nat.le_refl _) (by omega)) (hJ s te pa ke hs h1.1 h2.1)
  | succ k ih =>
    intro i n s te pa ke hi h0 hn hs h1 h2 h3
    obtain ⟨n, rfl⟩ : ∃ r, n = r + 1 := ⟨n - 1, by omega⟩
    have hv : vp_in (nI i) 64 := vp_in_nI (by omega) (by decide)
    have hc : (nI i).toNatClampNeg = i := nI_clamp (by omega)
    refine br_f (nI_ge (by omega) (by omega)) ⟨hv, nm_e ⟨hv, nm_e ⟨hv, nm_e ⟨i + 1, ?_⟩⟩⟩⟩
    rw [hc, h1.2 i (Nat.le_refl i), h2.2 i (Nat.le_refl i), h3.2 i (Nat.le_refl i)]
    exact fx_so2 hm (by omega) hs hk (fun p te pa ke a1 a2 a3 a4 => ih (i + 1) n (fy_in s i p) te pa ke (by omega) (by omega) (by omega) a1 a2 a3 a4) i (i + 1) te pa ke (Nat.le_refl i) (by omega) (fy_iv_0 h1.1 h1.2) (fy_iv_0 h2.1 h2.2) (fy_iv_0 h3.1 h3.2) (fun q h4 h5 => by omega)
theorem fx_so {post : St2 → Prop} {K : Nat → Nat} {m : Nat} (hm : m ≤ 64) (hk : ∀ j, j < m → ke j = lN (K j) ∧ K j < 2 ^ 63)
    (hJ : ∀ (s : Nat → Nat) (te1 pa1 : Nat → Int32) (ke1 : Nat → Int64), fy_So K m s → (∀ q, q < m → te1 q = te (s q)) → (∀ q, q < m → pa1 q = pa (s q)) → post (xfc, xtc, xF, xT, nI m, xev, xst, sc, pc, dp, fl, mo, cl, rq, te1, pa1, ke1, oc, lg, att, al, so)) :
    wpX_sortItems post (xfc, xtc, xF, xT, nI m, xev, xst, sc, pc, dp, fl, mo, cl, rq, te, pa, ke, oc, lg, att, al, so) := by
  unfold wpX_sortItems
  rcases Nat.eq_zero_or_pos m with z | z
  · subst z
    exact ⟨1, br_t (by decide) (hJ id te pa ke (fy_So_0 K) (fun _ _ => rfl) (fun _ _ => rfl))⟩
  · exact ⟨m + 1, fx_so1 hm hk hJ (m - 1) 1 (m + 1) id te pa ke (by omega) (by omega) (by omega) (fy_So_1 K) ⟨fun _ _ => rfl, fun _ _ => rfl⟩ ⟨fun _ _ => rfl, fun _ _ => rfl⟩ ⟨fun _ _ => rfl, fun _ _ => rfl⟩⟩
end
end
section
/-! X: execution -/
section
variable {xfc xtc xF xT xn xev xst : Int32} {sc pc dp fl mo cl rq te pa oc lg att al so : Nat → Int32} {ke : Nat → Int64}
theorem fx_log {post : St2 → Prop} {e : fy_E} {kind p : Int32} {i f : Nat} (he : e.1 < 100000) (h : post (xfc, xtc, xF, xT, xn, nI (fy_lo kind i f p e).1, nI (fy_lo kind i f p e).2.2.2.1, sc, pc, dp, fl, mo, cl, rq, te, pa, ke, oc, (fy_lo kind i f p e).2.1, (fy_lo kind i f p e).2.2.1, (fy_lo kind i f p e).2.2.2.2.1, (fy_lo kind i f p e).2.2.2.2.2)) : wpX_logEvent post (xfc, xtc, xF, xT, xn, nI e.1, nI e.2.2.2.1, sc, pc, dp, fl, mo, cl, rq, te, pa, ke, oc, e.2.1, e.2.2.1, e.2.2.2.2.1, e.2.2.2.2.2) kind (nI i) (nI f) p := by
  unfold wpX_logEvent
  unfold fy_lo at h
  dsimp only at h
  by_cases z : e.1 < 256
  · rw [if_pos z] at h
    refine br_f (nI_ge (b := 256) z (by decide)) ⟨vp_in_nI z (by decide), nm_e (nm_e ?_)⟩
    rw [nI_clamp (by omega), nI_1]
    exact h
  · rw [if_neg z] at h
    refine br_t (nI_le (a := 256) (by omega) (by omega)) (nm_e ?_)
    rw [nI_1]
    exact h
theorem fx_log2 {post : St2 → Prop} {e : fy_E} {kind p : Int32} {i f : Nat} (he : e.1 < 100000) (h : post (xfc, xtc, xF, xT, xn, nI (fy_lo kind i f p e).1, nI (fy_lo kind i f p e).2.2.2.1, sc, pc, dp, fl, mo, cl, rq, te, pa, ke, oc, (fy_lo kind i f p e).2.1, (fy_lo kind i f p e).2.2.1, (fy_lo kind i f p e).2.2.2.2.1, (fy_lo kind i f p e).2.2.2.2.2)) : wpX_logEvent_2 post (xfc, xtc, xF, xT, xn, nI e.1, nI e.2.2.2.1, sc, pc, dp, fl, mo, cl, rq, te, pa, ke, oc, e.2.1, e.2.2.1, e.2.2.2.2.1, e.2.2.2.2.2) kind (nI i) (nI f) p := by
  unfold wpX_logEvent_2
  unfold fy_lo at h
  dsimp only at h
  by_cases z : e.1 < 256
  · rw [if_pos z] at h
    refine br_f (nI_ge (b := 256) z (by decide)) ⟨vp_in_nI z (by decide), nm_e (nm_e ?_)⟩
    rw [nI_clamp (by omega), nI_1]
    exact h
  · rw [if_neg z] at h
    refine br_t (nI_le (a := 256) (by omega) (by omega)) (nm_e ?_)
    rw [nI_1]
    exact h
theorem fx_suf {post : Int32 → St2 → Prop} {e : fy_E} {i f p : Nat} (h1 : e.1 < 100000) (h2 : e.2.2.2.1 < 100000) (hf : f < 12) (hp : p < 3) (h : post (fy_bi (fy_sf fl i f p e).2) (xfc, xtc, xF, xT, xn, nI ((fy_sf fl i f p e).1).1, nI ((fy_sf fl i f p e).1).2.2.2.1, sc, pc, dp, fl, mo, cl, rq, te, pa, ke, oc, ((fy_sf fl i f p e).1).2.1, ((fy_sf fl i f p e).1).2.2.1, ((fy_sf fl i f p e).1).2.2.2.2.1, ((fy_sf fl i f p e).1).2.2.2.2.2)) : wpX_setUpFixture post (xfc, xtc, xF, xT, xn, nI e.1, nI e.2.2.2.1, sc, pc, dp, fl, mo, cl, rq, te, pa, ke, oc, e.2.1, e.2.2.1, e.2.2.2.2.1, e.2.2.2.2.2) (nI i) (nI f) (nI p) := by
  unfold wpX_setUpFixture
  have hv : vp_in (nI (f * 3 + p)) 36 := vp_in_nI (by omega) (by decide)
  have hc : (nI (f * 3 + p)).toNatClampNeg = f * 3 + p := nI_clamp (by omega)
  have hv2 : vp_in (nI f) 12 := vp_in_nI hf (by decide)
  have hc2 : (nI f).toNatClampNeg = f := nI_clamp (by omega)
  refine fx_slot ⟨hv, hv, nm_e ⟨hv, hv, ?_⟩⟩
  rw [hc, pk_us]
  unfold fy_sf at h
  by_cases z : e.2.2.1 (f * 3 + p) + 1 = fl (f * 3 + p)
  · rw [if_pos z] at h
    refine br_t z ?_
    refine fx_log (e := fy_at f p e) h1 ?_
    exact h
  · rw [if_neg z] at h
    refine br_f z ?_
    refine fx_log (e := fy_at f p e) h1 ?_
    refine nm_e ⟨hv2, nm_e ⟨hv2, nm_e ?_⟩⟩
    rw [hc2, nI_1]
    exact h
theorem fx_su1 {post : Int32 → St2 → Prop} {F i : Nat} {D : Nat → Nat} (hF : F ≤ 12) (hi : i < 64) (hD : ∀ f, D f < 4) (hpa : pa i = nI (fy_en D 12)) : ∀ (k f n b c : Nat) (e : fy_E), f + k = F → k < n → fy_ok F b c e → b + k < 100000 → c + k < 100000 → post (fy_bi (fy_su fl D i k f e).2) (xfc, xtc, nI F, xT, xn, nI ((fy_su fl D i k f e).1).1, nI ((fy_su fl D i k f e).1).2.2.2.1, sc, pc, dp, fl, mo, cl, rq, te, pa, ke, oc, ((fy_su fl D i k f e).1).2.1, ((fy_su fl D i k f e).1).2.2.1, ((fy_su fl D i k f e).1).2.2.2.2.1, ((fy_su fl D i k f e).1).2.2.2.2.2) →
    wX_setUpItem_2 post (nI i) n (nI f) xfc xtc (nI F) xT xn (nI e.1) (nI e.2.2.2.1) sc pc dp fl mo cl rq te pa ke oc (e.2.1) (e.2.2.1) (e.2.2.2.2.1) (e.2.2.2.2.2) := by
  intro k
  induction k with
  | zero =>
    intro f n b c e hk hn ho hb hc h
    obtain ⟨n, rfl⟩ : ∃ r, n = r + 1 := ⟨n - 1, by omega⟩
    have e : f = F := by omega
    subst e
    exact br_t (nI_le (Nat.le_refl _) (by omega)) h
  | succ k ih =>
    intro f n b c e hk hn ho hb hc h
    obtain ⟨n, rfl⟩ : ∃ r, n = r + 1 := ⟨n - 1, by omega⟩
    have hv : vp_in (nI i) 64 := vp_in_nI (by omega) (by decide)
    have hcl : (nI i).toNatClampNeg = i := nI_clamp (by omega)
    have hv2 : vp_in (nI f) 12 := vp_in_nI (by omega) (by decide)
    have hc2 : (nI f).toNatClampNeg = f := nI_clamp (by omega)
    have hd := hD f
    rw [fy_su] at h
    refine br_f (nI_ge (by omega) (by omega)) ⟨hv, ?_⟩
    rw [hcl, hpa]
    refine fx_pin hD (by omega) (fy_ge (D f) hd (fun z => nm_e ?_) (fun p hp hp3 => ⟨hv2, ?_⟩))
    · rw [if_pos (Or.inl z)] at h
      rw [nI_1]
      exact ih (f + 1) n b c e (by omega) (by omega) ho (by omega) (by omega) h
    · rw [hc2, hp, fy_ms]
      rw [hp, Nat.add_sub_cancel] at h
      by_cases z : e.2.2.2.2.1 f = nI p
      · rw [if_pos (Or.inr z)] at h
        refine br_t z (nm_e ?_)
        rw [nI_1]
        exact ih (f + 1) n b c e (by omega) (by omega) ho (by omega) (by omega) h
      · rw [if_neg (fun q => q.elim (fun w => absurd w (Nat.succ_ne_zero p)) z)] at h
        have ho2 := fy_ok_sf (fl := fl) (i := i) (f := f) (p := p) ho hp3
        refine br_f z (fx_suf (by have := ho.1; omega) (by have := ho.2.1; omega) (by omega) hp3 ?_)
        refine fy_bi_z (fun y => ?_) (fun y => nm_e ?_)
        · rw [if_pos y] at h
          exact h
        · rw [if_neg (by rw [y]; decide)] at h
          rw [nI_1]
          exact ih (f + 1) n (b + 1) (c + 1) _ (by omega) (by omega) ho2 (by omega) (by omega) h
theorem fx_su {post : Int32 → St2 → Prop} {F i b c : Nat} {D : Nat → Nat} {e : fy_E} (hF : F ≤ 12) (hi : i < 64) (hD : ∀ f, D f < 4) (hpa : pa i = nI (fy_en D 12)) (ho : fy_ok F b c e) (hb : b < 50000) (hc : c < 50000) (h : post (fy_bi (fy_su fl D i F 0 e).2) (xfc, xtc, nI F, xT, xn, nI ((fy_su fl D i F 0 e).1).1, nI ((fy_su fl D i F 0 e).1).2.2.2.1, sc, pc, dp, fl, mo, cl, rq, te, pa, ke, oc, ((fy_su fl D i F 0 e).1).2.1, ((fy_su fl D i F 0 e).1).2.2.1, ((fy_su fl D i F 0 e).1).2.2.2.2.1, ((fy_su fl D i F 0 e).1).2.2.2.2.2)) : wpX_setUpItem post (xfc, xtc, nI F, xT, xn, nI e.1, nI e.2.2.2.1, sc, pc, dp, fl, mo, cl, rq, te, pa, ke, oc, e.2.1, e.2.2.1, e.2.2.2.2.1, e.2.2.2.2.2) (nI i) := by
  unfold wpX_setUpItem
  exact ⟨F + 1, fx_su1 hF hi hD hpa F 0 (F + 1) b c e (by omega) (by omega) ho (by omega) (by omega) h⟩
theorem fx_la1 {post : Int32 → Prop} {F : Nat} {s : Int32} (hF : F ≤ 12) : ∀ (k g n : Nat), g + k = F → k < n → post (nI (fy_la s so F).1) → wX_latestOf_7 post s xfc xtc (nI F) xT xn xev xst sc pc dp fl mo cl rq te pa ke oc lg att al so n (nI (fy_la s so g).1) (fy_la s so g).2 (nI g) := by
  intro k
  induction k with
  | zero =>
    intro g n hk hn h
    obtain ⟨n, rfl⟩ : ∃ r, n = r + 1 := ⟨n - 1, by omega⟩
    have e : g = F := by omega
    subst e
    exact br_t (nI_le (Nat.le_refl _) (by omega)) h
  | succ k ih =>
    intro g n hk hn h
    obtain ⟨n, rfl⟩ : ∃ r, n = r + 1 := ⟨n - 1, by omega⟩
    have hi := ih (g + 1) n (by omega) (by omega) h
    have hv2 : vp_in (nI g) 12 := vp_in_nI (by omega) (by decide)
    have hc2 : (nI g).toNatClampNeg = g := nI_clamp (by omega)
    rw [fy_la] at hi
    refine br_f (nI_ge (by omega) (by omega)) (fx_has (by omega) (fy_bi_z (fun y => nm_e ?_) (fun y => ⟨hv2, ?_⟩)))
    · rw [if_neg (by rw [y]; simp)] at hi
      rw [nI_1]
      exact hi
    · rw [hc2]
      by_cases z : (fy_la s so g).2 < so g
      · rw [if_pos ⟨y, z⟩] at hi
        refine br_f (Int32.not_le.mpr z) ⟨hv2, nm_e (nm_e ?_)⟩
        rw [nI_1]
        exact hi
      · rw [if_neg (fun q => z q.2)] at hi
        refine br_t (Int32.not_lt.mp z) (nm_e ?_)
        rw [nI_1]
        exact hi
theorem fx_la {post : Int32 → Prop} {F : Nat} {s : Int32} (hF : F ≤ 12) (h : post (nI (fy_la s so F).1)) : wpX_latestOf post (xfc, xtc, nI F, xT, xn, xev, xst, sc, pc, dp, fl, mo, cl, rq, te, pa, ke, oc, lg, att, al, so) s := by
  unfold wpX_latestOf
  exact ⟨F + 1, fx_la1 hF F 0 (F + 1) (by omega) (by omega) h⟩
end
end
section
/-! X: teardown, an execution, a run -/
section
variable {xfc xtc xF xT xn xev xst : Int32} {sc pc dp fl mo cl rq te pa oc lg att al so : Nat → Int32} {ke : Nat → Int64}
/-- the items in their order: test and digits of each below m -/
def fx_it (m : Nat) (Tj : Nat → Nat) (Dj : Nat → Nat → Nat) (te pa : Nat → Int32) : Prop := ∀ j, j < m → Tj j < 16 ∧ te j = nI (Tj j) ∧ (∀ f, Dj j f < 4) ∧ pa j = nI (fy_en (Dj j) 12)
theorem fx_eb {post : Int32 → Prop} {m i g : Nat} {Tj : Nat → Nat} {Dj : Nat → Nat → Nat} (hm : m ≤ 64) (hi : i < m) (hg : g < 12) (hit : fx_it m Tj Dj te pa) (h : post (fy_bi (fy_eb sc mo cl Tj Dj m i al g))) : wpX_endsByItself post (xfc, xtc, xF, xT, nI m, xev, xst, sc, pc, dp, fl, mo, cl, rq, te, pa, ke, oc, lg, att, al, so) (nI i) (nI g) := by
  have vi : vp_in (nI i) 64 := vp_in_nI (by omega) (by decide)
  have ci : (nI i).toNatClampNeg = i := nI_clamp (by omega)
  have vg : vp_in (nI g) 12 := vp_in_nI (by omega) (by decide)
  have cg : (nI g).toNatClampNeg = g := nI_clamp (by omega)
  obtain ⟨t1, t2, -, -⟩ := hit i hi
  have vt : vp_in (nI (Tj i)) 16 := vp_in_nI t1 (by decide)
  have ct : (nI (Tj i)).toNatClampNeg = Tj i := nI_clamp (by omega)
  have pt : fy_eb sc mo cl Tj Dj m i al g = true → post 1 := fun z => by rw [z] at h; exact h
  have pf : fy_eb sc mo cl Tj Dj m i al g = false → post 0 := fun z => by rw [z] at h; exact h
  unfold wpX_endsByItself
  refine nm_r (nI_1 i) ⟨vg, ?_⟩
  rw [cg]
  by_cases z3 : sc g = 3
  · exact br_t z3 (pt (decide_eq_true (Or.inl z3)))
  refine br_f z3 (pk_lt (i + 1) m (fun hn => ⟨vp_in_nI (by omega) (by decide), ?_⟩) (fun hn => pt (decide_eq_true (Or.inr (Or.inl hn)))))
  have vn : vp_in (nI (i + 1)) 64 := vp_in_nI (by omega) (by decide)
  have cn : (nI (i + 1)).toNatClampNeg = i + 1 := nI_clamp (by omega)
  obtain ⟨n1, n2, n3, n4⟩ := hit (i + 1) hn
  have vu : vp_in (nI (Tj (i + 1))) 16 := vp_in_nI n1 (by decide)
  have cu : (nI (Tj (i + 1))).toNatClampNeg = Tj (i + 1) := nI_clamp (by omega)
  rw [cn, n4]
  have E : fy_eb sc mo cl Tj Dj m i al g = decide ((¬ Dj (i + 1) g = 0 ∧ ¬ nI (Dj (i + 1) g - 1) = al g) ∨ (sc g = 2 ∧ ¬ (mo (Tj i) = mo (Tj (i + 1)) ∧ cl (Tj i) = cl (Tj (i + 1)))) ∨ (sc g = 1 ∧ ¬ mo (Tj i) = mo (Tj (i + 1)))) := by
    unfold fy_eb
    exact decide_eq_decide.mpr ⟨fun q => q.elim (fun y => absurd y z3) (fun y => y.elim (fun w => by omega) id), fun q => Or.inr (Or.inr q)⟩
  have tail : ¬ (¬ Dj (i + 1) g = 0 ∧ ¬ nI (Dj (i + 1) g - 1) = al g) → wX_endsByItself_54 post (nI i) (nI g) (nI (i + 1)) xfc xtc xF xT (nI m) xev xst sc pc dp fl mo cl rq te pa ke oc lg att al so := by
    intro nw
    have E2 : fy_eb sc mo cl Tj Dj m i al g = decide ((sc g = 2 ∧ ¬ (mo (Tj i) = mo (Tj (i + 1)) ∧ cl (Tj i) = cl (Tj (i + 1)))) ∨ (sc g = 1 ∧ ¬ mo (Tj i) = mo (Tj (i + 1)))) := by
      rw [E]
      exact decide_eq_decide.mpr ⟨fun q => q.elim (fun y => absurd y nw) id, Or.inr⟩
    unfold wX_endsByItself_54
    rw [ci, cn, t2, n2, ct, cu]
    refine ⟨vi, vt, vn, vu, ?_⟩
    by_cases y1 : mo (Tj i) = mo (Tj (i + 1))
    · refine br_t y1 ?_
      unfold wX_endsByItself_84
      rw [ci, cn, t2, n2, ct, cu]
      refine br_f (by decide) ⟨vi, vt, vn, vu, ?_⟩
      by_cases y2 : cl (Tj i) = cl (Tj (i + 1))
      · refine br_t y2 ?_
        have pz := pf (by rw [E2]; exact decide_eq_false (fun q => q.elim (fun w => w.2 ⟨y1, y2⟩) (fun w => w.2 y1)))
        unfold wX_endsByItself_121
        rw [cg]
        refine ⟨vg, br_c (fun _ => br_f (by decide) ?_) (fun _ => ?_)⟩
        · unfold wX_endsByItself_138
          rw [cg]
          exact ⟨vg, br_c (fun _ => br_f (by decide) pz) (fun _ => pz)⟩
        · unfold wX_endsByItself_138
          rw [cg]
          exact ⟨vg, br_c (fun _ => br_f (by decide) pz) (fun _ => pz)⟩
      · refine br_f y2 ?_
        unfold wX_endsByItself_120 wX_endsByItself_121
        rw [cg]
        refine ⟨vg, br_c (fun w => br_t rfl (pt (by rw [E2]; exact decide_eq_true (Or.inl ⟨w, fun q => y2 q.2⟩)))) (fun w => ?_)⟩
        unfold wX_endsByItself_138
        rw [cg]
        have pz := pf (by rw [E2]; exact decide_eq_false (fun q => q.elim (fun v => w v.1) (fun v => v.2 y1)))
        exact ⟨vg, br_c (fun _ => br_f (by decide) pz) (fun _ => pz)⟩
    · refine br_f y1 ?_
      unfold wX_endsByItself_84
      refine br_t rfl ?_
      unfold wX_endsByItself_120 wX_endsByItself_121
      rw [cg]
      refine ⟨vg, br_c (fun w => br_t rfl (pt (by rw [E2]; exact decide_eq_true (Or.inl ⟨w, fun q => y1 q.1⟩)))) (fun w => ?_)⟩
      unfold wX_endsByItself_138
      rw [cg]
      exact ⟨vg, br_c (fun v => br_t rfl (pt (by rw [E2]; exact decide_eq_true (Or.inr ⟨v, y1⟩)))) (fun v => pf (by rw [E2]; exact decide_eq_false (fun q => q.elim (fun a => w a.1) (fun a => v a.1))))⟩
  refine fx_pin n3 hg (fy_ge (Dj (i + 1) g) (n3 g) (fun z => tail (fun q => q.1 z)) (fun p hp hp3 => ⟨vg, ?_⟩))
  rw [hp, fy_ms]
  by_cases y : nI p = al g
  · exact br_t y (tail (fun q => q.2 (by rw [hp, Nat.add_sub_cancel]; exact y)))
  · exact br_f y (pt (by rw [E]; exact decide_eq_true (Or.inl ⟨by omega, by rw [hp, Nat.add_sub_cancel]; exact y⟩)))
theorem fx_ed1 {post : Int32 → Prop} {F m i : Nat} {Tj : Nat → Nat} {Dj : Nat → Nat → Nat} (hF : F ≤ 12) (hm : m ≤ 64) (hi : i < m) (hit : fx_it m Tj Dj te pa) :
    ∀ (k g n : Nat), g + k = F → k < n → post (fy_ed dp al (fy_eb sc mo cl Tj Dj m i al) F) → wX_endingAfter_4 post (nI i) xfc xtc (nI F) xT (nI m) xev xst sc pc dp fl mo cl rq te pa ke oc lg att al so n (fy_ed dp al (fy_eb sc mo cl Tj Dj m i al) g) (nI g) := by
  intro k
  induction k with
  | zero =>
    intro g n hk hn h
    obtain ⟨n, rfl⟩ : ∃ r, n = r + 1 := ⟨n - 1, by omega⟩
    have e : g = F := by omega
    subst e
    exact br_t (nI_le (Nat.le_refl _) (by omega)) h
  | succ k ih =>
    intro g n hk hn h
    obtain ⟨n, rfl⟩ : ∃ r, n = r + 1 := ⟨n - 1, by omega⟩
    have hI := ih (g + 1) n (by omega) (by omega) h
    have vg : vp_in (nI g) 12 := vp_in_nI (by omega) (by decide)
    have cg : (nI g).toNatClampNeg = g := nI_clamp (by omega)
    rw [fy_ed] at hI
    refine br_f (nI_ge (by omega) (by omega)) ⟨vg, ?_⟩
    rw [cg]
    by_cases z : al g = -1
    · rw [if_neg (fun q => q.1 z)] at hI
      refine br_t z (nm_e ?_)
      rw [nI_1]
      exact hI
    · have join : (¬ (dp g &&& fy_ed dp al (fy_eb sc mo cl Tj Dj m i al) g) = 0 ∨ fy_eb sc mo cl Tj Dj m i al g = true) → wX_endingAfter_45 post (wX_endingAfter_4 post (nI i) xfc xtc (nI F) xT (nI m) xev xst sc pc dp fl mo cl rq te pa ke oc lg att al so n) (nI i) (fy_ed dp al (fy_eb sc mo cl Tj Dj m i al) g) (nI g) xfc xtc (nI F) xT (nI m) xev xst sc pc dp fl mo cl rq te pa ke oc lg att al so := by
        intro q
        rw [if_pos ⟨z, q⟩] at hI
        unfold wX_endingAfter_45
        refine nm_e (nm_e ?_)
        rw [nI_1]
        exact hI
      refine br_f z ⟨vg, ?_⟩
      by_cases y : (dp g &&& fy_ed dp al (fy_eb sc mo cl Tj Dj m i al) g) = 0
      · refine br_t y (fx_eb hm hi (by omega) hit (fy_bi_z (fun w => nm_e ?_) (fun w => join (Or.inr w))))
        rw [if_neg (fun q => q.2.elim (fun v => v y) (fun v => by rw [w] at v; exact absurd v (by decide)))] at hI
        rw [nI_1]
        exact hI
      · exact br_f y (join (Or.inl y))
theorem fx_ed {post : Int32 → Prop} {F m i : Nat} {Tj : Nat → Nat} {Dj : Nat → Nat → Nat} (hF : F ≤ 12) (hm : m ≤ 64) (hi : i < m) (hit : fx_it m Tj Dj te pa) (h : post (fy_ed dp al (fy_eb sc mo cl Tj Dj m i al) F)) : wpX_endingAfter post (xfc, xtc, nI F, xT, nI m, xev, xst, sc, pc, dp, fl, mo, cl, rq, te, pa, ke, oc, lg, att, al, so) (nI i) := by
  unfold wpX_endingAfter
  exact ⟨F + 1, fx_ed1 hF hm hi hit F 0 (F + 1) (by omega) (by omega) h⟩
theorem fx_td1 {post : St2 → Prop} {F i : Nat} (hF : F ≤ 12) : ∀ (k x n b c : Nat) (s : Int32) (e : fy_E), x + k = F → k < n → fy_ok F b c e → b + k < 100000 → c < 100000 → (∀ g, bt s g = true → g < F ∧ ¬ e.2.2.2.2.1 g = -1) → post (xfc, xtc, nI F, xT, xn, nI ((fy_td F i k s e)).1, nI ((fy_td F i k s e)).2.2.2.1, sc, pc, dp, fl, mo, cl, rq, te, pa, ke, oc, ((fy_td F i k s e)).2.1, ((fy_td F i k s e)).2.2.1, ((fy_td F i k s e)).2.2.2.2.1, ((fy_td F i k s e)).2.2.2.2.2) →
    wX_tearDownAfter_8 post (nI i) n s (nI x) xfc xtc (nI F) xT xn (nI e.1) (nI e.2.2.2.1) sc pc dp fl mo cl rq te pa ke oc (e.2.1) (e.2.2.1) (e.2.2.2.2.1) (e.2.2.2.2.2) := by
  intro k
  induction k with
  | zero =>
    intro x n b c s e hk hn ho hb hcc hs h
    obtain ⟨n, rfl⟩ : ∃ r, n = r + 1 := ⟨n - 1, by omega⟩
    have ex : x = F := by omega
    subst ex
    exact br_t (nI_le (Nat.le_refl _) (by omega)) h
  | succ k ih =>
    intro x n b c s e hk hn ho hb hcc hs h
    obtain ⟨n, rfl⟩ : ∃ r, n = r + 1 := ⟨n - 1, by omega⟩
    rw [fy_td] at h
    refine br_f (nI_ge (by omega) (by omega)) ?_
    by_cases z : s = 0
    · rw [if_pos z] at h
      exact br_t z h
    · rw [if_neg z] at h
      have hpos : ∀ g, g < F → bt s g = true → (0 : Int32) < e.2.2.2.2.2 g := by
        intro g hg hb2
        rcases ho.2.2 g hg with y | ⟨-, t, t1, t2, t3⟩
        · exact absurd y (hs g hb2).2
        · rw [t3]
          have := ho.2.1
          exact nI_lt (a := 0) (by omega) (by omega)
      obtain ⟨w, w1, w2⟩ := fy_nz z
      have wF := (hs w w2).1
      rcases fy_la_p F hpos with ⟨a1, a2⟩ | ⟨a1, a2, a3, a4⟩
      · rw [a1 w wF] at w2
        exact absurd w2 (by decide)
      · have vg : vp_in (nI (fy_la s e.2.2.2.2.2 F).1) 12 := vp_in_nI (by omega) (by decide)
        have cg : (nI (fy_la s e.2.2.2.2.2 F).1).toNatClampNeg = (fy_la s e.2.2.2.2.2 F).1 := nI_clamp (by omega)
        refine br_f z (fx_la hF ⟨vg, ?_⟩)
        rw [cg]
        refine fx_log2 (by have := ho.1; omega) ⟨vg, nm_e (nm_e (nm_e ?_))⟩
        rw [nI_1]
        refine ih (x + 1) n (b + 1) c _ _ (by omega) (by omega) (fy_ok_of (fy_ok_lo ho)) (by omega) hcc (fun g hg => ?_) h
        have g32 : g < 32 := by
          rcases Nat.lt_or_ge g 32 with y | y
          · exact y
          · rw [b_big y] at hg
            exact absurd hg (by decide)
        rw [fy_clr s (by omega) g32, Bool.and_eq_true, Bool.not_eq_true', decide_eq_false_iff_not] at hg
        refine ⟨(hs g hg.1).1, ?_⟩
        show ¬ upd e.2.2.2.2.1 (fy_la s e.2.2.2.2.2 F).1 (-1) g = -1
        rw [pk_un hg.2]
        exact (hs g hg.1).2
theorem fy_ed_al {dp al : Nat → Int32} {eb : Nat → Bool} {F : Nat} (hF : F ≤ 12) : ∀ g, bt (fy_ed dp al eb F) g = true → g < F ∧ ¬ al g = -1 := by
  intro g hg
  rcases Nat.lt_or_ge g F with z | z
  · exact ⟨z, ((fy_ed_p (by omega) z).mp hg).1⟩
  · rw [fy_ed_hi F (by omega) g z] at hg
    exact absurd hg (by decide)
theorem fx_td {post : St2 → Prop} {F m i b c : Nat} {Tj : Nat → Nat} {Dj : Nat → Nat → Nat} {e : fy_E} (hF : F ≤ 12) (hm : m ≤ 64) (hi : i < m) (hit : fx_it m Tj Dj te pa) (ho : fy_ok F b c e) (hb : b < 50000) (hcc : c < 50000)
    (h : post (xfc, xtc, nI F, xT, nI m, nI ((fy_td F i F (fy_ed dp e.2.2.2.2.1 (fy_eb sc mo cl Tj Dj m i e.2.2.2.2.1) F) e)).1, nI ((fy_td F i F (fy_ed dp e.2.2.2.2.1 (fy_eb sc mo cl Tj Dj m i e.2.2.2.2.1) F) e)).2.2.2.1, sc, pc, dp, fl, mo, cl, rq, te, pa, ke, oc, ((fy_td F i F (fy_ed dp e.2.2.2.2.1 (fy_eb sc mo cl Tj Dj m i e.2.2.2.2.1) F) e)).2.1, ((fy_td F i F (fy_ed dp e.2.2.2.2.1 (fy_eb sc mo cl Tj Dj m i e.2.2.2.2.1) F) e)).2.2.1, ((fy_td F i F (fy_ed dp e.2.2.2.2.1 (fy_eb sc mo cl Tj Dj m i e.2.2.2.2.1) F) e)).2.2.2.2.1, ((fy_td F i F (fy_ed dp e.2.2.2.2.1 (fy_eb sc mo cl Tj Dj m i e.2.2.2.2.1) F) e)).2.2.2.2.2)) : wpX_tearDownAfter post (xfc, xtc, nI F, xT, nI m, nI e.1, nI e.2.2.2.1, sc, pc, dp, fl, mo, cl, rq, te, pa, ke, oc, e.2.1, e.2.2.1, e.2.2.2.2.1, e.2.2.2.2.2) (nI i) := by
  unfold wpX_tearDownAfter
  refine fx_ed hF hm hi hit ⟨F + 1, ?_⟩
  exact fx_td1 hF F 0 (F + 1) b c _ e (by omega) (by omega) ho (by omega) (by omega) (fy_ed_al hF) h
theorem fx_cx2 {post : St2 → Prop} : ∀ (k x n : Nat), x + k = 12 → k < n → post (xfc, xtc, xF, xT, xn, xev, xst, sc, pc, dp, fl, mo, cl, rq, te, pa, ke, oc, lg, att, fy_fill al (-1) 12, so) → wX_clearExecution_33 post xfc xtc xF xT xn xev xst n (nI x) sc pc dp fl mo cl rq te pa ke oc lg att (fy_fill al (-1) x) so := by
  intro k
  induction k with
  | zero =>
    intro x n hk hn h
    obtain ⟨n, rfl⟩ : ∃ r, n = r + 1 := ⟨n - 1, by omega⟩
    have e : x = 12 := by omega
    subst e
    exact br_t (by decide) h
  | succ k ih =>
    intro x n hk hn h
    obtain ⟨n, rfl⟩ : ∃ r, n = r + 1 := ⟨n - 1, by omega⟩
    refine br_f (nI_ge (b := 12) (by omega) (by decide)) ⟨vp_in_nI (by omega) (by decide), nm_e (nm_e ?_)⟩
    rw [nI_clamp (by omega), nI_1]
    exact ih (x + 1) n (by omega) (by omega) h
theorem fx_cx1 {post : St2 → Prop} : ∀ (k x n : Nat), x + k = 36 → k < n → post (xfc, xtc, xF, xT, xn, xev, xst, sc, pc, dp, fl, mo, cl, rq, te, pa, ke, oc, lg, fy_fill att 0 36, fy_fill al (-1) 12, so) → wX_clearExecution_12 post xfc xtc xF xT xn xev xst n (nI x) sc pc dp fl mo cl rq te pa ke oc lg (fy_fill att 0 x) al so := by
  intro k
  induction k with
  | zero =>
    intro x n hk hn h
    obtain ⟨n, rfl⟩ : ∃ r, n = r + 1 := ⟨n - 1, by omega⟩
    have e : x = 36 := by omega
    subst e
    exact br_t (by decide) ⟨13, fx_cx2 12 0 13 (by omega) (by omega) h⟩
  | succ k ih =>
    intro x n hk hn h
    obtain ⟨n, rfl⟩ : ∃ r, n = r + 1 := ⟨n - 1, by omega⟩
    refine br_f (nI_ge (b := 36) (by omega) (by decide)) ⟨vp_in_nI (by omega) (by decide), nm_e (nm_e ?_)⟩
    rw [nI_clamp (by omega), nI_1]
    exact ih (x + 1) n (by omega) (by omega) h
/-- an execution's beginning -/
def fy_e0 (lg att al so : Nat → Int32) : fy_E := (0, lg, fy_fill att 0 36, 0, fy_fill al (-1) 12, so)
theorem fy_e0_ok {F : Nat} (hF : F ≤ 12) {lg att al so : Nat → Int32} : fy_ok F 0 0 (fy_e0 lg att al so) := ⟨Nat.le_refl 0, Nat.le_refl 0, fun f hf => Or.inl (fy_fill_e (by omega))⟩
theorem fx_cx {post : St2 → Prop} (h : post (xfc, xtc, xF, xT, xn, nI (fy_e0 lg att al so).1, nI (fy_e0 lg att al so).2.2.2.1, sc, pc, dp, fl, mo, cl, rq, te, pa, ke, oc, (fy_e0 lg att al so).2.1, (fy_e0 lg att al so).2.2.1, (fy_e0 lg att al so).2.2.2.2.1, (fy_e0 lg att al so).2.2.2.2.2)) : wpX_clearExecution post (xfc, xtc, xF, xT, xn, xev, xst, sc, pc, dp, fl, mo, cl, rq, te, pa, ke, oc, lg, att, al, so) := by
  unfold wpX_clearExecution
  exact ⟨37, fx_cx1 36 0 37 (by omega) (by omega) h⟩
theorem fx_ex1 {post : St2 → Prop} {F m : Nat} {Tj : Nat → Nat} {Dj : Nat → Nat → Nat} {e0 : fy_E} (hF : F ≤ 12) (hm : m ≤ 64) (hit : fx_it m Tj Dj te pa) (hD : ∀ j f, Dj j f < 4) (h0 : fy_ok F 0 0 e0)
    (h : ∀ oc : Nat → Int32, (∀ j, j < m → oc j = fy_ou fl sc mo cl dp Tj Dj m F e0 j) → post (xfc, xtc, nI F, xT, nI m, nI ((fy_ex fl sc mo cl dp Tj Dj m F e0 m)).1, nI ((fy_ex fl sc mo cl dp Tj Dj m F e0 m)).2.2.2.1, sc, pc, dp, fl, mo, cl, rq, te, pa, ke, oc, ((fy_ex fl sc mo cl dp Tj Dj m F e0 m)).2.1, ((fy_ex fl sc mo cl dp Tj Dj m F e0 m)).2.2.1, ((fy_ex fl sc mo cl dp Tj Dj m F e0 m)).2.2.2.2.1, ((fy_ex fl sc mo cl dp Tj Dj m F e0 m)).2.2.2.2.2)) :
    ∀ (k i n : Nat) (oc : Nat → Int32), i + k = m → k < n → (∀ j, j < i → oc j = fy_ou fl sc mo cl dp Tj Dj m F e0 j) →
    wX_executeItems_6 post n (nI i) xfc xtc (nI F) xT (nI m) (nI ((fy_ex fl sc mo cl dp Tj Dj m F e0 i)).1) (nI ((fy_ex fl sc mo cl dp Tj Dj m F e0 i)).2.2.2.1) sc pc dp fl mo cl rq te pa ke oc (((fy_ex fl sc mo cl dp Tj Dj m F e0 i)).2.1) (((fy_ex fl sc mo cl dp Tj Dj m F e0 i)).2.2.1) (((fy_ex fl sc mo cl dp Tj Dj m F e0 i)).2.2.2.2.1) (((fy_ex fl sc mo cl dp Tj Dj m F e0 i)).2.2.2.2.2) := by
  intro k
  induction k with
  | zero =>
    intro i n oc hk hn ho
    obtain ⟨n, rfl⟩ : ∃ r, n = r + 1 := ⟨n - 1, by omega⟩
    have e : i = m := by omega
    subst e
    exact br_t (nI_le (Nat.le_refl _) (by omega)) (h oc ho)
  | succ k ih =>
    intro i n oc hk hn ho
    obtain ⟨n, rfl⟩ : ∃ r, n = r + 1 := ⟨n - 1, by omega⟩
    obtain ⟨-, -, -, hpa⟩ := hit i (by omega)
    have hok := fy_ok_ex (fl := fl) (sc := sc) (mo := mo) (cl := cl) (dp := dp) (T := Tj) (n := m) hF hD h0 i
    have hok2 := fy_ok_su (fl := fl) (i := i) (hD i) F 0 _ _ _ hok
    have st : ∀ b : Bool, (fy_su fl (Dj i) i F 0 (fy_ex fl sc mo cl dp Tj Dj m F e0 i)).2 = b → ∀ j, j < i + 1 → upd oc i (if b = true then 1 else 2) j = fy_ou fl sc mo cl dp Tj Dj m F e0 j := by
      intro b hb j hj
      by_cases e : j = i
      · subst e
        rw [pk_us]
        unfold fy_ou
        rw [hb]
      · rw [pk_un e]
        exact ho j (by omega)
    refine br_f (nI_ge (by omega) (by omega)) ?_
    refine fx_su hF (by omega) (hD i) hpa hok (by omega) (by omega) ?_
    refine fy_bi_z (fun y => ?_) (fun y => ?_)
    · unfold wX_executeItems_32
      refine ⟨vp_in_nI (by omega) (by decide), nm_e ?_⟩
      rw [nI_clamp (by omega)]
      refine fx_td hF hm (by omega) hit hok2 (by omega) (by omega) (nm_e ?_)
      rw [nI_1]
      exact ih (i + 1) n _ (by omega) (by omega) (st false y)
    · unfold wX_executeItems_32
      refine ⟨vp_in_nI (by omega) (by decide), nm_e ?_⟩
      rw [nI_clamp (by omega)]
      refine fx_td hF hm (by omega) hit hok2 (by omega) (by omega) (nm_e ?_)
      rw [nI_1]
      exact ih (i + 1) n _ (by omega) (by omega) (st true y)
theorem fx_ex {post : St2 → Prop} {F m : Nat} {Tj : Nat → Nat} {Dj : Nat → Nat → Nat} (hF : F ≤ 12) (hm : m ≤ 64) (hit : fx_it m Tj Dj te pa) (hD : ∀ j f, Dj j f < 4)
    (h : ∀ oc : Nat → Int32, (∀ j, j < m → oc j = fy_ou fl sc mo cl dp Tj Dj m F (fy_e0 lg att al so) j) → post (xfc, xtc, nI F, xT, nI m, nI ((fy_ex fl sc mo cl dp Tj Dj m F (fy_e0 lg att al so) m)).1, nI ((fy_ex fl sc mo cl dp Tj Dj m F (fy_e0 lg att al so) m)).2.2.2.1, sc, pc, dp, fl, mo, cl, rq, te, pa, ke, oc, ((fy_ex fl sc mo cl dp Tj Dj m F (fy_e0 lg att al so) m)).2.1, ((fy_ex fl sc mo cl dp Tj Dj m F (fy_e0 lg att al so) m)).2.2.1, ((fy_ex fl sc mo cl dp Tj Dj m F (fy_e0 lg att al so) m)).2.2.2.2.1, ((fy_ex fl sc mo cl dp Tj Dj m F (fy_e0 lg att al so) m)).2.2.2.2.2)) :
    wpX_executeItems post (xfc, xtc, nI F, xT, nI m, xev, xst, sc, pc, dp, fl, mo, cl, rq, te, pa, ke, oc, lg, att, al, so) := by
  unfold wpX_executeItems
  refine fx_cx ⟨m + 1, ?_⟩
  exact fx_ex1 hF hm hit hD (fy_e0_ok hF) h m 0 (m + 1) oc (by omega) (by omega) (fun j hj => absurd hj (Nat.not_lt_zero j))
theorem fx_kj_b {F T : Nat} (hF : F ≤ 12) (hT : T ≤ 16) (hp : fy_nb pc F 3) (hm : fy_nb mo T 3) (hc : fy_nb cl T 3) {j : Nat} (h0 : 0 < T) : fx_kj sc pc dp mo cl rq F T j < 2 ^ 63 := by
  have ht : fx_tj dp rq pc F T j < T := fy_tf_lt T j h0
  have h1 := (hm _ ht).2
  have h2 := (hc _ ht).2
  have h3 := (fy_ky_b (sc := sc) (pc := pc) (P := fx_dj dp rq pc F T j) (fun f => fx_dj_4 hp j f) hF (show fy_n mo (fx_tj dp rq pc F T j) < 4 by omega) (show fy_n cl (fx_tj dp rq pc F T j) < 4 by omega) (show fx_tj dp rq pc F T j < 16 by omega)).2
  exact Nat.lt_trans h3 (by decide)
/-- X's run -/
theorem fx_run {post : Int32 → St2 → Prop} {F T : Nat} (hF : F ≤ 12) (hT : T ≤ 16) (hp : fy_nb pc F 3) (hm : fy_nb mo T 3) (hc : fy_nb cl T 3)
    (h1 : 64 < fy_tt (fx_g dp rq pc F) T → post (-1) (xfc, xtc, nI F, nI T, xn, xev, xst, sc, pc, dp, fl, mo, cl, rq, te, pa, ke, oc, lg, att, al, so))
    (h2 : fy_tt (fx_g dp rq pc F) T ≤ 64 → ∀ (s : Nat → Nat) (te pa : Nat → Int32) (ke : Nat → Int64) (oc : Nat → Int32), fy_So (fx_kj sc pc dp mo cl rq F T) (fy_tt (fx_g dp rq pc F) T) s →
      (∀ q, q < fy_tt (fx_g dp rq pc F) T → te q = nI (fx_tj dp rq pc F T (s q)) ∧ pa q = nI (fy_en (fx_dj dp rq pc F T (s q)) 12)) →
      (∀ j, j < fy_tt (fx_g dp rq pc F) T → oc j = fy_ou fl sc mo cl dp (fun q => fx_tj dp rq pc F T (s q)) (fun q => fx_dj dp rq pc F T (s q)) (fy_tt (fx_g dp rq pc F) T) F (fy_e0 lg att al so) j) →
      post (nI (fy_tt (fx_g dp rq pc F) T)) (xfc, xtc, nI F, nI T, nI (fy_tt (fx_g dp rq pc F) T), nI ((fy_ex fl sc mo cl dp (fun q => fx_tj dp rq pc F T (s q)) (fun q => fx_dj dp rq pc F T (s q)) (fy_tt (fx_g dp rq pc F) T) F (fy_e0 lg att al so) (fy_tt (fx_g dp rq pc F) T))).1, nI ((fy_ex fl sc mo cl dp (fun q => fx_tj dp rq pc F T (s q)) (fun q => fx_dj dp rq pc F T (s q)) (fy_tt (fx_g dp rq pc F) T) F (fy_e0 lg att al so) (fy_tt (fx_g dp rq pc F) T))).2.2.2.1, sc, pc, dp, fl, mo, cl, rq, te, pa, ke, oc, ((fy_ex fl sc mo cl dp (fun q => fx_tj dp rq pc F T (s q)) (fun q => fx_dj dp rq pc F T (s q)) (fy_tt (fx_g dp rq pc F) T) F (fy_e0 lg att al so) (fy_tt (fx_g dp rq pc F) T))).2.1, ((fy_ex fl sc mo cl dp (fun q => fx_tj dp rq pc F T (s q)) (fun q => fx_dj dp rq pc F T (s q)) (fy_tt (fx_g dp rq pc F) T) F (fy_e0 lg att al so) (fy_tt (fx_g dp rq pc F) T))).2.2.1, ((fy_ex fl sc mo cl dp (fun q => fx_tj dp rq pc F T (s q)) (fun q => fx_dj dp rq pc F T (s q)) (fy_tt (fx_g dp rq pc F) T) F (fy_e0 lg att al so) (fy_tt (fx_g dp rq pc F) T))).2.2.2.2.1, ((fy_ex fl sc mo cl dp (fun q => fx_tj dp rq pc F T (s q)) (fun q => fx_dj dp rq pc F T (s q)) (fy_tt (fx_g dp rq pc F) T) F (fy_e0 lg att al so) (fy_tt (fx_g dp rq pc F) T))).2.2.2.2.2)) :
    wpX_run post (xfc, xtc, nI F, nI T, xn, xev, xst, sc, pc, dp, fl, mo, cl, rq, te, pa, ke, oc, lg, att, al, so) := by
  have hb : fy_tt (fx_g dp rq pc F) T ≤ T * 531441 := fy_tt_b T (fun t _ => Nat.le_trans (fy_ct_b hp F (Nat.le_refl F)).2 (fy_3p hF))
  unfold wpX_run
  refine fx_ca hF hT hp (pk_le (fy_tt (fx_g dp rq pc F) T) 64 (fun z => ?_) (fun z => h1 z))
  refine fx_co hF hT hp hm hc z (fun te1 pa1 ke1 hcol => ?_)
  have hT0 : ∀ j, j < fy_tt (fx_g dp rq pc F) T → 0 < T := by
    intro j hj
    rcases Nat.eq_zero_or_pos T with y | y
    · subst y
      exact absurd hj (Nat.not_lt_zero j)
    · exact y
  refine fx_so z (fun j hj => ⟨(hcol j hj).2.2, fx_kj_b hF hT hp hm hc (hT0 j hj)⟩) (fun s te2 pa2 ke2 a1 a2 a3 => ?_)
  have hit : fx_it (fy_tt (fx_g dp rq pc F) T) (fun q => fx_tj dp rq pc F T (s q)) (fun q => fx_dj dp rq pc F T (s q)) te2 pa2 := by
    intro q hq
    have hs := a1.1 q hq
    have ht : fx_tj dp rq pc F T (s q) < T := fy_tf_lt T _ (hT0 q hq)
    exact ⟨Nat.lt_of_lt_of_le ht hT, by rw [a2 q hq]; exact (hcol _ hs).1, fun f => fx_dj_4 hp _ f, by rw [a3 q hq]; exact (hcol _ hs).2.1⟩
  refine fx_ex hF z hit (fun j f => fx_dj_4 hp _ f) (fun oc1 ho => ?_)
  exact h2 z s te2 pa2 ke2 oc1 a1 (fun q hq => ⟨(hit q hq).2.1, (hit q hq).2.2.2⟩) ho
end
end
section
theorem gh_31 : ¬ (3 : Nat) = 1 := by decide
theorem gh_32 : ¬ (3 : Nat) = 2 := by decide
theorem gh_12 : ¬ (1 : Nat) = 2 := by decide
theorem gh_21 : ¬ (2 : Nat) = 1 := by decide
/-! the log as a row of events (kind, item, fixture, parameter), and what holds of it while an execution goes on -/
abbrev gh_E : Type := Nat × Nat × Nat × Nat
def gh_co (g : gh_E) : Int32 := nI g.1 * 100000 + nI g.2.1 * 1000 + nI g.2.2.1 * 10 + nI g.2.2.2
def gh_lf (g : gh_E) (f : Nat) : Prop := (g.1 = 1 ∨ g.1 = 2) ∧ g.2.2.1 = f
def gh_ap (G : Nat → gh_E) (n : Nat) (g : gh_E) : Nat → gh_E := fun k => if k = n then g else G k
theorem gh_at {G : Nat → gh_E} {n : Nat} {g : gh_E} : gh_ap G n g n = g := if_pos rfl
theorem gh_ne {G : Nat → gh_E} {n k : Nat} {g : gh_E} (h : k ≠ n) : gh_ap G n g k = G k := if_neg h
theorem gh_lt {G : Nat → gh_E} {n k : Nat} {g : gh_E} (h : k < n) : gh_ap G n g k = G k := gh_ne (by omega)
/-- not ended among the first n -/
def gh_op (G : Nat → gh_E) (n a : Nat) : Prop := ∀ x, a < x → x < n → ¬ gh_lf (G x) (G a).2.2.1
/-- the scope of fixture f bears the items j to i -/
def gh_Sc (sc mo cl : Nat → Int32) (T : Nat → Nat) (f j i : Nat) : Prop :=
  (sc f = 3 → j = i) ∧ (sc f = 2 → ∀ q, j ≤ q → q ≤ i → mo (T q) = mo (T j) ∧ cl (T q) = cl (T j)) ∧ (sc f = 1 → ∀ q, j ≤ q → q ≤ i → mo (T q) = mo (T j))
/-- the setup at a is ended at b -/
def gh_cd (sc mo cl dp : Nat → Int32) (T : Nat → Nat) (G : Nat → gh_E) (a b : Nat) : Prop :=
  a < b ∧ gh_lf (G b) (G a).2.2.1 ∧ (∀ x, a < x → x < b → ¬ gh_lf (G x) (G a).2.2.1) ∧ (G b).1 = 2 ∧ (G b).2.2.2 = (G a).2.2.2 ∧
  (∀ c, a < c → c < b → (G c).1 = 1 → bt (dp (G c).2.2.1) (G a).2.2.1 = true → ∃ y, c < y ∧ y < b ∧ gh_lf (G y) (G c).2.2.1) ∧ (G a).2.1 ≤ (G b).2.1 ∧ gh_Sc sc mo cl T (G a).2.2.1 (G a).2.1 (G b).2.1
theorem gh_cd_cg {sc mo cl dp : Nat → Int32} {T : Nat → Nat} {G H : Nat → gh_E} {a b : Nat} (h : ∀ k, k ≤ b → H k = G k) (h1 : gh_cd sc mo cl dp T G a b) : gh_cd sc mo cl dp T H a b := by
  obtain ⟨c1, c2, c3, c4, c5, c6, c7, c8⟩ := h1
  have ea := h a (by omega)
  have eb := h b (by omega)
  refine ⟨c1, ?_, fun x hx hxb => ?_, ?_, ?_, fun c hc hcb => ?_, ?_, ?_⟩
  · rw [ea, eb]; exact c2
  · rw [ea, h x (by omega)]; exact c3 x hx hxb
  · rw [eb]; exact c4
  · rw [ea, eb]; exact c5
  · rw [ea, h c (by omega)]
    intro k1 k2
    obtain ⟨y, y1, y2, y3⟩ := c6 c hc hcb k1 k2
    exact ⟨y, y1, y2, by rw [h y (by omega)]; exact y3⟩
  · rw [ea, eb]; exact c7
  · rw [ea, eb]; exact c8
def gh_I (sc mo cl dp : Nat → Int32) (T : Nat → Nat) (F i n : Nat) (G : Nat → gh_E) (lg al so : Nat → Int32) : Prop :=
  n ≤ 256 ∧
  (∀ k, k < n → lg k = gh_co (G k) ∧ 1 ≤ (G k).1 ∧ (G k).1 ≤ 3 ∧ (G k).2.1 ≤ i ∧ (G k).2.2.1 < F ∧ (G k).2.2.2 < 3) ∧
  (∀ f p, f < F → p < 3 → al f = nI p → ∃ a, a < n ∧ (G a).1 = 1 ∧ (G a).2.2.1 = f ∧ (G a).2.2.2 = p ∧ gh_op G n a) ∧
  (∀ a, a < n → (G a).1 = 1 → (gh_op G n a ∧ al (G a).2.2.1 = nI (G a).2.2.2 ∧ gh_Sc sc mo cl T (G a).2.2.1 (G a).2.1 i) ∨ ∃ b, b < n ∧ gh_cd sc mo cl dp T G a b) ∧
  (∀ b, b < n → (G b).1 = 2 → ∃ a, a < b ∧ gh_lf (G a) (G b).2.2.1 ∧ (∀ x, a < x → x < b → ¬ gh_lf (G x) (G b).2.2.1) ∧ (G a).1 = 1) ∧
  (∀ a b, a < b → b < n → (G a).1 = 1 → (G b).1 = 1 → gh_op G n a → gh_op G n b → so (G a).2.2.1 < so (G b).2.2.1)
theorem gh_op_s {G : Nat → gh_E} {n a : Nat} {g : gh_E} (ha : a < n) : gh_op (gh_ap G n g) (n + 1) a ↔ gh_op G n a ∧ ¬ gh_lf g (G a).2.2.1 := by
  constructor
  · intro h
    refine ⟨fun x hx hxn => ?_, ?_⟩
    · have := h x hx (by omega)
      rw [gh_lt ha, gh_lt hxn] at this
      exact this
    · have := h n ha (by omega)
      rw [gh_lt ha, gh_at] at this
      exact this
  · intro ⟨h1, h2⟩ x hx hxn
    rw [gh_lt ha]
    by_cases e : x = n
    · subst e
      rw [gh_at]
      exact h2
    · rw [gh_ne e]
      exact h1 x hx (by omega)
theorem gh_op_n {G : Nat → gh_E} {n : Nat} {g : gh_E} : gh_op (gh_ap G n g) (n + 1) n := fun x hx hxn => by omega
/-- the log keeps what it held, and holds the new event -/
theorem gh_lgs {G : Nat → gh_E} {F i n : Nat} {lg : Nat → Int32} {g : gh_E} (h : ∀ k, k < n → lg k = gh_co (G k) ∧ 1 ≤ (G k).1 ∧ (G k).1 ≤ 3 ∧ (G k).2.1 ≤ i ∧ (G k).2.2.1 < F ∧ (G k).2.2.2 < 3) (h1 : 1 ≤ g.1 ∧ g.1 ≤ 3 ∧ g.2.1 ≤ i ∧ g.2.2.1 < F ∧ g.2.2.2 < 3) :
    ∀ k, k < n + 1 → upd lg n (gh_co g) k = gh_co (gh_ap G n g k) ∧ 1 ≤ (gh_ap G n g k).1 ∧ (gh_ap G n g k).1 ≤ 3 ∧ (gh_ap G n g k).2.1 ≤ i ∧ (gh_ap G n g k).2.2.1 < F ∧ (gh_ap G n g k).2.2.2 < 3 := by
  intro k hk
  by_cases e : k = n
  · subst e
    rw [pk_us, gh_at]
    exact ⟨rfl, h1⟩
  · rw [pk_un e, gh_ne e]
    exact h k (by omega)
/-- the last but one: teardowns stay matched -/
theorem gh_Es {G : Nat → gh_E} {n : Nat} {g : gh_E} (h : ∀ b, b < n → (G b).1 = 2 → ∃ a, a < b ∧ gh_lf (G a) (G b).2.2.1 ∧ (∀ x, a < x → x < b → ¬ gh_lf (G x) (G b).2.2.1) ∧ (G a).1 = 1) {b : Nat} (hb : b < n) (h2 : (gh_ap G n g b).1 = 2) :
    ∃ a, a < b ∧ gh_lf (gh_ap G n g a) (gh_ap G n g b).2.2.1 ∧ (∀ x, a < x → x < b → ¬ gh_lf (gh_ap G n g x) (gh_ap G n g b).2.2.1) ∧ (gh_ap G n g a).1 = 1 := by
  rw [gh_lt hb] at h2
  obtain ⟨a, a1, a2, a3, a4⟩ := h b hb h2
  refine ⟨a, a1, ?_, fun x hx hxb => ?_, ?_⟩
  · rw [gh_lt (show a < n by omega), gh_lt hb]; exact a2
  · rw [gh_lt (show x < n by omega), gh_lt hb]; exact a3 x hx hxb
  · rw [gh_lt (show a < n by omega)]; exact a4
/-- a failed setup -/
theorem gh_3 {sc mo cl dp : Nat → Int32} {T : Nat → Nat} {F i n f p : Nat} {G : Nat → gh_E} {lg al so : Nat → Int32} (h : gh_I sc mo cl dp T F i n G lg al so) (hn : n < 256) (hf : f < F) (hp : p < 3) :
    gh_I sc mo cl dp T F i (n + 1) (gh_ap G n (3, i, f, p)) (upd lg n (gh_co (3, i, f, p))) al so := by
  obtain ⟨hA, hB, hC, hD, hE, hS⟩ := h
  have nl : ∀ x, ¬ gh_lf (3, i, f, p) x := fun x q => q.1.elim (fun w => absurd w gh_31) (fun w => absurd w gh_32)
  refine ⟨by omega, gh_lgs hB ⟨by show 1 ≤ 3; omega, by show 3 ≤ 3; omega, Nat.le_refl i, hf, hp⟩, fun x y hx hy hxy => ?_, fun a ha h1 => ?_, fun b hb h2 => ?_, fun a b hab hb h1 h2 => ?_⟩
  · obtain ⟨a, a1, a2, a3, a4, a5⟩ := hC x y hx hy hxy
    exact ⟨a, by omega, by rw [gh_lt a1]; exact a2, by rw [gh_lt a1]; exact a3, by rw [gh_lt a1]; exact a4, (gh_op_s a1).mpr ⟨a5, nl _⟩⟩
  · by_cases e : a = n
    · subst e
      rw [gh_at] at h1
      exact absurd h1 gh_31
    · have ha' : a < n := by omega
      rw [gh_lt ha'] at h1 ⊢
      rcases hD a ha' h1 with ⟨o1, o2, o3⟩ | ⟨b, b1, b2⟩
      · exact Or.inl ⟨(gh_op_s ha').mpr ⟨o1, nl _⟩, o2, o3⟩
      · exact Or.inr ⟨b, by omega, gh_cd_cg (fun k hk => gh_lt (by omega)) b2⟩
  · by_cases e : b = n
    · subst e
      rw [gh_at] at h2
      exact absurd h2 gh_32
    · exact gh_Es hE (by omega) h2
  · by_cases e : b = n
    · subst e
      rw [gh_at] at h2
      exact absurd h2 gh_31
    · have hb' : b < n := by omega
      have ha' : a < n := by omega
      rw [gh_lt hb'] at h2 ⊢
      rw [gh_lt ha'] at h1 ⊢
      intro o1 o2
      exact hS a b hab hb' h1 h2 ((gh_op_s ha').mp o1).1 ((gh_op_s hb').mp o2).1
/-- a setup of a fixture that isn't alive -/
theorem gh_1 {sc mo cl dp : Nat → Int32} {T : Nat → Nat} {F i n f p : Nat} {G : Nat → gh_E} {lg al so : Nat → Int32} {s : Int32} (h : gh_I sc mo cl dp T F i n G lg al so) (hn : n < 256) (hf : f < F) (hp : p < 3) (hal : al f = -1) (hs : ∀ g, g < F → ¬ al g = -1 → so g < s) :
    gh_I sc mo cl dp T F i (n + 1) (gh_ap G n (1, i, f, p)) (upd lg n (gh_co (1, i, f, p))) (upd al f (nI p)) (upd so f s) := by
  obtain ⟨hA, hB, hC, hD, hE, hS⟩ := h
  have nof : ∀ a, a < n → (G a).1 = 1 → gh_op G n a → ¬ (G a).2.2.1 = f := by
    intro a ha h1 o1 ef
    rcases hD a ha h1 with ⟨o1', o2, o3⟩ | ⟨b, b1, b2⟩
    · rw [ef, hal] at o2
      exact fy_neg1 (hB a ha).2.2.2.2.2 o2.symm
    · exact o1 b b2.1 b1 b2.2.1
  have alo : ∀ a, a < n → (G a).1 = 1 → gh_op G n a → ¬ al (G a).2.2.1 = -1 := by
    intro a ha h1 o1
    rcases hD a ha h1 with ⟨o1', o2, o3⟩ | ⟨b, b1, b2⟩
    · rw [o2]
      exact fy_neg1 (hB a ha).2.2.2.2.2
    · exact absurd b2.2.1 (o1 b b2.1 b1)
  refine ⟨by omega, gh_lgs hB ⟨Nat.le_refl 1, by show 1 ≤ 3; omega, Nat.le_refl i, hf, hp⟩, fun x y hx hy hxy => ?_, fun a ha h1 => ?_, fun b hb h2 => ?_, fun a b hab hb h1 h2 => ?_⟩
  · by_cases e : x = f
    · subst e
      rw [pk_us, nI_eq (by omega) (by omega)] at hxy
      exact ⟨n, by omega, by rw [gh_at], by rw [gh_at], by rw [gh_at]; exact hxy, gh_op_n⟩
    · rw [pk_un e] at hxy
      obtain ⟨a, a1, a2, a3, a4, a5⟩ := hC x y hx hy hxy
      exact ⟨a, by omega, by rw [gh_lt a1]; exact a2, by rw [gh_lt a1]; exact a3, by rw [gh_lt a1]; exact a4, (gh_op_s a1).mpr ⟨a5, fun q => e (by rw [← a3]; exact q.2.symm)⟩⟩
  · by_cases e : a = n
    · subst e
      rw [gh_at]
      refine Or.inl ⟨gh_op_n, pk_us, fun _ => rfl, fun _ q hq hqi => ?_, fun _ q hq hqi => ?_⟩
      · have hq : i ≤ q := hq
        rw [show q = i by omega]
        exact ⟨rfl, rfl⟩
      · have hq : i ≤ q := hq
        rw [show q = i by omega]
    · have ha' : a < n := by omega
      rw [gh_lt ha'] at h1 ⊢
      rcases hD a ha' h1 with ⟨o1, o2, o3⟩ | ⟨b, b1, b2⟩
      · have ne := nof a ha' h1 o1
        exact Or.inl ⟨(gh_op_s ha').mpr ⟨o1, fun q => ne q.2.symm⟩, by rw [pk_un ne]; exact o2, o3⟩
      · exact Or.inr ⟨b, by omega, gh_cd_cg (fun k hk => gh_lt (by omega)) b2⟩
  · by_cases e : b = n
    · subst e
      rw [gh_at] at h2
      exact absurd h2 gh_12
    · exact gh_Es hE (by omega) h2
  · have ha' : a < n := by omega
    rw [gh_lt ha'] at h1 ⊢
    intro o1 o2
    have oa := ((gh_op_s ha').mp o1).1
    have ne := nof a ha' h1 oa
    rw [pk_un ne]
    by_cases e : b = n
    · subst e
      rw [gh_at, pk_us]
      exact hs _ (hB a ha').2.2.2.2.1 (alo a ha' h1 oa)
    · have hb' : b < n := by omega
      rw [gh_lt hb'] at h2 ⊢
      have ob := ((gh_op_s hb').mp o2).1
      rw [pk_un (nof b hb' h2 ob)]
      exact hS a b hab hb' h1 h2 oa ob
/-- a teardown of an alive fixture on which no later one depends -/
theorem gh_2 {sc mo cl dp : Nat → Int32} {T : Nat → Nat} {F i n f p : Nat} {G : Nat → gh_E} {lg al so : Nat → Int32} (h : gh_I sc mo cl dp T F i n G lg al so) (hn : n < 256) (hf : f < F) (hp : p < 3) (hal : al f = nI p) (hs : ∀ g, g < F → ¬ al g = -1 → bt (dp g) f = true → ¬ so f < so g) :
    gh_I sc mo cl dp T F i (n + 1) (gh_ap G n (2, i, f, p)) (upd lg n (gh_co (2, i, f, p))) (upd al f (-1)) so := by
  obtain ⟨hA, hB, hC, hD, hE, hS⟩ := h
  obtain ⟨a0, z1, z2, z3, z4, z5⟩ := hC f p hf hp hal
  have lfn : gh_lf (2, i, f, p) f := ⟨Or.inr rfl, rfl⟩
  refine ⟨by omega, gh_lgs hB ⟨by show 1 ≤ 2; omega, by show 2 ≤ 3; omega, Nat.le_refl i, hf, hp⟩, fun x y hx hy hxy => ?_, fun a ha h1 => ?_, fun b hb h2 => ?_, fun a b hab hb h1 h2 => ?_⟩
  · by_cases e : x = f
    · subst e
      rw [pk_us] at hxy
      exact absurd hxy.symm (fy_neg1 hy)
    · rw [pk_un e] at hxy
      obtain ⟨a, a1, a2, a3, a4, a5⟩ := hC x y hx hy hxy
      exact ⟨a, by omega, by rw [gh_lt a1]; exact a2, by rw [gh_lt a1]; exact a3, by rw [gh_lt a1]; exact a4, (gh_op_s a1).mpr ⟨a5, fun q => e (by rw [← a3]; exact q.2.symm)⟩⟩
  · by_cases e : a = n
    · subst e
      rw [gh_at] at h1
      exact absurd h1 gh_21
    · have ha' : a < n := by omega
      have h1' := h1
      rw [gh_lt ha'] at h1 ⊢
      rcases hD a ha' h1 with ⟨o1, o2, o3⟩ | ⟨b, b1, b2⟩
      · by_cases ef : (G a).2.2.1 = f
        · refine Or.inr ⟨n, by omega, ha', ?_, fun x hx hxn => ?_, by rw [gh_at], ?_, fun c hc hcn => ?_, ?_, ?_⟩
          · rw [gh_at, gh_lt ha', ef]; exact lfn
          · rw [gh_lt hxn, gh_lt ha']; exact o1 x hx hxn
          · rw [gh_at, gh_lt ha']
            rw [ef, hal, nI_eq (by omega) (by have := (hB a ha').2.2.2.2.2; omega)] at o2
            exact o2
          · rw [gh_lt hcn, gh_lt ha', ef]
            intro k1 k2
            rcases hD c hcn k1 with ⟨q1, q2, q3⟩ | ⟨b, b1, b2⟩
            · have s1 := hS a c hc hcn h1 k1 o1 q1
              rw [ef] at s1
              exact absurd s1 (hs _ (hB c hcn).2.2.2.2.1 (by rw [q2]; exact fy_neg1 (hB c hcn).2.2.2.2.2) k2)
            · exact ⟨b, b2.1, b1, by rw [gh_lt b1]; exact b2.2.1⟩
          · rw [gh_at, gh_lt ha']
            exact (hB a ha').2.2.2.1
          · rw [gh_at, gh_lt ha']
            exact o3
        · exact Or.inl ⟨(gh_op_s ha').mpr ⟨o1, fun q => ef q.2.symm⟩, by rw [pk_un ef]; exact o2, o3⟩
      · exact Or.inr ⟨b, by omega, gh_cd_cg (fun k hk => gh_lt (by omega)) b2⟩
  · by_cases e : b = n
    · subst e
      refine ⟨a0, z1, ?_, fun x hx hxb => ?_, ?_⟩
      · rw [gh_lt z1, gh_at]
        exact ⟨Or.inl z2, z3⟩
      · rw [gh_lt hxb, gh_at]
        have := z5 x hx hxb
        rw [z3] at this
        exact this
      · rw [gh_lt z1]
        exact z2
    · exact gh_Es hE (by omega) h2
  · by_cases e : b = n
    · subst e
      rw [gh_at] at h2
      exact absurd h2 gh_21
    · have hb' : b < n := by omega
      have ha' : a < n := by omega
      rw [gh_lt hb'] at h2 ⊢
      rw [gh_lt ha'] at h1 ⊢
      intro o1 o2
      exact hS a b hab hb' h1 h2 ((gh_op_s ha').mp o1).1 ((gh_op_s hb').mp o2).1
end
section
/-! the log's row through an execution -/
theorem gh_lom {kind p : Int32} {i f : Nat} {e : fy_E} : (fy_lo kind i f p e).1 = e.1 + 1 := rfl
theorem gh_sfm {fl : Nat → Int32} {i f p : Nat} {e : fy_E} : (fy_sf fl i f p e).1.1 = e.1 + 1 := by
  unfold fy_sf
  split <;> rfl
theorem gh_sum {fl : Nat → Int32} {D : Nat → Nat} {i : Nat} : ∀ (k f : Nat) (e : fy_E), e.1 ≤ (fy_su fl D i k f e).1.1 := by
  intro k
  induction k with
  | zero => exact fun f e => Nat.le_refl _
  | succ k ih =>
    intro f e
    rw [fy_su]
    have h := gh_sfm (fl := fl) (i := i) (f := f) (p := D f - 1) (e := e)
    split
    · exact ih (f + 1) e
    · split
      · show e.1 ≤ (fy_sf fl i f (D f - 1) e).1.1
        omega
      · have := ih (f + 1) (fy_sf fl i f (D f - 1) e).1
        omega
theorem gh_tdm {F i : Nat} : ∀ (k : Nat) (s : Int32) (e : fy_E), e.1 ≤ (fy_td F i k s e).1 := by
  intro k
  induction k with
  | zero => exact fun s e => Nat.le_refl _
  | succ k ih =>
    intro s e
    rw [fy_td]
    split
    · exact Nat.le_refl _
    · refine Nat.le_trans ?_ (ih _ _)
      show e.1 ≤ e.1 + 1
      omega
theorem gh_stm {fl sc mo cl dp : Nat → Int32} {T : Nat → Nat} {D : Nat → Nat → Nat} {n F i : Nat} {e : fy_E} : e.1 ≤ (fy_st fl sc mo cl dp T D n F i e).1 := Nat.le_trans (gh_sum F 0 e) (gh_tdm F _ _)
theorem gh_exm {fl sc mo cl dp : Nat → Int32} {T : Nat → Nat} {D : Nat → Nat → Nat} {n F : Nat} {e : fy_E} {i : Nat} : ∀ j, i ≤ j → (fy_ex fl sc mo cl dp T D n F e i).1 ≤ (fy_ex fl sc mo cl dp T D n F e j).1 := by
  intro j
  induction j with
  | zero => intro h; rw [show i = 0 by omega]; exact Nat.le_refl _
  | succ j ih =>
    intro h
    rcases Nat.lt_or_ge j i with z | z
    · rw [show i = j + 1 by omega]; exact Nat.le_refl _
    · exact Nat.le_trans (ih z) gh_stm
/-- the row grown from n to m by events of item i -/
def gh_X (i n : Nat) (G : Nat → gh_E) (m : Nat) (H : Nat → gh_E) : Prop := n ≤ m ∧ (∀ k, k < n → H k = G k) ∧ (∀ k, n ≤ k → k < m → (H k).2.1 = i)
theorem gh_Xr {i n : Nat} {G : Nat → gh_E} : gh_X i n G n G := ⟨Nat.le_refl n, fun _ _ => rfl, fun k h1 h2 => by omega⟩
theorem gh_Xt {i n m l : Nat} {G H K : Nat → gh_E} (h1 : gh_X i n G m H) (h2 : gh_X i m H l K) : gh_X i n G l K := by
  obtain ⟨a1, a2, a3⟩ := h1
  obtain ⟨b1, b2, b3⟩ := h2
  refine ⟨by omega, fun k hk => by rw [b2 k (by omega), a2 k hk], fun k hk hl => ?_⟩
  rcases Nat.lt_or_ge k m with z | z
  · rw [b2 k z]; exact a3 k hk z
  · exact b3 k z hl
theorem gh_X1 {i n : Nat} {G : Nat → gh_E} {g : gh_E} (h : g.2.1 = i) : gh_X i n G (n + 1) (gh_ap G n g) := ⟨by omega, fun k hk => gh_lt hk, fun k h1 h2 => by rw [show k = n by omega, gh_at]; exact h⟩
/-- item i finds fixture f with parameter p set up, and not ended before it -/
def gh_Q (n : Nat) (G : Nat → gh_E) (i f p : Nat) : Prop := ∃ a, a < n ∧ (G a).1 = 1 ∧ (G a).2.2.1 = f ∧ (G a).2.2.2 = p ∧ (G a).2.1 ≤ i ∧ ∀ x, a < x → x < n → gh_lf (G x) f → i ≤ (G x).2.1
theorem gh_QX {i j n m f p : Nat} {G H : Nat → gh_E} (h : gh_Q n G i f p) (hx : gh_X j n G m H) (hj : i ≤ j) : gh_Q m H i f p := by
  obtain ⟨a, a1, a2, a3, a4, a5, a6⟩ := h
  obtain ⟨b1, b2, b3⟩ := hx
  have ea := b2 a a1
  refine ⟨a, by omega, by rw [ea]; exact a2, by rw [ea]; exact a3, by rw [ea]; exact a4, by rw [ea]; exact a5, fun x hx hxm hl => ?_⟩
  rcases Nat.lt_or_ge x n with z | z
  · rw [b2 x z] at hl ⊢; exact a6 x hx z hl
  · rw [b3 x z hxm]; exact hj
section
variable {fl sc mo cl dp : Nat → Int32} {T : Nat → Nat} {D : Nat → Nat → Nat}
def gh_J (sc mo cl dp : Nat → Int32) (T : Nat → Nat) (F i : Nat) (e : fy_E) (G : Nat → gh_E) : Prop := gh_I sc mo cl dp T F i e.1 G e.2.1 e.2.2.2.2.1 e.2.2.2.2.2
theorem gh_sf {F i f p b c : Nat} {e : fy_E} {G : Nat → gh_E} (h : gh_J sc mo cl dp T F i e G) (ho : fy_ok F b c e) (hc : c < 100000) (he : e.1 < 256) (hf : f < F) (hp : p < 3) (hal : e.2.2.2.2.1 f = -1) :
    ∃ H, gh_J sc mo cl dp T F i (fy_sf fl i f p e).1 H ∧ gh_X i e.1 G (fy_sf fl i f p e).1.1 H ∧ (∀ g, g ≠ f → (fy_sf fl i f p e).1.2.2.2.2.1 g = e.2.2.2.2.1 g) ∧ ((fy_sf fl i f p e).2 = true → (fy_sf fl i f p e).1.2.2.2.2.1 f = nI p) := by
  unfold fy_sf
  split
  · refine ⟨gh_ap G e.1 (3, i, f, p), ?_, gh_X1 rfl, fun g _ => rfl, fun z => absurd z Bool.false_ne_true⟩
    have := gh_3 h he hf hp
    unfold gh_J fy_lo fy_at
    dsimp only
    rw [if_pos he]
    exact this
  · refine ⟨gh_ap G e.1 (1, i, f, p), ?_, gh_X1 rfl, fun g hg => pk_un hg, fun _ => pk_us⟩
    have := gh_1 (s := nI (e.2.2.2.1 + 1)) h he hf hp hal (fun g hg hn => by
      rcases ho.2.2 g hg with z | ⟨-, t, t1, t2, t3⟩
      · exact absurd z hn
      · rw [t3]
        have := ho.2.1
        exact nI_lt (by omega) (by omega))
    unfold gh_J fy_on fy_lo fy_at
    dsimp only
    rw [if_pos he]
    exact this
/-- what an item finds alive has its parameter -/
def gh_P (F : Nat) (Di : Nat → Nat) (f : Nat) (al : Nat → Int32) : Prop := ∀ g, f ≤ g → g < F → al g = -1 ∨ Di g = 0 ∨ al g = nI (Di g - 1)
theorem gh_su {F i : Nat} {Di : Nat → Nat} (hD : ∀ f, Di f < 4) : ∀ (k f b c : Nat) (e : fy_E) (G : Nat → gh_E), f + k = F → fy_ok F b c e → c + k < 100000 → gh_J sc mo cl dp T F i e G → gh_P F Di f e.2.2.2.2.1 → (fy_su fl Di i k f e).1.1 ≤ 256 →
    ∃ H, gh_J sc mo cl dp T F i (fy_su fl Di i k f e).1 H ∧ gh_X i e.1 G (fy_su fl Di i k f e).1.1 H ∧ (∀ g, g < f → (fy_su fl Di i k f e).1.2.2.2.2.1 g = e.2.2.2.2.1 g) ∧ ((fy_su fl Di i k f e).2 = true → ∀ g, f ≤ g → g < F → ¬ Di g = 0 → (fy_su fl Di i k f e).1.2.2.2.2.1 g = nI (Di g - 1)) := by
  intro k
  induction k with
  | zero =>
    intro f b c e G hk ho hc h hP he
    exact ⟨G, h, gh_Xr, fun g _ => rfl, fun _ g h1 h2 => by omega⟩
  | succ k ih =>
    intro f b c e G hk ho hc h hP he
    have hm := gh_sum (fl := fl) (D := Di) (i := i) (k + 1) f e
    have hd := hD f
    rw [fy_su] at he hm ⊢
    by_cases z : Di f = 0 ∨ e.2.2.2.2.1 f = nI (Di f - 1)
    · rw [if_pos z] at he hm ⊢
      obtain ⟨H, h1, h2, h3, h4⟩ := ih (f + 1) b c e G (by omega) ho (by omega) h (fun g hg hgF => hP g (by omega) hgF) he
      refine ⟨H, h1, h2, fun g hg => h3 g (by omega), fun y g hg hgF hn => ?_⟩
      by_cases e1 : g = f
      · subst e1
        rw [h3 g (by omega)]
        exact z.elim (fun w => absurd w hn) id
      · exact h4 y g (by omega) hgF hn
    · rw [if_neg z] at he hm ⊢
      have hal : e.2.2.2.2.1 f = -1 := by
        rcases hP f (Nat.le_refl f) (by omega) with w | w | w
        · exact w
        · exact absurd (Or.inl w) z
        · exact absurd (Or.inr w) z
      have hp3 : Di f - 1 < 3 := by omega
      have hD0 : ¬ Di f = 0 := fun w => z (Or.inl w)
      have hsm := gh_sfm (fl := fl) (i := i) (f := f) (p := Di f - 1) (e := e)
      have he1 : e.1 < 256 := by
        by_cases y : (fy_sf fl i f (Di f - 1) e).2 = false
        · rw [if_pos y] at he
          have he' : (fy_sf fl i f (Di f - 1) e).1.1 ≤ 256 := he
          omega
        · rw [if_neg y] at he
          have := gh_sum (fl := fl) (D := Di) (i := i) k (f + 1) (fy_sf fl i f (Di f - 1) e).1
          omega
      obtain ⟨H, h1, h2, h3, h4⟩ := gh_sf (fl := fl) h ho (by omega) he1 (show f < F by omega) hp3 hal
      by_cases y : (fy_sf fl i f (Di f - 1) e).2 = false
      · rw [if_pos y]
        exact ⟨H, h1, h2, fun g hg => h3 g (by omega), fun w => absurd w Bool.false_ne_true⟩
      · rw [if_neg y] at he ⊢
        obtain ⟨K, k1, k2, k3, k4⟩ := ih (f + 1) (b + 1) (c + 1) _ H (by omega) (fy_ok_sf ho hp3) (by omega) h1 (fun g hg hgF => by rw [h3 g (by omega)]; exact hP g (by omega) hgF) he
        refine ⟨K, k1, gh_Xt h2 k2, fun g hg => by rw [k3 g (by omega), h3 g (by omega)], fun w g hg hgF hn => ?_⟩
        by_cases e1 : g = f
        · subst e1
          rw [k3 g (by omega)]
          exact h4 (ts_nf y)
        · exact k4 w g (by omega) hgF hn
theorem gh_mx {s : Int32} {so : Nat → Int32} : ∀ (F h : Nat), h < F → bt s h = true → so h ≤ (fy_la s so F).2 := by
  intro F
  induction F with
  | zero => intro h hh; omega
  | succ F ih =>
    intro h hh hb
    rw [fy_la]
    by_cases z : bt s F = true ∧ (fy_la s so F).2 < so F
    · rw [if_pos z]
      rcases Nat.lt_or_ge h F with y | y
      · exact Int32.le_of_lt (Int32.lt_of_le_of_lt (ih h y hb) z.2)
      · rw [show h = F by omega]
        exact Int32.le_refl _
    · rw [if_neg z]
      rcases Nat.lt_or_ge h F with y | y
      · exact ih h y hb
      · rw [show h = F by omega] at hb ⊢
        exact Int32.not_lt.mp (fun q => z ⟨hb, q⟩)
theorem gh_td {F i : Nat} (hF : F ≤ 12) : ∀ (k b c : Nat) (s : Int32) (e : fy_E) (G : Nat → gh_E), fy_ok F b c e → c < 100000 → gh_J sc mo cl dp T F i e G → (∀ g, bt s g = true → g < F ∧ ¬ e.2.2.2.2.1 g = -1) →
    (∀ g h, h < F → bt s g = true → ¬ e.2.2.2.2.1 h = -1 → bt (dp h) g = true → bt s h = true) → fy_cn s F ≤ k → (fy_td F i k s e).1 ≤ 256 →
    ∃ H, gh_J sc mo cl dp T F i (fy_td F i k s e) H ∧ gh_X i e.1 G (fy_td F i k s e).1 H ∧ (∀ g, bt s g = true → (fy_td F i k s e).2.2.2.2.1 g = -1) ∧ (∀ g, bt s g = false → (fy_td F i k s e).2.2.2.2.1 g = e.2.2.2.2.1 g) := by
  intro k
  induction k with
  | zero =>
    intro b c s e G ho hc h hs hcl hcn he
    have hno := fy_cn_0 (s := s) (F := F) (by omega)
    refine ⟨G, h, gh_Xr, fun g hg => ?_, fun g _ => rfl⟩
    rw [hno g (hs g hg).1] at hg
    exact absurd hg (by decide)
  | succ k ih =>
    intro b c s e G ho hc h hs hcl hcn he
    rw [fy_td] at he ⊢
    by_cases z : s = 0
    · rw [if_pos z] at he ⊢
      refine ⟨G, h, gh_Xr, fun g hg => ?_, fun g _ => rfl⟩
      rw [z, b_0] at hg
      exact absurd hg (by decide)
    · rw [if_neg z] at he ⊢
      have hpos : ∀ g, g < F → bt s g = true → (0 : Int32) < e.2.2.2.2.2 g := by
        intro g hg hb2
        rcases ho.2.2 g hg with y | ⟨-, t, t1, t2, t3⟩
        · exact absurd y (hs g hb2).2
        · rw [t3]
          have := ho.2.1
          exact nI_lt (a := 0) (by omega) (by omega)
      obtain ⟨w, w1, w2⟩ := fy_nz z
      rcases fy_la_p F hpos with ⟨a1, a2⟩ | ⟨a1, a2, a3, a4⟩
      · rw [a1 w (hs w w2).1] at w2
        exact absurd w2 (by decide)
      · have he2 : e.1 + 1 ≤ 256 := by
          have q := Nat.le_trans (gh_tdm (F := F) (i := i) k _ _) he
          exact q
        obtain ⟨p, hp, hpe⟩ : ∃ p, p < 3 ∧ e.2.2.2.2.1 (fy_la s e.2.2.2.2.2 F).1 = nI p := by
          rcases ho.2.2 _ a1 with y | ⟨y, -⟩
          · exact absurd y (hs _ a2).2
          · exact y
        have g2 := gh_2 (p := p) h (by omega) a1 hp hpe (fun g hg hga hgd => by
          have := gh_mx (so := e.2.2.2.2.2) F g hg (hcl _ g hg a2 hga hgd)
          rw [a3] at this
          exact Int32.not_lt.mpr this)
        have hJ : gh_J sc mo cl dp T F i (fy_of (fy_la s e.2.2.2.2.2 F).1 (fy_lo 2 i (fy_la s e.2.2.2.2.2 F).1 (e.2.2.2.2.1 (fy_la s e.2.2.2.2.2 F).1) e)) (gh_ap G e.1 (2, i, (fy_la s e.2.2.2.2.2 F).1, p)) := by
          unfold gh_J fy_of fy_lo
          dsimp only
          rw [if_pos (show e.1 < 256 by omega), hpe]
          exact g2
        have hcl2 := fy_cn_clr a2 (by omega) F (by omega) a1
        have bits : ∀ g, bt (s &&& (((1 : Int32) <<< (nI (fy_la s e.2.2.2.2.2 F).1 &&& 31)) ^^^ (-1))) g = true ↔ bt s g = true ∧ g ≠ (fy_la s e.2.2.2.2.2 F).1 := by
          intro g
          rcases Nat.lt_or_ge g 32 with y | y
          · rw [fy_clr s (by omega) y, Bool.and_eq_true, Bool.not_eq_true', decide_eq_false_iff_not]
          · rw [b_big y, b_big y]
            exact ⟨fun q => absurd q (by decide), fun q => absurd q.1 (by decide)⟩
        have hs2 : ∀ g, bt (s &&& (((1 : Int32) <<< (nI (fy_la s e.2.2.2.2.2 F).1 &&& 31)) ^^^ (-1))) g = true → g < F ∧ ¬ upd e.2.2.2.2.1 (fy_la s e.2.2.2.2.2 F).1 (-1) g = -1 := by
          intro g hg
          obtain ⟨q1, q2⟩ := (bits g).mp hg
          rw [pk_un q2]
          exact hs g q1
        have hcl3 : ∀ g h, h < F → bt (s &&& (((1 : Int32) <<< (nI (fy_la s e.2.2.2.2.2 F).1 &&& 31)) ^^^ (-1))) g = true → ¬ upd e.2.2.2.2.1 (fy_la s e.2.2.2.2.2 F).1 (-1) h = -1 → bt (dp h) g = true → bt (s &&& (((1 : Int32) <<< (nI (fy_la s e.2.2.2.2.2 F).1 &&& 31)) ^^^ (-1))) h = true := by
          intro g h' hh hg hal hd
          obtain ⟨q1, q2⟩ := (bits g).mp hg
          have eh : h' ≠ (fy_la s e.2.2.2.2.2 F).1 := fun q => by rw [q, pk_us] at hal; exact hal rfl
          rw [pk_un eh] at hal
          exact (bits h').mpr ⟨hcl g h' hh q1 hal hd, eh⟩
        obtain ⟨K, k1, k2, k3, k4⟩ := ih (b + 1) c _ _ _ (fy_ok_of (fy_ok_lo ho)) hc hJ hs2 hcl3 (by omega) he
        refine ⟨K, k1, gh_Xt (gh_X1 rfl) k2, fun g hg => ?_, fun g hg => ?_⟩
        · by_cases eg : g = (fy_la s e.2.2.2.2.2 F).1
          · have hb : bt (s &&& (((1 : Int32) <<< (nI (fy_la s e.2.2.2.2.2 F).1 &&& 31)) ^^^ (-1))) g = false := ts_nt (fun q => ((bits g).mp q).2 eg)
            rw [k4 g hb]
            show upd e.2.2.2.2.1 (fy_la s e.2.2.2.2.2 F).1 (-1) g = -1
            rw [eg, pk_us]
          · exact k3 g ((bits g).mpr ⟨hg, eg⟩)
        · have hb : bt (s &&& (((1 : Int32) <<< (nI (fy_la s e.2.2.2.2.2 F).1 &&& 31)) ^^^ (-1))) g = false := ts_nt (fun q => by rw [((bits g).mp q).1] at hg; exact absurd hg (by decide))
          have eg : g ≠ (fy_la s e.2.2.2.2.2 F).1 := fun q => by rw [q, a2] at hg; exact absurd hg (by decide)
          rw [k4 g hb]
          show upd e.2.2.2.2.1 (fy_la s e.2.2.2.2.2 F).1 (-1) g = e.2.2.2.2.1 g
          rw [pk_un eg]
end
end
section
/-! the log's row at the end of an execution -/
section
variable {fl sc mo cl dp : Nat → Int32} {T : Nat → Nat} {D : Nat → Nat → Nat}
/-- what is alive after item i goes on into the next item -/
def gh_N (sc mo cl : Nat → Int32) (T : Nat → Nat) (D : Nat → Nat → Nat) (F N i : Nat) (al : Nat → Int32) : Prop :=
  ∀ g, g < F → ¬ al g = -1 → ¬ sc g = 3 ∧ i + 1 < N ∧ (D (i + 1) g = 0 ∨ al g = nI (D (i + 1) g - 1)) ∧ (sc g = 2 → mo (T i) = mo (T (i + 1)) ∧ cl (T i) = cl (T (i + 1))) ∧ (sc g = 1 → mo (T i) = mo (T (i + 1)))
theorem gh_st {F N i : Nat} {e : fy_E} {G : Nat → gh_E} (hF : F ≤ 12) (hi : i < N) (hN : N ≤ 64) (hD : ∀ j f, D j f < 4) (hdp : ∀ f g, f < 12 → bt (dp f) g = true → g < f) (ho : fy_ok F (24 * i) (12 * i) e) (h : gh_J sc mo cl dp T F i e G) (hP : gh_P F (D i) 0 e.2.2.2.2.1) (he : (fy_st fl sc mo cl dp T D N F i e).1 ≤ 256) :
    ∃ H, gh_J sc mo cl dp T F i (fy_st fl sc mo cl dp T D N F i e) H ∧ gh_X i e.1 G (fy_st fl sc mo cl dp T D N F i e).1 H ∧ gh_N sc mo cl T D F N i (fy_st fl sc mo cl dp T D N F i e).2.2.2.2.1 ∧
      ((fy_su fl (D i) i F 0 e).2 = true → ∀ f p, f < F → D i f = p + 1 → gh_Q (fy_st fl sc mo cl dp T D N F i e).1 H i f p) := by
  unfold fy_st at he ⊢
  have hok := fy_ok_su (fl := fl) (i := i) (hD i) F 0 _ _ _ ho
  have he1 : (fy_su fl (D i) i F 0 e).1.1 ≤ 256 := Nat.le_trans (gh_tdm F _ _) he
  obtain ⟨H, h1, h2, h3, h4⟩ := gh_su (hD i) F 0 _ _ e G (by omega) ho (by omega) h hP he1
  obtain ⟨K, k1, k2, k3, k4⟩ := gh_td (i := i) hF F _ _ (fy_ed dp (fy_su fl (D i) i F 0 e).1.2.2.2.2.1 (fy_eb sc mo cl T D N i (fy_su fl (D i) i F 0 e).1.2.2.2.2.1) F) _ H hok (by omega) h1 (fy_ed_al hF) (fun g x hx hg hal hd => (fy_ed_p (by omega) hx).mpr ⟨hal, Or.inr ⟨g, hdp x g (by omega) hd, hd, hg⟩⟩) (fy_cn_le _ F) he
  refine ⟨K, k1, gh_Xt h2 k2, fun g hg hal => ?_, fun y f p hf hp => ?_⟩
  · have hb : bt (fy_ed dp (fy_su fl (D i) i F 0 e).1.2.2.2.2.1 (fy_eb sc mo cl T D N i (fy_su fl (D i) i F 0 e).1.2.2.2.2.1) F) g = false := ts_nt (fun q => hal (k3 g q))
    have ea := k4 g hb
    rw [ea] at hal ⊢
    have neb : ¬ fy_eb sc mo cl T D N i (fy_su fl (D i) i F 0 e).1.2.2.2.2.1 g = true := fun q => by
      rw [(fy_ed_p (by omega) hg).mpr ⟨hal, Or.inl q⟩] at hb
      exact absurd hb (by decide)
    have neb2 : ¬ (sc g = 3 ∨ N ≤ i + 1 ∨ (¬ D (i + 1) g = 0 ∧ ¬ nI (D (i + 1) g - 1) = (fy_su fl (D i) i F 0 e).1.2.2.2.2.1 g) ∨ (sc g = 2 ∧ ¬ (mo (T i) = mo (T (i + 1)) ∧ cl (T i) = cl (T (i + 1)))) ∨ (sc g = 1 ∧ ¬ mo (T i) = mo (T (i + 1)))) := fun q => neb (decide_eq_true q)
    refine ⟨fun q => neb2 (Or.inl q), ?_, ?_, fun q => ?_, fun q => ?_⟩
    · rcases Nat.lt_or_ge (i + 1) N with y | y
      · exact y
      · exact absurd (Or.inr (Or.inl y)) neb2
    · by_cases y : D (i + 1) g = 0
      · exact Or.inl y
      · by_cases w : nI (D (i + 1) g - 1) = (fy_su fl (D i) i F 0 e).1.2.2.2.2.1 g
        · exact Or.inr w.symm
        · exact absurd (Or.inr (Or.inr (Or.inl ⟨y, w⟩))) neb2
    · by_cases y : mo (T i) = mo (T (i + 1)) ∧ cl (T i) = cl (T (i + 1))
      · exact y
      · exact absurd (Or.inr (Or.inr (Or.inr (Or.inl ⟨q, y⟩)))) neb2
    · by_cases y : mo (T i) = mo (T (i + 1))
      · exact y
      · exact absurd (Or.inr (Or.inr (Or.inr (Or.inr ⟨q, y⟩)))) neb2
  · have d4 := hD i f
    have ea := h4 y f (by omega) hf (by omega)
    rw [hp, Nat.add_sub_cancel] at ea
    obtain ⟨hA, hB, hC, -⟩ := h1
    obtain ⟨a, a1, a2, a3, a4, a5⟩ := hC f p hf (by omega) ea
    refine gh_QX (G := H) ⟨a, a1, a2, a3, a4, (hB a a1).2.2.2.1, fun x hx hxn hl => ?_⟩ k2 (Nat.le_refl i)
    have := a5 x hx hxn
    rw [a3] at this
    exact absurd hl this
theorem gh_nx {F N i n : Nat} {G : Nat → gh_E} {lg al so : Nat → Int32} (h : gh_I sc mo cl dp T F i n G lg al so) (hN : gh_N sc mo cl T D F N i al) : gh_I sc mo cl dp T F (i + 1) n G lg al so := by
  obtain ⟨hA, hB, hC, hD, hE, hS⟩ := h
  refine ⟨hA, fun k hk => ?_, hC, fun a ha h1 => ?_, hE, hS⟩
  · obtain ⟨b1, b2, b3, b4, b5⟩ := hB k hk
    exact ⟨b1, b2, b3, by omega, b5⟩
  · rcases hD a ha h1 with ⟨o1, o2, o3⟩ | q
    · obtain ⟨-, -, -, b4, b5, b6⟩ := hB a ha
      obtain ⟨n1, n2, n3, n4, n5⟩ := hN _ b5 (by rw [o2]; exact fy_neg1 b6)
      obtain ⟨s3, s2, s1⟩ := o3
      refine Or.inl ⟨o1, o2, fun z => absurd z n1, fun z q hq hqi => ?_, fun z q hq hqi => ?_⟩
      · by_cases e : q = i + 1
        · have := s2 z i b4 (Nat.le_refl i)
          have n4' := n4 z
          rw [e, ← n4'.1, ← n4'.2]
          exact this
        · exact s2 z q hq (by omega)
      · by_cases e : q = i + 1
        · have := s1 z i b4 (Nat.le_refl i)
          rw [e, ← n5 z]
          exact this
        · exact s1 z q hq (by omega)
    · exact Or.inr q
theorem gh_ex {F N : Nat} {e0 : fy_E} (hF : F ≤ 12) (hN : N ≤ 64) (hD : ∀ j f, D j f < 4) (hdp : ∀ f g, f < 12 → bt (dp f) g = true → g < f) (h0 : fy_ok F 0 0 e0) (hal : ∀ f, f < F → e0.2.2.2.2.1 f = -1) (he : (fy_ex fl sc mo cl dp T D N F e0 N).1 ≤ 256) :
    ∀ i, i < N → ∃ H, gh_J sc mo cl dp T F i (fy_ex fl sc mo cl dp T D N F e0 (i + 1)) H ∧ gh_N sc mo cl T D F N i (fy_ex fl sc mo cl dp T D N F e0 (i + 1)).2.2.2.2.1 ∧
      ∀ j, j ≤ i → (fy_su fl (D j) j F 0 (fy_ex fl sc mo cl dp T D N F e0 j)).2 = true → ∀ f p, f < F → D j f = p + 1 → gh_Q (fy_ex fl sc mo cl dp T D N F e0 (i + 1)).1 H j f p := by
  intro i
  induction i with
  | zero =>
    intro hi
    have e00 : e0.1 = 0 := by have := h0.1; omega
    have hm : (fy_ex fl sc mo cl dp T D N F e0 1).1 ≤ 256 := Nat.le_trans (gh_exm N (by omega)) he
    have hJ0 : gh_J sc mo cl dp T F 0 e0 (fun _ => (0, 0, 0, 0)) := by
      unfold gh_J
      rw [e00]
      refine ⟨by omega, fun k hk => absurd hk (Nat.not_lt_zero k), fun f p hf hp q => ?_, fun a ha => absurd ha (Nat.not_lt_zero a), fun b hb => absurd hb (Nat.not_lt_zero b), fun a b _ hb => absurd hb (Nat.not_lt_zero b)⟩
      rw [hal f hf] at q
      exact absurd q.symm (fy_neg1 hp)
    obtain ⟨H, h1, h2, h3, h4⟩ := gh_st (fl := fl) (e := e0) hF hi hN hD hdp h0 hJ0 (fun g _ hg => Or.inl (hal g hg)) hm
    refine ⟨H, h1, h3, fun j hj hs => ?_⟩
    have ej : j = 0 := by omega
    subst ej
    exact h4 hs
  | succ i ih =>
    intro hi
    obtain ⟨G, g1, g2, g3⟩ := ih (by omega)
    have hm : (fy_ex fl sc mo cl dp T D N F e0 (i + 1 + 1)).1 ≤ 256 := Nat.le_trans (gh_exm N (by omega)) he
    have hok := fy_ok_ex (fl := fl) (sc := sc) (mo := mo) (cl := cl) (dp := dp) (T := T) (n := N) hF hD h0 (i + 1)
    obtain ⟨H, h1, h2, h3, h4⟩ := gh_st (fl := fl) (e := fy_ex fl sc mo cl dp T D N F e0 (i + 1)) hF hi hN hD hdp hok (gh_nx g1 g2) (fun g _ hg => by
      by_cases z : (fy_ex fl sc mo cl dp T D N F e0 (i + 1)).2.2.2.2.1 g = -1
      · exact Or.inl z
      · exact Or.inr (g2 g hg z).2.2.1) hm
    refine ⟨H, h1, h3, fun j hj hs => ?_⟩
    by_cases ej : j = i + 1
    · subst ej
      exact h4 hs
    · exact fun f p hf hp => gh_QX (g3 j (by omega) hs f p hf hp) h2 (by omega)
/-- what the law asks of a log: the events, every setup ended, every teardown matched, and what the passed items found -/
def gh_L (sc mo cl dp : Nat → Int32) (T : Nat → Nat) (D : Nat → Nat → Nat) (F N n : Nat) (lg oc : Nat → Int32) (G : Nat → gh_E) : Prop :=
  n ≤ 256 ∧ (∀ k, k < n → lg k = gh_co (G k) ∧ 1 ≤ (G k).1 ∧ (G k).1 ≤ 3 ∧ (G k).2.1 < N ∧ (G k).2.2.1 < F ∧ (G k).2.2.2 < 3) ∧
  (∀ a, a < n → (G a).1 = 1 → ∃ b, b < n ∧ gh_cd sc mo cl dp T G a b) ∧
  (∀ b, b < n → (G b).1 = 2 → ∃ a, a < b ∧ gh_lf (G a) (G b).2.2.1 ∧ (∀ x, a < x → x < b → ¬ gh_lf (G x) (G b).2.2.1) ∧ (G a).1 = 1) ∧
  (∀ i, i < N → oc i = 1 → ∀ f p, f < F → D i f = p + 1 → gh_Q n G i f p)
theorem gh_fin {F N : Nat} {e0 : fy_E} {oc : Nat → Int32} (hF : F ≤ 12) (hN : N ≤ 64) (hD : ∀ j f, D j f < 4) (hdp : ∀ f g, f < 12 → bt (dp f) g = true → g < f) (h0 : fy_ok F 0 0 e0) (hal : ∀ f, f < F → e0.2.2.2.2.1 f = -1) (hoc : ∀ i, i < N → oc i = fy_ou fl sc mo cl dp T D N F e0 i) (he : (fy_ex fl sc mo cl dp T D N F e0 N).1 ≤ 256) :
    ∃ G, gh_L sc mo cl dp T D F N (fy_ex fl sc mo cl dp T D N F e0 N).1 (fy_ex fl sc mo cl dp T D N F e0 N).2.1 oc G := by
  rcases Nat.eq_zero_or_pos N with z | z
  · subst z
    have e00 : (fy_ex fl sc mo cl dp T D 0 F e0 0).1 = 0 := by have := h0.1; show e0.1 = 0; omega
    refine ⟨fun _ => (0, 0, 0, 0), he, ?_, ?_, ?_, fun i hi => absurd hi (Nat.not_lt_zero i)⟩
    · intro k hk; omega
    · intro k hk; omega
    · intro k hk; omega
  · obtain ⟨M, rfl⟩ : ∃ M, N = M + 1 := ⟨N - 1, by omega⟩
    obtain ⟨G, g1, g2, g3⟩ := gh_ex (fl := fl) (sc := sc) (mo := mo) (cl := cl) (T := T) hF hN hD hdp h0 hal he M (by omega)
    obtain ⟨hA, hB, hC, hDD, hE, hS⟩ := g1
    refine ⟨G, hA, fun k hk => ?_, fun a ha h1 => ?_, hE, fun i hi ho f p hf hp => ?_⟩
    · obtain ⟨b1, b2, b3, b4, b5⟩ := hB k hk
      exact ⟨b1, b2, b3, by omega, b5⟩
    · rcases hDD a ha h1 with ⟨o1, o2, o3⟩ | q
      · obtain ⟨-, -, -, b4, b5, b6⟩ := hB a ha
        have := (g2 _ b5 (by rw [o2]; exact fy_neg1 b6)).2.1
        omega
      · exact q
    · refine g3 i (by omega) ?_ f p hf hp
      rw [hoc i hi] at ho
      unfold fy_ou at ho
      by_cases y : (fy_su fl (D i) i F 0 (fy_ex fl sc mo cl dp T D (M + 1) F e0 i)).2 = true
      · exact y
      · rw [if_neg y] at ho
        exact absurd ho (by decide)
end
end
section
/-! the law's small methods -/
theorem pl_cell {post : Int32 → Prop} {L j : Nat} {xs : Nat → Int32} {u : St1} (hL : L ≤ 260) (hj : j < 1000) (h : ∀ r, post r) : wpL_cell post L xs u (nI j) := by
  unfold wpL_cell
  exact pk_le L j (fun _ => h 0) (fun z => ⟨vp_in_nI z (by omega), h _⟩)
theorem pl_mod {post : Int32 → Prop} {u : St1} {x : Int32} {m : Nat} (h0 : 0 < m) (hm : m < 100) (h : ∀ j, j < m → post (nI j)) : wpL_mod post u x (nI m) := by
  unfold wpL_mod
  refine ⟨nI_ne0 h0 (by omega), nm_e ?_⟩
  have hr := rem_toInt x (nI m)
  rw [nI_toInt (by omega)] at hr
  have hb := tmod_bounds (a := x.toInt) (M := (m : Int)) (by omega)
  rw [← hr] at hb
  generalize x - x / nI m * nI m = r at hb
  have z0 : (0 : Int32).toInt = 0 := by decide
  by_cases z : 0 ≤ r
  · refine br_t z ?_
    obtain ⟨j, hj, rfl⟩ := nI_of (x := r) (Int32.not_lt.mpr z)
    rw [nI_toInt hj] at hb
    exact h j (by omega)
  · refine br_f z ?_
    have hn : r.toInt < 0 := by
      rw [Int32.le_iff_toInt_le, z0] at z
      omega
    have e : r + nI m = nI (r.toInt + m).toNat := by
      apply Int32.toInt_inj.mp
      rw [Int32.toInt_add, nI_toInt (by omega), nI_toInt (by omega), Int.bmod_eq_of_le (by omega) (by omega)]
      omega
    rw [e]
    exact h _ (by omega)
/-- bounds of an event -/
def pl_b (g : gh_E) : Prop := g.1 ≤ 3 ∧ g.2.1 < 64 ∧ g.2.2.1 < 12 ∧ g.2.2.2 < 3
theorem pl_v (g : gh_E) : gh_co g = nI (g.1 * 100000 + g.2.1 * 1000 + g.2.2.1 * 10 + g.2.2.2) := by
  unfold gh_co
  rw [← nI_add, ← nI_add, ← nI_add, ← pk_mul, ← pk_mul, ← pk_mul]
  rfl
theorem pl_kind {post : Int32 → Prop} {u : St1} {g : gh_E} (hb : pl_b g) (h : post (nI g.1)) : wpL_kind post u (gh_co g) := by
  obtain ⟨b1, b2, b3, b4⟩ := hb
  unfold wpL_kind
  refine ⟨by decide, ?_⟩
  have e : nI (g.1 * 100000 + g.2.1 * 1000 + g.2.2.1 * 10 + g.2.2.2) / 100000 = nI ((g.1 * 100000 + g.2.1 * 1000 + g.2.2.1 * 10 + g.2.2.2) / 100000) := pk_div (d := 100000) (by omega) (by decide) (by decide)
  rw [pl_v, e, show (g.1 * 100000 + g.2.1 * 1000 + g.2.2.1 * 10 + g.2.2.2) / 100000 = g.1 by omega]
  exact h
theorem pl_par {post : Int32 → Prop} {u : St1} {g : gh_E} (hb : pl_b g) (h : post (nI g.2.2.2)) : wpL_par post u (gh_co g) := by
  obtain ⟨b1, b2, b3, b4⟩ := hb
  unfold wpL_par
  refine ⟨by decide, ?_⟩
  have e : nI (g.1 * 100000 + g.2.1 * 1000 + g.2.2.1 * 10 + g.2.2.2) - nI (g.1 * 100000 + g.2.1 * 1000 + g.2.2.1 * 10 + g.2.2.2) / 10 * 10 = nI ((g.1 * 100000 + g.2.1 * 1000 + g.2.2.1 * 10 + g.2.2.2) % 10) := pk_rem (d := 10) (by omega) (by decide) (by decide)
  rw [pl_v, e, show (g.1 * 100000 + g.2.1 * 1000 + g.2.2.1 * 10 + g.2.2.2) % 10 = g.2.2.2 by omega]
  exact h
theorem pl_fx {post : Int32 → Prop} {u : St1} {g : gh_E} (hb : pl_b g) (h : post (nI g.2.2.1)) : wpL_fx post u (gh_co g) := by
  obtain ⟨b1, b2, b3, b4⟩ := hb
  unfold wpL_fx
  refine ⟨by decide, by decide, ?_⟩
  have e : nI (g.1 * 100000 + g.2.1 * 1000 + g.2.2.1 * 10 + g.2.2.2) / 10 = nI ((g.1 * 100000 + g.2.1 * 1000 + g.2.2.1 * 10 + g.2.2.2) / 10) := pk_div (d := 10) (by omega) (by decide) (by decide)
  have e2 : nI ((g.1 * 100000 + g.2.1 * 1000 + g.2.2.1 * 10 + g.2.2.2) / 10) - nI ((g.1 * 100000 + g.2.1 * 1000 + g.2.2.1 * 10 + g.2.2.2) / 10) / 100 * 100 = nI ((g.1 * 100000 + g.2.1 * 1000 + g.2.2.1 * 10 + g.2.2.2) / 10 % 100) := pk_rem (d := 100) (by omega) (by decide) (by decide)
  rw [pl_v, e, e2, show (g.1 * 100000 + g.2.1 * 1000 + g.2.2.1 * 10 + g.2.2.2) / 10 % 100 = g.2.2.1 by omega]
  exact h
theorem pl_itm {post : Int32 → Prop} {u : St1} {g : gh_E} (hb : pl_b g) (h : post (nI g.2.1)) : wpL_itm post u (gh_co g) := by
  obtain ⟨b1, b2, b3, b4⟩ := hb
  unfold wpL_itm
  refine ⟨by decide, by decide, ?_⟩
  have e : nI (g.1 * 100000 + g.2.1 * 1000 + g.2.2.1 * 10 + g.2.2.2) / 1000 = nI ((g.1 * 100000 + g.2.1 * 1000 + g.2.2.1 * 10 + g.2.2.2) / 1000) := pk_div (d := 1000) (by omega) (by decide) (by decide)
  have e2 : nI ((g.1 * 100000 + g.2.1 * 1000 + g.2.2.1 * 10 + g.2.2.2) / 1000) - nI ((g.1 * 100000 + g.2.1 * 1000 + g.2.2.1 * 10 + g.2.2.2) / 1000) / 100 * 100 = nI ((g.1 * 100000 + g.2.1 * 1000 + g.2.2.1 * 10 + g.2.2.2) / 1000 % 100) := pk_rem (d := 100) (by omega) (by decide) (by decide)
  rw [pl_v, e, e2, show (g.1 * 100000 + g.2.1 * 1000 + g.2.2.1 * 10 + g.2.2.2) / 1000 % 100 = g.2.1 by omega]
  exact h
theorem pl_life {post : Int32 → Prop} {u : St1} {g : gh_E} {f : Nat} (hb : pl_b g) (hf : f < 12) (h1 : gh_lf g f → post 1) (h0 : ¬ gh_lf g f → post 0) : wpL_life post u (gh_co g) (nI f) := by
  have b := hb
  obtain ⟨b1, b2, b3, b4⟩ := hb
  have tl : (g.1 = 1 ∨ g.1 = 2) → wL_life_15 post (gh_co g) (nI f) := by
    intro k
    unfold wL_life_15
    exact pl_fx b (pk_eq g.2.2.1 f (fun z => h1 ⟨k, z⟩) (fun z => h0 (fun q => z q.2)))
  unfold wpL_life
  refine pl_kind b (pk_eq g.1 1 (fun z => tl (Or.inl z)) (fun z => pk_eq g.1 2 (fun y => tl (Or.inr y)) (fun y => h0 (fun q => q.1.elim z y))))
section
variable {xfc xtc xF xT xn xev xst : Int32} {sc pc dp fl mo cl rq te pa oc lg att al so : Nat → Int32} {ke : Nat → Int64}
theorem pl_ev {post : Int32 → Prop} {n k : Nat} (hn : n ≤ 256) (hk : k < n) (h : post (lg k)) : wpX_event post (xfc, xtc, xF, xT, xn, nI n, xst, sc, pc, dp, fl, mo, cl, rq, te, pa, ke, oc, lg, att, al, so) (nI k) := by
  unfold wpX_event
  refine br_f (nI_pos (by omega)) (br_f (nI_ge hk (by omega)) (br_f (nI_ge (b := 256) (by omega) (by decide)) ⟨vp_in_nI (by omega) (by decide), ?_⟩))
  rw [nI_clamp (by omega)]
  exact h
theorem pl_itT {post : Int32 → Prop} {N k : Nat} (hN : N ≤ 64) (hk : k < N) (h : post (te k)) : wpX_itemTest post (xfc, xtc, xF, xT, nI N, xev, xst, sc, pc, dp, fl, mo, cl, rq, te, pa, ke, oc, lg, att, al, so) (nI k) := by
  unfold wpX_itemTest
  refine fx_isI hN (fun z => ?_) (fun f hf e => br_f (by decide) ⟨vp_in_nI (by omega) (by decide), ?_⟩)
  · rcases z with z | z
    · exact absurd z (nI_pos (by omega))
    · exact absurd z (nI_ge hk (by omega))
  · rw [nI_clamp (by omega)]
    exact h
theorem pl_itO {post : Int32 → Prop} {N k : Nat} (hN : N ≤ 64) (hk : k < N) (h : post (oc k)) : wpX_itemOutcome post (xfc, xtc, xF, xT, nI N, xev, xst, sc, pc, dp, fl, mo, cl, rq, te, pa, ke, oc, lg, att, al, so) (nI k) := by
  unfold wpX_itemOutcome
  refine fx_isI hN (fun z => ?_) (fun f hf e => br_f (by decide) ⟨vp_in_nI (by omega) (by decide), ?_⟩)
  · rcases z with z | z
    · exact absurd z (nI_pos (by omega))
    · exact absurd z (nI_ge hk (by omega))
  · rw [nI_clamp (by omega)]
    exact h
theorem pl_itP {post : Int32 → Prop} {N F k f : Nat} {D : Nat → Nat} (hN : N ≤ 64) (hk : k < N) (hF : F ≤ 12) (hf : f < F) (hD : ∀ f, D f < 4) (hpa : pa k = nI (fy_en D 12)) (h : post (nI (D f) - 1)) : wpX_itemParam post (xfc, xtc, nI F, xT, nI N, xev, xst, sc, pc, dp, fl, mo, cl, rq, te, pa, ke, oc, lg, att, al, so) (nI k) (nI f) := by
  unfold wpX_itemParam
  refine fx_isI hN (fun z => ?_) (fun _ _ _ => br_f (by decide) ?_)
  · rcases z with z | z
    · exact absurd z (nI_pos (by omega))
    · exact absurd z (nI_ge hk (by omega))
  · refine fx_isF hF (fun z => ?_) (fun _ _ _ => br_f (by decide) ⟨vp_in_nI (by omega) (by decide), ?_⟩)
    · rcases z with z | z
      · exact absurd z (nI_pos (by omega))
      · exact absurd z (nI_ge hf (by omega))
    · rw [nI_clamp (by omega), hpa]
      exact fx_pin hD (by omega) h
end
end
section
/-! the law's first check: setups and teardowns -/
section
variable {xfc xtc xF xT xn xev xst : Int32} {sc pc dp fl mo cl rq te pa oc lg att al so : Nat → Int32} {ke : Nat → Int64}
theorem pl_E {post : Int32 → Prop} {F N n k : Nat} {G : Nat → gh_E} (hn : n ≤ 256) (hB : ∀ k, k < n → lg k = gh_co (G k) ∧ pl_b (G k)) (hk : k < n) (h : post (gh_co (G k))) : wpX_event post (xfc, xtc, nI F, xT, nI N, nI n, xst, sc, pc, dp, fl, mo, cl, rq, te, pa, ke, oc, lg, att, al, so) (nI k) := pl_ev hn hk (by rw [(hB k hk).1]; exact h)
theorem pl_630 {post : Int32 → Prop} {L kc ks : Nat} {xs : Nat → Int32} {x2 x4 x7 x8 x9 : Int32} {x5 : Int64} {F N n : Nat} {J339 : Int32 → Int32 → Int32 → Int32 → Int32 → Int32 → Int32 → Int32 → Int32 → (Nat → Int32) → (Nat → Int32) → (Nat → Int32) → (Nat → Int32) → (Nat → Int32) → (Nat → Int32) → (Nat → Int32) → (Nat → Int32) → (Nat → Int32) → (Nat → Int64) → (Nat → Int32) → (Nat → Int32) → (Nat → Int32) → (Nat → Int32) → (Nat → Int32) → Prop} {J438 J557 : Int32 → Prop} {b c g y : Nat} {x13 x15 x21 : Int32} {G : Nat → gh_E} (hn : n ≤ 256) (hB : ∀ k, k < n → lg k = gh_co (G k) ∧ pl_b (G k)) (hy : y < n) (hyb : y < b) (hb : b < n) (hl : gh_lf (G y) g) (hg : g < 12) (hc : c < n) (hJ : J557 (nI (c + 1))) :
    ∀ (k x nf : Nat), x + k = y → k < nf → wL_law_630 post L xs J339 J438 J557 x2 (nI F) x4 x5 x7 x8 x9 (nI N) (nI n) x13 x15 (nI b) (nI c) (nI g) x21 kc ks xfc xtc (nI F) xT (nI N) (nI n) xst sc pc dp fl mo cl rq te pa ke oc lg att al so nf (nI x) := by
  have fin : ∀ x, x ≤ y → wL_law_664 post L xs J339 J438 J557 x2 (nI F) x4 x5 x7 x8 x9 (nI N) (nI n) x13 x15 (nI b) (nI c) (nI x) kc ks xfc xtc (nI F) xT (nI N) (nI n) xst sc pc dp fl mo cl rq te pa ke oc lg att al so := by
    intro x hx
    unfold wL_law_664
    refine br_f (nI_pos (by omega)) (br_t (nI_lt (by omega) (by omega)) (nm_e ?_))
    rw [nI_1]
    exact hJ
  intro k
  induction k with
  | zero =>
    intro x nf hk hf
    obtain ⟨nf, rfl⟩ : ∃ r, nf = r + 1 := ⟨nf - 1, by omega⟩
    have e : x = y := by omega
    subst e
    refine br_f (nI_ge hy (by omega)) (pl_E hn hB hy (pl_life (hB x hy).2 hg (fun _ => br_f (by decide) (fin x (Nat.le_refl x))) (fun z => absurd hl z)))
  | succ k ih =>
    intro x nf hk hf
    obtain ⟨nf, rfl⟩ : ∃ r, nf = r + 1 := ⟨nf - 1, by omega⟩
    refine br_f (nI_ge (show x < n by omega) (by omega)) (pl_E hn hB (by omega) (pl_life (hB x (by omega)).2 hg (fun _ => br_f (by decide) (fin x (by omega))) (fun z => br_t rfl (nm_e ?_))))
    rw [nI_1]
    exact ih (x + 1) nf (by omega) (by omega)
theorem pl_557 {post : Int32 → Prop} {L kc ks : Nat} {xs : Nat → Int32} {x2 x4 x7 x8 x9 : Int32} {x5 : Int64} {F N n : Nat} {J339 : Int32 → Int32 → Int32 → Int32 → Int32 → Int32 → Int32 → Int32 → Int32 → (Nat → Int32) → (Nat → Int32) → (Nat → Int32) → (Nat → Int32) → (Nat → Int32) → (Nat → Int32) → (Nat → Int32) → (Nat → Int32) → (Nat → Int32) → (Nat → Int64) → (Nat → Int32) → (Nat → Int32) → (Nat → Int32) → (Nat → Int32) → (Nat → Int32) → Prop} {J438 : Int32 → Prop} {a b : Nat} {G : Nat → gh_E} {Tj : Nat → Nat} (hF : F ≤ 12) (hn : n ≤ 256) (hB : ∀ k, k < n → lg k = gh_co (G k) ∧ pl_b (G k)) (hBF : ∀ k, k < n → (G k).2.2.1 < F) (hb : b < n) (hcd : gh_cd sc mo cl dp Tj G a b)
    (hx5 : ∀ g h, g < F → h < F → (((x5 >>> (((nI g * 8) + nI h).toInt64 &&& 63)) &&& 1) = 0 ↔ bt (dp g) h = false)) (hJ : J438 (nI (a + 1))) :
    ∀ (k c nf : Nat), c + k = b → k < nf → a < c → wL_law_557 post L xs J339 J438 x2 (nI F) x4 x5 x7 x8 x9 (nI N) (nI n) (nI a) (nI (G a).2.2.1) (nI b) kc ks xfc xtc (nI F) xT (nI N) (nI n) xst sc pc dp fl mo cl rq te pa ke oc lg att al so nf (nI c) := by
  intro k
  induction k with
  | zero =>
    intro c nf hk hf hac
    obtain ⟨nf, rfl⟩ : ∃ r, nf = r + 1 := ⟨nf - 1, by omega⟩
    have e : c = b := by omega
    subst e
    refine br_t (nI_le (Nat.le_refl _) (by omega)) (nm_e ?_)
    rw [nI_1]
    exact hJ
  | succ k ih =>
    intro c nf hk hf hac
    obtain ⟨nf, rfl⟩ : ∃ r, nf = r + 1 := ⟨nf - 1, by omega⟩
    have hcn : c < n := by omega
    have bc := (hB c hcn).2
    have gF := hBF c hcn
    have aF := hBF a (by omega)
    have nx : wL_law_557 post L xs J339 J438 x2 (nI F) x4 x5 x7 x8 x9 (nI N) (nI n) (nI a) (nI (G a).2.2.1) (nI b) kc ks xfc xtc (nI F) xT (nI N) (nI n) xst sc pc dp fl mo cl rq te pa ke oc lg att al so nf (nI c + 1) := by
      rw [nI_1]
      exact ih (c + 1) nf (by omega) (by omega) (by omega)
    refine br_f (nI_ge (show c < b by omega) (by omega)) (pl_E hn hB hcn (pl_fx bc (pl_kind bc (pk_eq (G c).1 1 (fun k1 => ?_) (fun _ => nm_e nx) rfl rfl (by have := bc.1; omega)))))
    refine br_f (nI_ge gF (by omega)) (br_f (nI_ge aF (by omega)) ?_)
    by_cases z : ((x5 >>> (((nI (G c).2.2.1 * 8) + nI (G a).2.2.1).toInt64 &&& 63)) &&& 1) = 0
    · exact br_t z (nm_e nx)
    · refine br_f z (nm_r (nI_1 c) ?_)
      have hd : bt (dp (G c).2.2.1) (G a).2.2.1 = true := ts_nf (fun q => z ((hx5 _ _ gF aF).mpr q))
      obtain ⟨y, y1, y2, y3⟩ := hcd.2.2.2.2.2.1 c hac (by omega) k1 hd
      refine ⟨n + 1, pl_630 hn hB (by omega) y2 hb y3 (by omega) hcn ?_ (y - (c + 1)) (c + 1) (n + 1) (by omega) (by omega)⟩
      have := nx
      rw [nI_1] at this
      exact this
theorem pl_512 {post : Int32 → Prop} {L kc ks : Nat} {xs : Nat → Int32} {x2 x4 x7 x8 x9 : Int32} {x5 : Int64} {F N n : Nat} {J339 : Int32 → Int32 → Int32 → Int32 → Int32 → Int32 → Int32 → Int32 → Int32 → (Nat → Int32) → (Nat → Int32) → (Nat → Int32) → (Nat → Int32) → (Nat → Int32) → (Nat → Int32) → (Nat → Int32) → (Nat → Int32) → (Nat → Int32) → (Nat → Int64) → (Nat → Int32) → (Nat → Int32) → (Nat → Int32) → (Nat → Int32) → (Nat → Int32) → Prop} {J438 : Int32 → Prop} {a b : Nat} {G : Nat → gh_E} {Tj : Nat → Nat} (hF : F ≤ 12) (hn : n ≤ 256) (hB : ∀ k, k < n → lg k = gh_co (G k) ∧ pl_b (G k)) (hBF : ∀ k, k < n → (G k).2.2.1 < F) (hb : b < n) (hcd : gh_cd sc mo cl dp Tj G a b)
    (hx5 : ∀ g h, g < F → h < F → (((x5 >>> (((nI g * 8) + nI h).toInt64 &&& 63)) &&& 1) = 0 ↔ bt (dp g) h = false)) (hJ : J438 (nI (a + 1))) :
    wL_law_512 post L xs J339 J438 x2 (nI F) x4 x5 x7 x8 x9 (nI N) (nI n) (nI a) (gh_co (G a)) (nI (G a).2.2.1) (nI b) kc ks xfc xtc (nI F) xT (nI N) (nI n) xst sc pc dp fl mo cl rq te pa ke oc lg att al so := by
  have hab := hcd.1
  have bb := (hB b hb).2
  have ba := (hB a (by omega)).2
  unfold wL_law_512
  refine br_t (nI_pos' (by omega)) (pl_E hn hB hb (pl_kind bb ?_))
  rw [hcd.2.2.2.1]
  refine br_t rfl (pl_par bb (pl_par ba ?_))
  rw [hcd.2.2.2.2.1]
  refine br_t rfl (nm_r (nI_1 a) ⟨n + 1, ?_⟩)
  exact pl_557 hF hn hB hBF hb hcd hx5 hJ (b - (a + 1)) (a + 1) (n + 1) (by omega) (by omega) (by omega)
theorem pl_478 {post : Int32 → Prop} {L kc ks : Nat} {xs : Nat → Int32} {x2 x4 x7 x8 x9 : Int32} {x5 : Int64} {F N n : Nat} {J339 : Int32 → Int32 → Int32 → Int32 → Int32 → Int32 → Int32 → Int32 → Int32 → (Nat → Int32) → (Nat → Int32) → (Nat → Int32) → (Nat → Int32) → (Nat → Int32) → (Nat → Int32) → (Nat → Int32) → (Nat → Int32) → (Nat → Int32) → (Nat → Int64) → (Nat → Int32) → (Nat → Int32) → (Nat → Int32) → (Nat → Int32) → (Nat → Int32) → Prop} {J438 : Int32 → Prop} {a b : Nat} {x16 : Int32} {G : Nat → gh_E} {Tj : Nat → Nat} (hF : F ≤ 12) (hn : n ≤ 256) (hB : ∀ k, k < n → lg k = gh_co (G k) ∧ pl_b (G k)) (hBF : ∀ k, k < n → (G k).2.2.1 < F) (hb : b < n) (hcd : gh_cd sc mo cl dp Tj G a b)
    (hx5 : ∀ g h, g < F → h < F → (((x5 >>> (((nI g * 8) + nI h).toInt64 &&& 63)) &&& 1) = 0 ↔ bt (dp g) h = false)) (hJ : J438 (nI (a + 1))) :
    ∀ (k x nf : Nat), x + k = b → k < nf → a < x → wL_law_478 post L xs J339 J438 x2 (nI F) x4 x5 x7 x8 x9 (nI N) (nI n) (nI a) (gh_co (G a)) (nI (G a).2.2.1) x16 kc ks xfc xtc (nI F) xT (nI N) (nI n) xst sc pc dp fl mo cl rq te pa ke oc lg att al so nf (nI x) := by
  have hab := hcd.1
  have aF := hBF a (by omega)
  intro k
  induction k with
  | zero =>
    intro x nf hk hf hx
    obtain ⟨nf, rfl⟩ : ∃ r, nf = r + 1 := ⟨nf - 1, by omega⟩
    have e : x = b := by omega
    subst e
    exact br_f (nI_ge hb (by omega)) (pl_E hn hB hb (pl_life (hB x hb).2 (by omega) (fun _ => br_f (by decide) (pl_512 hF hn hB hBF hb hcd hx5 hJ)) (fun z => absurd hcd.2.1 z)))
  | succ k ih =>
    intro x nf hk hf hx
    obtain ⟨nf, rfl⟩ : ∃ r, nf = r + 1 := ⟨nf - 1, by omega⟩
    refine br_f (nI_ge (show x < n by omega) (by omega)) (pl_E hn hB (by omega) (pl_life (hB x (by omega)).2 (by omega) (fun z => absurd z (hcd.2.2.1 x hx (by omega))) (fun z => br_t rfl (nm_e ?_))))
    rw [nI_1]
    exact ih (x + 1) nf (by omega) (by omega) (by omega)
theorem pl_705 {post : Int32 → Prop} {L kc ks : Nat} {xs : Nat → Int32} {x2 x4 x7 x8 x9 : Int32} {x5 : Int64} {F N n : Nat} {J339 : Int32 → Int32 → Int32 → Int32 → Int32 → Int32 → Int32 → Int32 → Int32 → (Nat → Int32) → (Nat → Int32) → (Nat → Int32) → (Nat → Int32) → (Nat → Int32) → (Nat → Int32) → (Nat → Int32) → (Nat → Int32) → (Nat → Int32) → (Nat → Int64) → (Nat → Int32) → (Nat → Int32) → (Nat → Int32) → (Nat → Int32) → (Nat → Int32) → Prop} {J438 : Int32 → Prop} {a b f : Nat} {x16 : Int32} {G : Nat → gh_E} (hn : n ≤ 256) (hB : ∀ k, k < n → lg k = gh_co (G k) ∧ pl_b (G k)) (hb : b < n) (hab : a < b) (hf : f < 12) (hl : gh_lf (G a) f) (h1 : (G a).1 = 1) (hno : ∀ x, a < x → x < b → ¬ gh_lf (G x) f) (hJ : J438 (nI (b + 1))) :
    ∀ (k nf : Nat), a + k < b → k < nf → wL_law_705 post L xs J339 J438 x2 (nI F) x4 x5 x7 x8 x9 (nI N) (nI n) (nI b) (nI f) x16 kc ks xfc xtc (nI F) xT (nI N) (nI n) xst sc pc dp fl mo cl rq te pa ke oc lg att al so nf (nI (a + k)) := by
  intro k
  induction k with
  | zero =>
    intro nf hk hnf
    obtain ⟨nf, rfl⟩ : ∃ r, nf = r + 1 := ⟨nf - 1, by omega⟩
    refine br_f (nI_pos (by omega)) (pl_E hn hB (by omega) (pl_life (hB a (by omega)).2 hf (fun _ => br_f (by decide) ?_) (fun z => absurd hl z)))
    unfold wL_law_737
    refine br_f (nI_pos (by omega)) (pl_E hn hB (show a + 0 < n by omega) (pl_kind (hB a (by omega)).2 ?_))
    show (nI (G a).1 = 1 → _) ∧ (¬ nI (G a).1 = 1 → _)
    rw [h1]
    refine br_t rfl (nm_e ?_)
    rw [nI_1]
    exact hJ
  | succ k ih =>
    intro nf hk hnf
    obtain ⟨nf, rfl⟩ : ∃ r, nf = r + 1 := ⟨nf - 1, by omega⟩
    refine br_f (nI_pos (by omega)) (pl_E hn hB (by omega) (pl_life (hB (a + (k + 1)) (by omega)).2 hf (fun z => absurd z (hno _ (by omega) hk)) (fun z => br_t rfl (nm_r (pk_m1 (a + k)) ?_))))
    exact ih nf (by omega) (by omega)
theorem pl_438 {post : Int32 → Prop} {L kc ks : Nat} {xs : Nat → Int32} {x2 x4 x7 x8 x9 : Int32} {x5 : Int64} {F N n : Nat} {J339 : Int32 → Int32 → Int32 → Int32 → Int32 → Int32 → Int32 → Int32 → Int32 → (Nat → Int32) → (Nat → Int32) → (Nat → Int32) → (Nat → Int32) → (Nat → Int32) → (Nat → Int32) → (Nat → Int32) → (Nat → Int32) → (Nat → Int32) → (Nat → Int64) → (Nat → Int32) → (Nat → Int32) → (Nat → Int32) → (Nat → Int32) → (Nat → Int32) → Prop} {G : Nat → gh_E} {Tj : Nat → Nat} (hF : F ≤ 12) (hn : n ≤ 256) (hB : ∀ k, k < n → lg k = gh_co (G k) ∧ pl_b (G k)) (hBF : ∀ k, k < n → (G k).2.2.1 < F)
    (h1 : ∀ a, a < n → (G a).1 = 1 → ∃ b, b < n ∧ gh_cd sc mo cl dp Tj G a b)
    (h2 : ∀ b, b < n → (G b).1 = 2 → ∃ a, a < b ∧ gh_lf (G a) (G b).2.2.1 ∧ (∀ x, a < x → x < b → ¬ gh_lf (G x) (G b).2.2.1) ∧ (G a).1 = 1)
    (hx5 : ∀ g h, g < F → h < F → (((x5 >>> (((nI g * 8) + nI h).toInt64 &&& 63)) &&& 1) = 0 ↔ bt (dp g) h = false)) (hJ : ∃ fu, wL_law_766 post L xs J339 x2 (nI F) x4 x5 x7 x8 x9 (nI N) (nI n) kc ks xfc xtc (nI F) xT (nI N) (nI n) xst sc pc dp fl mo cl rq te pa ke oc lg att al so fu 0) :
    ∀ (k a nf : Nat), a + k = n → k < nf → wL_law_438 post L xs J339 x2 (nI F) x4 x5 x7 x8 x9 (nI N) (nI n) kc ks xfc xtc (nI F) xT (nI N) (nI n) xst sc pc dp fl mo cl rq te pa ke oc lg att al so nf (nI a) := by
  intro k
  induction k with
  | zero =>
    intro a nf hk hf
    obtain ⟨nf, rfl⟩ : ∃ r, nf = r + 1 := ⟨nf - 1, by omega⟩
    have e : a = n := by omega
    subst e
    exact br_t (nI_le (Nat.le_refl _) (by omega)) hJ
  | succ k ih =>
    intro a nf hk hf
    obtain ⟨nf, rfl⟩ : ∃ r, nf = r + 1 := ⟨nf - 1, by omega⟩
    have han : a < n := by omega
    have ba := (hB a han).2
    have aF := hBF a han
    have nx := ih (a + 1) nf (by omega) (by omega)
    refine br_f (nI_ge han (by omega)) (pl_E hn hB han (pl_fx ba (pl_kind ba (pk_eq (G a).1 1 (fun k1 => ?_) (fun k1 => ?_) rfl rfl (by have := ba.1; omega)))))
    · obtain ⟨b, b1, b2⟩ := h1 a han k1
      have := b2.1
      exact nm_r (nI_1 a) ⟨n + 1, pl_478 hF hn hB hBF b1 b2 hx5 nx (b - (a + 1)) (a + 1) (n + 1) (by omega) (by omega) (by omega)⟩
    · refine pl_kind ba (pk_eq (G a).1 2 (fun k2 => ?_) (fun k2 => nm_r (nI_1 a) nx) rfl rfl (by have := ba.1; omega))
      obtain ⟨a', c1, c2, c3, c4⟩ := h2 a han k2
      refine nm_r (show nI a - 1 = nI (a' + (a - 1 - a')) by rw [show a' + (a - 1 - a') = a - 1 by omega]; exact pk_sub (b := 1) (by omega)) ⟨n + 1, ?_⟩
      exact pl_705 hn hB han c1 (by omega) c2 c4 c3 nx (a - 1 - a') (n + 1) (by omega) (by omega)
end
end
section
/-! the law's second check: what a passed item found -/
def pl_gm (mo cl : Nat → Int32) (t : Nat) : Nat := fy_n mo t * 4 + fy_n cl t
section
variable {xfc xtc xF xT xn xev xst : Int32} {sc pc dp fl mo cl rq te pa oc lg att al so : Nat → Int32} {ke : Nat → Int64}
/-- all items from j to kk belong with test ti, as the scope s asks -/
def pl_gd (mo cl : Nat → Int32) (Tj : Nat → Nat) (s : Int32) (ti j kk : Nat) : Prop := (s = 2 → ∀ q, j ≤ q → q ≤ kk → pl_gm mo cl (Tj q) = pl_gm mo cl ti) ∧ (s = 1 → ∀ q, j ≤ q → q ≤ kk → pl_gm mo cl (Tj q) / 4 = pl_gm mo cl ti / 4)
theorem pl_sh {g : Nat} (h : g < 16) : nI g >>> ((2 : Int32) &&& 31) = nI (g / 4) := pk_shrN (by omega) _ 2 (by decide)
theorem pl_1067 {post : Int32 → Prop} {L kc ks : Nat} {xs : Nat → Int32} {x2 x4 x7 x8 x9 : Int32} {x5 : Int64} {F N n : Nat} {J339 : Int32 → Int32 → Int32 → Int32 → Int32 → Int32 → Int32 → Int32 → Int32 → (Nat → Int32) → (Nat → Int32) → (Nat → Int32) → (Nat → Int32) → (Nat → Int32) → (Nat → Int32) → (Nat → Int32) → (Nat → Int32) → (Nat → Int32) → (Nat → Int64) → (Nat → Int32) → (Nat → Int32) → (Nat → Int32) → (Nat → Int32) → (Nat → Int32) → Prop} {J766 J816 : Int32 → Prop} {J857 : Int32 → Int32 → Prop} {x13 x16 x17 x18 : Int32} {Tn ti j kk a : Nat} {Tj : Nat → Nat} (hN : N ≤ 64) (hkk : kk < N) (ha : a < 256) (hTn : Tn ≤ 6) (hti : ti < Tn) (hte : ∀ q, q < N → te q = nI (Tj q) ∧ Tj q < Tn) (hg : ∀ t, t < Tn → pl_gm mo cl t < 16)
    (hx8 : ∀ t, t < Tn → ((x8 >>> ((4 * nI t) &&& 31)) &&& 15) = nI (pl_gm mo cl t)) (hJ : ∀ r : Int32, (pl_gd mo cl Tj x18 ti j kk → r = 1) → J857 r (nI (a + 1))) :
    ∀ (k q nf : Nat) (v : Int32), q + k = kk + 1 → k < nf → j ≤ q → (pl_gd mo cl Tj x18 ti j kk → v = 1) → wL_law_1067 post L xs J339 J766 J816 J857 x2 (nI F) x4 x5 x7 x8 x9 (nI N) (nI n) x13 (nI (pl_gm mo cl ti)) x16 x17 x18 (nI a) (nI kk) kc ks xfc xtc (nI F) xT (nI N) (nI n) xst sc pc dp fl mo cl rq te pa ke oc lg att al so nf v (nI q) := by
  intro k
  induction k with
  | zero =>
    intro q nf v hk hf hj hv
    obtain ⟨nf, rfl⟩ : ∃ r, nf = r + 1 := ⟨nf - 1, by omega⟩
    refine br_t (nI_lt (by omega) (by omega)) (nm_r (nI_1 a) (hJ v hv))
  | succ k ih =>
    intro q nf v hk hf hj hv
    obtain ⟨nf, rfl⟩ : ∃ r, nf = r + 1 := ⟨nf - 1, by omega⟩
    obtain ⟨t1, t2⟩ := hte q (by omega)
    have g1 := hg _ t2
    have g2 := hg _ hti
    have j1 : ∀ w : Int32, (pl_gd mo cl Tj x18 ti j kk → w = 1) → (x18 = 1 → ¬ pl_gm mo cl (Tj q) / 4 = pl_gm mo cl ti / 4 → True) → wL_law_1121 post L xs J339 J766 J816 J857 (wL_law_1067 post L xs J339 J766 J816 J857 x2 (nI F) x4 x5 x7 x8 x9 (nI N) (nI n) x13 (nI (pl_gm mo cl ti)) x16 x17 x18 (nI a) (nI kk) kc ks xfc xtc (nI F) xT (nI N) (nI n) xst sc pc dp fl mo cl rq te pa ke oc lg att al so nf) x2 (nI F) x4 x5 x7 x8 x9 (nI N) (nI n) x13 (nI (pl_gm mo cl ti)) x16 x17 x18 (nI a) (nI kk) w (nI q) (nI (pl_gm mo cl (Tj q))) kc ks xfc xtc (nI F) xT (nI N) (nI n) xst sc pc dp fl mo cl rq te pa ke oc lg att al so := by
      intro w hw _
      unfold wL_law_1121
      rw [pl_sh g1, pl_sh g2]
      by_cases z : x18 = 1
      · refine br_t z (pk_eq (pl_gm mo cl (Tj q) / 4) (pl_gm mo cl ti / 4) (fun y => nm_r (nI_1 q) (ih (q + 1) nf w (by omega) (by omega) (by omega) hw)) (fun y => nm_r (nI_1 q) (ih (q + 1) nf 0 (by omega) (by omega) (by omega) (fun gd => absurd (gd.2 z q hj (by omega)) y))))
      · exact br_f z (nm_r (nI_1 q) (ih (q + 1) nf w (by omega) (by omega) (by omega) hw))
    refine br_f (nI_nlt (by omega) (by omega)) (pl_itT hN (by omega) ?_)
    rw [t1]
    refine br_t (nI_pos' (by omega)) (nm_r (hx8 _ t2) ?_)
    by_cases z : x18 = 2
    · refine br_t z (pk_eq (pl_gm mo cl (Tj q)) (pl_gm mo cl ti) (fun y => j1 v hv (fun _ _ => trivial)) (fun y => j1 0 (fun gd => absurd (gd.1 z q hj (by omega)) y) (fun _ _ => trivial)))
    · exact br_f z (j1 v hv (fun _ _ => trivial))
/-- the teardown at b ends what item i found -/
def pl_wt (mo cl : Nat → Int32) (Tj : Nat → Nat) (G : Nat → gh_E) (s : Int32) (i p ti j b : Nat) : Prop := (G b).1 = 2 ∧ (G b).2.2.2 = p ∧ i ≤ (G b).2.1 ∧ (s = 3 → j = i ∧ (G b).2.1 = i) ∧ pl_gd mo cl Tj s ti j (G b).2.1
theorem pl_969 {post : Int32 → Prop} {L kc ks : Nat} {xs : Nat → Int32} {x2 x4 x7 x8 x9 : Int32} {x5 : Int64} {F N n : Nat} {J339 : Int32 → Int32 → Int32 → Int32 → Int32 → Int32 → Int32 → Int32 → Int32 → (Nat → Int32) → (Nat → Int32) → (Nat → Int32) → (Nat → Int32) → (Nat → Int32) → (Nat → Int32) → (Nat → Int32) → (Nat → Int32) → (Nat → Int32) → (Nat → Int64) → (Nat → Int32) → (Nat → Int32) → (Nat → Int32) → (Nat → Int32) → (Nat → Int32) → Prop} {J766 J816 : Int32 → Prop} {J857 : Int32 → Int32 → Prop} {x16 x18 : Int32} {Tn ti i p j a b s : Nat} {Tj : Nat → Nat} {G : Nat → gh_E} (hn : n ≤ 256) (hB : ∀ k, k < n → lg k = gh_co (G k) ∧ pl_b (G k)) (hBN : ∀ k, k < n → (G k).2.1 < N) (hN : N ≤ 64) (hb : b < n) (ha : a < 256) (hi : i < N) (hj : j < N) (hp : p < 3) (hs : x18 = nI s) (hs3 : s ≤ 3)
    (hTn : Tn ≤ 6) (hti : ti < Tn) (hte : ∀ q, q < N → te q = nI (Tj q) ∧ Tj q < Tn) (hg : ∀ t, t < Tn → pl_gm mo cl t < 16)
    (hx8 : ∀ t, t < Tn → ((x8 >>> ((4 * nI t) &&& 31)) &&& 15) = nI (pl_gm mo cl t)) (hJ : ∀ r : Int32, (pl_wt mo cl Tj G x18 i p ti j b → r = 1) → J857 r (nI (a + 1))) :
    wL_law_969 post L xs J339 J766 J816 J857 x2 (nI F) x4 x5 x7 x8 x9 (nI N) (nI n) (nI i) (nI (pl_gm mo cl ti)) x16 (nI p) x18 0 (nI a) (nI j) (nI b) kc ks xfc xtc (nI F) xT (nI N) (nI n) xst sc pc dp fl mo cl rq te pa ke oc lg att al so := by
  have bb := (hB b hb).2
  have bN := hBN b hb
  unfold wL_law_969
  refine br_t (nI_pos' (by omega)) (pl_E hn hB hb (pl_kind bb (pk_eq (G b).1 2 (fun k2 => ?_) (fun k2 => nm_r (nI_1 a) (hJ 0 (fun w => absurd w.1 k2))) rfl rfl (by have := bb.1; omega))))
  refine pl_par bb (pk_eq (G b).2.2.2 p (fun kp => ?_) (fun kp => nm_r (nI_1 a) (hJ 0 (fun w => absurd w.2.1 kp))) rfl rfl (by have := bb.2.2.2; omega))
  refine pl_itm bb (pk_le i (G b).2.1 (fun ki => ?_) (fun ki => nm_r (nI_1 a) (hJ 0 (fun w => by have := w.2.2.1; omega))))
  by_cases z3 : x18 = 3
  · refine br_t z3 (pk_eq j i (fun y => ?_) (fun y => nm_r (nI_1 a) (hJ 0 (fun w => absurd (w.2.2.2.1 z3).1 y))))
    exact pk_eq (G b).2.1 i (fun y2 => nm_r (nI_1 a) (hJ 1 (fun _ => rfl))) (fun y2 => nm_r (nI_1 a) (hJ 0 (fun w => absurd (w.2.2.2.1 z3).2 y2)))
  · refine br_f z3 (pk_lt s 1 (fun y => nm_r (nI_1 a) (hJ 1 (fun _ => rfl))) (fun y => ?_) hs rfl)
    by_cases jk : j ≤ (G b).2.1 + 1
    · exact ⟨N + 3, pl_1067 hN bN ha hTn hti hte hg hx8 (fun r hr => hJ r (fun w => hr w.2.2.2.2)) ((G b).2.1 + 1 - j) j (N + 3) 1 (by omega) (by omega) (Nat.le_refl j) (fun _ => rfl)⟩
    · exact ⟨1, br_t (nI_lt (by omega) (by omega)) (nm_r (nI_1 a) (hJ 1 (fun _ => rfl)))⟩
theorem pl_935 {post : Int32 → Prop} {L kc ks : Nat} {xs : Nat → Int32} {x2 x4 x7 x8 x9 : Int32} {x5 : Int64} {F N n : Nat} {J339 : Int32 → Int32 → Int32 → Int32 → Int32 → Int32 → Int32 → Int32 → Int32 → (Nat → Int32) → (Nat → Int32) → (Nat → Int32) → (Nat → Int32) → (Nat → Int32) → (Nat → Int32) → (Nat → Int32) → (Nat → Int32) → (Nat → Int32) → (Nat → Int64) → (Nat → Int32) → (Nat → Int32) → (Nat → Int32) → (Nat → Int32) → (Nat → Int32) → Prop} {J766 J816 : Int32 → Prop} {J857 : Int32 → Int32 → Prop} {x13 x15 x17 x18 x19 x20 x22 x23 : Int32} {f a b : Nat} {G : Nat → gh_E} (hn : n ≤ 256) (hB : ∀ k, k < n → lg k = gh_co (G k) ∧ pl_b (G k)) (hb : b < n) (hf : f < 12) (hl : gh_lf (G b) f) (hno : ∀ x, a < x → x < b → ¬ gh_lf (G x) f)
    (h : wL_law_969 post L xs J339 J766 J816 J857 x2 (nI F) x4 x5 x7 x8 x9 (nI N) (nI n) x13 x15 (nI f) x17 x18 x19 x20 x22 (nI b) kc ks xfc xtc (nI F) xT (nI N) (nI n) xst sc pc dp fl mo cl rq te pa ke oc lg att al so) :
    ∀ (k x nf : Nat), x + k = b → k < nf → a < x → wL_law_935 post L xs J339 J766 J816 J857 x2 (nI F) x4 x5 x7 x8 x9 (nI N) (nI n) x13 x15 (nI f) x17 x18 x19 x20 x22 x23 kc ks xfc xtc (nI F) xT (nI N) (nI n) xst sc pc dp fl mo cl rq te pa ke oc lg att al so nf (nI x) := by
  intro k
  induction k with
  | zero =>
    intro x nf hk hnf hx
    obtain ⟨nf, rfl⟩ : ∃ r, nf = r + 1 := ⟨nf - 1, by omega⟩
    have e : x = b := by omega
    subst e
    exact br_f (nI_ge hb (by omega)) (pl_E hn hB hb (pl_life (hB x hb).2 hf (fun _ => br_f (by decide) h) (fun z => absurd hl z)))
  | succ k ih =>
    intro x nf hk hnf hx
    obtain ⟨nf, rfl⟩ : ∃ r, nf = r + 1 := ⟨nf - 1, by omega⟩
    refine br_f (nI_ge (show x < n by omega) (by omega)) (pl_E hn hB (by omega) (pl_life (hB x (by omega)).2 hf (fun z => absurd z (hno x hx (by omega))) (fun z => br_t rfl (nm_e ?_))))
    rw [nI_1]
    exact ih (x + 1) nf (by omega) (by omega) (by omega)
/-- a scope that bears the items j to kk keeps them with test of item i -/
theorem pl_scg {sc mo cl : Nat → Int32} {Tj : Nat → Nat} {f j kk i : Nat} (h : gh_Sc sc mo cl Tj f j kk) (h1 : j ≤ i) (h2 : i ≤ kk) (hc : ∀ q, q ≤ kk → fy_n cl (Tj q) < 4) : (sc f = 3 → j = i ∧ kk = i) ∧ pl_gd mo cl Tj (sc f) (Tj i) j kk := by
  obtain ⟨s3, s2, s1⟩ := h
  refine ⟨fun z => by have := s3 z; omega, fun z q hq hk => ?_, fun z q hq hk => ?_⟩
  · have a1 := s2 z q hq hk
    have a2 := s2 z i h1 h2
    unfold pl_gm fy_n
    rw [a1.1, a1.2, a2.1, a2.2]
  · have a1 := s1 z q hq hk
    have a2 := s1 z i h1 h2
    unfold pl_gm
    have e : fy_n mo (Tj q) = fy_n mo (Tj i) := by unfold fy_n; rw [a1, a2]
    have c1 := hc q hk
    have c2 := hc i h2
    omega
theorem pl_857 {post : Int32 → Prop} {L kc ks : Nat} {xs : Nat → Int32} {x2 x4 x7 x8 x9 : Int32} {x5 : Int64} {F N n : Nat} {J339 : Int32 → Int32 → Int32 → Int32 → Int32 → Int32 → Int32 → Int32 → Int32 → (Nat → Int32) → (Nat → Int32) → (Nat → Int32) → (Nat → Int32) → (Nat → Int32) → (Nat → Int32) → (Nat → Int32) → (Nat → Int32) → (Nat → Int32) → (Nat → Int64) → (Nat → Int32) → (Nat → Int32) → (Nat → Int32) → (Nat → Int32) → (Nat → Int32) → Prop} {J766 J816 : Int32 → Prop} {Tn i f p a0 : Nat} {Tj : Nat → Nat} {G : Nat → gh_E} (hF : F ≤ 12) (hn : n ≤ 256) (hB : ∀ k, k < n → lg k = gh_co (G k) ∧ pl_b (G k)) (hBN : ∀ k, k < n → (G k).2.1 < N) (hBF : ∀ k, k < n → (G k).2.2.1 < F) (hN : N ≤ 64) (hi : i < N) (hf : f < F) (hp : p < 3) (hs : fy_nb sc F 3)
    (h1 : ∀ a, a < n → (G a).1 = 1 → ∃ b, b < n ∧ gh_cd sc mo cl dp Tj G a b)
    (hTn : Tn ≤ 6) (hte : ∀ q, q < N → te q = nI (Tj q) ∧ Tj q < Tn) (hg : ∀ t, t < Tn → pl_gm mo cl t < 16) (hcl : ∀ t, t < Tn → fy_n cl t < 4)
    (hx8 : ∀ t, t < Tn → ((x8 >>> ((4 * nI t) &&& 31)) &&& 15) = nI (pl_gm mo cl t))
    (a1 : a0 < n) (a2 : (G a0).1 = 1) (a3 : (G a0).2.2.1 = f) (a4 : (G a0).2.2.2 = p) (a5 : (G a0).2.1 ≤ i) (a6 : ∀ x, a0 < x → x < n → gh_lf (G x) f → i ≤ (G x).2.1)
    (hJ : J816 (nI (f + 1))) :
    ∀ (k a nf : Nat), a + k = a0 → k + 1 < nf → wL_law_857 post L xs J339 J766 J816 x2 (nI F) x4 x5 x7 x8 x9 (nI N) (nI n) (nI i) (nI (pl_gm mo cl (Tj i))) (nI f) (nI p) (sc f) kc ks xfc xtc (nI F) xT (nI N) (nI n) xst sc pc dp fl mo cl rq te pa ke oc lg att al so nf 0 (nI a) := by
  obtain ⟨es, bs⟩ := hs f hf
  have fnd : ∀ (nf a : Nat) (r : Int32), ¬ r = 0 → wL_law_857 post L xs J339 J766 J816 x2 (nI F) x4 x5 x7 x8 x9 (nI N) (nI n) (nI i) (nI (pl_gm mo cl (Tj i))) (nI f) (nI p) (sc f) kc ks xfc xtc (nI F) xT (nI N) (nI n) xst sc pc dp fl mo cl rq te pa ke oc lg att al so (nf + 1) r (nI a) := by
    intro nf a r hr
    have H : wL_law_1157 post L xs J339 J766 J816 x2 (nI F) x4 x5 x7 x8 x9 (nI N) (nI n) (nI i) (nI (pl_gm mo cl (Tj i))) (nI f) r kc ks xfc xtc (nI F) xT (nI N) (nI n) xst sc pc dp fl mo cl rq te pa ke oc lg att al so := by
      unfold wL_law_1157
      exact br_f hr (nm_r (nI_1 f) hJ)
    exact br_c (fun _ => H) (fun _ => br_f hr H)
  intro k
  induction k with
  | zero =>
    intro a nf hk hnf
    obtain ⟨nf, rfl⟩ : ∃ r, nf = r + 1 := ⟨nf - 1, by omega⟩
    have e : a = a0 := by omega
    subst e
    obtain ⟨b, hb, hcd⟩ := h1 a a1 a2
    have ba := (hB a a1).2
    obtain ⟨c1, c2, c3, c4, c5, c6, c7, c8⟩ := hcd
    have kki := a6 b c1 hb (by rw [← a3]; exact c2)
    have bN := hBN b hb
    obtain ⟨w1, w2⟩ := pl_scg c8 a5 kki (fun q hq => hcl _ (hte q (by omega)).2)
    rw [a3] at w1 w2
    refine br_f (nI_ge a1 (by omega)) (br_t rfl (pl_E hn hB a1 (pl_kind ba ?_)))
    rw [a2]
    refine br_t rfl (pl_fx ba ?_)
    rw [a3]
    refine br_t rfl (pl_par ba ?_)
    rw [a4]
    refine br_t rfl (pl_itm ba (br_t (nI_le a5 (by omega)) (nm_r (nI_1 a) ⟨n + 1, ?_⟩)))
    refine pl_935 (a := a) hn hB hb (by omega) (by rw [← a3]; exact c2) (fun x hx hxb => by rw [← a3]; exact c3 x hx hxb) ?_ (b - (a + 1)) (a + 1) (n + 1) (by omega) (by omega) (by omega)
    refine pl_969 (s := fy_n sc f) hn hB hBN hN hb (by omega) hi (by omega) hp es bs hTn (hte i hi).2 hte hg hx8 (fun r hr => ?_)
    have er := hr ⟨c4, by rw [c5]; exact a4, kki, w1, w2⟩
    obtain ⟨nf, rfl⟩ : ∃ r, nf = r + 1 := ⟨nf - 1, by omega⟩
    exact fnd nf (a + 1) r (by rw [er]; decide)
  | succ k ih =>
    intro a nf hk hnf
    obtain ⟨nf, rfl⟩ : ∃ r, nf = r + 1 := ⟨nf - 1, by omega⟩
    have han : a < n := by omega
    have ba := (hB a han).2
    have nx := ih (a + 1) nf (by omega) (by omega)
    refine br_f (nI_ge han (by omega)) (br_t rfl (pl_E hn hB han (pl_kind ba (pk_eq (G a).1 1 (fun k1 => ?_) (fun k1 => nm_r (nI_1 a) nx) rfl rfl (by have := ba.1; omega)))))
    refine pl_fx ba (pk_eq (G a).2.2.1 f (fun kf => ?_) (fun kf => nm_r (nI_1 a) nx) rfl rfl (by have := ba.2.2.1; omega))
    refine pl_par ba (pk_eq (G a).2.2.2 p (fun kp => ?_) (fun kp => nm_r (nI_1 a) nx) rfl rfl (by have := ba.2.2.2; omega))
    refine pl_itm ba (pk_le (G a).2.1 i (fun ki => nm_r (nI_1 a) ⟨n + 1, ?_⟩) (fun ki => nm_r (nI_1 a) nx) rfl rfl (by have := ba.2.1; omega))
    obtain ⟨b, hb, hcd⟩ := h1 a han k1
    obtain ⟨c1, c2, c3, c4, c5, c6, c7, c8⟩ := hcd
    refine pl_935 (a := a) hn hB hb (by omega) (by rw [← kf]; exact c2) (fun x hx hxb => by rw [← kf]; exact c3 x hx hxb) ?_ (b - (a + 1)) (a + 1) (n + 1) (by omega) (by omega) (by omega)
    refine pl_969 (s := fy_n sc f) hn hB hBN hN hb (by omega) hi (hBN a han) hp es bs hTn (hte i hi).2 hte hg hx8 (fun r hr => ?_)
    by_cases z : r = 0
    · rw [z]
      exact nx
    · obtain ⟨nf, rfl⟩ : ∃ r, nf = r + 1 := ⟨nf - 1, by omega⟩
      exact fnd nf (a + 1) r z
theorem pl_816 {post : Int32 → Prop} {L kc ks : Nat} {xs : Nat → Int32} {x2 x4 x7 x8 x9 : Int32} {x5 : Int64} {F N n : Nat} {J339 : Int32 → Int32 → Int32 → Int32 → Int32 → Int32 → Int32 → Int32 → Int32 → (Nat → Int32) → (Nat → Int32) → (Nat → Int32) → (Nat → Int32) → (Nat → Int32) → (Nat → Int32) → (Nat → Int32) → (Nat → Int32) → (Nat → Int32) → (Nat → Int64) → (Nat → Int32) → (Nat → Int32) → (Nat → Int32) → (Nat → Int32) → (Nat → Int32) → Prop} {J766 : Int32 → Prop} {Tn i : Nat} {Tj : Nat → Nat} {Di : Nat → Nat} {G : Nat → gh_E} (hF : F ≤ 12) (hn : n ≤ 256) (hB : ∀ k, k < n → lg k = gh_co (G k) ∧ pl_b (G k)) (hBN : ∀ k, k < n → (G k).2.1 < N) (hBF : ∀ k, k < n → (G k).2.2.1 < F) (hN : N ≤ 64) (hi : i < N) (hs : fy_nb sc F 3)
    (h1 : ∀ a, a < n → (G a).1 = 1 → ∃ b, b < n ∧ gh_cd sc mo cl dp Tj G a b)
    (hTn : Tn ≤ 6) (hte : ∀ q, q < N → te q = nI (Tj q) ∧ Tj q < Tn) (hg : ∀ t, t < Tn → pl_gm mo cl t < 16) (hcl : ∀ t, t < Tn → fy_n cl t < 4)
    (hx8 : ∀ t, t < Tn → ((x8 >>> ((4 * nI t) &&& 31)) &&& 15) = nI (pl_gm mo cl t)) (hx4 : ∀ f, f < F → ((x4 >>> ((2 * nI f) &&& 31)) &&& 3) = sc f)
    (hD : ∀ f, Di f < 4) (hpa : pa i = nI (fy_en Di 12)) (hQ : ∀ f p, f < F → Di f = p + 1 → gh_Q n G i f p) (hJ : J766 (nI (i + 1))) :
    ∀ (k f nf : Nat), f + k = F → k < nf → wL_law_816 post L xs J339 J766 x2 (nI F) x4 x5 x7 x8 x9 (nI N) (nI n) (nI i) (nI (pl_gm mo cl (Tj i))) kc ks xfc xtc (nI F) xT (nI N) (nI n) xst sc pc dp fl mo cl rq te pa ke oc lg att al so nf (nI f) := by
  intro k
  induction k with
  | zero =>
    intro f nf hk hnf
    obtain ⟨nf, rfl⟩ : ∃ r, nf = r + 1 := ⟨nf - 1, by omega⟩
    have e : f = F := by omega
    subst e
    exact br_t (nI_le (Nat.le_refl _) (by omega)) (nm_r (nI_1 i) hJ)
  | succ k ih =>
    intro f nf hk hnf
    obtain ⟨nf, rfl⟩ : ∃ r, nf = r + 1 := ⟨nf - 1, by omega⟩
    have nx := ih (f + 1) nf (by omega) (by omega)
    have d4 := hD f
    refine br_f (nI_ge (show f < F by omega) (by omega)) (pl_itP hN hi hF (by omega) hD hpa ?_)
    by_cases z : Di f = 0
    · rw [z, fy_m0]
      exact br_f (by decide) (nm_r (nI_1 f) nx)
    · obtain ⟨p, hp⟩ : ∃ p, Di f = p + 1 := ⟨Di f - 1, by omega⟩
      obtain ⟨a0, a1, a2, a3, a4, a5, a6⟩ := hQ f p (by omega) hp
      rw [hp, fy_ms]
      refine br_t (nI_pos' (by omega)) (nm_r (hx4 f (by omega)) ⟨n + 2, ?_⟩)
      exact pl_857 hF hn hB hBN hBF hN hi (by omega) (by omega) hs h1 hTn hte hg hcl hx8 a1 a2 a3 a4 a5 a6 nx a0 0 (n + 2) (by omega) (by omega)
theorem pl_766 {post : Int32 → Prop} {L kc ks : Nat} {xs : Nat → Int32} {x2 x4 x7 x8 x9 : Int32} {x5 : Int64} {F N n : Nat} {J339 : Int32 → Int32 → Int32 → Int32 → Int32 → Int32 → Int32 → Int32 → Int32 → (Nat → Int32) → (Nat → Int32) → (Nat → Int32) → (Nat → Int32) → (Nat → Int32) → (Nat → Int32) → (Nat → Int32) → (Nat → Int32) → (Nat → Int32) → (Nat → Int64) → (Nat → Int32) → (Nat → Int32) → (Nat → Int32) → (Nat → Int32) → (Nat → Int32) → Prop} {Tn r : Nat} {Tj : Nat → Nat} {Dj : Nat → Nat → Nat} {G : Nat → gh_E} (hF : F ≤ 12) (hn : n ≤ 256) (hB : ∀ k, k < n → lg k = gh_co (G k) ∧ pl_b (G k)) (hBN : ∀ k, k < n → (G k).2.1 < N) (hBF : ∀ k, k < n → (G k).2.2.1 < F) (hN : N ≤ 64) (hs : fy_nb sc F 3)
    (h1 : ∀ a, a < n → (G a).1 = 1 → ∃ b, b < n ∧ gh_cd sc mo cl dp Tj G a b)
    (hTn : Tn ≤ 6) (hte : ∀ q, q < N → te q = nI (Tj q) ∧ Tj q < Tn) (hg : ∀ t, t < Tn → pl_gm mo cl t < 16) (hcl : ∀ t, t < Tn → fy_n cl t < 4)
    (hx8 : ∀ t, t < Tn → ((x8 >>> ((4 * nI t) &&& 31)) &&& 15) = nI (pl_gm mo cl t)) (hx4 : ∀ f, f < F → ((x4 >>> ((2 * nI f) &&& 31)) &&& 3) = sc f)
    (hD : ∀ j f, Dj j f < 4) (hpa : ∀ q, q < N → pa q = nI (fy_en (Dj q) 12)) (hQ : ∀ i, i < N → oc i = 1 → ∀ f p, f < F → Dj i f = p + 1 → gh_Q n G i f p) (hx9 : x9 = nI r) (hJ : J339 x2 (nI (r + 1)) xfc xtc (nI F) xT (nI N) (nI n) xst sc pc dp fl mo cl rq te pa ke oc lg att al so) :
    ∀ (k i nf : Nat), i + k = N → k < nf → wL_law_766 post L xs J339 x2 (nI F) x4 x5 x7 x8 x9 (nI N) (nI n) kc ks xfc xtc (nI F) xT (nI N) (nI n) xst sc pc dp fl mo cl rq te pa ke oc lg att al so nf (nI i) := by
  intro k
  induction k with
  | zero =>
    intro i nf hk hnf
    obtain ⟨nf, rfl⟩ : ∃ r, nf = r + 1 := ⟨nf - 1, by omega⟩
    have e : i = N := by omega
    subst e
    exact br_t (nI_le (Nat.le_refl _) (by omega)) (nm_r (by rw [hx9, nI_1]) hJ)
  | succ k ih =>
    intro i nf hk hnf
    obtain ⟨nf, rfl⟩ : ∃ r, nf = r + 1 := ⟨nf - 1, by omega⟩
    have nx := ih (i + 1) nf (by omega) (by omega)
    have hi : i < N := by omega
    obtain ⟨t1, t2⟩ := hte i hi
    refine br_f (nI_ge hi (by omega)) (pl_itO hN hi ?_)
    by_cases z : oc i = 1
    · refine br_t z (pl_itT hN hi ?_)
      rw [t1]
      refine br_t (nI_pos' (by omega)) (nm_r (hx8 _ t2) ⟨F + 1, ?_⟩)
      exact pl_816 hF hn hB hBN hBF hN hi hs h1 hTn hte hg hcl hx8 hx4 (hD i) (hpa i hi) (hQ i hi z) nx F 0 (F + 1) (by omega) (by omega)
    · exact br_f z (nm_r (nI_1 i) nx)
end
end
section
/-! the law's own sets: scopes, dependencies, tests -/
theorem pl_sc {e f : Nat} (he : e < 2 ^ 31) (hf : f < 12) : (nI e >>> ((2 * nI f) &&& 31)) &&& 3 = nI (e / 4 ^ f % 4) := by
  have h1 : 2 * nI f = nI (f * 2) := by rw [Nat.mul_comm]; exact pk_mul 2 f
  have h2 : e / 4 ^ f ≤ e := Nat.div_le_self _ _
  have h3 : nI (e / 4 ^ f) &&& 3 = nI (e / 4 ^ f % 4) := pk_andN (by omega) 2 (by decide)
  rw [h1, pk_shrN he _ (f * 2) (s_l _ (by omega)), fy_p4, h3]
theorem pl_scp {e d f : Nat} (he : e < 4 ^ f) (hd : d < 4) (hf : f < 12) : nI e ||| (nI d <<< ((2 * nI f) &&& 31)) = nI (e + d * 4 ^ f) := by
  have h1 : (2 : Int32) * nI f = nI f * 2 := Int32.mul_comm _ _
  rw [h1]
  exact fy_put he hd hf
def pl_eh (P : Nat → Nat) : Nat → Nat
  | 0 => 0
  | n + 1 => pl_eh P n + P n * 16 ^ n
theorem pl_eh_lt {P : Nat → Nat} {n : Nat} : (∀ f, f < n → P f < 16) → pl_eh P n < 16 ^ n := by
  induction n with
  | zero => exact fun _ => Nat.zero_lt_one
  | succ n ih =>
    intro h
    have a := ih (fun f hf => h f (by omega))
    have b := h n (by omega)
    have c : P n * 16 ^ n ≤ 15 * 16 ^ n := Nat.mul_le_mul_right _ (by omega)
    rw [pl_eh, Nat.pow_succ]
    omega
theorem pl_eh_dg {P : Nat → Nat} {n f : Nat} : (∀ f, f < n → P f < 16) → f < n → pl_eh P n / 16 ^ f % 16 = P f := by
  induction n with
  | zero => exact fun _ hf => absurd hf (Nat.not_lt_zero f)
  | succ n ih =>
    intro h hf
    have hb : ∀ g, g < n → P g < 16 := fun g hg => h g (by omega)
    have a := pl_eh_lt hb
    rw [pl_eh]
    rcases Nat.lt_or_ge f n with z | z
    · have ih2 := ih hb z
      have e : P n * 16 ^ n = 16 ^ f * (P n * 16 ^ (n - f - 1) * 16) := by
        have e1 : 16 ^ n = 16 ^ f * 16 * 16 ^ (n - f - 1) := by
          rw [← Nat.pow_succ, ← Nat.pow_add]
          exact congrArg (fun z => 16 ^ z) (by omega)
        rw [e1]
        ac_rfl
      rw [e, Nat.add_mul_div_left _ _ (Nat.pow_pos (by decide)), Nat.add_mul_mod_self_right]
      exact ih2
    · have e : f = n := by omega
      subst e
      rw [Nat.add_mul_div_right _ _ (Nat.pow_pos (by decide)), Nat.div_eq_of_lt a, Nat.zero_add, Nat.mod_eq_of_lt (h _ (by omega))]
theorem pl_eh_cg {P Q : Nat → Nat} : ∀ {n : Nat}, (∀ f, f < n → P f = Q f) → pl_eh P n = pl_eh Q n
  | 0, _ => rfl
  | n + 1, h => by rw [pl_eh, pl_eh, pl_eh_cg (fun f hf => h f (by omega)), h n (by omega)]
theorem pl_p16 (f : Nat) : 2 ^ (f * 4) = 16 ^ f := by
  rw [Nat.mul_comm, Nat.pow_mul]
theorem pl_p4 {f : Nat} (h : f < 4) : 16 ^ f * 16 ≤ 65536 := by
  have := Nat.pow_le_pow_right (n := 16) (by decide) (show f + 1 ≤ 4 by omega)
  rw [Nat.pow_succ] at this
  exact this
theorem pl_t {e t : Nat} (he : e < 2 ^ 31) (ht : t < 4) : (nI e >>> ((4 * nI t) &&& 31)) &&& 15 = nI (e / 16 ^ t % 16) := by
  have h1 : 4 * nI t = nI (t * 4) := by rw [Nat.mul_comm]; exact pk_mul 4 t
  have h2 : e / 16 ^ t ≤ e := Nat.div_le_self _ _
  have h3 : nI (e / 16 ^ t) &&& 15 = nI (e / 16 ^ t % 16) := pk_andN (by omega) 4 (by decide)
  rw [h1, pk_shrN he _ (t * 4) (s_l _ (by omega)), pl_p16, h3]
theorem pl_tp {e d t : Nat} (he : e < 16 ^ t) (hd : d < 16) (ht : t < 4) : nI e ||| (nI d <<< ((4 * nI t) &&& 31)) = nI (e + d * 16 ^ t) := by
  have h1 : 4 * nI t = nI (t * 4) := by rw [Nat.mul_comm]; exact pk_mul 4 t
  have h3 := pl_p4 ht
  have h4 : d * 16 ^ t ≤ 15 * 16 ^ t := Nat.mul_le_mul_right _ (by omega)
  rw [h1, pk_shlN _ (t * 4) (s_l _ (by omega)) (by rw [pl_p16]; omega), fy_or, Nat.or_comm]
  have h5 := Nat.two_pow_add_eq_or_of_lt (i := t * 4) (b := e) (by rw [pl_p16]; exact he) d
  rw [Nat.mul_comm] at h5
  rw [← h5, pl_p16, Nat.add_comm]
/-! a long as a set of bits -/
def pl_db (x : Int64) (k : Nat) : Bool := x.toBitVec.getLsbD k
theorem pl_s64 : ∀ n, n < 64 → (((nI n).toInt64 &&& 63).toBitVec.smod 64).toNat = n := by decide +kernel
theorem pl_one : ∀ k, k < 64 → (1 : Int64).toBitVec.getLsbD k = decide (k = 0) := by decide +kernel
theorem pl_dsr {x : Int64} {k i : Nat} (hk : k < 64) (hi : i < 64) : pl_db (x >>> ((nI k).toInt64 &&& 63)) i = if k + i < 64 then pl_db x (k + i) else pl_db x 63 := by
  unfold pl_db
  rw [Int64.toBitVec_shiftRight]
  show (x.toBitVec.sshiftRight (((nI k).toInt64 &&& 63).toBitVec.smod 64).toNat).getLsbD i = _
  rw [pl_s64 k hk, BitVec.getLsbD_sshiftRight, BitVec.msb_eq_getLsbD_last]
  simp [hi]
theorem pl_dt {x : Int64} {k : Nat} (hk : k < 64) : ((x >>> ((nI k).toInt64 &&& 63)) &&& 1) = 0 ↔ pl_db x k = false := by
  have e : ∀ i, i < 64 → ((x >>> ((nI k).toInt64 &&& 63)) &&& 1).toBitVec.getLsbD i = (decide (i = 0) && pl_db x k) := by
    intro i hi
    have h := pl_dsr (x := x) hk hi
    unfold pl_db at h
    rw [Int64.toBitVec_and, BitVec.getLsbD_and, pl_one i hi, h]
    unfold pl_db
    cases i with
    | zero => simp [hk]
    | succ i => simp
  constructor
  · intro h
    have h0 := e 0 (by decide)
    rw [h] at h0
    have z : (0 : Int64).toBitVec.getLsbD 0 = false := by decide
    rw [z] at h0
    simpa using h0.symm
  · intro h
    apply Int64.toBitVec_inj.mp
    apply BitVec.eq_of_getLsbD_eq
    intro i hi
    rw [e i hi, h, Bool.and_false]
    exact BitVec.getLsbD_zero.symm
theorem pl_ds {x : Int64} {k i : Nat} (hk : k < 64) (hi : i < 64) : pl_db (x ||| ((1 : Int64) <<< ((nI k).toInt64 &&& 63))) i = (pl_db x i || decide (i = k)) := by
  unfold pl_db
  rw [Int64.toBitVec_or, BitVec.getLsbD_or]
  congr 1
  rw [Int64.toBitVec_shiftLeft]
  show ((1 : Int64).toBitVec <<< (((nI k).toInt64 &&& 63).toBitVec.smod 64).toNat).getLsbD i = _
  rw [pl_s64 k hk, BitVec.getLsbD_shiftLeft]
  rcases Nat.lt_or_ge i k with z | z
  · rw [decide_eq_false (show ¬ i = k by omega)]
    simp [z]
  · rw [pl_one _ (by omega)]
    by_cases e : i = k
    · subst e
      simp [hi]
    · rw [decide_eq_false e, decide_eq_false (show ¬ i - k = 0 by omega), Bool.and_false]
theorem pl_d0 (k : Nat) : pl_db 0 k = false := BitVec.getLsbD_zero
theorem pl_dx (g h : Nat) : nI g * 8 + nI h = nI (g * 8 + h) := by rw [← nI_add, ← pk_mul]; rfl
end
section
/-! the class's defining methods as the law calls them -/
section
variable {xfc xtc xF xT xn xev xst : Int32} {sc pc dp fl mo cl rq te pa oc lg att al so : Nat → Int32} {ke : Nat → Int64}
theorem pl_def {post : Int32 → St2 → Prop} {f s p : Nat} (hf : f < 12) (hs : s ≤ 3) (hp : p ≤ 3) (h : post (nI f) (nI 12, xtc, nI (f + 1), xT, xn, xev, xst, upd sc f (nI s), upd pc f (nI p), dp, fl, mo, cl, rq, te, pa, ke, oc, lg, att, al, so)) : wpX_defineFixture post (nI 12, xtc, nI f, xT, xn, xev, xst, sc, pc, dp, fl, mo, cl, rq, te, pa, ke, oc, lg, att, al, so) (nI s) (nI p) := by
  have vf : vp_in (nI f) 12 := vp_in_nI hf (by decide)
  unfold wpX_defineFixture
  refine br_f (nI_pos (by omega)) (br_t (nI_le (b := 3) hs (by decide)) (br_f (nI_pos (by omega)) (br_t (nI_le (b := 3) hp (by decide)) (br_t (nI_lt hf (by decide)) ⟨vf, nm_e ⟨vf, nm_e (nm_e ?_)⟩⟩))))
  rw [nI_clamp (by omega), nI_1]
  exact h
theorem pl_add {post : Int32 → St2 → Prop} {F f d : Nat} (hF : F ≤ 12) (hf : f < F) (hd : d < f) (h0 : post 0 (xfc, xtc, nI F, xT, xn, xev, xst, sc, pc, dp, fl, mo, cl, rq, te, pa, ke, oc, lg, att, al, so)) (h1 : post 1 (xfc, xtc, nI F, xT, xn, xev, xst, sc, pc, upd dp f (dp f ||| ((1 : Int32) <<< (nI d &&& 31))), fl, mo, cl, rq, te, pa, ke, oc, lg, att, al, so)) : wpX_addDependency post (xfc, xtc, nI F, xT, xn, xev, xst, sc, pc, dp, fl, mo, cl, rq, te, pa, ke, oc, lg, att, al, so) (nI f) (nI d) := by
  have vf : vp_in (nI f) 12 := vp_in_nI (by omega) (by decide)
  have vd : vp_in (nI d) 12 := vp_in_nI (by omega) (by decide)
  have cf : (nI f).toNatClampNeg = f := nI_clamp (by omega)
  have cd : (nI d).toNatClampNeg = d := nI_clamp (by omega)
  unfold wpX_addDependency
  refine fx_isF hF (fun _ => br_t rfl h0) (fun _ _ _ => br_f (by decide) ?_)
  refine fx_isF hF (fun _ => br_t rfl h0) (fun _ _ _ => br_f (by decide) ?_)
  refine br_f (nI_ge hd (by omega)) ⟨vd, vf, ?_⟩
  rw [cf, cd]
  refine br_c (fun _ => h0) (fun _ => ⟨vf, fx_has (by omega) (fy_bi_z (fun _ => ⟨vf, vf, nm_e h1⟩) (fun _ => h0))⟩)
theorem pl_fail {post : Int32 → St2 → Prop} {F : Nat} {v1 v2 v3 : Int32} (hF : F ≤ 12) (hp : fy_nb pc F 3) (h : ∀ (r : Int32) (fl : Nat → Int32), post r (xfc, xtc, nI F, xT, xn, xev, xst, sc, pc, dp, fl, mo, cl, rq, te, pa, ke, oc, lg, att, al, so)) : wpX_setFailure post (xfc, xtc, nI F, xT, xn, xev, xst, sc, pc, dp, fl, mo, cl, rq, te, pa, ke, oc, lg, att, al, so) v1 v2 v3 := by
  unfold wpX_setFailure
  refine fx_isF hF (fun _ => br_t rfl (h 0 fl)) (fun f hf e => br_f (by decide) ?_)
  subst e
  by_cases z0 : v2 < 0
  · exact br_t z0 (h 0 fl)
  refine br_f z0 (fx_vc hF hp hf ?_)
  obtain ⟨w1, w2⟩ := fy_vl_b hp hf
  by_cases z1 : v2 < nI (fy_vl pc f)
  · by_cases z2 : v3 < 0
    · exact br_t z1 (br_t z2 (h 0 fl))
    by_cases z3 : v3 ≤ 15
    · obtain ⟨p, hp2, rfl⟩ := nI_of z0
      rw [nI_ltI hp2 (by omega)] at z1
      exact br_t (nI_lt z1 (by omega)) (br_f z2 (br_t z3 (fx_slot ⟨vp_in_nI (by omega) (by decide), nm_e (h 1 _)⟩)))
    · exact br_t z1 (br_f z2 (br_f z3 (h 0 fl)))
  · exact br_f z1 (h 0 fl)
theorem pl_tst {post : Int32 → St2 → Prop} {t m c : Nat} (ht : t < 16) (hm : m ≤ 3) (hc : c ≤ 3) (h : post (nI t) (xfc, nI 16, xF, nI (t + 1), xn, xev, xst, sc, pc, dp, fl, upd mo t (nI m), upd cl t (nI c), rq, te, pa, ke, oc, lg, att, al, so)) : wpX_addTest post (xfc, nI 16, xF, nI t, xn, xev, xst, sc, pc, dp, fl, mo, cl, rq, te, pa, ke, oc, lg, att, al, so) (nI m) (nI c) := by
  have vt : vp_in (nI t) 16 := vp_in_nI ht (by decide)
  unfold wpX_addTest
  refine br_f (nI_pos (by omega)) (br_t (nI_le (b := 3) hm (by decide)) (br_f (nI_pos (by omega)) (br_t (nI_le (b := 3) hc (by decide)) (br_t (nI_lt ht (by decide)) ⟨vt, nm_e ⟨vt, nm_e (nm_e ?_)⟩⟩))))
  rw [nI_clamp (by omega), nI_1]
  exact h
theorem pl_put2 {dp : Nat → Int32} {f g a b : Nat} (hg : g < 12) (h : bt (upd dp f (dp f ||| ((1 : Int32) <<< (nI g &&& 31))) a) b = true) : bt (dp a) b = true ∨ (a = f ∧ b = g) := by
  by_cases e : a = f
  · subst e
    rw [pk_us] at h
    rcases Nat.lt_or_ge b 32 with z | z
    · rw [fy_set _ (by omega) z, Bool.or_eq_true, decide_eq_true_eq] at h
      exact h.elim Or.inl (fun q => Or.inr ⟨rfl, q⟩)
    · rw [b_big z] at h
      exact absurd h (by decide)
  · rw [pk_un e] at h
    exact Or.inl h
theorem pl_req {post : Int32 → St2 → Prop} {F T : Nat} {v1 v2 : Int32} (hF : F ≤ 12) (hT : T ≤ 16) (hrq : ∀ t g, t < 16 → bt (rq t) g = true → g < F) (h : ∀ (r : Int32) (rq : Nat → Int32), (∀ t g, t < 16 → bt (rq t) g = true → g < F) → post r (xfc, xtc, nI F, nI T, xn, xev, xst, sc, pc, dp, fl, mo, cl, rq, te, pa, ke, oc, lg, att, al, so)) : wpX_requestFixture post (xfc, xtc, nI F, nI T, xn, xev, xst, sc, pc, dp, fl, mo, cl, rq, te, pa, ke, oc, lg, att, al, so) v1 v2 := by
  unfold wpX_requestFixture
  rcases pk_ix v1 (n := T) (by omega) with z | z | ⟨t, ht, rfl⟩
  · exact br_t z (h 0 rq hrq)
  · by_cases z0 : v1 < 0
    · exact br_t z0 (h 0 rq hrq)
    · exact br_f z0 (br_t z (h 0 rq hrq))
  · have vt : vp_in (nI t) 16 := vp_in_nI (by omega) (by decide)
    have ct : (nI t).toNatClampNeg = t := nI_clamp (by omega)
    refine br_f (nI_pos (by omega)) (br_f (nI_ge ht (by omega)) (fx_isF hF (fun _ => br_t rfl (h 0 rq hrq)) (fun g hg e => br_f (by decide) ?_)))
    subst e
    refine ⟨vt, fx_has (by omega) (fy_bi_z (fun _ => ⟨vt, vt, nm_e (h 1 _ ?_)⟩) (fun _ => h 0 rq hrq))⟩
    rw [ct]
    intro a b ha hb
    rcases pl_put2 (by omega) hb with q | ⟨q1, q2⟩
    · exact hrq a b ha q
    · omega
end
end
section
/-! the law: its relation to the class, and its three runs -/
def pl_R (F T : Nat) (sc pc dp mo cl rq : Nat → Int32) (x4 : Int32) (x5 : Int64) (x8 : Int32) : Prop :=
  fy_nb sc F 3 ∧ fy_nb pc F 3 ∧ fy_nb mo T 1 ∧ fy_nb cl T 1 ∧ (∀ f g, f < 12 → bt (dp f) g = true → g < f) ∧ (∀ t g, t < 16 → bt (rq t) g = true → g < F) ∧
  x4 = nI (fy_en (fy_n sc) F) ∧ (∀ g h, g < 7 → h < 7 → pl_db x5 (g * 8 + h) = bt (dp g) h) ∧ x8 = nI (pl_eh (pl_gm mo cl) T)
theorem pl_nbw {a : Nat → Int32} {m b c : Nat} (h : fy_nb a m b) (hbc : b ≤ c) : fy_nb a m c := fun f hf => ⟨(h f hf).1, Nat.le_trans (h f hf).2 hbc⟩
section
variable {xfc xtc xF xT xn xev xst : Int32} {sc pc dp fl mo cl rq te pa oc lg att al so : Nat → Int32} {ke : Nat → Int64}
theorem pl_339 {post : Int32 → Prop} {L kc ks F T : Nat} {xs : Nat → Int32} {x4 x8 : Int32} {x5 : Int64} (hL : L ≤ 260) (hF0 : 0 < F) (hF : F ≤ 6) (hT0 : 0 < T) (hT : T ≤ 4) (hp : post 1) :
    ∀ (k r j nf : Nat) (xn xev xst : Int32) (fl rq te pa : Nat → Int32) (ke : Nat → Int64) (oc lg att al so : Nat → Int32), r + k = 3 → k < nf → j ≤ 100 + r → pl_R F T sc pc dp mo cl rq x4 x5 x8 →
    wL_law_339 post L xs (nI F) x4 x5 (nI T) x8 kc ks nf (nI j) (nI r) (nI 12) (nI 16) (nI F) (nI T) xn xev xst sc pc dp fl mo cl rq te pa ke oc lg att al so := by
  intro k
  induction k with
  | zero =>
    intro r j nf xn xev xst fl rq te pa ke oc lg att al so hk hnf hj R
    obtain ⟨nf, rfl⟩ : ∃ q, nf = q + 1 := ⟨nf - 1, by omega⟩
    have e : r = 3 := by omega
    subst e
    exact br_t (by decide) hp
  | succ k ih =>
    intro r j nf xn xev xst fl rq te pa ke oc lg att al so hk hnf hj R
    obtain ⟨nf, rfl⟩ : ∃ q, nf = q + 1 := ⟨nf - 1, by omega⟩
    obtain ⟨hsc, hpc, hmo, hcl, hdp, hrq, h4, h5, h8⟩ := R
    refine br_f (nI_ge (b := 3) (by omega) (by decide)) (nm_r (nI_1 j) (pl_cell hL (by omega) (fun cc => pl_mod hF0 (by omega) (fun j1 _ => ?_))))
    refine pl_fail (by omega) hpc (fun _ fl1 => pl_mod hT0 (by omega) (fun j2 _ => pl_mod hF0 (by omega) (fun j3 _ => ?_)))
    refine pl_req (by omega) (by omega) hrq (fun _ rq1 hrq1 => ?_)
    have R1 : pl_R F T sc pc dp mo cl rq1 x4 x5 x8 := ⟨hsc, hpc, hmo, hcl, hdp, hrq1, h4, h5, h8⟩
    refine fx_run (by omega) (by omega) hpc (pl_nbw hmo (by omega)) (pl_nbw hcl (by omega)) (fun z => ?_) (fun z s te1 pa1 ke1 oc1 hs h1 h2 => ?_)
    · exact br_f (by decide) (nm_r (nI_1 r) (ih (r + 1) (j + 1) nf _ _ _ _ _ _ _ _ _ _ _ _ _ (by omega) (by omega) (by omega) R1))
    · have hok := (fy_ok_ex (fl := fl1) (sc := sc) (mo := mo) (cl := cl) (dp := dp) (T := fun q => fx_tj dp rq1 pc F T (s q)) (D := fun q => fx_dj dp rq1 pc F T (s q)) (n := fy_tt (fx_g dp rq1 pc F) T) (e := fy_e0 lg att al so) (show F ≤ 12 by omega) (fun i f => fx_dj_4 hpc _ f) (fy_e0_ok (by omega)) (fy_tt (fx_g dp rq1 pc F) T)).1
      refine br_t (nI_pos' (by omega)) ?_
      unfold wpX_eventCount
      refine pk_le (fy_ex fl1 sc mo cl dp (fun q => fx_tj dp rq1 pc F T (s q)) (fun q => fx_dj dp rq1 pc F T (s q)) (fy_tt (fx_g dp rq1 pc F) T) F (fy_e0 lg att al so) (fy_tt (fx_g dp rq1 pc F) T)).1 256 (fun y => ?_) (fun y => nm_r (nI_1 r) (ih (r + 1) (j + 1) nf _ _ _ _ _ _ _ _ _ _ _ _ _ (by omega) (by omega) (by omega) R1))
      obtain ⟨G, hA, hB, hC, hE, hQ⟩ := gh_fin (fl := fl1) (sc := sc) (mo := mo) (cl := cl) (dp := dp) (T := fun q => fx_tj dp rq1 pc F T (s q)) (D := fun q => fx_dj dp rq1 pc F T (s q)) (e0 := fy_e0 lg att al so) (oc := oc1) (show F ≤ 12 by omega) z (fun i f => fx_dj_4 hpc _ f) hdp (fy_e0_ok (by omega)) (fun f hf => fy_fill_e (by omega)) h2 y
      have hB' : ∀ k, k < (fy_ex fl1 sc mo cl dp (fun q => fx_tj dp rq1 pc F T (s q)) (fun q => fx_dj dp rq1 pc F T (s q)) (fy_tt (fx_g dp rq1 pc F) T) F (fy_e0 lg att al so) (fy_tt (fx_g dp rq1 pc F) T)).1 → (fy_ex fl1 sc mo cl dp (fun q => fx_tj dp rq1 pc F T (s q)) (fun q => fx_dj dp rq1 pc F T (s q)) (fy_tt (fx_g dp rq1 pc F) T) F (fy_e0 lg att al so) (fy_tt (fx_g dp rq1 pc F) T)).2.1 k = gh_co (G k) ∧ pl_b (G k) := fun k hk => by
        obtain ⟨b1, b2, b3, b4, b5, b6⟩ := hB k hk
        exact ⟨b1, by omega, by omega, by omega, b6⟩
      have hBF : ∀ k, k < (fy_ex fl1 sc mo cl dp (fun q => fx_tj dp rq1 pc F T (s q)) (fun q => fx_dj dp rq1 pc F T (s q)) (fy_tt (fx_g dp rq1 pc F) T) F (fy_e0 lg att al so) (fy_tt (fx_g dp rq1 pc F) T)).1 → (G k).2.2.1 < F := fun k hk => (hB k hk).2.2.2.2.1
      have hBN : ∀ k, k < (fy_ex fl1 sc mo cl dp (fun q => fx_tj dp rq1 pc F T (s q)) (fun q => fx_dj dp rq1 pc F T (s q)) (fy_tt (fx_g dp rq1 pc F) T) F (fy_e0 lg att al so) (fy_tt (fx_g dp rq1 pc F) T)).1 → (G k).2.1 < fy_tt (fx_g dp rq1 pc F) T := fun k hk => (hB k hk).2.2.2.1
      have hx5 : ∀ g h, g < F → h < F → (((x5 >>> (((nI g * 8) + nI h).toInt64 &&& 63)) &&& 1) = 0 ↔ bt (dp g) h = false) := fun g h hg hh => by
        rw [pl_dx, pl_dt (by omega), h5 g h (by omega) (by omega)]
      have hgm : ∀ t, t < T → pl_gm mo cl t < 16 := fun t ht => by
        have := (hmo t ht).2
        have := (hcl t ht).2
        unfold pl_gm
        omega
      have he4 := fy_en_lt (P := fy_n sc) (n := F) (fun f hf => by have := (hsc f hf).2; omega)
      have hp4 := Nat.pow_le_pow_right (n := 4) (by decide) hF
      have hp46 : (4 : Nat) ^ 6 = 4096 := by decide
      have he8 := pl_eh_lt (P := pl_gm mo cl) (n := T) hgm
      have hp8 := Nat.pow_le_pow_right (n := 16) (by decide) hT
      have hp84 : (16 : Nat) ^ 4 = 65536 := by decide
      have hx4 : ∀ f, f < F → ((x4 >>> ((2 * nI f) &&& 31)) &&& 3) = sc f := fun f hf => by
        rw [h4, pl_sc (by omega) (by omega), fy_en_dg (fun f hf => by have := (hsc f hf).2; omega) hf, ← (hsc f hf).1]
      have hx8 : ∀ t, t < T → ((x8 >>> ((4 * nI t) &&& 31)) &&& 15) = nI (pl_gm mo cl t) := fun t ht => by
        rw [h8, pl_t (by omega) (by omega), pl_eh_dg hgm ht]
      have hte : ∀ q, q < fy_tt (fx_g dp rq1 pc F) T → te1 q = nI (fx_tj dp rq1 pc F T (s q)) ∧ fx_tj dp rq1 pc F T (s q) < T := fun q hq => ⟨(h1 q hq).1, fy_tf_lt T _ hT0⟩
      refine ⟨258, pl_438 (Tj := fun q => fx_tj dp rq1 pc F T (s q)) (by omega) hA hB' hBF hC hE hx5 ⟨66, ?_⟩ _ 0 258 (Nat.zero_add _) (by omega)⟩
      refine pl_766 (Tn := T) (r := r) (Tj := fun q => fx_tj dp rq1 pc F T (s q)) (Dj := fun q => fx_dj dp rq1 pc F T (s q)) (by omega) hA hB' hBN hBF z hsc hC (by omega) hte hgm (fun t ht => by have := (hcl t ht).2; omega) hx8 hx4 (fun i f => fx_dj_4 hpc _ f) (fun q hq => (h1 q hq).2) hQ rfl ?_ _ 0 66 (Nat.zero_add _) (by omega)
      exact ih (r + 1) (j + 1) nf _ _ _ _ _ _ _ _ _ _ _ _ _ (by omega) (by omega) (by omega) R1
end
end
section
/-! the law: building the engine; what is owed -/
section
variable {xfc xtc xF xT xn xev xst : Int32} {sc pc dp fl mo cl rq te pa oc lg att al so : Nat → Int32} {ke : Nat → Int64}
theorem pl_299 {post : Int32 → Prop} {L kc ks F T t j : Nat} {xs : Nat → Int32} {J229 : Int32 → Int32 → Int32 → Int32 → Int32 → Int32 → Int32 → Int32 → Int32 → Int32 → (Nat → Int32) → (Nat → Int32) → (Nat → Int32) → (Nat → Int32) → (Nat → Int32) → (Nat → Int32) → (Nat → Int32) → (Nat → Int32) → (Nat → Int32) → (Nat → Int64) → (Nat → Int32) → (Nat → Int32) → (Nat → Int32) → (Nat → Int32) → (Nat → Int32) → Prop} {x4 x7 x8 x13 : Int32} {x5 : Int64} (hF : F ≤ 12) (hT : T ≤ 16) (ht : t < 16)
    (hJ : ∀ rq : Nat → Int32, (∀ t g, t < 16 → bt (rq t) g = true → g < F) → J229 (nI j) x8 (nI (t + 1)) (nI 12) (nI 16) (nI F) (nI T) xn xev xst sc pc dp fl mo cl rq te pa ke oc lg att al so) :
    ∀ (k f nf : Nat) (rq : Nat → Int32), f + k = F → k < nf → (∀ t g, t < 16 → bt (rq t) g = true → g < F) →
    wL_law_299 post L xs J229 (nI j) (nI F) x4 x5 x7 x8 (nI t) x13 kc ks nf (nI f) (nI 12) (nI 16) (nI F) (nI T) xn xev xst sc pc dp fl mo cl rq te pa ke oc lg att al so := by
  intro k
  induction k with
  | zero =>
    intro f nf rq hk hnf hrq
    obtain ⟨nf, rfl⟩ : ∃ q, nf = q + 1 := ⟨nf - 1, by omega⟩
    have e : f = F := by omega
    subst e
    exact br_t (nI_le (Nat.le_refl _) (by omega)) (nm_r (nI_1 t) (hJ rq hrq))
  | succ k ih =>
    intro f nf rq hk hnf hrq
    obtain ⟨nf, rfl⟩ : ∃ q, nf = q + 1 := ⟨nf - 1, by omega⟩
    refine br_f (nI_ge (by omega) (by omega)) (br_c (fun _ => nm_r (nI_1 f) (ih (f + 1) nf rq (by omega) (by omega) hrq)) (fun _ => ?_))
    exact pl_req hF hT hrq (fun _ rq1 h1 => nm_r (nI_1 f) (ih (f + 1) nf rq1 (by omega) (by omega) h1))
theorem pl_en_upd {a : Nat → Int32} {m b n : Nat} (h : fy_nb a m b) (hb : b < 2 ^ 31) (hn : n ≤ b) : (∀ f, f < m → fy_n (upd a m (nI n)) f = fy_n a f) ∧ fy_n (upd a m (nI n)) m = n := by
  refine ⟨fun f hf => ?_, ?_⟩
  · unfold fy_n
    rw [pk_un (by omega)]
  · unfold fy_n
    rw [pk_us, nI_clamp (by omega)]
theorem pl_229 {post : Int32 → Prop} {L kc ks F T : Nat} {xs : Nat → Int32} {x4 : Int32} {x5 : Int64} (hL : L ≤ 260) (hF0 : 0 < F) (hF : F ≤ 6) (hT0 : 0 < T) (hT : T ≤ 4) (hp : post 1) :
    ∀ (k t j nf : Nat) (x8 xn xev xst : Int32) (mo cl rq : Nat → Int32), t + k = T → k < nf → j ≤ 50 + 2 * t → pl_R F t sc pc dp mo cl rq x4 x5 x8 →
    wL_law_229 post L xs (nI F) x4 x5 (nI T) kc ks nf (nI j) x8 (nI t) (nI 12) (nI 16) (nI F) (nI t) xn xev xst sc pc dp fl mo cl rq te pa ke oc lg att al so := by
  intro k
  induction k with
  | zero =>
    intro t j nf x8 xn xev xst mo cl rq hk hnf hj R
    obtain ⟨nf, rfl⟩ : ∃ q, nf = q + 1 := ⟨nf - 1, by omega⟩
    have e : t = T := by omega
    subst e
    exact br_t (nI_le (Nat.le_refl _) (by omega)) ⟨4, pl_339 hL hF0 hF hT0 hT hp 3 0 j 4 _ _ _ _ _ _ _ _ _ _ _ _ _ (by omega) (by omega) (by omega) R⟩
  | succ k ih =>
    intro t j nf x8 xn xev xst mo cl rq hk hnf hj R
    obtain ⟨nf, rfl⟩ : ∃ q, nf = q + 1 := ⟨nf - 1, by omega⟩
    obtain ⟨hsc, hpc, hmo, hcl, hdp, hrq, h4, h5, h8⟩ := R
    refine br_f (nI_ge (by omega) (by omega)) (nm_r (nI_1 j) (pl_cell hL (by omega) (fun cc => ?_)))
    obtain ⟨m, hm, em⟩ := pk_andE cc (m := 1) 1 (by decide)
    obtain ⟨c', hc', ec⟩ := pk_andE (cc >>> ((1 : Int32) &&& 31)) (m := 1) 1 (by decide)
    have hm2 : m ≤ 1 := by omega
    have hc2 : c' ≤ 1 := by omega
    refine nm_r em (nm_r ec (pl_tst (by omega) (by omega) (by omega) ?_))
    obtain ⟨m1, m2⟩ := pl_en_upd hmo (by decide) hm2
    obtain ⟨c1, c2⟩ := pl_en_upd hcl (by decide) hc2
    have hgm : ∀ s, s < t → pl_gm mo cl s < 16 := fun s hs => by
      have := (hmo s hs).2
      have := (hcl s hs).2
      unfold pl_gm
      omega
    have e8 : x8 ||| ((nI m * 4 + nI c') <<< ((4 * nI t) &&& 31)) = nI (pl_eh (pl_gm (upd mo t (nI m)) (upd cl t (nI c'))) (t + 1)) := by
      have q1 : nI m * 4 + nI c' = nI (m * 4 + c') := by rw [← nI_add, ← pk_mul]; rfl
      have q2 : pl_gm (upd mo t (nI m)) (upd cl t (nI c')) t = m * 4 + c' := by unfold pl_gm; rw [m2, c2]
      have q3 : pl_eh (pl_gm (upd mo t (nI m)) (upd cl t (nI c'))) t = pl_eh (pl_gm mo cl) t := pl_eh_cg (fun s hs => by unfold pl_gm; rw [m1 s hs, c1 s hs])
      rw [h8, q1, pl_tp (pl_eh_lt hgm) (by omega) (by omega), pl_eh, q2, q3]
    refine nm_r e8 (nm_r (nI_1 (j + 1)) (pl_cell hL (by omega) (fun bits => ⟨F + 1, ?_⟩)))
    refine pl_299 (by omega) (by omega) (by omega) (fun rq1 h1 => ?_) F 0 (F + 1) rq (by omega) (by omega) hrq
    exact ih (t + 1) (j + 2) nf _ _ _ _ _ _ rq1 (by omega) (by omega) (by omega) ⟨hsc, hpc, fy_nb_upd hmo (by decide) hm2, fy_nb_upd hcl (by decide) hc2, hdp, h1, h4, h5, rfl⟩
/-- the dependencies, here and in the law -/
def pl_D (dp : Nat → Int32) (x5 : Int64) : Prop := (∀ f g, f < 12 → bt (dp f) g = true → g < f) ∧ (∀ g h, g < 7 → h < 7 → pl_db x5 (g * 8 + h) = bt (dp g) h)
theorem pl_D_s {dp : Nat → Int32} {x5 : Int64} {f d : Nat} (h : pl_D dp x5) (hf : f < 7) (hd : d < f) : pl_D (upd dp f (dp f ||| ((1 : Int32) <<< (nI d &&& 31)))) (x5 ||| ((1 : Int64) <<< ((nI f * 8 + nI d).toInt64 &&& 63))) := by
  obtain ⟨h1, h2⟩ := h
  refine ⟨fun a b ha hb => ?_, fun g x hg hx => ?_⟩
  · rcases pl_put2 (by omega) hb with q | ⟨q1, q2⟩
    · exact h1 a b ha q
    · omega
  · rw [pl_dx, pl_ds (by omega) (by omega), h2 g x hg hx]
    by_cases e : g = f
    · subst e
      rw [pk_us, fy_set _ (by omega) (by omega)]
      congr 1
      exact decide_eq_decide.mpr ⟨fun q => by omega, fun q => by omega⟩
    · rw [pk_un e, decide_eq_false (by omega), Bool.or_false]
theorem pl_115 {post : Int32 → Prop} {L kc ks f j : Nat} {xs : Nat → Int32} {J38 : Int32 → Int32 → Int64 → Int32 → Int32 → Int32 → Int32 → Int32 → Int32 → Int32 → Int32 → (Nat → Int32) → (Nat → Int32) → (Nat → Int32) → (Nat → Int32) → (Nat → Int32) → (Nat → Int32) → (Nat → Int32) → (Nat → Int32) → (Nat → Int32) → (Nat → Int64) → (Nat → Int32) → (Nat → Int32) → (Nat → Int32) → (Nat → Int32) → (Nat → Int32) → Prop} {x3 x4 x11 : Int32} (hL : L ≤ 260) (hj : j < 100) (hf : f < 6) (hpc : fy_nb pc (f + 1) 3)
    (hJ : ∀ (x5 : Int64) (dp fl : Nat → Int32), pl_D dp x5 → J38 (nI (j + 1)) x4 x5 (nI (f + 1)) (nI 12) (nI 16) (nI (f + 1)) (nI 0) xn xev xst sc pc dp fl mo cl rq te pa ke oc lg att al so) :
    ∀ (k d nf : Nat) (x5 : Int64) (dp : Nat → Int32), d + k = f → k < nf → pl_D dp x5 →
    wL_law_115 post L xs J38 (nI j) x3 x4 (nI f) x11 kc ks nf x5 (nI d) (nI 12) (nI 16) (nI (f + 1)) (nI 0) xn xev xst sc pc dp fl mo cl rq te pa ke oc lg att al so := by
  intro k
  induction k with
  | zero =>
    intro d nf x5 dp hk hnf hD
    obtain ⟨nf, rfl⟩ : ∃ q, nf = q + 1 := ⟨nf - 1, by omega⟩
    have e : d = f := by omega
    subst e
    refine br_t (nI_le (Nat.le_refl _) (by omega)) (nm_r (nI_1 j) (pl_cell hL (by omega) (fun c2 => br_c (fun _ => nm_r (nI_1 d) (hJ x5 dp fl hD)) (fun _ => ?_))))
    exact pl_fail (by omega) hpc (fun _ fl1 => nm_r (nI_1 d) (hJ x5 dp fl1 hD))
  | succ k ih =>
    intro d nf x5 dp hk hnf hD
    obtain ⟨nf, rfl⟩ : ∃ q, nf = q + 1 := ⟨nf - 1, by omega⟩
    refine br_f (nI_ge (by omega) (by omega)) (br_c (fun _ => nm_r (nI_1 d) (ih (d + 1) nf x5 dp (by omega) (by omega) hD)) (fun _ => ?_))
    refine pl_add (by omega) (by omega) (show d < f by omega) (br_t rfl (nm_r (nI_1 d) (ih (d + 1) nf x5 dp (by omega) (by omega) hD))) (br_f (by decide) (nm_e (nm_r (nI_1 d) (ih (d + 1) nf _ _ (by omega) (by omega) (pl_D_s hD (by omega) (by omega))))))
theorem pl_38 {post : Int32 → Prop} {L kc ks F : Nat} {xs : Nat → Int32} (hL : L ≤ 260) (hF0 : 0 < F) (hF : F ≤ 6) (hp : post 1) :
    ∀ (k f j nf : Nat) (x4 : Int32) (x5 : Int64) (sc pc dp fl : Nat → Int32), f + k = F → k < nf → j ≤ 1 + 3 * f → pl_R f 0 sc pc dp mo cl rq x4 x5 0 →
    wL_law_38 post L xs (nI F) kc ks nf (nI j) x4 x5 (nI f) (nI 12) (nI 16) (nI f) (nI 0) xn xev xst sc pc dp fl mo cl rq te pa ke oc lg att al so := by
  intro k
  induction k with
  | zero =>
    intro f j nf x4 x5 sc pc dp fl hk hnf hj R
    obtain ⟨nf, rfl⟩ : ∃ q, nf = q + 1 := ⟨nf - 1, by omega⟩
    have e : f = F := by omega
    subst e
    refine br_t (nI_le (Nat.le_refl _) (by omega)) (nm_r (nI_1 j) (pl_cell hL (by omega) (fun cc => ?_)))
    refine pl_mod (m := 4) (by decide) (by decide) (fun q hq => nm_r (show 1 + nI q = nI (q + 1) by rw [Int32.add_comm]; exact nI_1 q) ⟨6, ?_⟩)
    exact pl_229 hL hF0 hF (show 0 < q + 1 by omega) (by omega) hp (q + 1) 0 (j + 1) 6 0 _ _ _ _ _ _ (by omega) (by omega) (by omega) R
  | succ k ih =>
    intro f j nf x4 x5 sc pc dp fl hk hnf hj R
    obtain ⟨nf, rfl⟩ : ∃ q, nf = q + 1 := ⟨nf - 1, by omega⟩
    obtain ⟨hsc, hpc, hmo, hcl, hdp, hrq, h4, h5, h8⟩ := R
    have join : ∀ s p : Nat, s ≤ 3 → p ≤ 3 → wL_law_86 post L xs (wL_law_38 post L xs (nI F) kc ks nf) (nI (j + 1)) (nI F) x4 x5 (nI f) (nI s) (nI p) (nI s) kc ks (nI 12) (nI 16) (nI f) (nI 0) xn xev xst sc pc dp fl mo cl rq te pa ke oc lg att al so := by
      intro s p hs hp3
      unfold wL_law_86
      refine pl_def (by omega) hs hp3 ?_
      obtain ⟨s1, s2⟩ := pl_en_upd hsc (by decide) hs
      have e4 : x4 ||| (nI s <<< ((2 * nI f) &&& 31)) = nI (fy_en (fy_n (upd sc f (nI s))) (f + 1)) := by
        rw [h4, pl_scp (fy_en_lt (fun g hg => by have := (hsc g hg).2; omega)) (by omega) (by omega), fy_en, s2, fy_en_cg (P := fy_n (upd sc f (nI s))) (Q := fy_n sc) s1]
      refine nm_r e4 (nm_r (nI_1 (j + 1)) (pl_cell hL (by omega) (fun bits => ⟨f + 1, ?_⟩)))
      refine pl_115 hL (by omega) (by omega) (fy_nb_upd hpc (by decide) hp3) (fun y5 dp1 fl1 hD => ?_) f 0 (f + 1) x5 dp (by omega) (by omega) ⟨hdp, h5⟩
      refine ih (f + 1) (j + 1 + 1 + 1) nf _ y5 _ _ dp1 fl1 (by omega) (by omega) (by omega) ⟨fy_nb_upd hsc (by decide) hs, fy_nb_upd hpc (by decide) hp3, hmo, hcl, hD.1, fun t g ht hb => ?_, rfl, hD.2, h8⟩
      have := hrq t g ht hb
      omega
    refine br_f (nI_ge (by omega) (by omega)) (nm_r (nI_1 j) (pl_cell hL (by omega) (fun cc => ?_)))
    obtain ⟨s, hs, es⟩ := pk_andE cc (m := 3) 2 (by decide)
    obtain ⟨w, hw, ew⟩ := pk_andE (cc >>> ((2 : Int32) &&& 31)) (m := 7) 3 (by decide)
    refine nm_r es (nm_r ew (pk_lt w 5 (fun z => join s 0 (by omega) (by omega)) (fun z => ?_)))
    have e : nI w - 4 = nI (w - 4) := pk_sub (b := 4) (by omega)
    rw [e]
    exact join s (w - 4) (by omega) (by omega)
end
theorem i_vc (xs : Nat → Int32) (L : Nat) (hL : L ≤ 260) : wpL_law (fun r => r = 1) L xs := by
  have R0 : pl_R 0 0 (fun _ => 0) (fun _ => 0) (fun _ => 0) (fun _ => 0) (fun _ => 0) (fun _ => 0) 0 0 0 := by
    refine ⟨fun f hf => absurd hf (Nat.not_lt_zero f), fun f hf => absurd hf (Nat.not_lt_zero f), fun f hf => absurd hf (Nat.not_lt_zero f), fun f hf => absurd hf (Nat.not_lt_zero f), fun f g _ h => ?_, fun f g _ h => ?_, rfl, fun g h _ _ => ?_, rfl⟩
    · have h' : bt 0 g = true := h
      rw [b_0] at h'
      exact absurd h' (by decide)
    · have h' : bt 0 g = true := h
      rw [b_0] at h'
      exact absurd h' (by decide)
    · show pl_db 0 (g * 8 + h) = bt 0 h
      rw [pl_d0, b_0]
  unfold wpL_law
  refine ⟨15, 692, by omega, by omega, ?_⟩
  unfold wpX_init
  refine ⟨by omega, by omega, by omega, by omega, by omega, by omega, by omega, by omega, by omega, by omega, by omega, by omega, by omega, by omega, by omega, by omega, by omega, by omega, by omega, by omega, by omega, by omega, by omega, by omega, by omega, by omega, by omega, by omega, by omega, by omega, ?_⟩
  refine br_t (by decide) (br_t (by decide) (br_t (by decide) (br_t (by decide) ?_)))
  refine nm_r (show (0 : Int32) + 1 = nI 1 by decide) (pl_cell (j := 0) hL (by decide) (fun cc => ?_))
  refine pl_mod (m := 5) (by decide) (by decide) (fun q hq => nm_r (show 2 + nI q = nI (q + 2) by rw [Int32.add_comm]; exact nI_add q 2) ⟨8, ?_⟩)
  exact pl_38 (post := fun r => r = 1) (F := q + 2) hL (by omega) (by omega) rfl (q + 2) 0 1 8 0 0 _ _ _ _ (by omega) (by omega) (by omega) R0
end
