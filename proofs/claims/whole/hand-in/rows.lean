section
/-! rows of kit/rows, pasted by name (wip/whole/paste.py) -/
theorem pk_us {f : Nat → Int32} {k : Nat} {x : Int32} : upd f k x k = x := if_pos rfl
theorem pk_un {f : Nat → Int32} {k j : Nat} {x : Int32} (h : j ≠ k) : upd f k x j = f j := if_neg h
theorem pk_uLs {f : Nat → Int64} {k : Nat} {x : Int64} : vp_updL f k x k = x := if_pos rfl
theorem pk_uLn {f : Nat → Int64} {k j : Nat} {x : Int64} (h : j ≠ k) : vp_updL f k x j = f j := if_neg h
theorem pk_sub {a b : Nat} (h : b ≤ a) : nI a - nI b = nI (a - b) := by
  obtain ⟨c, rfl⟩ : ∃ c, a = c + b := ⟨a - b, by omega⟩
  rw [← nI_add, Int32.add_sub_cancel, Nat.add_sub_cancel]
theorem pk_m1 (n : Nat) : nI (n + 1) + (-1) = nI n := by
  rw [← nI_1, Int32.add_assoc, show (1 : Int32) + (-1) = 0 from rfl, Int32.add_zero]
theorem pk_mul (a b : Nat) : nI a * nI b = nI (a * b) := (Int32.ofNat_mul a b).symm
theorem pk_div {a d : Nat} (ha : a < 2 ^ 31) (h0 : 0 < d) (hd : d < 2 ^ 31) : nI a / nI d = nI (a / d) := by
  apply Int32.toInt_inj.mp
  rw [lg_idiv_nonneg (by rw [nI_toInt ha]; omega) (by rw [nI_toInt hd]; omega), nI_toInt ha, nI_toInt hd, nI_toInt (Nat.lt_of_le_of_lt (Nat.div_le_self a d) ha)]
  first | rfl | exact (Int.natCast_ediv _ _).symm
theorem pk_rem {a d : Nat} (ha : a < 2 ^ 31) (h0 : 0 < d) (hd : d < 2 ^ 31) : nI a - nI a / nI d * nI d = nI (a % d) := by
  rw [pk_div ha h0 hd, pk_mul, pk_sub (Nat.div_mul_le_self a d)]
  exact congrArg nI (by have := Nat.div_add_mod' a d; omega)
theorem pk_ix (x : Int32) {n : Nat} (hn : n < 2 ^ 31) : x < 0 ∨ nI n ≤ x ∨ ∃ j : Nat, j < n ∧ x = nI j := by
  by_cases h : x < 0
  · exact Or.inl h
  · obtain ⟨j, hj, rfl⟩ := nI_of h
    by_cases h2 : j < n
    · exact Or.inr (Or.inr ⟨j, h2, rfl⟩)
    · exact Or.inr (Or.inl (nI_le (by omega) hj))
theorem pk_le {x y : Int32} {A B : Prop} (a b : Nat) (f : a ≤ b → A) (g : b < a → B) (hx : x = nI a := by rfl) (hy : y = nI b := by rfl) (ha : a < 2 ^ 31 := by omega) (hb : b < 2 ^ 31 := by omega) : (x ≤ y → A) ∧ (¬ x ≤ y → B) := by
  subst hx hy
  rw [nI_leI ha hb]
  exact ⟨f, fun z => g (by omega)⟩
theorem pk_lt {x y : Int32} {A B : Prop} (a b : Nat) (f : a < b → A) (g : b ≤ a → B) (hx : x = nI a := by rfl) (hy : y = nI b := by rfl) (ha : a < 2 ^ 31 := by omega) (hb : b < 2 ^ 31 := by omega) : (x < y → A) ∧ (¬ x < y → B) := by
  subst hx hy
  rw [nI_ltI ha hb]
  exact ⟨f, fun z => g (by omega)⟩
theorem pk_eq {x y : Int32} {A B : Prop} (a b : Nat) (f : a = b → A) (g : a ≠ b → B) (hx : x = nI a := by rfl) (hy : y = nI b := by rfl) (ha : a < 2 ^ 31 := by omega) (hb : b < 2 ^ 31 := by omega) : (x = y → A) ∧ (¬ x = y → B) := by
  subst hx hy
  rw [nI_eq ha hb]
  exact ⟨f, g⟩
theorem pk_in {x : Int32} (n N : Nat) (h : n < N) (hx : x = nI n := by rfl) (hN : N < 2 ^ 31 := by omega) : vp_in x N := by
  subst hx
  exact vp_in_nI h hN
theorem pk_cl {x : Int32} (n : Nat) (hx : x = nI n := by rfl) (h : n < 2 ^ 31 := by omega) : x.toNatClampNeg = n := by
  subst hx
  exact nI_clamp h
theorem pk_tn {n : Nat} (h : n < 2 ^ 32) : (nI n).toBitVec.toNat = n := Nat.mod_eq_of_lt h
theorem pk_and (x : Int32) {m : Int32} (k : Nat) (hm : m.toBitVec.toNat = 2 ^ k - 1) : x &&& m = nI (x.toBitVec.toNat % 2 ^ k) := by
  apply Int32.toBitVec_inj.mp
  apply BitVec.eq_of_toNat_eq
  rw [Int32.toBitVec_and, BitVec.toNat_and, hm, Nat.and_two_pow_sub_one_eq_mod]
  show _ = (BitVec.ofNat 32 _).toNat
  rw [BitVec.toNat_ofNat]
  exact (Nat.mod_eq_of_lt (Nat.lt_of_le_of_lt (Nat.mod_le _ _) x.toBitVec.isLt)).symm
theorem pk_andN {n : Nat} (h : n < 2 ^ 32) {m : Int32} (k : Nat) (hm : m.toBitVec.toNat = 2 ^ k - 1) : nI n &&& m = nI (n % 2 ^ k) := by
  rw [pk_and _ k hm, pk_tn h]
theorem pk_shl (a s : Int32) (k : Nat) (hs : (s.toBitVec.smod 32).toNat = k) : (a <<< s).toBitVec.toNat = a.toBitVec.toNat * 2 ^ k % 2 ^ 32 := by
  show (a.toBitVec <<< (s.toBitVec.smod 32).toNat).toNat = _
  rw [hs, BitVec.toNat_shiftLeft, Nat.shiftLeft_eq]
theorem pk_shlN {n : Nat} (s : Int32) (k : Nat) (hs : (s.toBitVec.smod 32).toNat = k) (h : n * 2 ^ k < 2 ^ 32) : nI n <<< s = nI (n * 2 ^ k) := by
  apply Int32.toBitVec_inj.mp
  apply BitVec.eq_of_toNat_eq
  have hn : n < 2 ^ 32 := Nat.lt_of_le_of_lt (Nat.le_mul_of_pos_right n (Nat.two_pow_pos k)) h
  rw [pk_shl _ _ k hs, pk_tn hn, pk_tn h, Nat.mod_eq_of_lt h]
theorem pk_shr (a s : Int32) (k : Nat) (hs : (s.toBitVec.smod 32).toNat = k) : (a >>> s).toInt = a.toInt >>> k := by
  show (a.toBitVec.sshiftRight (s.toBitVec.smod 32).toNat).toInt = _
  rw [hs, BitVec.toInt_sshiftRight]
  rfl
theorem pk_shrN {n : Nat} (h : n < 2 ^ 31) (s : Int32) (k : Nat) (hs : (s.toBitVec.smod 32).toNat = k) : nI n >>> s = nI (n / 2 ^ k) := by
  apply Int32.toInt_inj.mp
  have h2 : n / 2 ^ k ≤ n := Nat.div_le_self _ _
  rw [pk_shr _ _ k hs, nI_toInt h, nI_toInt (by omega), Int.shiftRight_eq_div_pow]
  rfl
theorem pk_lT {n : Nat} (h : n < 2 ^ 63) : (lN n).toInt = (n : Int) := lg_ofNat_toInt h
theorem pk_lLT {a b : Nat} (ha : a < 2 ^ 63) (hb : b < 2 ^ 63) : lN a < lN b ↔ a < b := by
  rw [Int64.lt_iff_toInt_lt, pk_lT ha, pk_lT hb]; omega
theorem pk_lLE {a b : Nat} (ha : a < 2 ^ 63) (hb : b < 2 ^ 63) : lN a ≤ lN b ↔ a ≤ b := by
  rw [Int64.le_iff_toInt_le, pk_lT ha, pk_lT hb]; omega
theorem pk_lEQ {a b : Nat} (ha : a < 2 ^ 63) (hb : b < 2 ^ 63) : lN a = lN b ↔ a = b := by
  rw [← Int64.toInt_inj, pk_lT ha, pk_lT hb]; omega
theorem pk_loop {σ : Type} (W : Nat → Nat → σ → Prop) (I : Nat → σ → Prop) (e i0 : Nat) (s : σ) (hi : i0 ≤ e) (h0 : I i0 s) (hx : ∀ n s, I e s → W (n + 1) e s)
    (hs : ∀ n i s, i < e → I i s → (∀ s', I (i + 1) s' → W n (i + 1) s') → W (n + 1) i s) : ∃ n, W n i0 s :=
  ⟨e + 1, loop_i W I e hx hs (e + 1) i0 s hi (by omega) h0⟩
theorem pk_loopD {σ : Type} (W : Nat → Nat → σ → Prop) (I : Nat → σ → Prop) (hx : ∀ n s, I 0 s → W (n + 1) 0 s)
    (hs : ∀ n i s, I (i + 1) s → (∀ s', I i s' → W n i s') → W (n + 1) (i + 1) s) : ∀ (e : Nat) (s : σ), I e s → W (e + 1) e s := by
  intro e
  induction e with
  | zero => exact fun s h => hx 0 s h
  | succ e ih => exact fun s h => hs (e + 1) e s h (fun s' h' => ih s' h')
theorem ek_if {c d A B : Prop} (e : c ↔ d) (f : d → A) (g : ¬ d → B) : (c → A) ∧ (¬ c → B) :=
  ⟨fun z => f (e.mp z), fun z => g (fun y => z (e.mpr y))⟩
theorem ek_v {α : Sort _} {P : α → Prop} {a b : α} (e : a = b) (h : P b) : P a := e ▸ h
def bt (x : Int32) (i : Nat) : Bool := x.toBitVec.getLsbD i
theorem b_ext {x y : Int32} (h : ∀ i, i < 32 → bt x i = bt y i) : x = y := Int32.toBitVec_inj.mp (BitVec.eq_of_getLsbD_eq (fun i hi => h i hi))
theorem b_or (x y : Int32) (i : Nat) : bt (x ||| y) i = (bt x i || bt y i) := by unfold bt; rw [Int32.toBitVec_or, BitVec.getLsbD_or]
theorem b_and (x y : Int32) (i : Nat) : bt (x &&& y) i = (bt x i && bt y i) := by unfold bt; rw [Int32.toBitVec_and, BitVec.getLsbD_and]
theorem b_xor (x y : Int32) (i : Nat) : bt (x ^^^ y) i = (bt x i ^^ bt y i) := by unfold bt; rw [Int32.toBitVec_xor, BitVec.getLsbD_xor]
theorem b_big {x : Int32} {i : Nat} (h : 32 ≤ i) : bt x i = false := BitVec.getLsbD_of_ge _ _ h
theorem b_m1 : ∀ i, i < 32 → bt (-1) i = true := by decide +kernel
theorem b_0 (i : Nat) : bt 0 i = false := BitVec.getLsbD_zero
theorem s_l : ∀ n, n < 32 → ((nI n &&& 31).toBitVec.smod 32).toNat = n := by decide +kernel
theorem b_shl (n : Nat) (hn : n < 32) (x : Int32) {i : Nat} (hi : i < 32) : bt (x <<< (nI n &&& 31)) i = (decide (n ≤ i) && bt x (i - n)) := by
  unfold bt
  rw [Int32.toBitVec_shiftLeft]
  show (x.toBitVec <<< ((nI n &&& 31).toBitVec.smod 32).toNat).getLsbD i = _
  rw [s_l n hn, BitVec.getLsbD_shiftLeft]
  rcases Nat.lt_or_ge i n with h | h
  · simp [h, Nat.not_le.mpr h]
  · simp [hi, h, Nat.not_lt.mpr h]
theorem b_sshr (n : Nat) (hn : n < 32) (x : Int32) {i : Nat} (hi : i < 32) : bt (x >>> (nI n &&& 31)) i = if n + i < 32 then bt x (n + i) else bt x 31 := by
  unfold bt
  rw [Int32.toBitVec_shiftRight]
  show (x.toBitVec.sshiftRight ((nI n &&& 31).toBitVec.smod 32).toNat).getLsbD i = _
  rw [s_l n hn, BitVec.getLsbD_sshiftRight, BitVec.msb_eq_getLsbD_last]
  simp [hi]
theorem nx_and (a b : Nat) : nI a &&& nI b = nI (a &&& b) := by
  apply Int32.toBitVec_inj.1
  show BitVec.ofNat 32 a &&& BitVec.ofNat 32 b = BitVec.ofNat 32 (a &&& b)
  apply BitVec.eq_of_getLsbD_eq
  intro i hi
  simp [hi]
theorem u_tn {n : Nat} (h : n < 2 ^ 64) : (UInt64.ofNat n).toNat = n := Nat.mod_eq_of_lt h
theorem g_or {k p a b : Nat} (hp : 2 ^ k = p) (ha : a < p) (h : b * p + a < 2 ^ 64) : lN (b * p) ||| lN a = lN (b * p + a) := by
  subst hp
  have h1 : b * 2 ^ k ||| a = b * 2 ^ k + a := by rw [← Nat.shiftLeft_eq, Nat.shiftLeft_add_eq_or_of_lt ha]
  have h3 : UInt64.ofNat (b * 2 ^ k) ||| UInt64.ofNat a = UInt64.ofNat (b * 2 ^ k + a) := UInt64.toNat_inj.mp (by rw [UInt64.toNat_or, u_tn (by omega), u_tn (by omega), u_tn h, h1])
  have h2 := congrArg UInt64.toInt64 h3
  exact h2
theorem g_shl {a k p : Nat} {y : Int64} (hy : y.toBitVec.smod 64 = BitVec.ofNat 64 k) (hk : k < 64) (hp : 2 ^ k = p) (ha : a < 2 ^ 64) : lN a <<< y = lN (a * p) := by
  subst hp
  apply Int64.toBitVec_inj.mp
  rw [Int64.toBitVec_shiftLeft, hy]
  apply BitVec.eq_of_toNat_eq
  have hb : (lN a).toBitVec.toNat = a := Nat.mod_eq_of_lt ha
  have hk' : (BitVec.ofNat 64 k).toNat = k := Nat.mod_eq_of_lt (by omega)
  have h : ((lN a).toBitVec <<< BitVec.ofNat 64 k).toNat = (a * 2 ^ k) % 2 ^ 64 := by simp only [BitVec.shiftLeft_eq', BitVec.toNat_shiftLeft, hb, hk', Nat.shiftLeft_eq]
  exact h
theorem wb_tb (n : Nat) : (lN n).toBitVec = BitVec.ofNat 64 n := rfl
theorem wb_inj {a b : Int64} (h : a.toBitVec = b.toBitVec) : a = b := Int64.toBitVec_inj.mp h
theorem wb_c : ∀ k, k < 64 → ((nI k).toInt64 &&& 63) = lN k := by decide +kernel
theorem wb_sm : ∀ k, k < 64 → (BitVec.ofNat 64 k).smod 64 = BitVec.ofNat 64 k := by decide +kernel
theorem wb_shl (n : Nat) {k : Nat} (hk : k < 64) : lN n <<< ((nI k).toInt64 &&& 63) = lN (n * 2 ^ k) := by
  rw [wb_c k hk]
  apply wb_inj
  rw [Int64.toBitVec_shiftLeft, wb_tb, wb_tb, wb_tb, wb_sm k hk]
  apply BitVec.eq_of_toNat_eq
  rw [BitVec.shiftLeft_eq', BitVec.toNat_shiftLeft, BitVec.toNat_ofNat, BitVec.toNat_ofNat, BitVec.toNat_ofNat, Nat.mod_eq_of_lt (show k < 2 ^ 64 by omega), Nat.shiftLeft_eq, Nat.mul_mod, Nat.mod_mod, ← Nat.mul_mod]
end
section
/-! bits of an int as a set; two bits for each fixture as a row of digits -/
theorem fy_b1 : ∀ i, i < 32 → bt 1 i = decide (i = 0) := by decide +kernel
theorem fy_has (x : Int32) {f : Nat} (hf : f < 32) : ((x >>> (nI f &&& 31)) &&& 1) = 0 ↔ bt x f = false := by
  have e : ∀ i, i < 32 → bt ((x >>> (nI f &&& 31)) &&& 1) i = (decide (i = 0) && bt x f) := by
    intro i hi
    rw [b_and, fy_b1 i hi, b_sshr f hf x hi]
    cases i with
    | zero => simp [hf]
    | succ i => simp
  constructor
  · intro h
    have h0 := e 0 (by decide)
    rw [h, b_0] at h0
    simpa using h0.symm
  · intro h
    apply b_ext
    intro i hi
    rw [e i hi, h, b_0, Bool.and_false]
theorem fy_set (x : Int32) {d i : Nat} (hd : d < 32) (hi : i < 32) : bt (x ||| ((1 : Int32) <<< (nI d &&& 31))) i = (bt x i || decide (i = d)) := by
  rw [b_or, b_shl d hd 1 hi]
  congr 1
  by_cases h : d ≤ i
  · rw [fy_b1 _ (by omega), decide_eq_true h, Bool.true_and]
    exact decide_eq_decide.mpr ⟨fun h => by omega, fun h => by omega⟩
  · rw [decide_eq_false h, Bool.false_and]
    exact (decide_eq_false (by omega)).symm
theorem fy_clr (x : Int32) {g i : Nat} (hg : g < 32) (hi : i < 32) : bt (x &&& (((1 : Int32) <<< (nI g &&& 31)) ^^^ (-1))) i = (bt x i && !decide (i = g)) := by
  have h := fy_set 0 hg hi
  rw [b_or, b_0, Bool.false_or, Bool.false_or] at h
  rw [b_and, b_xor, b_m1 i hi, h, Bool.xor_true]
theorem fy_z {x : Int32} : x = 0 ↔ ∀ i, i < 32 → bt x i = false :=
  ⟨fun h i _ => by rw [h, b_0], fun h => b_ext (fun i hi => by rw [h i hi, b_0])⟩
theorem fy_nz {x : Int32} (h : ¬ x = 0) : ∃ i, i < 32 ∧ bt x i = true := by
  apply Classical.byContradiction
  intro hn
  apply h
  rw [fy_z]
  intro i hi
  cases hb : bt x i
  · rfl
  · exact absurd ⟨i, hi, hb⟩ hn
theorem fy_and0 {x y : Int32} : (x &&& y) = 0 ↔ ∀ i, i < 32 → ¬ (bt x i = true ∧ bt y i = true) := by
  rw [fy_z]
  constructor
  · intro h i hi hab
    have := h i hi
    rw [b_and, hab.1, hab.2] at this
    exact absurd this (by decide)
  · intro h i hi
    rw [b_and]
    cases ha : bt x i <;> cases hb : bt y i <;> first | rfl | exact absurd ⟨ha, hb⟩ (h i hi)
def fy_en (P : Nat → Nat) : Nat → Nat
  | 0 => 0
  | n + 1 => fy_en P n + P n * 4 ^ n
theorem fy_en_lt {P : Nat → Nat} {n : Nat} : (∀ f, f < n → P f < 4) → fy_en P n < 4 ^ n := by
  induction n with
  | zero => exact fun _ => Nat.zero_lt_one
  | succ n ih =>
    intro h
    have a := ih (fun f hf => h f (by omega))
    have b := h n (by omega)
    have c : P n * 4 ^ n ≤ 3 * 4 ^ n := Nat.mul_le_mul_right _ (by omega)
    rw [fy_en, Nat.pow_succ]
    omega
theorem fy_en_dg {P : Nat → Nat} {n f : Nat} : (∀ f, f < n → P f < 4) → f < n → fy_en P n / 4 ^ f % 4 = P f := by
  induction n with
  | zero => exact fun _ hf => absurd hf (Nat.not_lt_zero f)
  | succ n ih =>
    intro h hf
    have hb : ∀ g, g < n → P g < 4 := fun g hg => h g (by omega)
    have a := fy_en_lt hb
    rw [fy_en]
    rcases Nat.lt_or_ge f n with z | z
    · have ih2 := ih hb z
      have e : P n * 4 ^ n = 4 ^ f * (P n * 4 ^ (n - f - 1) * 4) := by
        have e1 : 4 ^ n = 4 ^ f * 4 * 4 ^ (n - f - 1) := by
          rw [← Nat.pow_succ, ← Nat.pow_add]
          exact congrArg (fun z => 4 ^ z) (by omega)
        rw [e1]
        ac_rfl
      rw [e, Nat.add_mul_div_left _ _ (Nat.pow_pos (by decide)), Nat.add_mul_mod_self_right]
      exact ih2
    · have e : f = n := by omega
      subst e
      rw [Nat.add_mul_div_right _ _ (Nat.pow_pos (by decide)), Nat.div_eq_of_lt a, Nat.zero_add, Nat.mod_eq_of_lt (h _ (by omega))]
theorem fy_en_ext {P : Nat → Nat} {m : Nat} (h : ∀ f, m ≤ f → P f = 0) : ∀ {n : Nat}, m ≤ n → fy_en P n = fy_en P m := by
  intro n
  induction n with
  | zero => intro hm; rw [show m = 0 by omega]
  | succ n ih =>
    intro hm
    rcases Nat.lt_or_ge n m with z | z
    · rw [show m = n + 1 by omega]
    · rw [fy_en, h n z, ih z, Nat.zero_mul, Nat.add_zero]
theorem fy_en_cg {P Q : Nat → Nat} : ∀ {n : Nat}, (∀ f, f < n → P f = Q f) → fy_en P n = fy_en Q n
  | 0, _ => rfl
  | n + 1, h => by rw [fy_en, fy_en, fy_en_cg (fun f hf => h f (by omega)), h n (by omega)]
theorem fy_p4 (f : Nat) : 2 ^ (f * 2) = 4 ^ f := by
  rw [Nat.mul_comm, Nat.pow_mul]
theorem fy_p12 {f : Nat} (h : f < 12) : 4 ^ f * 4 ≤ 16777216 := by
  have := Nat.pow_le_pow_right (n := 4) (by decide) (show f + 1 ≤ 12 by omega)
  rw [Nat.pow_succ] at this
  exact this
/-- what paramIn answers, of the digits e -/
theorem fy_pin {e f : Nat} (he : e < 2 ^ 31) (hf : f < 12) : ((nI e >>> ((nI f * 2) &&& 31)) &&& 3) - 1 = nI (e / 4 ^ f % 4) - 1 := by
  have h1 : nI f * 2 = nI (f * 2) := pk_mul f 2
  have h2 : e / 4 ^ f ≤ e := Nat.div_le_self _ _
  have h3 : nI (e / 4 ^ f) &&& 3 = nI (e / 4 ^ f % 4) := pk_andN (by omega) 2 (by decide)
  rw [h1, pk_shrN he _ (f * 2) (s_l _ (by omega)), fy_p4, h3]
theorem fy_or (a b : Nat) : nI a ||| nI b = nI (a ||| b) := by
  apply Int32.toBitVec_inj.1
  show BitVec.ofNat 32 a ||| BitVec.ofNat 32 b = BitVec.ofNat 32 (a ||| b)
  apply BitVec.eq_of_getLsbD_eq
  intro i hi
  simp [hi]
/-- one digit more -/
theorem fy_put {e d f : Nat} (he : e < 4 ^ f) (hd : d < 4) (hf : f < 12) : nI e ||| (nI d <<< ((nI f * 2) &&& 31)) = nI (e + d * 4 ^ f) := by
  have h1 : nI f * 2 = nI (f * 2) := pk_mul f 2
  have h3 := fy_p12 hf
  have h4 : d * 4 ^ f ≤ 3 * 4 ^ f := Nat.mul_le_mul_right _ (by omega)
  rw [h1, pk_shlN _ (f * 2) (s_l _ (by omega)) (by rw [fy_p4]; omega), fy_or, Nat.or_comm]
  have h5 := Nat.two_pow_add_eq_or_of_lt (i := f * 2) (b := e) (by rw [fy_p4]; exact he) d
  rw [Nat.mul_comm] at h5
  rw [← h5, fy_p4, Nat.add_comm]
theorem fy_m0 : nI 0 - 1 = -1 := by decide
theorem fy_ms (d : Nat) : nI (d + 1) - 1 = nI d := nI_pred d
/-- a parameter by its digit: -1 for 0 -/
theorem fy_ge {A B : Prop} (d : Nat) (hd : d < 4) (f : d = 0 → A) (g : ∀ p, d = p + 1 → p < 3 → B) : (nI d - 1 < 0 → A) ∧ (¬ nI d - 1 < 0 → B) := by
  cases d with
  | zero => exact ⟨fun _ => f rfl, fun h => absurd (show nI 0 - 1 < 0 by decide) h⟩
  | succ p => rw [fy_ms]; exact ⟨fun h => absurd h (nI_pos (by omega)), fun _ => g p rfl (by omega)⟩
theorem fy_neg1 {p : Nat} (h : p < 3) : ¬ nI p = -1 := by
  intro e
  have h2 := nI_pos (n := p) (by omega)
  rw [e] at h2
  exact h2 (by decide)
end
section
/-! closure, counts, assignments, slots, keys: pure pictures -/
/-- the downward pass over the fixtures below m -/
def fy_go (d : Nat → Int32) : Nat → Int32 → Int32
  | 0, c => c
  | m + 1, c => fy_go d m (if bt c m = true then c ||| d m else c)
theorem fy_go_p (d : Nat → Int32) : ∀ (m : Nat) (c : Int32), (∀ f, f < m → ∀ g, bt (d f) g = true → g < f) →
    (∀ g, m ≤ g + 1 → bt (fy_go d m c) g = bt c g) ∧
    (∀ g, bt (fy_go d m c) g = true ↔ bt c g = true ∨ ∃ f, f < m ∧ bt (fy_go d m c) f = true ∧ bt (d f) g = true) := by
  intro m
  induction m with
  | zero =>
    intro c _
    refine ⟨fun _ _ => rfl, fun g => ⟨Or.inl, fun h => ?_⟩⟩
    rcases h with h | ⟨f, hf, _⟩
    · exact h
    · exact absurd hf (Nat.not_lt_zero f)
  | succ m ih =>
    intro c hd
    have hm : ∀ g, bt (d m) g = true → g < m := hd m (by omega)
    obtain ⟨i1, i2⟩ := ih (if bt c m = true then c ||| d m else c) (fun f hf => hd f (by omega))
    have hc : ∀ g, bt (if bt c m = true then c ||| d m else c) g = true ↔ bt c g = true ∨ (bt c m = true ∧ bt (d m) g = true) := by
      intro g
      by_cases h : bt c m = true
      · rw [if_pos h, b_or, Bool.or_eq_true]
        exact ⟨fun x => x.elim Or.inl (fun y => Or.inr ⟨h, y⟩), fun x => x.elim Or.inl (fun y => Or.inr y.2)⟩
      · rw [if_neg h]
        exact ⟨Or.inl, fun x => x.elim id (fun y => absurd y.1 h)⟩
    have hc2 : ∀ g, m ≤ g → bt (if bt c m = true then c ||| d m else c) g = bt c g := by
      intro g hg
      have h1 := hc g
      have h2 : ¬ bt (d m) g = true := fun x => by have := hm g x; omega
      rw [Bool.eq_iff_iff, h1]
      exact ⟨fun x => x.elim id (fun y => absurd y.2 h2), Or.inl⟩
    have hmm : bt (fy_go d m (if bt c m = true then c ||| d m else c)) m = bt c m := by
      rw [i1 m (by omega), hc2 m (by omega)]
    refine ⟨fun g hg => ?_, fun g => ?_⟩
    · show bt (fy_go d m (if bt c m = true then c ||| d m else c)) g = bt c g
      rw [i1 g (by omega), hc2 g (by omega)]
    · show bt (fy_go d m (if bt c m = true then c ||| d m else c)) g = true ↔ bt c g = true ∨ ∃ f, f < m + 1 ∧ bt (fy_go d m (if bt c m = true then c ||| d m else c)) f = true ∧ bt (d f) g = true
      rw [i2 g, hc g]
      constructor
      · intro h
        rcases h with (h | h) | ⟨f, h1, h2⟩
        · exact Or.inl h
        · exact Or.inr ⟨m, by omega, by rw [hmm]; exact h.1, h.2⟩
        · exact Or.inr ⟨f, by omega, h2⟩
      · intro h
        rcases h with h | ⟨f, h1, h2, h3⟩
        · exact Or.inl (Or.inl h)
        · rcases Nat.lt_or_ge f m with z | z
          · exact Or.inr ⟨f, z, h2, h3⟩
          · have e : f = m := by omega
            subst e
            rw [hmm] at h2
            exact Or.inl (Or.inr ⟨h2, h3⟩)
/-- K is the closure of q under the dependencies d of the fixtures below F -/
def fy_K (d : Nat → Int32) (q : Int32) (F : Nat) (K : Nat → Prop) : Prop := ∀ g, K g ↔ bt q g = true ∨ ∃ f, f < F ∧ K f ∧ bt (d f) g = true
theorem fy_go_K {d : Nat → Int32} {q : Int32} {F : Nat} (hd : ∀ f, f < F → ∀ g, bt (d f) g = true → g < f) : fy_K d q F (fun g => bt (fy_go d F q) g = true) := (fy_go_p d F q hd).2
theorem fy_K_lt {d : Nat → Int32} {q : Int32} {F : Nat} {K : Nat → Prop} (hK : fy_K d q F K) (hd : ∀ f, f < F → ∀ g, bt (d f) g = true → g < f) (hq : ∀ g, bt q g = true → g < F) {g : Nat} (h : K g) : g < F := by
  rcases (hK g).mp h with h | ⟨f, h1, h2, h3⟩
  · exact hq g h
  · have := hd f h1 g h3
    omega
/-- what holds q and is closed under the dependencies holds the closure -/
theorem fy_K_min {d : Nat → Int32} {q : Int32} {F : Nat} {K S : Nat → Prop} (hK : fy_K d q F K) (hd : ∀ f, f < F → ∀ g, bt (d f) g = true → g < f) (hq : ∀ g, bt q g = true → g < F)
    (h1 : ∀ g, bt q g = true → S g) (h2 : ∀ f, f < F → S f → ∀ g, bt (d f) g = true → S g) : ∀ g, K g → S g := by
  have key : ∀ k g, F ≤ g + k → K g → S g := by
    intro k
    induction k with
    | zero =>
      intro g hg h
      have := fy_K_lt hK hd hq h
      omega
    | succ k ih =>
      intro g hg h
      rcases (hK g).mp h with h | ⟨f, e1, e2, e3⟩
      · exact h1 g h
      · have := hd f e1 g e3
        exact h2 f e1 (ih f (by omega) e2) g e3
  exact fun g h => key F g (by omega) h
/-! values -/
def fy_n (a : Nat → Int32) (f : Nat) : Nat := (a f).toNatClampNeg
def fy_vl (a : Nat → Int32) (f : Nat) : Nat := if fy_n a f = 0 then 1 else fy_n a f
/-- all below m are naturals of at most b -/
def fy_nb (a : Nat → Int32) (m b : Nat) : Prop := ∀ f, f < m → a f = nI (fy_n a f) ∧ fy_n a f ≤ b
theorem fy_nb_of {a : Nat → Int32} {m b : Nat} (hb : b < 2 ^ 31) (h : ∀ f, f < m → ∃ n, n ≤ b ∧ a f = nI n) : fy_nb a m b := by
  intro f hf
  obtain ⟨n, h1, h2⟩ := h f hf
  have e : fy_n a f = n := by unfold fy_n; rw [h2, nI_clamp (by omega)]
  rw [e]
  exact ⟨h2, h1⟩
theorem fy_nb_upd {a : Nat → Int32} {m b n : Nat} (h : fy_nb a m b) (hb : b < 2 ^ 31) (hn : n ≤ b) : fy_nb (upd a m (nI n)) (m + 1) b := by
  apply fy_nb_of hb
  intro f hf
  by_cases e : f = m
  · subst e
    exact ⟨n, hn, pk_us⟩
  · have := h f (by omega)
    exact ⟨fy_n a f, this.2, by rw [pk_un e]; exact this.1⟩
theorem fy_vl_b {a : Nat → Int32} {m f : Nat} (h : fy_nb a m 3) (hf : f < m) : 1 ≤ fy_vl a f ∧ fy_vl a f ≤ 3 := by
  have := (h f hf).2
  unfold fy_vl
  split <;> omega
/-! how many items a closure gives -/
def fy_ct (C : Int32) (a : Nat → Int32) : Nat → Nat
  | 0 => 1
  | f + 1 => if bt C f = true then fy_ct C a f * fy_vl a f else fy_ct C a f
theorem fy_ct_b {C : Int32} {a : Nat → Int32} {m : Nat} (h : fy_nb a m 3) : ∀ f, f ≤ m → 1 ≤ fy_ct C a f ∧ fy_ct C a f ≤ 3 ^ f := by
  intro f
  induction f with
  | zero => exact fun _ => ⟨Nat.le_refl 1, Nat.le_refl 1⟩
  | succ f ih =>
    intro hf
    obtain ⟨h1, h2⟩ := ih (by omega)
    obtain ⟨v1, v2⟩ := fy_vl_b h (show f < m by omega)
    rw [fy_ct, Nat.pow_succ]
    split
    · exact ⟨Nat.mul_pos h1 v1, Nat.mul_le_mul h2 v2⟩
    · omega
theorem fy_3p {f : Nat} (h : f ≤ 12) : 3 ^ f ≤ 531441 := Nat.pow_le_pow_right (n := 3) (by decide) h
def fy_tt (g : Nat → Nat) : Nat → Nat
  | 0 => 0
  | t + 1 => fy_tt g t + g t
theorem fy_tt_m {g : Nat → Nat} {a b : Nat} (h : a ≤ b) : fy_tt g a ≤ fy_tt g b := by
  induction b with
  | zero => rw [show a = 0 by omega]; exact Nat.le_refl _
  | succ b ih =>
    rcases Nat.lt_or_ge b a with z | z
    · rw [show a = b + 1 by omega]; exact Nat.le_refl _
    · have := ih z
      rw [fy_tt]
      omega
theorem fy_tt_b {g : Nat → Nat} {b : Nat} : ∀ t, (∀ s, s < t → g s ≤ b) → fy_tt g t ≤ t * b := by
  intro t
  induction t with
  | zero => intro _; rw [fy_tt]; omega
  | succ t ih =>
    intro h
    have h1 := ih (fun s hs => h s (by omega))
    have h2 := h t (by omega)
    rw [fy_tt, Nat.add_mul]
    omega
theorem fy_tt_cg {g g' : Nat → Nat} : ∀ t, (∀ s, s < t → g s = g' s) → fy_tt g t = fy_tt g' t := by
  intro t
  induction t with
  | zero => intro _; rfl
  | succ t ih => intro h; rw [fy_tt, fy_tt, ih (fun s hs => h s (by omega)), h t (by omega)]
/-- the test of slot j -/
def fy_tf (g : Nat → Nat) : Nat → Nat → Nat
  | 0, _ => 0
  | t + 1, j => if fy_tt g t ≤ j then t else fy_tf g t j
theorem fy_tf_e {g : Nat → Nat} : ∀ (N : Nat) {t k : Nat}, t < N → k < g t → fy_tf g N (fy_tt g t + k) = t := by
  intro N
  induction N with
  | zero => intro t k h; omega
  | succ N ih =>
    intro t k ht hk
    rw [fy_tf]
    have h1 : fy_tt g (t + 1) = fy_tt g t + g t := rfl
    rcases Nat.lt_or_ge t N with z | z
    · have h2 := fy_tt_m (g := g) (show t + 1 ≤ N by omega)
      rw [if_neg (by omega)]
      exact ih z hk
    · have e : t = N := by omega
      subst e
      rw [if_pos (by omega)]
theorem fy_tf_lt {g : Nat → Nat} : ∀ (N : Nat) (j : Nat), 0 < N → fy_tf g N j < N := by
  intro N
  induction N with
  | zero => intro j h; omega
  | succ N ih =>
    intro j _
    rw [fy_tf]
    split
    · omega
    · rcases Nat.eq_zero_or_pos N with z | z
      · subst z
        exact Nat.lt_succ_self 0
      · have := ih j z
        omega
/-! the n-th assignment -/
def fy_rs (C : Int32) (a : Nat → Int32) (n : Nat) : Nat → Nat
  | 0 => n
  | f + 1 => if bt C f = true then fy_rs C a n f / fy_vl a f else fy_rs C a n f
theorem fy_rs_le (C : Int32) (a : Nat → Int32) (n : Nat) : ∀ f, fy_rs C a n f ≤ n
  | 0 => Nat.le_refl _
  | f + 1 => by
    have := fy_rs_le C a n f
    have h2 := Nat.div_le_self (fy_rs C a n f) (fy_vl a f)
    rw [fy_rs]
    split <;> omega
def fy_dg (C : Int32) (a : Nat → Int32) (F n f : Nat) : Nat := if f < F ∧ bt C f = true then fy_rs C a n f % fy_vl a f + 1 else 0
theorem fy_dg_4 {C : Int32} {a : Nat → Int32} {F : Nat} (h : fy_nb a F 3) (n f : Nat) : fy_dg C a F n f < 4 := by
  unfold fy_dg
  split
  · rename_i z
    obtain ⟨v1, v2⟩ := fy_vl_b h z.1
    have := Nat.mod_lt (fy_rs C a n f) v1
    omega
  · omega
theorem fy_dg_0 {C : Int32} {a : Nat → Int32} {F n f : Nat} (h : F ≤ f) : fy_dg C a F n f = 0 := by
  unfold fy_dg
  rw [if_neg (by omega)]
/-! keys -/
def fy_sl (sc pc : Nat → Int32) (s : Int32) (f : Nat) : Bool := decide (sc f = s) && decide (1 ≤ pc f)
def fy_ap (sel : Nat → Bool) (P : Nat → Nat) (k : Nat) : Nat → Nat
  | 0 => k
  | f + 1 => if sel f = true then fy_ap sel P k f * 4 + P f else fy_ap sel P k f
def fy_cs (sel : Nat → Bool) : Nat → Nat
  | 0 => 0
  | f + 1 => if sel f = true then fy_cs sel f + 1 else fy_cs sel f
theorem fy_ap_b {sel : Nat → Bool} {P : Nat → Nat} {k e : Nat} (hP : ∀ f, P f < 4) (hk : k < 2 ^ e) : ∀ f, fy_ap sel P k f < 2 ^ (e + 2 * fy_cs sel f) := by
  intro f
  induction f with
  | zero => exact hk
  | succ f ih =>
    rw [fy_ap, fy_cs]
    have := hP f
    split
    · rw [show e + 2 * (fy_cs sel f + 1) = e + 2 * fy_cs sel f + 1 + 1 by omega, Nat.pow_succ, Nat.pow_succ]
      omega
    · exact ih
theorem fy_ap_lt {sel : Nat → Bool} {P Q : Nat → Nat} {k l : Nat} (hP : ∀ f, P f < 4) {f : Nat} (h : fy_ap sel P k f < fy_ap sel Q l f) : ∀ F, f ≤ F → fy_ap sel P k F < fy_ap sel Q l F := by
  intro F
  induction F with
  | zero => intro hF; rw [show f = 0 by omega] at h; exact h
  | succ F ih =>
    intro hF
    rcases Nat.lt_or_ge F f with z | z
    · rw [show f = F + 1 by omega] at h; exact h
    · have h1 := ih z
      have h2 := hP F
      rw [fy_ap, fy_ap]
      split <;> omega
theorem fy_cs4 (sc pc : Nat → Int32) : ∀ f, fy_cs (fy_sl sc pc 0) f + fy_cs (fy_sl sc pc 1) f + fy_cs (fy_sl sc pc 2) f + fy_cs (fy_sl sc pc 3) f ≤ f := by
  intro f
  induction f with
  | zero => exact Nat.le_refl 0
  | succ f ih =>
    have d01 : ∀ s t : Int32, s ≠ t → fy_sl sc pc s f = true → ¬ fy_sl sc pc t f = true := by
      intro s t hst h1 h2
      unfold fy_sl at h1 h2
      rw [Bool.and_eq_true, decide_eq_true_eq] at h1 h2
      exact hst (h1.1.symm.trans h2.1)
    have a1 := d01 0 1 (by decide)
    have a2 := d01 0 2 (by decide)
    have a3 := d01 0 3 (by decide)
    have a4 := d01 1 2 (by decide)
    have a5 := d01 1 3 (by decide)
    have a6 := d01 2 3 (by decide)
    simp only [fy_cs]
    by_cases h0 : fy_sl sc pc 0 f = true
    · rw [if_pos h0, if_neg (a1 h0), if_neg (a2 h0), if_neg (a3 h0)]; omega
    · rw [if_neg h0]
      by_cases h1 : fy_sl sc pc 1 f = true
      · rw [if_pos h1, if_neg (a4 h1), if_neg (a5 h1)]; omega
      · rw [if_neg h1]
        by_cases h2 : fy_sl sc pc 2 f = true
        · rw [if_pos h2, if_neg (a6 h2)]; omega
        · rw [if_neg h2]
          split <;> omega
def fy_ky (sc pc : Nat → Int32) (F m c t : Nat) (P : Nat → Nat) : Nat :=
  fy_ap (fy_sl sc pc 3) P (fy_ap (fy_sl sc pc 2) P (fy_ap (fy_sl sc pc 1) P (fy_ap (fy_sl sc pc 0) P 0 F * 4 + m) F * 4 + c) F * 16 + t) F
theorem fy_ky_b {sc pc : Nat → Int32} {F m c t : Nat} {P : Nat → Nat} (hP : ∀ f, P f < 4) (hF : F ≤ 12) (hm : m < 4) (hc : c < 4) (ht : t < 16) :
    fy_ap (fy_sl sc pc 0) P 0 F < 2 ^ (0 + 2 * fy_cs (fy_sl sc pc 0) F) ∧
    fy_ky sc pc F m c t P < 2 ^ 32 := by
  have h4 := fy_cs4 sc pc F
  have b0 := fy_ap_b (sel := fy_sl sc pc 0) (k := 0) (e := 0) hP (by decide) F
  have b1 : fy_ap (fy_sl sc pc 0) P 0 F * 4 + m < 2 ^ (0 + 2 * fy_cs (fy_sl sc pc 0) F + 2) := by rw [Nat.pow_succ, Nat.pow_succ]; omega
  have b2 := fy_ap_b (sel := fy_sl sc pc 1) hP b1 F
  have b3 : fy_ap (fy_sl sc pc 1) P (fy_ap (fy_sl sc pc 0) P 0 F * 4 + m) F * 4 + c < 2 ^ (0 + 2 * fy_cs (fy_sl sc pc 0) F + 2 + 2 * fy_cs (fy_sl sc pc 1) F + 2) := by rw [Nat.pow_succ, Nat.pow_succ]; omega
  have b4 := fy_ap_b (sel := fy_sl sc pc 2) hP b3 F
  have b5 : fy_ap (fy_sl sc pc 2) P (fy_ap (fy_sl sc pc 1) P (fy_ap (fy_sl sc pc 0) P 0 F * 4 + m) F * 4 + c) F * 16 + t < 2 ^ (0 + 2 * fy_cs (fy_sl sc pc 0) F + 2 + 2 * fy_cs (fy_sl sc pc 1) F + 2 + 2 * fy_cs (fy_sl sc pc 2) F + 4) := by rw [Nat.pow_succ, Nat.pow_succ, Nat.pow_succ, Nat.pow_succ]; omega
  have b6 := fy_ap_b (sel := fy_sl sc pc 3) hP b5 F
  refine ⟨b0, Nat.lt_of_lt_of_le b6 (Nat.pow_le_pow_right (by decide) (by omega))⟩
def fy_cp (a b : Nat) : Int32 := if a < b then -1 else if b < a then 1 else 0
theorem fy_cp_lt (a b : Nat) : fy_cp a b < 0 ↔ a < b := by
  unfold fy_cp
  split
  · exact ⟨fun _ => by assumption, fun _ => by decide⟩
  · split
    · exact ⟨fun h => absurd h (by decide), fun h => by omega⟩
    · exact ⟨fun h => absurd h (by decide), fun h => by omega⟩
/-! the closure by rounds -/
def fy_R (q : Int32) (F : Nat) (K : Nat → Prop) (r : Nat) (S : Nat → Bool) : Prop := (∀ g, bt q g = true → S g = true) ∧ (∀ g, S g = true → K g) ∧ (∀ f, f < F → F ≤ f + 1 + r → K f → S f = true)
theorem fy_R0 {d : Nat → Int32} {q : Int32} {F : Nat} {K : Nat → Prop} (hK : fy_K d q F K) (hd : ∀ f, f < F → ∀ g, bt (d f) g = true → g < f) : fy_R q F K 0 (fun g => bt q g) := by
  refine ⟨fun g h => h, fun g h => (hK g).mpr (Or.inl h), fun f h1 h2 h3 => ?_⟩
  rcases (hK f).mp h3 with h | ⟨f', e1, e2, e3⟩
  · exact h
  · have := hd f' e1 f e3
    omega
theorem fy_Rs {d : Nat → Int32} {q : Int32} {F r : Nat} {K : Nat → Prop} {S0 S : Nat → Bool} (hK : fy_K d q F K) (hd : ∀ f, f < F → ∀ g, bt (d f) g = true → g < f) (h : fy_R q F K r S0)
    (h1 : ∀ g, S0 g = true → S g = true) (h2 : ∀ g, S g = true → K g) (h3 : ∀ f, f < F → S0 f = true → ∀ g, bt (d f) g = true → S g = true) : fy_R q F K (r + 1) S := by
  obtain ⟨a1, a2, a3⟩ := h
  refine ⟨fun g hg => h1 g (a1 g hg), h2, fun f hf hr hk => ?_⟩
  rcases (hK f).mp hk with h | ⟨f', e1, e2, e3⟩
  · exact h1 f (a1 f h)
  · have := hd f' e1 f e3
    exact h3 f' e1 (a3 f' e1 (by omega) e2) f e3
theorem fy_Re {d : Nat → Int32} {q : Int32} {F r : Nat} {K : Nat → Prop} {S : Nat → Bool} (hK : fy_K d q F K) (hd : ∀ f, f < F → ∀ g, bt (d f) g = true → g < f) (hq : ∀ g, bt q g = true → g < F) (h : fy_R q F K r S)
    (hr : F ≤ r ∨ ∀ f, f < F → S f = true → ∀ g, bt (d f) g = true → S g = true) (g : Nat) : S g = true ↔ K g := by
  obtain ⟨a1, a2, a3⟩ := h
  refine ⟨a2 g, fun hk => ?_⟩
  rcases hr with hr | hr
  · exact a3 g (fy_K_lt hK hd hq hk) (by omega) hk
  · exact fy_K_min (S := fun g => S g = true) hK hd hq a1 hr g hk
def fy_bi (b : Bool) : Int32 := if b = true then 1 else 0
theorem fy_bi_t : fy_bi true = 1 := rfl
theorem fy_bi_f : fy_bi false = 0 := rfl
theorem fy_bi_n (b : Bool) : narrow .boolean (.int (fy_bi b)) = .int (fy_bi b) := by cases b <;> rfl
theorem fy_bi_0 {b : Bool} : fy_bi b = 0 ↔ b = false := by cases b <;> decide
theorem fy_bi_z {A B : Prop} {b : Bool} (f : b = false → A) (g : b = true → B) : (fy_bi b = 0 → A) ∧ (¬ fy_bi b = 0 → B) := by
  cases b
  · exact ⟨fun _ => f rfl, fun h => absurd rfl h⟩
  · exact ⟨fun h => absurd h (by decide), fun _ => g rfl⟩
end
section
/-! the order of the items: by key, then by slot; the one sorted order -/
def fy_L (K : Nat → Nat) (i j : Nat) : Prop := K i < K j ∨ (K i = K j ∧ i < j)
theorem fy_L_t {K : Nat → Nat} {a b c : Nat} (h1 : fy_L K a b) (h2 : fy_L K b c) : fy_L K a c := by
  unfold fy_L at *
  omega
theorem fy_L_i {K : Nat → Nat} {a : Nat} : ¬ fy_L K a a := by
  unfold fy_L
  omega
theorem fy_L_le {K : Nat → Nat} {a b : Nat} (h : fy_L K a b) : K a ≤ K b := by
  unfold fy_L at h
  omega
def fy_So (K : Nat → Nat) (n : Nat) (s : Nat → Nat) : Prop := (∀ p, p < n → s p < n) ∧ (∀ p q, p < q → q < n → fy_L K (s p) (s q)) ∧ (∀ j, j < n → ∃ q, q < n ∧ s q = j)
theorem fy_So_0 (K : Nat → Nat) : fy_So K 0 id := ⟨fun p h => absurd h (Nat.not_lt_zero p), fun p q _ h => absurd h (Nat.not_lt_zero q), fun j h => absurd h (Nat.not_lt_zero j)⟩
theorem fy_So_1 (K : Nat → Nat) : fy_So K 1 id := ⟨fun p h => h, fun p q h1 h2 => by omega, fun j h => ⟨j, h, rfl⟩⟩
def fy_in (s : Nat → Nat) (i place : Nat) : Nat → Nat := fun p => if p < place then s p else if p = place then i else s (p - 1)
theorem fy_in_lo {s : Nat → Nat} {i place p : Nat} (h : p < place) : fy_in s i place p = s p := if_pos h
theorem fy_in_at {s : Nat → Nat} {i place : Nat} : fy_in s i place place = i := by
  unfold fy_in
  rw [if_neg (Nat.lt_irrefl _), if_pos rfl]
theorem fy_in_hi {s : Nat → Nat} {i place p : Nat} (h : place < p) : fy_in s i place p = s (p - 1) := by
  unfold fy_in
  rw [if_neg (by omega), if_neg (by omega)]
theorem fy_So_in {K : Nat → Nat} {i place : Nat} {s : Nat → Nat} (h : fy_So K i s) (hp : place ≤ i) (hl : place = 0 ∨ K (s (place - 1)) ≤ K i) (hh : ∀ p, place ≤ p → p < i → K i < K (s p)) : fy_So K (i + 1) (fy_in s i place) := by
  obtain ⟨h1, h2, h3⟩ := h
  have lo : ∀ p, p < place → fy_L K (s p) i := by
    intro p hpp
    have hs := h1 p (by omega)
    have hk : K (s p) ≤ K i := by
      rcases hl with z | z
      · omega
      · rcases Nat.lt_or_ge p (place - 1) with y | y
        · have := fy_L_le (h2 p (place - 1) y (by omega))
          omega
        · rw [show p = place - 1 by omega]
          exact z
    unfold fy_L
    omega
  refine ⟨fun p hpn => ?_, fun p q hpq hq => ?_, fun j hj => ?_⟩
  · rcases Nat.lt_trichotomy p place with z | z | z
    · rw [fy_in_lo z]; have := h1 p (by omega); omega
    · rw [z, fy_in_at]; omega
    · rw [fy_in_hi z]; have := h1 (p - 1) (by omega); omega
  · rcases Nat.lt_trichotomy p place with z | z | z
    · rw [fy_in_lo z]
      rcases Nat.lt_trichotomy q place with y | y | y
      · rw [fy_in_lo y]; exact h2 p q hpq (by omega)
      · rw [y, fy_in_at]; exact lo p z
      · rw [fy_in_hi y]; exact fy_L_t (lo p z) (Or.inl (hh (q - 1) (by omega) (by omega)))
    · rw [z, fy_in_at, fy_in_hi (by omega)]
      exact Or.inl (hh (q - 1) (by omega) (by omega))
    · rw [fy_in_hi z, fy_in_hi (by omega)]
      exact h2 (p - 1) (q - 1) (by omega) (by omega)
  · rcases Nat.lt_or_ge j i with z | z
    · obtain ⟨q, hq, e⟩ := h3 j z
      rcases Nat.lt_or_ge q place with y | y
      · exact ⟨q, by omega, by rw [fy_in_lo y]; exact e⟩
      · exact ⟨q + 1, by omega, by rw [fy_in_hi (by omega), Nat.add_sub_cancel]; exact e⟩
    · exact ⟨place, by omega, by rw [fy_in_at]; omega⟩
theorem fy_sel {K : Nat → Nat} {n pos b : Nat} {s : Nat → Nat} (h : fy_So K n s) (hp : pos < n) (hb : b < n) (hu : ∀ q, q < pos → s q ≠ b)
    (hm : ∀ j, j < n → (∀ q, q < pos → s q ≠ j) → j = b ∨ fy_L K b j) : b = s pos := by
  obtain ⟨h1, h2, h3⟩ := h
  obtain ⟨q, hq, e⟩ := h3 b hb
  have hqp : pos ≤ q := by
    rcases Nat.lt_or_ge q pos with z | z
    · exact absurd e (hu q z)
    · exact z
  rcases Nat.lt_or_ge pos q with z | z
  · have a1 := h2 pos q z hq
    rw [e] at a1
    rcases hm (s pos) (h1 pos hp) (fun r hr er => by have := h2 r pos hr hp; rw [er] at this; exact fy_L_i this) with y | y
    · exact y.symm
    · exact absurd (fy_L_t a1 y) fy_L_i
  · rw [← e, show q = pos by omega]
theorem fy_inj {K : Nat → Nat} {n : Nat} {s : Nat → Nat} (h : fy_So K n s) {p q : Nat} (hp : p < n) (hq : q < n) (e : s p = s q) : p = q := by
  obtain ⟨-, h2, -⟩ := h
  rcases Nat.lt_trichotomy p q with z | z | z
  · have := h2 p q z hq; rw [e] at this; exact absurd this fy_L_i
  · exact z
  · have := h2 q p z hp; rw [e] at this; exact absurd this fy_L_i
theorem fy_orL (k d : Nat) (hd : d < 4) : lN (k * 4) ||| lN d = lN (k * 4 + d) := by
  have h1 : k * 4 ||| d = k * 4 + d := by
    have := Nat.two_pow_add_eq_or_of_lt (i := 2) (b := d) hd k
    rw [Nat.mul_comm] at this
    exact this.symm
  apply wb_inj
  rw [Int64.toBitVec_or, wb_tb, wb_tb, wb_tb, ← h1]
  apply BitVec.eq_of_getLsbD_eq
  intro i hi
  simp [hi]
theorem fy_orL4 (k d : Nat) (hd : d < 16) : lN (k * 16) ||| lN d = lN (k * 16 + d) := by
  have h1 : k * 16 ||| d = k * 16 + d := by
    have := Nat.two_pow_add_eq_or_of_lt (i := 4) (b := d) hd k
    rw [Nat.mul_comm] at this
    exact this.symm
  apply wb_inj
  rw [Int64.toBitVec_or, wb_tb, wb_tb, wb_tb, ← h1]
  apply BitVec.eq_of_getLsbD_eq
  intro i hi
  simp [hi]
theorem fy_shL2 (k : Nat) : lN k <<< ((2 : Int32).toInt64 &&& 63) = lN (k * 4) := wb_shl k (k := 2) (by decide)
theorem fy_shL4 (k : Nat) : lN k <<< ((4 : Int32).toInt64 &&& 63) = lN (k * 16) := wb_shl k (k := 4) (by decide)
/-! one insertion, array by array: a while it runs, a0 before the sort -/
def fy_iv {A : Type} (a a0 : Nat → A) (s : Nat → Nat) (p i : Nat) : Prop := (∀ q, q < p → a q = a0 (s q)) ∧ (∀ q, p < q → q ≤ i → a q = a0 (s (q - 1))) ∧ (∀ q, i < q → a q = a0 q)
theorem fy_iv_0 {A : Type} {a a0 : Nat → A} {s : Nat → Nat} {i : Nat} (h1 : ∀ q, q < i → a q = a0 (s q)) (h2 : ∀ q, i ≤ q → a q = a0 q) : fy_iv a a0 s i i := ⟨h1, fun q h3 h4 => by omega, fun q h => h2 q (by omega)⟩
theorem fy_iv_s {A : Type} {a a0 b : Nat → A} {s : Nat → Nat} {p i : Nat} (h : fy_iv a a0 s (p + 1) i) (hp : p + 1 ≤ i) (hb : b (p + 1) = a p) (hn : ∀ q, q ≠ p + 1 → b q = a q) : fy_iv b a0 s p i := by
  obtain ⟨h1, h2, h3⟩ := h
  refine ⟨fun q hq => ?_, fun q hq hi => ?_, fun q hq => ?_⟩
  · rw [hn q (by omega)]; exact h1 q (by omega)
  · by_cases e : q = p + 1
    · subst e
      rw [hb, Nat.add_sub_cancel]
      exact h1 p (by omega)
    · rw [hn q e]; exact h2 q (by omega) hi
  · rw [hn q (by omega)]; exact h3 q hq
theorem fy_iv_e {A : Type} {a a0 b : Nat → A} {s : Nat → Nat} {p i : Nat} (h : fy_iv a a0 s p i) (hp : p ≤ i) (hb : b p = a0 i) (hn : ∀ q, q ≠ p → b q = a q) : (∀ q, q < i + 1 → b q = a0 (fy_in s i p q)) ∧ (∀ q, i + 1 ≤ q → b q = a0 q) := by
  obtain ⟨h1, h2, h3⟩ := h
  refine ⟨fun q hq => ?_, fun q hq => ?_⟩
  · rcases Nat.lt_trichotomy q p with z | z | z
    · rw [fy_in_lo z, hn q (by omega)]; exact h1 q z
    · rw [z, fy_in_at]; exact hb
    · rw [fy_in_hi z, hn q (by omega)]; exact h2 q z (by omega)
  · rw [hn q (by omega)]; exact h3 q (by omega)
end
section
/-! an execution as a pure picture: (events, log, attempts, stamps, alive parameter or -1, stamp of) -/
abbrev fy_E : Type := Nat × (Nat → Int32) × (Nat → Int32) × Nat × (Nat → Int32) × (Nat → Int32)
def fy_lo (kind : Int32) (i f : Nat) (p : Int32) (e : fy_E) : fy_E :=
  (e.1 + 1, (if e.1 < 256 then upd e.2.1 e.1 (kind * 100000 + nI i * 1000 + nI f * 10 + p) else e.2.1), e.2.2)
def fy_at (f p : Nat) (e : fy_E) : fy_E := (e.1, e.2.1, upd e.2.2.1 (f * 3 + p) (e.2.2.1 (f * 3 + p) + 1), e.2.2.2)
def fy_on (f p : Nat) (e : fy_E) : fy_E := (e.1, e.2.1, e.2.2.1, e.2.2.2.1 + 1, upd e.2.2.2.2.1 f (nI p), upd e.2.2.2.2.2 f (nI (e.2.2.2.1 + 1)))
def fy_of (g : Nat) (e : fy_E) : fy_E := (e.1, e.2.1, e.2.2.1, e.2.2.2.1, upd e.2.2.2.2.1 g (-1), e.2.2.2.2.2)
def fy_sf (fl : Nat → Int32) (i f p : Nat) (e : fy_E) : fy_E × Bool :=
  if e.2.2.1 (f * 3 + p) + 1 = fl (f * 3 + p) then (fy_lo 3 i f (nI p) (fy_at f p e), false)
  else (fy_on f p (fy_lo 1 i f (nI p) (fy_at f p e)), true)
/-- the setup of item i, of whose fixtures f and k more are left -/
def fy_su (fl : Nat → Int32) (D : Nat → Nat) (i : Nat) : Nat → Nat → fy_E → fy_E × Bool
  | 0, _, e => (e, true)
  | k + 1, f, e =>
    if D f = 0 ∨ e.2.2.2.2.1 f = nI (D f - 1) then fy_su fl D i k (f + 1) e
    else if (fy_sf fl i f (D f - 1) e).2 = false then ((fy_sf fl i f (D f - 1) e).1, false)
    else fy_su fl D i k (f + 1) (fy_sf fl i f (D f - 1) e).1
/-- what holds in an execution: at most b events, at most c stamps, an alive fixture has a parameter and a stamp -/
def fy_ok (F b c : Nat) (e : fy_E) : Prop := e.1 ≤ b ∧ e.2.2.2.1 ≤ c ∧ ∀ f, f < F → e.2.2.2.2.1 f = -1 ∨ ((∃ p, p < 3 ∧ e.2.2.2.2.1 f = nI p) ∧ ∃ s, 1 ≤ s ∧ s ≤ e.2.2.2.1 ∧ e.2.2.2.2.2 f = nI s)
theorem fy_ok_w {F b c b' c' : Nat} {e : fy_E} (h : fy_ok F b c e) (hb : b ≤ b') (hc : c ≤ c') : fy_ok F b' c' e := ⟨by have := h.1; omega, by have := h.2.1; omega, h.2.2⟩
theorem fy_ok_lo {F b c i f : Nat} {kind p : Int32} {e : fy_E} (h : fy_ok F b c e) : fy_ok F (b + 1) c (fy_lo kind i f p e) := ⟨by have := h.1; show e.1 + 1 ≤ b + 1; omega, h.2.1, h.2.2⟩
theorem fy_ok_at {F b c f p : Nat} {e : fy_E} (h : fy_ok F b c e) : fy_ok F b c (fy_at f p e) := ⟨h.1, h.2.1, h.2.2⟩
theorem fy_ok_on {F b c f p : Nat} {e : fy_E} (h : fy_ok F b c e) (hp : p < 3) : fy_ok F b (c + 1) (fy_on f p e) := by
  obtain ⟨h1, h2, h3⟩ := h
  refine ⟨h1, by show e.2.2.2.1 + 1 ≤ c + 1; omega, fun g hg => ?_⟩
  show upd e.2.2.2.2.1 f (nI p) g = -1 ∨ ((∃ q, q < 3 ∧ upd e.2.2.2.2.1 f (nI p) g = nI q) ∧ ∃ s, 1 ≤ s ∧ s ≤ e.2.2.2.1 + 1 ∧ upd e.2.2.2.2.2 f (nI (e.2.2.2.1 + 1)) g = nI s)
  by_cases z : g = f
  · subst z
    rw [pk_us, pk_us]
    exact Or.inr ⟨⟨p, hp, rfl⟩, _, by omega, by omega, rfl⟩
  · rw [pk_un z, pk_un z]
    rcases h3 g hg with y | ⟨y, s, a, b, d⟩
    · exact Or.inl y
    · exact Or.inr ⟨y, s, a, by omega, d⟩
theorem fy_ok_of {F b c g : Nat} {e : fy_E} (h : fy_ok F b c e) : fy_ok F b c (fy_of g e) := by
  obtain ⟨h1, h2, h3⟩ := h
  refine ⟨h1, h2, fun f hf => ?_⟩
  show upd e.2.2.2.2.1 g (-1) f = -1 ∨ ((∃ q, q < 3 ∧ upd e.2.2.2.2.1 g (-1) f = nI q) ∧ ∃ s, 1 ≤ s ∧ s ≤ e.2.2.2.1 ∧ e.2.2.2.2.2 f = nI s)
  by_cases z : f = g
  · subst z
    rw [pk_us]
    exact Or.inl rfl
  · rw [pk_un z]
    exact h3 f hf
theorem fy_ok_sf {fl : Nat → Int32} {F b c i f p : Nat} {e : fy_E} (h : fy_ok F b c e) (hp : p < 3) : fy_ok F (b + 1) (c + 1) (fy_sf fl i f p e).1 := by
  unfold fy_sf
  split
  · exact fy_ok_w (fy_ok_lo (fy_ok_at h)) (by omega) (by omega)
  · exact fy_ok_on (fy_ok_lo (fy_ok_at h)) hp
theorem fy_ok_su {fl : Nat → Int32} {D : Nat → Nat} {F i : Nat} (hD : ∀ f, D f < 4) : ∀ (k f b c : Nat) (e : fy_E), fy_ok F b c e → fy_ok F (b + k) (c + k) (fy_su fl D i k f e).1 := by
  intro k
  induction k with
  | zero => exact fun f b c e h => h
  | succ k ih =>
    intro f b c e h
    rw [fy_su]
    have hd := hD f
    split
    · exact fy_ok_w (ih (f + 1) b c e h) (by omega) (by omega)
    · rename_i z
      have h2 := fy_ok_sf (fl := fl) (i := i) (f := f) (p := D f - 1) h (by omega)
      split
      · exact fy_ok_w h2 (by omega) (by omega)
      · exact fy_ok_w (ih (f + 1) (b + 1) (c + 1) _ h2) (by omega) (by omega)
/-- what ends by itself after item i -/
def fy_eb (sc mo cl : Nat → Int32) (T : Nat → Nat) (D : Nat → Nat → Nat) (n i : Nat) (al : Nat → Int32) (g : Nat) : Bool :=
  decide (sc g = 3 ∨ n ≤ i + 1 ∨ (¬ D (i + 1) g = 0 ∧ ¬ nI (D (i + 1) g - 1) = al g) ∨ (sc g = 2 ∧ ¬ (mo (T i) = mo (T (i + 1)) ∧ cl (T i) = cl (T (i + 1)))) ∨ (sc g = 1 ∧ ¬ mo (T i) = mo (T (i + 1))))
/-- the upward pass -/
def fy_ed (dp al : Nat → Int32) (eb : Nat → Bool) : Nat → Int32
  | 0 => 0
  | g + 1 => if ¬ al g = -1 ∧ (¬ (dp g &&& fy_ed dp al eb g) = 0 ∨ eb g = true) then fy_ed dp al eb g ||| ((1 : Int32) <<< (nI g &&& 31)) else fy_ed dp al eb g
theorem fy_ed_hi {dp al : Nat → Int32} {eb : Nat → Bool} : ∀ g, g ≤ 32 → ∀ i, g ≤ i → bt (fy_ed dp al eb g) i = false := by
  intro g
  induction g with
  | zero => intro _ i _; exact b_0 i
  | succ g ih =>
    intro hg i hi
    rcases Nat.lt_or_ge i 32 with z | z
    · rw [fy_ed]
      split
      · rw [fy_set _ (by omega) z, ih (by omega) i (by omega), decide_eq_false (by omega)]
        rfl
      · exact ih (by omega) i (by omega)
    · exact b_big z
theorem fy_ed_lo {dp al : Nat → Int32} {eb : Nat → Bool} {i : Nat} : ∀ g, g ≤ 32 → i < g → bt (fy_ed dp al eb g) i = bt (fy_ed dp al eb (i + 1)) i := by
  intro g
  induction g with
  | zero => intro _ h; omega
  | succ g ih =>
    intro hg hi
    rcases Nat.lt_or_ge i g with z | z
    · rw [← ih (by omega) z, fy_ed]
      split
      · rw [fy_set _ (by omega) (by omega), decide_eq_false (by omega), Bool.or_false]
      · rfl
    · rw [show i = g by omega]
theorem fy_ed_p {dp al : Nat → Int32} {eb : Nat → Bool} {F i : Nat} (hF : F ≤ 32) (hi : i < F) :
    bt (fy_ed dp al eb F) i = true ↔ (¬ al i = -1 ∧ (eb i = true ∨ ∃ d, d < i ∧ bt (dp i) d = true ∧ bt (fy_ed dp al eb F) d = true)) := by
  have e1 : bt (fy_ed dp al eb (i + 1)) i = true ↔ (¬ al i = -1 ∧ (¬ (dp i &&& fy_ed dp al eb i) = 0 ∨ eb i = true)) := by
    rw [fy_ed]
    split
    · rename_i z
      rw [fy_set _ (by omega) (by omega), decide_eq_true rfl, Bool.or_true]
      exact ⟨fun _ => z, fun _ => rfl⟩
    · rename_i z
      rw [fy_ed_hi i (by omega) i (Nat.le_refl i)]
      exact ⟨fun h => absurd h (by decide), fun h => absurd h z⟩
  have e2 : ¬ (dp i &&& fy_ed dp al eb i) = 0 ↔ ∃ d, d < i ∧ bt (dp i) d = true ∧ bt (fy_ed dp al eb F) d = true := by
    rw [fy_and0]
    constructor
    · intro h
      apply Classical.byContradiction
      intro hn
      apply h
      intro d hd hab
      rcases Nat.lt_or_ge d i with z | z
      · apply hn
        refine ⟨d, z, hab.1, ?_⟩
        rw [fy_ed_lo F hF (by omega), ← fy_ed_lo i (by omega) z]
        exact hab.2
      · rw [fy_ed_hi i (by omega) d z] at hab
        exact absurd hab.2 (by decide)
    · intro ⟨d, h1, h2, h3⟩ h
      apply h d (by omega)
      refine ⟨h2, ?_⟩
      rw [fy_ed_lo i (by omega) h1, ← fy_ed_lo F hF (by omega)]
      exact h3
  rw [fy_ed_lo F hF hi, e1, e2]
  exact ⟨fun h => ⟨h.1, h.2.elim Or.inr Or.inl⟩, fun h => ⟨h.1, h.2.elim Or.inr Or.inl⟩⟩
/-- the member with the latest stamp, and that stamp -/
def fy_la (s : Int32) (so : Nat → Int32) : Nat → Nat × Int32
  | 0 => (0, 0)
  | g + 1 => if bt s g = true ∧ (fy_la s so g).2 < so g then (g, so g) else fy_la s so g
theorem fy_la_p {s : Int32} {so : Nat → Int32} : ∀ F, (∀ g, g < F → bt s g = true → (0 : Int32) < so g) →
    ((∀ g, g < F → bt s g = false) ∧ fy_la s so F = (0, 0)) ∨ ((fy_la s so F).1 < F ∧ bt s (fy_la s so F).1 = true ∧ (fy_la s so F).2 = so (fy_la s so F).1 ∧ (0 : Int32) < (fy_la s so F).2) := by
  intro F
  induction F with
  | zero => exact fun _ => Or.inl ⟨fun g h => absurd h (Nat.not_lt_zero g), rfl⟩
  | succ F ih =>
    intro h
    have h1 := ih (fun g hg => h g (by omega))
    rw [fy_la]
    split
    · rename_i z
      exact Or.inr ⟨Nat.lt_succ_self F, z.1, rfl, h F (Nat.lt_succ_self F) z.1⟩
    · rename_i z
      rcases h1 with ⟨a1, a2⟩ | ⟨a1, a2, a3, a4⟩
      · refine Or.inl ⟨fun g hg => ?_, a2⟩
        rcases Nat.lt_or_ge g F with y | y
        · exact a1 g y
        · have e : g = F := by omega
          subst e
          cases hb : bt s g
          · rfl
          · exact absurd ⟨hb, by rw [a2]; exact h g (Nat.lt_succ_self g) hb⟩ z
      · exact Or.inr ⟨by omega, a2, a3, a4⟩
/-- k teardowns at most of the set s after item i -/
def fy_td (F i : Nat) : Nat → Int32 → fy_E → fy_E
  | 0, _, e => e
  | k + 1, s, e => if s = 0 then e else
    fy_td F i k (s &&& (((1 : Int32) <<< (nI (fy_la s e.2.2.2.2.2 F).1 &&& 31)) ^^^ (-1))) (fy_of (fy_la s e.2.2.2.2.2 F).1 (fy_lo 2 i (fy_la s e.2.2.2.2.2 F).1 (e.2.2.2.2.1 (fy_la s e.2.2.2.2.2 F).1) e))
theorem fy_ok_td {F i : Nat} : ∀ (k b c : Nat) (s : Int32) (e : fy_E), fy_ok F b c e → fy_ok F (b + k) c (fy_td F i k s e) := by
  intro k
  induction k with
  | zero => exact fun b c s e h => h
  | succ k ih =>
    intro b c s e h
    rw [fy_td]
    split
    · exact fy_ok_w h (by omega) (by omega)
    · exact fy_ok_w (ih (b + 1) c _ _ (fy_ok_of (fy_ok_lo h))) (by omega) (by omega)
/-- how many members below F -/
def fy_cn (s : Int32) : Nat → Nat
  | 0 => 0
  | g + 1 => fy_cn s g + (if bt s g = true then 1 else 0)
theorem fy_cn_le (s : Int32) : ∀ F, fy_cn s F ≤ F
  | 0 => Nat.le_refl _
  | g + 1 => by
    have := fy_cn_le s g
    rw [fy_cn]
    split <;> omega
theorem fy_cn_0 {s : Int32} : ∀ {F : Nat}, fy_cn s F = 0 → ∀ g, g < F → bt s g = false
  | 0, _, g, hg => absurd hg (Nat.not_lt_zero g)
  | F + 1, h, g, hg => by
    rw [fy_cn] at h
    rcases Nat.lt_or_ge g F with z | z
    · exact fy_cn_0 (by omega) g z
    · have e : g = F := by omega
      subst e
      cases hb : bt s g
      · rfl
      · rw [hb, if_pos rfl] at h
        omega
theorem fy_cn_cg {s r : Int32} : ∀ {F : Nat}, (∀ g, g < F → bt s g = bt r g) → fy_cn s F = fy_cn r F
  | 0, _ => rfl
  | F + 1, h => by rw [fy_cn, fy_cn, fy_cn_cg (fun g hg => h g (by omega)), h F (by omega)]
theorem fy_cn_clr {s : Int32} {g : Nat} (hs : bt s g = true) (hg : g < 32) : ∀ F, F ≤ 32 → g < F → fy_cn (s &&& (((1 : Int32) <<< (nI g &&& 31)) ^^^ (-1))) F + 1 = fy_cn s F := by
  intro F
  induction F with
  | zero => intro _ h; omega
  | succ F ih =>
    intro hF hgF
    rw [fy_cn, fy_cn, fy_clr s hg (show F < 32 by omega)]
    rcases Nat.lt_or_ge g F with z | z
    · have := ih (by omega) z
      rw [decide_eq_false (show ¬ F = g by omega), Bool.not_false, Bool.and_true]
      omega
    · have e : g = F := by omega
      subst e
      have e2 : fy_cn (s &&& (((1 : Int32) <<< (nI g &&& 31)) ^^^ (-1))) g = fy_cn s g := fy_cn_cg (fun h hh => by
        rw [fy_clr s hg (show h < 32 by omega), decide_eq_false (show ¬ h = g by omega), Bool.not_false, Bool.and_true])
      rw [e2, decide_eq_true rfl, Bool.not_true, Bool.and_false, hs, if_neg (by decide), if_pos rfl]
/-! item after item -/
def fy_st (fl sc mo cl dp : Nat → Int32) (T : Nat → Nat) (D : Nat → Nat → Nat) (n F i : Nat) (e : fy_E) : fy_E :=
  fy_td F i F (fy_ed dp (fy_su fl (D i) i F 0 e).1.2.2.2.2.1 (fy_eb sc mo cl T D n i (fy_su fl (D i) i F 0 e).1.2.2.2.2.1) F) (fy_su fl (D i) i F 0 e).1
def fy_ex (fl sc mo cl dp : Nat → Int32) (T : Nat → Nat) (D : Nat → Nat → Nat) (n F : Nat) (e : fy_E) : Nat → fy_E
  | 0 => e
  | i + 1 => fy_st fl sc mo cl dp T D n F i (fy_ex fl sc mo cl dp T D n F e i)
/-- the outcome of item i -/
def fy_ou (fl sc mo cl dp : Nat → Int32) (T : Nat → Nat) (D : Nat → Nat → Nat) (n F : Nat) (e : fy_E) (i : Nat) : Int32 :=
  if (fy_su fl (D i) i F 0 (fy_ex fl sc mo cl dp T D n F e i)).2 = true then 1 else 2
theorem fy_ok_ex {fl sc mo cl dp : Nat → Int32} {T : Nat → Nat} {D : Nat → Nat → Nat} {n F : Nat} {e : fy_E} (hF : F ≤ 12) (hD : ∀ i f, D i f < 4) (h : fy_ok F 0 0 e) : ∀ i, fy_ok F (24 * i) (12 * i) (fy_ex fl sc mo cl dp T D n F e i) := by
  intro i
  induction i with
  | zero => exact h
  | succ i ih =>
    have h1 := fy_ok_su (fl := fl) (i := i) (hD i) F 0 _ _ _ ih
    have h2 := fy_ok_td (i := i) F _ _ (fy_ed dp (fy_su fl (D i) i F 0 (fy_ex fl sc mo cl dp T D n F e i)).1.2.2.2.2.1 (fy_eb sc mo cl T D n i (fy_su fl (D i) i F 0 (fy_ex fl sc mo cl dp T D n F e i)).1.2.2.2.2.1) F) _ h1
    exact fy_ok_w h2 (by omega) (by omega)
/-- an array with its first m places set to x -/
def fy_fill (a : Nat → Int32) (x : Int32) : Nat → Nat → Int32
  | 0 => a
  | m + 1 => upd (fy_fill a x m) m x
theorem fy_fill_e {a : Nat → Int32} {x : Int32} : ∀ {m j : Nat}, j < m → fy_fill a x m j = x
  | 0, j, h => absurd h (Nat.not_lt_zero j)
  | m + 1, j, h => by
    rw [fy_fill]
    by_cases e : j = m
    · subst e
      exact pk_us
    · rw [pk_un e]
      exact fy_fill_e (by omega)
/-- the latest member as a candidate, -1 if there is none -/
def fy_B (s : Int32) (so : Nat → Int32) (g : Nat) : Int32 := if (fy_la s so g).2 = 0 then -1 else nI (fy_la s so g).1
theorem fy_B_c {s : Int32} {so : Nat → Int32} {F : Nat} (h : ∀ g, g < F → bt s g = true → (0 : Int32) < so g) :
    ((∀ g, g < F → bt s g = false) ∧ fy_B s so F = -1 ∧ fy_la s so F = (0, 0)) ∨ ((fy_la s so F).1 < F ∧ bt s (fy_la s so F).1 = true ∧ (fy_la s so F).2 = so (fy_la s so F).1 ∧ fy_B s so F = nI (fy_la s so F).1) := by
  rcases fy_la_p F h with ⟨a1, a2⟩ | ⟨a1, a2, a3, a4⟩
  · refine Or.inl ⟨a1, ?_, a2⟩
    unfold fy_B
    rw [a2, if_pos rfl]
  · refine Or.inr ⟨a1, a2, a3, ?_⟩
    unfold fy_B
    rw [if_neg (fun z => by rw [z] at a4; exact absurd a4 (by decide))]
theorem fy_ap_st {sel : Nat → Bool} {P Q : Nat → Nat} {k l : Nat} (hP : ∀ f, P f < 4) (h : k < l) (F : Nat) : fy_ap sel P k F < fy_ap sel Q l F := fy_ap_lt hP (f := 0) h F (Nat.zero_le F)
end
section
/-! X: methods that only read, each against its pure picture -/
section
variable {xfc xtc xF xT xn xev xst : Int32} {sc pc dp fl mo cl rq te pa oc lg att al so : Nat → Int32} {ke : Nat → Int64}
theorem fx_has {post : Int32 → Prop} {x : Int32} {f : Nat} (hf : f < 32) (h : post (fy_bi (bt x f))) : wpX_contains post x (nI f) := by
  unfold wpX_contains
  cases hb : bt x f
  · rw [hb] at h
    exact br_t ((fy_has x hf).mpr hb) h
  · rw [hb] at h
    exact br_f (fun z => by rw [(fy_has x hf).mp z] at hb; exact absurd hb (by decide)) h
theorem fx_slot {post : Int32 → Prop} {f p : Nat} (h : post (nI (f * 3 + p))) : wpX_slotOf post (nI f) (nI p) := by
  unfold wpX_slotOf
  rw [← nI_add, ← pk_mul] at h
  exact h
theorem fx_pin {post : Int32 → Prop} {D : Nat → Nat} {f : Nat} (hD : ∀ f, D f < 4) (hf : f < 12) (h : post (nI (D f) - 1)) : wpX_paramIn post (nI (fy_en D 12)) (nI f) := by
  unfold wpX_paramIn
  have h1 := fy_en_lt (P := D) (n := 12) (fun f _ => hD f)
  have h2 : (4 : Nat) ^ 12 = 16777216 := by decide
  rw [fy_pin (by omega) hf, fy_en_dg (fun f _ => hD f) hf]
  exact h
theorem fx_isF {post : Int32 → Prop} {x : Int32} {F : Nat} (hF : F ≤ 12) (h0 : (x < 0 ∨ nI F ≤ x) → post 0) (h1 : ∀ f, f < F → x = nI f → post 1) : wpX_isFixture post (xfc, xtc, nI F, xT, xn, xev, xst, sc, pc, dp, fl, mo, cl, rq, te, pa, ke, oc, lg, att, al, so) x := by
  unfold wpX_isFixture
  rcases pk_ix x (n := F) (by omega) with z | z | ⟨f, hf, rfl⟩
  · exact br_t z (h0 (Or.inl z))
  · by_cases z0 : x < 0
    · exact br_t z0 (h0 (Or.inl z0))
    · exact br_f z0 (br_t z (h0 (Or.inr z)))
  · exact br_f (nI_pos (by omega)) (br_f (nI_ge hf (by omega)) (h1 f hf rfl))
theorem fx_isI {post : Int32 → Prop} {x : Int32} {n : Nat} (hn : n ≤ 64) (h0 : (x < 0 ∨ nI n ≤ x) → post 0) (h1 : ∀ f, f < n → x = nI f → post 1) : wpX_isItem post (xfc, xtc, xF, xT, nI n, xev, xst, sc, pc, dp, fl, mo, cl, rq, te, pa, ke, oc, lg, att, al, so) x := by
  unfold wpX_isItem
  rcases pk_ix x (n := n) (by omega) with z | z | ⟨f, hf, rfl⟩
  · exact br_t z (h0 (Or.inl z))
  · by_cases z0 : x < 0
    · exact br_t z0 (h0 (Or.inl z0))
    · exact br_f z0 (br_t z (h0 (Or.inr z)))
  · exact br_f (nI_pos (by omega)) (br_f (nI_ge hf (by omega)) (h1 f hf rfl))
theorem fx_vc {post : Int32 → Prop} {F f : Nat} (hF : F ≤ 12) (hp : fy_nb pc F 3) (hf : f < F) (h : post (nI (fy_vl pc f))) : wpX_valueCount post (xfc, xtc, xF, xT, xn, xev, xst, sc, pc, dp, fl, mo, cl, rq, te, pa, ke, oc, lg, att, al, so) (nI f) := by
  unfold wpX_valueCount
  obtain ⟨e, hb⟩ := hp f hf
  have hi : vp_in (nI f) 12 := vp_in_nI (by omega) (by decide)
  have hc : (nI f).toNatClampNeg = f := nI_clamp (by omega)
  unfold fy_vl at h
  by_cases z : fy_n pc f = 0
  · rw [if_pos z] at h
    refine ⟨hi, ?_⟩
    rw [hc]
    refine br_t ?_ h
    rw [e, z]
    decide
  · rw [if_neg z] at h
    refine ⟨hi, ?_⟩
    rw [hc]
    refine br_f ?_ ⟨hi, ?_⟩
    · rw [e]
      exact nI_nlt (b := 1) (by omega) (by omega)
    · rw [e]
      exact h
theorem fx_cl1 {post : Int32 → Prop} {F : Nat} (hF : F ≤ 12) : ∀ (m n : Nat) (x : Int32), m ≤ F → m < n → post (fy_go dp m x) → wX_closureOf_14 post xfc xtc (nI F) xT xn xev xst sc pc dp fl mo cl rq te pa ke oc lg att al so n x (nI m + (-1)) := by
  intro m
  induction m with
  | zero =>
    intro n x _ hn h
    obtain ⟨n, rfl⟩ : ∃ q, n = q + 1 := ⟨n - 1, by omega⟩
    exact br_t (by decide) h
  | succ m ih =>
    intro n x hm hn h
    obtain ⟨n, rfl⟩ : ∃ q, n = q + 1 := ⟨n - 1, by omega⟩
    rw [pk_m1]
    refine br_f (nI_pos (by omega)) (fx_has (by omega) ?_)
    rw [fy_go] at h
    refine fy_bi_z (fun hb => nm_e ?_) (fun hb => ⟨vp_in_nI (by omega) (by decide), nm_e (nm_e ?_)⟩)
    · rw [if_neg (by rw [hb]; decide)] at h
      exact ih n x (by omega) (by omega) h
    · rw [if_pos hb] at h
      rw [nI_clamp (by omega)]
      exact ih n _ (by omega) (by omega) h
theorem fx_m1 (x : Int32) : x - 1 = x + (-1) := Int32.sub_eq_add_neg x 1
theorem fx_clo {post : Int32 → Prop} {F t : Nat} (hF : F ≤ 12) (ht : t < 16) (h : post (fy_go dp F (rq t))) : wpX_closureOf post (xfc, xtc, nI F, xT, xn, xev, xst, sc, pc, dp, fl, mo, cl, rq, te, pa, ke, oc, lg, att, al, so) (nI t) := by
  unfold wpX_closureOf
  refine ⟨vp_in_nI ht (by decide), nm_e (nm_e ⟨F + 1, ?_⟩)⟩
  rw [nI_clamp (by omega), fx_m1]
  exact fx_cl1 hF F (F + 1) _ (Nat.le_refl F) (by omega) h
theorem fx_ct1 {post : Int32 → Prop} {F : Nat} {C : Int32} (hF : F ≤ 12) (hp : fy_nb pc F 3) : ∀ (k f n : Nat), f + k = F → k < n → post (nI (fy_ct C pc F)) → wX_countItems_4 post C xfc xtc (nI F) xT xn xev xst sc pc dp fl mo cl rq te pa ke oc lg att al so n (nI (fy_ct C pc f)) (nI f) := by
  intro k
  induction k with
  | zero =>
    intro f n hk hn h
    obtain ⟨n, rfl⟩ : ∃ q, n = q + 1 := ⟨n - 1, by omega⟩
    have e : f = F := by omega
    subst e
    exact br_t (nI_le (Nat.le_refl _) (by omega)) h
  | succ k ih =>
    intro f n hk hn h
    obtain ⟨n, rfl⟩ : ∃ q, n = q + 1 := ⟨n - 1, by omega⟩
    have hi := ih (f + 1) n (by omega) (by omega) h
    rw [fy_ct] at hi
    refine br_f (nI_ge (by omega) (by omega)) (fx_has (by omega) ?_)
    refine fy_bi_z (fun hb => nm_e ?_) (fun hb => fx_vc hF hp (by omega) (nm_e (nm_e ?_)))
    · rw [if_neg (by rw [hb]; decide)] at hi
      rw [nI_1]
      exact hi
    · rw [if_pos hb] at hi
      rw [nI_1, pk_mul]
      exact hi
theorem fx_ct {post : Int32 → Prop} {F : Nat} {C : Int32} (hF : F ≤ 12) (hp : fy_nb pc F 3) (h : post (nI (fy_ct C pc F))) : wpX_countItems post (xfc, xtc, nI F, xT, xn, xev, xst, sc, pc, dp, fl, mo, cl, rq, te, pa, ke, oc, lg, att, al, so) C := by
  unfold wpX_countItems
  exact ⟨F + 1, fx_ct1 hF hp F 0 (F + 1) (by omega) (by omega) h⟩
def fx_g (dp rq pc : Nat → Int32) (F t : Nat) : Nat := fy_ct (fy_go dp F (rq t)) pc F
theorem fx_ca1 {post : Int32 → Prop} {F T : Nat} (hF : F ≤ 12) (hT : T ≤ 16) (hp : fy_nb pc F 3) : ∀ (k t n : Nat), t + k = T → k < n → post (nI (fy_tt (fx_g dp rq pc F) T)) → wX_countAllItems_4 post xfc xtc (nI F) (nI T) xn xev xst sc pc dp fl mo cl rq te pa ke oc lg att al so n (nI (fy_tt (fx_g dp rq pc F) t)) (nI t) := by
  intro k
  induction k with
  | zero =>
    intro t n hk hn h
    obtain ⟨n, rfl⟩ : ∃ q, n = q + 1 := ⟨n - 1, by omega⟩
    have e : t = T := by omega
    subst e
    exact br_t (nI_le (Nat.le_refl _) (by omega)) h
  | succ k ih =>
    intro t n hk hn h
    obtain ⟨n, rfl⟩ : ∃ q, n = q + 1 := ⟨n - 1, by omega⟩
    have hi := ih (t + 1) n (by omega) (by omega) h
    rw [fy_tt] at hi
    refine br_f (nI_ge (by omega) (by omega)) (fx_clo hF (by omega) (fx_ct hF hp (nm_e (nm_e ?_))))
    rw [nI_1, nI_add]
    exact hi
theorem fx_ca {post : Int32 → Prop} {F T : Nat} (hF : F ≤ 12) (hT : T ≤ 16) (hp : fy_nb pc F 3) (h : post (nI (fy_tt (fx_g dp rq pc F) T))) : wpX_countAllItems post (xfc, xtc, nI F, nI T, xn, xev, xst, sc, pc, dp, fl, mo, cl, rq, te, pa, ke, oc, lg, att, al, so) := by
  unfold wpX_countAllItems
  exact ⟨T + 1, fx_ca1 hF hT hp T 0 (T + 1) (by omega) (by omega) h⟩
theorem fx_as1 {post : Int32 → Prop} {F m : Nat} {C : Int32} (hF : F ≤ 12) (hm : m < 2 ^ 31) (hp : fy_nb pc F 3) : ∀ (k f n : Nat), f + k = F → k < n → post (nI (fy_en (fy_dg C pc F m) F)) → wX_assignment_8 post C xfc xtc (nI F) xT xn xev xst sc pc dp fl mo cl rq te pa ke oc lg att al so n (nI (fy_en (fy_dg C pc F m) f)) (nI (fy_rs C pc m f)) (nI f) := by
  intro k
  induction k with
  | zero =>
    intro f n hk hn h
    obtain ⟨n, rfl⟩ : ∃ q, n = q + 1 := ⟨n - 1, by omega⟩
    have e : f = F := by omega
    subst e
    exact br_t (nI_le (Nat.le_refl _) (by omega)) h
  | succ k ih =>
    intro f n hk hn h
    obtain ⟨n, rfl⟩ : ∃ q, n = q + 1 := ⟨n - 1, by omega⟩
    have hi := ih (f + 1) n (by omega) (by omega) h
    rw [fy_rs, fy_en] at hi
    have hl := fy_en_lt (P := fy_dg C pc F m) (n := f) (fun g _ => fy_dg_4 hp m g)
    have hr := fy_rs_le C pc m f
    obtain ⟨v1, v2⟩ := fy_vl_b hp (show f < F by omega)
    refine br_f (nI_ge (by omega) (by omega)) (fx_has (by omega) ?_)
    refine fy_bi_z (fun hb => nm_e ?_) (fun hb => fx_vc hF hp (by omega) ?_)
    · have e : fy_dg C pc F m f = 0 := by unfold fy_dg; rw [if_neg (by rw [hb]; simp)]
      rw [if_neg (by rw [hb]; decide), e, Nat.zero_mul, Nat.add_zero] at hi
      rw [nI_1]
      exact hi
    · have e : fy_dg C pc F m f = fy_rs C pc m f % fy_vl pc f + 1 := if_pos ⟨by omega, hb⟩
      have e2 := fy_dg_4 (C := C) hp m f
      rw [if_pos hb] at hi
      refine ⟨nI_ne0 v1 (by omega), nm_e ⟨nI_ne0 v1 (by omega), nm_e (nm_e ?_)⟩⟩
      rw [pk_rem (by omega) v1 (by omega), pk_div (by omega) v1 (by omega), nI_1, nI_1, ← e, fy_put hl e2 (by omega)]
      exact hi
theorem fx_as {post : Int32 → Prop} {F m : Nat} {C : Int32} (hF : F ≤ 12) (hm : m < 2 ^ 31) (hp : fy_nb pc F 3) (h : post (nI (fy_en (fy_dg C pc F m) 12))) : wpX_assignment post (xfc, xtc, nI F, xT, xn, xev, xst, sc, pc, dp, fl, mo, cl, rq, te, pa, ke, oc, lg, att, al, so) C (nI m) := by
  unfold wpX_assignment
  rw [fy_en_ext (fun f hf => fy_dg_0 hf) hF] at h
  exact ⟨F + 1, fx_as1 hF hm hp F 0 (F + 1) (by omega) (by omega) h⟩
theorem fx_ap1 {post : Int64 → Prop} {F k0 : Nat} {s : Int32} {D : Nat → Nat} (hF : F ≤ 12) (hD : ∀ f, D f < 4) : ∀ (k f n : Nat), f + k = F → k < n → post (lN (fy_ap (fy_sl sc pc s) D k0 F)) → wX_appendParams_6 post s (nI (fy_en D 12)) xfc xtc (nI F) xT xn xev xst sc pc dp fl mo cl rq te pa ke oc lg att al so n (lN (fy_ap (fy_sl sc pc s) D k0 f)) (nI f) := by
  intro k
  induction k with
  | zero =>
    intro f n hk hn h
    obtain ⟨n, rfl⟩ : ∃ q, n = q + 1 := ⟨n - 1, by omega⟩
    have e : f = F := by omega
    subst e
    exact br_t (nI_le (Nat.le_refl _) (by omega)) h
  | succ k ih =>
    intro f n hk hn h
    obtain ⟨n, rfl⟩ : ∃ q, n = q + 1 := ⟨n - 1, by omega⟩
    have hi := ih (f + 1) n (by omega) (by omega) h
    rw [fy_ap] at hi
    have hv : vp_in (nI f) 12 := vp_in_nI (by omega) (by decide)
    have hc : (nI f).toNatClampNeg = f := nI_clamp (by omega)
    refine br_f (nI_ge (by omega) (by omega)) ⟨hv, ?_⟩
    rw [hc]
    by_cases z1 : sc f = s
    · refine br_t z1 ⟨hv, ?_⟩
      by_cases z2 : pc f < 1
      · have e : fy_sl sc pc s f = false := by unfold fy_sl; rw [decide_eq_false (p := 1 ≤ pc f) (by rw [Int32.not_le]; exact z2), Bool.and_false]
        rw [if_neg (by rw [e]; decide)] at hi
        refine br_t z2 (nm_e ?_)
        rw [nI_1]
        exact hi
      · have e : fy_sl sc pc s f = true := by unfold fy_sl; rw [decide_eq_true z1, decide_eq_true (p := 1 ≤ pc f) (Int32.not_lt.mp z2)]; rfl
        rw [if_pos e] at hi
        refine br_f z2 (fx_pin hD (by omega) (nm_e (nm_e ?_)))
        rw [nI_1, show nI (D f) - 1 + 1 = nI (D f) by grind, nI_l (by have := hD f; omega), fy_shL2, fy_orL _ _ (hD f)]
        exact hi
    · have e : fy_sl sc pc s f = false := by unfold fy_sl; rw [decide_eq_false z1, Bool.false_and]
      rw [if_neg (by rw [e]; decide)] at hi
      refine br_f z1 (nm_e ?_)
      rw [nI_1]
      exact hi
theorem fx_ap {post : Int64 → Prop} {F k0 : Nat} {s : Int32} {D : Nat → Nat} (hF : F ≤ 12) (hD : ∀ f, D f < 4) (h : post (lN (fy_ap (fy_sl sc pc s) D k0 F))) : wpX_appendParams post (xfc, xtc, nI F, xT, xn, xev, xst, sc, pc, dp, fl, mo, cl, rq, te, pa, ke, oc, lg, att, al, so) (lN k0) s (nI (fy_en D 12)) := by
  unfold wpX_appendParams
  exact ⟨F + 1, fx_ap1 hF hD F 0 (F + 1) (by omega) (by omega) h⟩
theorem fx_key {post : Int64 → Prop} {F T t : Nat} {D : Nat → Nat} (hF : F ≤ 12) (hT : T ≤ 16) (ht : t < T) (hm : fy_nb mo T 3) (hc : fy_nb cl T 3) (hD : ∀ f, D f < 4) (h : post (lN (fy_ky sc pc F (fy_n mo t) (fy_n cl t) t D))) : wpX_sortKey post (xfc, xtc, nI F, xT, xn, xev, xst, sc, pc, dp, fl, mo, cl, rq, te, pa, ke, oc, lg, att, al, so) (nI t) (nI (fy_en D 12)) := by
  unfold wpX_sortKey
  obtain ⟨e1, b1⟩ := hm t ht
  obtain ⟨e2, b2⟩ := hc t ht
  have hv : vp_in (nI t) 16 := vp_in_nI (by omega) (by decide)
  have hcl : (nI t).toNatClampNeg = t := nI_clamp (by omega)
  refine fx_ap (k0 := 0) hF hD ⟨hv, nm_e ?_⟩
  rw [hcl, e1, nI_l (n := fy_n mo t) (by omega), fy_shL2, fy_orL _ _ (by omega)]
  refine fx_ap hF hD ⟨hv, nm_e ?_⟩
  rw [e2, nI_l (n := fy_n cl t) (by omega), fy_shL2, fy_orL _ _ (by omega)]
  refine fx_ap hF hD (nm_e ?_)
  rw [nI_l (n := t) (by omega), fy_shL4, fy_orL4 _ _ (by omega)]
  exact fx_ap hF hD h
end
end
section
/-! X: collecting and sorting -/
section
variable {xfc xtc xF xT xn xev xst : Int32} {sc pc dp fl mo cl rq te pa oc lg att al so : Nat → Int32} {ke : Nat → Int64}
/-- the test, the digits and the key of slot j -/
def fx_tj (dp rq pc : Nat → Int32) (F T j : Nat) : Nat := fy_tf (fx_g dp rq pc F) T j
def fx_dj (dp rq pc : Nat → Int32) (F T j : Nat) : Nat → Nat := fy_dg (fy_go dp F (rq (fx_tj dp rq pc F T j))) pc F (j - fy_tt (fx_g dp rq pc F) (fx_tj dp rq pc F T j))
def fx_kj (sc pc dp mo cl rq : Nat → Int32) (F T j : Nat) : Nat := fy_ky sc pc F (fy_n mo (fx_tj dp rq pc F T j)) (fy_n cl (fx_tj dp rq pc F T j)) (fx_tj dp rq pc F T j) (fx_dj dp rq pc F T j)
theorem fx_tj_e {dp rq pc : Nat → Int32} {F T t q : Nat} (ht : t < T) (hq : q < fx_g dp rq pc F t) : fx_tj dp rq pc F T (fy_tt (fx_g dp rq pc F) t + q) = t := fy_tf_e T ht hq
theorem fx_dj_e {dp rq pc : Nat → Int32} {F T t q : Nat} (ht : t < T) (hq : q < fx_g dp rq pc F t) : fx_dj dp rq pc F T (fy_tt (fx_g dp rq pc F) t + q) = fy_dg (fy_go dp F (rq t)) pc F q := by
  unfold fx_dj
  rw [fx_tj_e ht hq, Nat.add_sub_cancel_left]
theorem fx_kj_e {sc pc dp mo cl rq : Nat → Int32} {F T t q : Nat} (ht : t < T) (hq : q < fx_g dp rq pc F t) : fx_kj sc pc dp mo cl rq F T (fy_tt (fx_g dp rq pc F) t + q) = fy_ky sc pc F (fy_n mo t) (fy_n cl t) t (fy_dg (fy_go dp F (rq t)) pc F q) := by
  unfold fx_kj
  rw [fx_tj_e ht hq, fx_dj_e ht hq]
theorem fx_dj_4 {dp rq pc : Nat → Int32} {F T : Nat} (hp : fy_nb pc F 3) (j f : Nat) : fx_dj dp rq pc F T j f < 4 := fy_dg_4 hp _ f
theorem fx_dj_0 {dp rq pc : Nat → Int32} {F T j f : Nat} (h : F ≤ f) : fx_dj dp rq pc F T j f = 0 := fy_dg_0 h
/-- the first m slots hold what they ought to -/
def fx_col (sc pc dp mo cl rq : Nat → Int32) (F T m : Nat) (te pa : Nat → Int32) (ke : Nat → Int64) : Prop := ∀ j, j < m → te j = nI (fx_tj dp rq pc F T j) ∧ pa j = nI (fy_en (fx_dj dp rq pc F T j) 12) ∧ ke j = lN (fx_kj sc pc dp mo cl rq F T j)
theorem fx_col_s {F T m : Nat} (h : fx_col sc pc dp mo cl rq F T m te pa ke) {x y : Int32} {z : Int64} (h1 : x = nI (fx_tj dp rq pc F T m)) (h2 : y = nI (fy_en (fx_dj dp rq pc F T m) 12)) (h3 : z = lN (fx_kj sc pc dp mo cl rq F T m)) : fx_col sc pc dp mo cl rq F T (m + 1) (upd te m x) (upd pa m y) (vp_updL ke m z) := by
  intro j hj
  by_cases e : j = m
  · subst e
    rw [pk_us, pk_us, pk_uLs]
    exact ⟨h1, h2, h3⟩
  · rw [pk_un e, pk_un e, pk_uLn e]
    exact h j (by omega)
theorem fx_co2 {post : SX → Prop} {J : Int32 → Int32 → (Nat → Int32) → (Nat → Int32) → (Nat → Int32) → (Nat → Int32) → (Nat → Int32) → (Nat → Int32) → (Nat → Int32) → (Nat → Int32) → (Nat → Int32) → (Nat → Int64) → (Nat → Int32) → (Nat → Int32) → (Nat → Int32) → (Nat → Int32) → (Nat → Int32) → Prop} {F T t : Nat} (hF : F ≤ 12) (hT : T ≤ 16) (ht : t < T) (hp : fy_nb pc F 3) (hm : fy_nb mo T 3) (hc : fy_nb cl T 3) (hN : fy_tt (fx_g dp rq pc F) (t + 1) ≤ 64)
    (hJ : ∀ (te pa : Nat → Int32) (ke : Nat → Int64), fx_col sc pc dp mo cl rq F T (fy_tt (fx_g dp rq pc F) (t + 1)) te pa ke → J (nI (t + 1)) (nI (fy_tt (fx_g dp rq pc F) (t + 1))) sc pc dp fl mo cl rq te pa ke oc lg att al so) :
    ∀ (k q n : Nat) (te pa : Nat → Int32) (ke : Nat → Int64), q + k = fx_g dp rq pc F t → k < n → fx_col sc pc dp mo cl rq F T (fy_tt (fx_g dp rq pc F) t + q) te pa ke →
    wX_collectItems_30 post J (nI t) (fy_go dp F (rq t)) (nI (fx_g dp rq pc F t)) xfc xtc (nI F) (nI T) xev xst n (nI q) (nI (fy_tt (fx_g dp rq pc F) t + q)) sc pc dp fl mo cl rq te pa ke oc lg att al so := by
  intro k
  induction k with
  | zero =>
    intro q n te pa ke hk hn h
    obtain ⟨n, rfl⟩ : ∃ r, n = r + 1 := ⟨n - 1, by omega⟩
    have e : q = fx_g dp rq pc F t := by omega
    subst e
    have hg : fx_g dp rq pc F t ≤ 531441 := Nat.le_trans (fy_ct_b hp F (Nat.le_refl F)).2 (fy_3p hF)
    refine br_t (nI_le (Nat.le_refl _) (by omega)) (nm_e ?_)
    rw [nI_1]
    exact hJ te pa ke h
  | succ k ih =>
    intro q n te pa ke hk hn h
    obtain ⟨n, rfl⟩ : ∃ r, n = r + 1 := ⟨n - 1, by omega⟩
    have hg : fx_g dp rq pc F t ≤ 531441 := Nat.le_trans (fy_ct_b hp F (Nat.le_refl F)).2 (fy_3p hF)
    have hq : q < fx_g dp rq pc F t := by omega
    have hN2 : fy_tt (fx_g dp rq pc F) (t + 1) = fy_tt (fx_g dp rq pc F) t + fx_g dp rq pc F t := rfl
    have hv : vp_in (nI (fy_tt (fx_g dp rq pc F) t + q)) 64 := vp_in_nI (by omega) (by decide)
    have hcl : (nI (fy_tt (fx_g dp rq pc F) t + q)).toNatClampNeg = fy_tt (fx_g dp rq pc F) t + q := nI_clamp (by omega)
    refine br_f (nI_ge hq (by omega)) (fx_as hF (by omega) hp ⟨hv, nm_e ⟨hv, nm_e ?_⟩⟩)
    refine fx_key hF hT ht hm hc (fun f => fy_dg_4 hp q f) ⟨hv, nm_e (nm_e (nm_e ?_))⟩
    rw [hcl, nI_1, nI_1]
    refine ih (q + 1) n _ _ _ (by omega) (by omega) (fx_col_s h ?_ ?_ ?_)
    · rw [fx_tj_e ht hq]
    · rw [fx_dj_e ht hq]
    · rw [fx_kj_e ht hq]
theorem fx_co1 {post : SX → Prop} {F T : Nat} (hF : F ≤ 12) (hT : T ≤ 16) (hp : fy_nb pc F 3) (hm : fy_nb mo T 3) (hc : fy_nb cl T 3) (hN : fy_tt (fx_g dp rq pc F) T ≤ 64)
    (hJ : ∀ (te pa : Nat → Int32) (ke : Nat → Int64), fx_col sc pc dp mo cl rq F T (fy_tt (fx_g dp rq pc F) T) te pa ke → post (xfc, xtc, nI F, nI T, nI (fy_tt (fx_g dp rq pc F) T), xev, xst, sc, pc, dp, fl, mo, cl, rq, te, pa, ke, oc, lg, att, al, so)) :
    ∀ (k t n : Nat) (te pa : Nat → Int32) (ke : Nat → Int64), t + k = T → k < n → fx_col sc pc dp mo cl rq F T (fy_tt (fx_g dp rq pc F) t) te pa ke →
    wX_collectItems_7 post xfc xtc (nI F) (nI T) xev xst n (nI t) (nI (fy_tt (fx_g dp rq pc F) t)) sc pc dp fl mo cl rq te pa ke oc lg att al so := by
  intro k
  induction k with
  | zero =>
    intro t n te pa ke hk hn h
    obtain ⟨n, rfl⟩ : ∃ r, n = r + 1 := ⟨n - 1, by omega⟩
    have e : t = T := by omega
    subst e
    exact br_t (nI_le (Nat.le_refl _) (by omega)) (hJ te pa ke h)
  | succ k ih =>
    intro t n te pa ke hk hn h
    obtain ⟨n, rfl⟩ : ∃ r, n = r + 1 := ⟨n - 1, by omega⟩
    have hN2 := fy_tt_m (g := fx_g dp rq pc F) (show t + 1 ≤ T by omega)
    refine br_f (nI_ge (by omega) (by omega)) (fx_clo hF (by omega) (fx_ct hF hp ⟨fx_g dp rq pc F t + 1, ?_⟩))
    exact fx_co2 hF hT (by omega) hp hm hc (by omega) (fun te pa ke h2 => ih (t + 1) n te pa ke (by omega) (by omega) h2) (fx_g dp rq pc F t) 0 _ te pa ke (by omega) (by omega) h
theorem fx_co {post : SX → Prop} {F T : Nat} (hF : F ≤ 12) (hT : T ≤ 16) (hp : fy_nb pc F 3) (hm : fy_nb mo T 3) (hc : fy_nb cl T 3) (hN : fy_tt (fx_g dp rq pc F) T ≤ 64)
    (hJ : ∀ (te pa : Nat → Int32) (ke : Nat → Int64), fx_col sc pc dp mo cl rq F T (fy_tt (fx_g dp rq pc F) T) te pa ke → post (xfc, xtc, nI F, nI T, nI (fy_tt (fx_g dp rq pc F) T), xev, xst, sc, pc, dp, fl, mo, cl, rq, te, pa, ke, oc, lg, att, al, so)) :
    wpX_collectItems post (xfc, xtc, nI F, nI T, xn, xev, xst, sc, pc, dp, fl, mo, cl, rq, te, pa, ke, oc, lg, att, al, so) := by
  unfold wpX_collectItems
  exact ⟨T + 1, fx_co1 hF hT hp hm hc hN hJ T 0 (T + 1) te pa ke (by omega) (by omega) (fun j hj => absurd hj (Nat.not_lt_zero j))⟩
end
end
section
/-! X: sorting by insertion -/
section
variable {xfc xtc xF xT xn xev xst : Int32} {sc pc dp fl mo cl rq te pa oc lg att al so : Nat → Int32} {ke : Nat → Int64}
theorem fx_so2 {post : SX → Prop} {J : Int32 → (Nat → Int32) → (Nat → Int32) → (Nat → Int32) → (Nat → Int32) → (Nat → Int32) → (Nat → Int32) → (Nat → Int32) → (Nat → Int32) → (Nat → Int32) → (Nat → Int64) → (Nat → Int32) → (Nat → Int32) → (Nat → Int32) → (Nat → Int32) → (Nat → Int32) → Prop}
    {te0 pa0 : Nat → Int32} {ke0 : Nat → Int64} {K s : Nat → Nat} {m i : Nat} (hm : m ≤ 64) (hi : i < m) (hs : fy_So K i s) (hk : ∀ j, j < m → ke0 j = lN (K j) ∧ K j < 2 ^ 63)
    (hJ : ∀ (p : Nat) (te pa : Nat → Int32) (ke : Nat → Int64), fy_So K (i + 1) (fy_in s i p) → (∀ q, q < i + 1 → te q = te0 (fy_in s i p q)) ∧ (∀ q, i + 1 ≤ q → te q = te0 q) → (∀ q, q < i + 1 → pa q = pa0 (fy_in s i p q)) ∧ (∀ q, i + 1 ≤ q → pa q = pa0 q) → (∀ q, q < i + 1 → ke q = ke0 (fy_in s i p q)) ∧ (∀ q, i + 1 ≤ q → ke q = ke0 q) → J (nI (i + 1)) sc pc dp fl mo cl rq te pa ke oc lg att al so) :
    ∀ (p n : Nat) (te pa : Nat → Int32) (ke : Nat → Int64), p ≤ i → p < n → fy_iv te te0 s p i → fy_iv pa pa0 s p i → fy_iv ke ke0 s p i → (∀ q, p ≤ q → q < i → K i < K (s q)) →
    wX_sortItems_35 post J (nI i) (te0 i) (pa0 i) (ke0 i) xfc xtc xF xT (nI m) xev xst n (nI p) sc pc dp fl mo cl rq te pa ke oc lg att al so := by
  have fin : ∀ (p : Nat) (te pa : Nat → Int32) (ke : Nat → Int64), p ≤ i → fy_iv te te0 s p i → fy_iv pa pa0 s p i → fy_iv ke ke0 s p i → (∀ q, p ≤ q → q < i → K i < K (s q)) → (p = 0 ∨ K (s (p - 1)) ≤ K i) →
      J (nI i + 1) sc pc dp fl mo cl rq (upd te p (te0 i)) (upd pa p (pa0 i)) (vp_updL ke p (ke0 i)) oc lg att al so := by
    intro p te pa ke hp h1 h2 h3 h4 h5
    rw [nI_1]
    exact hJ p _ _ _ (fy_So_in hs hp h5 h4) (fy_iv_e h1 hp pk_us (fun q hq => pk_un hq)) (fy_iv_e h2 hp pk_us (fun q hq => pk_un hq)) (fy_iv_e h3 hp pk_uLs (fun q hq => pk_uLn hq))
  intro p
  induction p with
  | zero =>
    intro n te pa ke hp hn h1 h2 h3 h4
    obtain ⟨n, rfl⟩ : ∃ r, n = r + 1 := ⟨n - 1, by omega⟩
    have hv : vp_in (nI 0) 64 := vp_in_nI (by omega) (by decide)
    have F := fin 0 te pa ke hp h1 h2 h3 h4 (Or.inl rfl)
    refine br_t (by decide) ?_
    unfold wX_sortItems_109
    refine ⟨hv, nm_e ⟨hv, nm_e ⟨hv, nm_e (nm_e ?_)⟩⟩⟩
    rw [nI_clamp (by decide)]
    exact F
  | succ p ih =>
    intro n te pa ke hp hn h1 h2 h3 h4
    obtain ⟨n, rfl⟩ : ∃ r, n = r + 1 := ⟨n - 1, by omega⟩
    have hv : vp_in (nI (p + 1)) 64 := vp_in_nI (by omega) (by decide)
    have hv2 : vp_in (nI p) 64 := vp_in_nI (by omega) (by decide)
    have hc : (nI (p + 1)).toNatClampNeg = p + 1 := nI_clamp (by omega)
    have hc2 : (nI p).toNatClampNeg = p := nI_clamp (by omega)
    obtain ⟨ki, bi⟩ := hk i hi
    have hsp : s p < i := hs.1 p (by omega)
    obtain ⟨kp, bp⟩ := hk (s p) (by omega)
    have kep : ke p = lN (K (s p)) := by rw [h3.1 p (by omega), kp]
    refine br_f (nI_nle (by omega) (by omega)) ?_
    rw [nI_pred, hc2, kep, ki]
    refine ⟨hv2, ?_⟩
    by_cases z : K (s p) ≤ K i
    · refine br_t ((pk_lLE bp bi).mpr z) ?_
      have F := fin (p + 1) te pa ke hp h1 h2 h3 h4 (Or.inr (by rw [Nat.add_sub_cancel]; exact z))
      unfold wX_sortItems_109
      refine ⟨hv, nm_e ⟨hv, nm_e ⟨hv, nm_e (nm_e ?_)⟩⟩⟩
      rw [hc, ← ki]
      exact F
    · refine br_f (fun h => z ((pk_lLE bp bi).mp h)) ?_
      refine ⟨hv2, hv, nm_e ⟨hv2, hv, nm_e ⟨hv2, hv, nm_e (nm_e ?_)⟩⟩⟩
      rw [hc, pk_m1, ← ki]
      refine ih n _ _ _ (by omega) (by omega) (fy_iv_s h1 hp pk_us (fun q hq => pk_un hq)) (fy_iv_s h2 hp pk_us (fun q hq => pk_un hq)) (fy_iv_s h3 hp (by rw [pk_uLs, kep]) (fun q hq => pk_uLn hq)) (fun q hq hqi => ?_)
      by_cases e : q = p
      · subst e
        omega
      · exact h4 q (by omega) hqi
theorem fx_so1 {post : SX → Prop} {te0 pa0 : Nat → Int32} {ke0 : Nat → Int64} {K : Nat → Nat} {m : Nat} (hm : m ≤ 64) (hk : ∀ j, j < m → ke0 j = lN (K j) ∧ K j < 2 ^ 63)
    (hJ : ∀ (s : Nat → Nat) (te pa : Nat → Int32) (ke : Nat → Int64), fy_So K m s → (∀ q, q < m → te q = te0 (s q)) → (∀ q, q < m → pa q = pa0 (s q)) → post (xfc, xtc, xF, xT, nI m, xev, xst, sc, pc, dp, fl, mo, cl, rq, te, pa, ke, oc, lg, att, al, so)) :
    ∀ (k i n : Nat) (s : Nat → Nat) (te pa : Nat → Int32) (ke : Nat → Int64), i + k = m → 1 ≤ i → k < n → fy_So K i s → (∀ q, q < i → te q = te0 (s q)) ∧ (∀ q, i ≤ q → te q = te0 q) → (∀ q, q < i → pa q = pa0 (s q)) ∧ (∀ q, i ≤ q → pa q = pa0 q) → (∀ q, q < i → ke q = ke0 (s q)) ∧ (∀ q, i ≤ q → ke q = ke0 q) →
    wX_sortItems_2 post xfc xtc xF xT (nI m) xev xst n (nI i) sc pc dp fl mo cl rq te pa ke oc lg att al so := by
  intro k
  induction k with
  | zero =>
    intro i n s te pa ke hi h0 hn hs h1 h2 h3
    obtain ⟨n, rfl⟩ : ∃ r, n = r + 1 := ⟨n - 1, by omega⟩
    have e : i = m := by omega
    subst e
    exact br_t (nI_le (Nat.le_refl _) (by omega)) (hJ s te pa ke hs h1.1 h2.1)
  | succ k ih =>
    intro i n s te pa ke hi h0 hn hs h1 h2 h3
    obtain ⟨n, rfl⟩ : ∃ r, n = r + 1 := ⟨n - 1, by omega⟩
    have hv : vp_in (nI i) 64 := vp_in_nI (by omega) (by decide)
    have hc : (nI i).toNatClampNeg = i := nI_clamp (by omega)
    refine br_f (nI_ge (by omega) (by omega)) ⟨hv, nm_e ⟨hv, nm_e ⟨hv, nm_e ⟨i + 1, ?_⟩⟩⟩⟩
    rw [hc, h1.2 i (Nat.le_refl i), h2.2 i (Nat.le_refl i), h3.2 i (Nat.le_refl i)]
    exact fx_so2 hm (by omega) hs hk (fun p te pa ke a1 a2 a3 a4 => ih (i + 1) n (fy_in s i p) te pa ke (by omega) (by omega) (by omega) a1 a2 a3 a4) i (i + 1) te pa ke (Nat.le_refl i) (by omega) (fy_iv_0 h1.1 h1.2) (fy_iv_0 h2.1 h2.2) (fy_iv_0 h3.1 h3.2) (fun q h4 h5 => by omega)
theorem fx_so {post : SX → Prop} {K : Nat → Nat} {m : Nat} (hm : m ≤ 64) (hk : ∀ j, j < m → ke j = lN (K j) ∧ K j < 2 ^ 63)
    (hJ : ∀ (s : Nat → Nat) (te1 pa1 : Nat → Int32) (ke1 : Nat → Int64), fy_So K m s → (∀ q, q < m → te1 q = te (s q)) → (∀ q, q < m → pa1 q = pa (s q)) → post (xfc, xtc, xF, xT, nI m, xev, xst, sc, pc, dp, fl, mo, cl, rq, te1, pa1, ke1, oc, lg, att, al, so)) :
    wpX_sortItems post (xfc, xtc, xF, xT, nI m, xev, xst, sc, pc, dp, fl, mo, cl, rq, te, pa, ke, oc, lg, att, al, so) := by
  unfold wpX_sortItems
  rcases Nat.eq_zero_or_pos m with z | z
  · subst z
    exact ⟨1, br_t (by decide) (hJ id te pa ke (fy_So_0 K) (fun _ _ => rfl) (fun _ _ => rfl))⟩
  · exact ⟨m + 1, fx_so1 hm hk hJ (m - 1) 1 (m + 1) id te pa ke (by omega) (by omega) (by omega) (fy_So_1 K) ⟨fun _ _ => rfl, fun _ _ => rfl⟩ ⟨fun _ _ => rfl, fun _ _ => rfl⟩ ⟨fun _ _ => rfl, fun _ _ => rfl⟩⟩
end
end
section
/-! X: execution -/
section
variable {xfc xtc xF xT xn xev xst : Int32} {sc pc dp fl mo cl rq te pa oc lg att al so : Nat → Int32} {ke : Nat → Int64}
theorem fx_log {post : SX → Prop} {e : fy_E} {kind p : Int32} {i f : Nat} (he : e.1 < 100000) (h : post (xfc, xtc, xF, xT, xn, nI (fy_lo kind i f p e).1, nI (fy_lo kind i f p e).2.2.2.1, sc, pc, dp, fl, mo, cl, rq, te, pa, ke, oc, (fy_lo kind i f p e).2.1, (fy_lo kind i f p e).2.2.1, (fy_lo kind i f p e).2.2.2.2.1, (fy_lo kind i f p e).2.2.2.2.2)) : wpX_logEvent post (xfc, xtc, xF, xT, xn, nI e.1, nI e.2.2.2.1, sc, pc, dp, fl, mo, cl, rq, te, pa, ke, oc, e.2.1, e.2.2.1, e.2.2.2.2.1, e.2.2.2.2.2) kind (nI i) (nI f) p := by
  unfold wpX_logEvent
  unfold fy_lo at h
  dsimp only at h
  by_cases z : e.1 < 256
  · rw [if_pos z] at h
    refine br_f (nI_ge (b := 256) z (by decide)) ⟨vp_in_nI z (by decide), nm_e (nm_e ?_)⟩
    rw [nI_clamp (by omega), nI_1]
    exact h
  · rw [if_neg z] at h
    refine br_t (nI_le (a := 256) (by omega) (by omega)) (nm_e ?_)
    rw [nI_1]
    exact h
theorem fx_suf {post : Int32 → SX → Prop} {e : fy_E} {i f p : Nat} (h1 : e.1 < 100000) (h2 : e.2.2.2.1 < 100000) (hf : f < 12) (hp : p < 3) (h : post (fy_bi (fy_sf fl i f p e).2) (xfc, xtc, xF, xT, xn, nI ((fy_sf fl i f p e).1).1, nI ((fy_sf fl i f p e).1).2.2.2.1, sc, pc, dp, fl, mo, cl, rq, te, pa, ke, oc, ((fy_sf fl i f p e).1).2.1, ((fy_sf fl i f p e).1).2.2.1, ((fy_sf fl i f p e).1).2.2.2.2.1, ((fy_sf fl i f p e).1).2.2.2.2.2)) : wpX_setUpFixture post (xfc, xtc, xF, xT, xn, nI e.1, nI e.2.2.2.1, sc, pc, dp, fl, mo, cl, rq, te, pa, ke, oc, e.2.1, e.2.2.1, e.2.2.2.2.1, e.2.2.2.2.2) (nI i) (nI f) (nI p) := by
  unfold wpX_setUpFixture
  have hv : vp_in (nI (f * 3 + p)) 36 := vp_in_nI (by omega) (by decide)
  have hc : (nI (f * 3 + p)).toNatClampNeg = f * 3 + p := nI_clamp (by omega)
  have hv2 : vp_in (nI f) 12 := vp_in_nI hf (by decide)
  have hc2 : (nI f).toNatClampNeg = f := nI_clamp (by omega)
  refine fx_slot ⟨hv, hv, nm_e ⟨hv, hv, ?_⟩⟩
  rw [hc, pk_us]
  unfold fy_sf at h
  by_cases z : e.2.2.1 (f * 3 + p) + 1 = fl (f * 3 + p)
  · rw [if_pos z] at h
    refine br_t z ?_
    refine fx_log (e := fy_at f p e) h1 ?_
    exact h
  · rw [if_neg z] at h
    refine br_f z ?_
    refine fx_log (e := fy_at f p e) h1 ?_
    refine nm_e ⟨hv2, nm_e ⟨hv2, nm_e ?_⟩⟩
    rw [hc2, nI_1]
    exact h
theorem fx_su1 {post : Int32 → SX → Prop} {F i : Nat} {D : Nat → Nat} (hF : F ≤ 12) (hi : i < 64) (hD : ∀ f, D f < 4) (hpa : pa i = nI (fy_en D 12)) : ∀ (k f n b c : Nat) (e : fy_E), f + k = F → k < n → fy_ok F b c e → b + k < 100000 → c + k < 100000 → post (fy_bi (fy_su fl D i k f e).2) (xfc, xtc, nI F, xT, xn, nI ((fy_su fl D i k f e).1).1, nI ((fy_su fl D i k f e).1).2.2.2.1, sc, pc, dp, fl, mo, cl, rq, te, pa, ke, oc, ((fy_su fl D i k f e).1).2.1, ((fy_su fl D i k f e).1).2.2.1, ((fy_su fl D i k f e).1).2.2.2.2.1, ((fy_su fl D i k f e).1).2.2.2.2.2) →
    wX_setUpItem_2 post (nI i) n (nI f) xfc xtc (nI F) xT xn (nI e.1) (nI e.2.2.2.1) sc pc dp fl mo cl rq te pa ke oc (e.2.1) (e.2.2.1) (e.2.2.2.2.1) (e.2.2.2.2.2) := by
  intro k
  induction k with
  | zero =>
    intro f n b c e hk hn ho hb hc h
    obtain ⟨n, rfl⟩ : ∃ r, n = r + 1 := ⟨n - 1, by omega⟩
    have e : f = F := by omega
    subst e
    exact br_t (nI_le (Nat.le_refl _) (by omega)) h
  | succ k ih =>
    intro f n b c e hk hn ho hb hc h
    obtain ⟨n, rfl⟩ : ∃ r, n = r + 1 := ⟨n - 1, by omega⟩
    have hv : vp_in (nI i) 64 := vp_in_nI (by omega) (by decide)
    have hcl : (nI i).toNatClampNeg = i := nI_clamp (by omega)
    have hv2 : vp_in (nI f) 12 := vp_in_nI (by omega) (by decide)
    have hc2 : (nI f).toNatClampNeg = f := nI_clamp (by omega)
    have hd := hD f
    rw [fy_su] at h
    refine br_f (nI_ge (by omega) (by omega)) ⟨hv, ?_⟩
    rw [hcl, hpa]
    refine fx_pin hD (by omega) (fy_ge (D f) hd (fun z => nm_e ?_) (fun p hp hp3 => ⟨hv2, ?_⟩))
    · rw [if_pos (Or.inl z)] at h
      rw [nI_1]
      exact ih (f + 1) n b c e (by omega) (by omega) ho (by omega) (by omega) h
    · rw [hc2, hp, fy_ms]
      rw [hp, Nat.add_sub_cancel] at h
      by_cases z : e.2.2.2.2.1 f = nI p
      · rw [if_pos (Or.inr z)] at h
        refine br_t z (nm_e ?_)
        rw [nI_1]
        exact ih (f + 1) n b c e (by omega) (by omega) ho (by omega) (by omega) h
      · rw [if_neg (fun q => q.elim (fun w => absurd w (Nat.succ_ne_zero p)) z)] at h
        have ho2 := fy_ok_sf (fl := fl) (i := i) (f := f) (p := p) ho hp3
        refine br_f z (fx_suf (by have := ho.1; omega) (by have := ho.2.1; omega) (by omega) hp3 ?_)
        refine fy_bi_z (fun y => ?_) (fun y => nm_e ?_)
        · rw [if_pos y] at h
          exact h
        · rw [if_neg (by rw [y]; decide)] at h
          rw [nI_1]
          exact ih (f + 1) n (b + 1) (c + 1) _ (by omega) (by omega) ho2 (by omega) (by omega) h
theorem fx_su {post : Int32 → SX → Prop} {F i b c : Nat} {D : Nat → Nat} {e : fy_E} (hF : F ≤ 12) (hi : i < 64) (hD : ∀ f, D f < 4) (hpa : pa i = nI (fy_en D 12)) (ho : fy_ok F b c e) (hb : b < 50000) (hc : c < 50000) (h : post (fy_bi (fy_su fl D i F 0 e).2) (xfc, xtc, nI F, xT, xn, nI ((fy_su fl D i F 0 e).1).1, nI ((fy_su fl D i F 0 e).1).2.2.2.1, sc, pc, dp, fl, mo, cl, rq, te, pa, ke, oc, ((fy_su fl D i F 0 e).1).2.1, ((fy_su fl D i F 0 e).1).2.2.1, ((fy_su fl D i F 0 e).1).2.2.2.2.1, ((fy_su fl D i F 0 e).1).2.2.2.2.2)) : wpX_setUpItem post (xfc, xtc, nI F, xT, xn, nI e.1, nI e.2.2.2.1, sc, pc, dp, fl, mo, cl, rq, te, pa, ke, oc, e.2.1, e.2.2.1, e.2.2.2.2.1, e.2.2.2.2.2) (nI i) := by
  unfold wpX_setUpItem
  exact ⟨F + 1, fx_su1 hF hi hD hpa F 0 (F + 1) b c e (by omega) (by omega) ho (by omega) (by omega) h⟩
theorem fx_la1 {post : Int32 → Prop} {F : Nat} {s : Int32} (hF : F ≤ 12) : ∀ (k g n : Nat), g + k = F → k < n → post (nI (fy_la s so F).1) → wX_latestOf_7 post s xfc xtc (nI F) xT xn xev xst sc pc dp fl mo cl rq te pa ke oc lg att al so n (nI (fy_la s so g).1) (fy_la s so g).2 (nI g) := by
  intro k
  induction k with
  | zero =>
    intro g n hk hn h
    obtain ⟨n, rfl⟩ : ∃ r, n = r + 1 := ⟨n - 1, by omega⟩
    have e : g = F := by omega
    subst e
    exact br_t (nI_le (Nat.le_refl _) (by omega)) h
  | succ k ih =>
    intro g n hk hn h
    obtain ⟨n, rfl⟩ : ∃ r, n = r + 1 := ⟨n - 1, by omega⟩
    have hi := ih (g + 1) n (by omega) (by omega) h
    have hv2 : vp_in (nI g) 12 := vp_in_nI (by omega) (by decide)
    have hc2 : (nI g).toNatClampNeg = g := nI_clamp (by omega)
    rw [fy_la] at hi
    refine br_f (nI_ge (by omega) (by omega)) (fx_has (by omega) (fy_bi_z (fun y => nm_e ?_) (fun y => ⟨hv2, ?_⟩)))
    · rw [if_neg (by rw [y]; simp)] at hi
      rw [nI_1]
      exact hi
    · rw [hc2]
      by_cases z : (fy_la s so g).2 < so g
      · rw [if_pos ⟨y, z⟩] at hi
        refine br_f (Int32.not_le.mpr z) ⟨hv2, nm_e (nm_e ?_)⟩
        rw [nI_1]
        exact hi
      · rw [if_neg (fun q => z q.2)] at hi
        refine br_t (Int32.not_lt.mp z) (nm_e ?_)
        rw [nI_1]
        exact hi
theorem fx_la {post : Int32 → Prop} {F : Nat} {s : Int32} (hF : F ≤ 12) (h : post (nI (fy_la s so F).1)) : wpX_latestOf post (xfc, xtc, nI F, xT, xn, xev, xst, sc, pc, dp, fl, mo, cl, rq, te, pa, ke, oc, lg, att, al, so) s := by
  unfold wpX_latestOf
  exact ⟨F + 1, fx_la1 hF F 0 (F + 1) (by omega) (by omega) h⟩
end
end
section
/-! X: teardown, an execution, a run -/
section
variable {xfc xtc xF xT xn xev xst : Int32} {sc pc dp fl mo cl rq te pa oc lg att al so : Nat → Int32} {ke : Nat → Int64}
/-- the items in their order: test and digits of each below m -/
def fx_it (m : Nat) (Tj : Nat → Nat) (Dj : Nat → Nat → Nat) (te pa : Nat → Int32) : Prop := ∀ j, j < m → Tj j < 16 ∧ te j = nI (Tj j) ∧ (∀ f, Dj j f < 4) ∧ pa j = nI (fy_en (Dj j) 12)
theorem fx_eb {post : Int32 → Prop} {m i g : Nat} {Tj : Nat → Nat} {Dj : Nat → Nat → Nat} (hm : m ≤ 64) (hi : i < m) (hg : g < 12) (hit : fx_it m Tj Dj te pa) (h : post (fy_bi (fy_eb sc mo cl Tj Dj m i al g))) : wpX_endsByItself post (xfc, xtc, xF, xT, nI m, xev, xst, sc, pc, dp, fl, mo, cl, rq, te, pa, ke, oc, lg, att, al, so) (nI i) (nI g) := by
  have vi : vp_in (nI i) 64 := vp_in_nI (by omega) (by decide)
  have ci : (nI i).toNatClampNeg = i := nI_clamp (by omega)
  have vg : vp_in (nI g) 12 := vp_in_nI (by omega) (by decide)
  have cg : (nI g).toNatClampNeg = g := nI_clamp (by omega)
  obtain ⟨t1, t2, -, -⟩ := hit i hi
  have vt : vp_in (nI (Tj i)) 16 := vp_in_nI t1 (by decide)
  have ct : (nI (Tj i)).toNatClampNeg = Tj i := nI_clamp (by omega)
  have pt : fy_eb sc mo cl Tj Dj m i al g = true → post 1 := fun z => by rw [z] at h; exact h
  have pf : fy_eb sc mo cl Tj Dj m i al g = false → post 0 := fun z => by rw [z] at h; exact h
  unfold wpX_endsByItself
  refine nm_r (nI_1 i) ⟨vg, ?_⟩
  rw [cg]
  by_cases z3 : sc g = 3
  · exact br_t z3 (pt (decide_eq_true (Or.inl z3)))
  refine br_f z3 (pk_lt (i + 1) m (fun hn => ⟨vp_in_nI (by omega) (by decide), ?_⟩) (fun hn => pt (decide_eq_true (Or.inr (Or.inl hn)))))
  have vn : vp_in (nI (i + 1)) 64 := vp_in_nI (by omega) (by decide)
  have cn : (nI (i + 1)).toNatClampNeg = i + 1 := nI_clamp (by omega)
  obtain ⟨n1, n2, n3, n4⟩ := hit (i + 1) hn
  have vu : vp_in (nI (Tj (i + 1))) 16 := vp_in_nI n1 (by decide)
  have cu : (nI (Tj (i + 1))).toNatClampNeg = Tj (i + 1) := nI_clamp (by omega)
  rw [cn, n4]
  have E : fy_eb sc mo cl Tj Dj m i al g = decide ((¬ Dj (i + 1) g = 0 ∧ ¬ nI (Dj (i + 1) g - 1) = al g) ∨ (sc g = 2 ∧ ¬ (mo (Tj i) = mo (Tj (i + 1)) ∧ cl (Tj i) = cl (Tj (i + 1)))) ∨ (sc g = 1 ∧ ¬ mo (Tj i) = mo (Tj (i + 1)))) := by
    unfold fy_eb
    exact decide_eq_decide.mpr ⟨fun q => q.elim (fun y => absurd y z3) (fun y => y.elim (fun w => by omega) id), fun q => Or.inr (Or.inr q)⟩
  have tail : ¬ (¬ Dj (i + 1) g = 0 ∧ ¬ nI (Dj (i + 1) g - 1) = al g) → wX_endsByItself_54 post (nI i) (nI g) (nI (i + 1)) xfc xtc xF xT (nI m) xev xst sc pc dp fl mo cl rq te pa ke oc lg att al so := by
    intro nw
    have E2 : fy_eb sc mo cl Tj Dj m i al g = decide ((sc g = 2 ∧ ¬ (mo (Tj i) = mo (Tj (i + 1)) ∧ cl (Tj i) = cl (Tj (i + 1)))) ∨ (sc g = 1 ∧ ¬ mo (Tj i) = mo (Tj (i + 1)))) := by
      rw [E]
      exact decide_eq_decide.mpr ⟨fun q => q.elim (fun y => absurd y nw) id, Or.inr⟩
    unfold wX_endsByItself_54
    rw [ci, cn, t2, n2, ct, cu]
    refine ⟨vi, vt, vn, vu, ?_⟩
    by_cases y1 : mo (Tj i) = mo (Tj (i + 1))
    · refine br_t y1 ?_
      unfold wX_endsByItself_84
      rw [ci, cn, t2, n2, ct, cu]
      refine br_f (by decide) ⟨vi, vt, vn, vu, ?_⟩
      by_cases y2 : cl (Tj i) = cl (Tj (i + 1))
      · refine br_t y2 ?_
        have pz := pf (by rw [E2]; exact decide_eq_false (fun q => q.elim (fun w => w.2 ⟨y1, y2⟩) (fun w => w.2 y1)))
        unfold wX_endsByItself_121
        rw [cg]
        refine ⟨vg, br_c (fun _ => br_f (by decide) ?_) (fun _ => ?_)⟩
        · unfold wX_endsByItself_138
          rw [cg]
          exact ⟨vg, br_c (fun _ => br_f (by decide) pz) (fun _ => pz)⟩
        · unfold wX_endsByItself_138
          rw [cg]
          exact ⟨vg, br_c (fun _ => br_f (by decide) pz) (fun _ => pz)⟩
      · refine br_f y2 ?_
        unfold wX_endsByItself_120 wX_endsByItself_121
        rw [cg]
        refine ⟨vg, br_c (fun w => br_t rfl (pt (by rw [E2]; exact decide_eq_true (Or.inl ⟨w, fun q => y2 q.2⟩)))) (fun w => ?_)⟩
        unfold wX_endsByItself_138
        rw [cg]
        have pz := pf (by rw [E2]; exact decide_eq_false (fun q => q.elim (fun v => w v.1) (fun v => v.2 y1)))
        exact ⟨vg, br_c (fun _ => br_f (by decide) pz) (fun _ => pz)⟩
    · refine br_f y1 ?_
      unfold wX_endsByItself_84
      refine br_t rfl ?_
      unfold wX_endsByItself_120 wX_endsByItself_121
      rw [cg]
      refine ⟨vg, br_c (fun w => br_t rfl (pt (by rw [E2]; exact decide_eq_true (Or.inl ⟨w, fun q => y1 q.1⟩)))) (fun w => ?_)⟩
      unfold wX_endsByItself_138
      rw [cg]
      exact ⟨vg, br_c (fun v => br_t rfl (pt (by rw [E2]; exact decide_eq_true (Or.inr ⟨v, y1⟩)))) (fun v => pf (by rw [E2]; exact decide_eq_false (fun q => q.elim (fun a => w a.1) (fun a => v a.1))))⟩
  refine fx_pin n3 hg (fy_ge (Dj (i + 1) g) (n3 g) (fun z => tail (fun q => q.1 z)) (fun p hp hp3 => ⟨vg, ?_⟩))
  rw [hp, fy_ms]
  by_cases y : nI p = al g
  · exact br_t y (tail (fun q => q.2 (by rw [hp, Nat.add_sub_cancel]; exact y)))
  · exact br_f y (pt (by rw [E]; exact decide_eq_true (Or.inl ⟨by omega, by rw [hp, Nat.add_sub_cancel]; exact y⟩)))
theorem fx_ed1 {post : Int32 → Prop} {F m i : Nat} {Tj : Nat → Nat} {Dj : Nat → Nat → Nat} (hF : F ≤ 12) (hm : m ≤ 64) (hi : i < m) (hit : fx_it m Tj Dj te pa) :
    ∀ (k g n : Nat), g + k = F → k < n → post (fy_ed dp al (fy_eb sc mo cl Tj Dj m i al) F) → wX_endingAfter_4 post (nI i) xfc xtc (nI F) xT (nI m) xev xst sc pc dp fl mo cl rq te pa ke oc lg att al so n (fy_ed dp al (fy_eb sc mo cl Tj Dj m i al) g) (nI g) := by
  intro k
  induction k with
  | zero =>
    intro g n hk hn h
    obtain ⟨n, rfl⟩ : ∃ r, n = r + 1 := ⟨n - 1, by omega⟩
    have e : g = F := by omega
    subst e
    exact br_t (nI_le (Nat.le_refl _) (by omega)) h
  | succ k ih =>
    intro g n hk hn h
    obtain ⟨n, rfl⟩ : ∃ r, n = r + 1 := ⟨n - 1, by omega⟩
    have hI := ih (g + 1) n (by omega) (by omega) h
    have vg : vp_in (nI g) 12 := vp_in_nI (by omega) (by decide)
    have cg : (nI g).toNatClampNeg = g := nI_clamp (by omega)
    rw [fy_ed] at hI
    refine br_f (nI_ge (by omega) (by omega)) ⟨vg, ?_⟩
    rw [cg]
    by_cases z : al g = -1
    · rw [if_neg (fun q => q.1 z)] at hI
      refine br_t z (nm_e ?_)
      rw [nI_1]
      exact hI
    · have join : (¬ (dp g &&& fy_ed dp al (fy_eb sc mo cl Tj Dj m i al) g) = 0 ∨ fy_eb sc mo cl Tj Dj m i al g = true) → wX_endingAfter_45 post (wX_endingAfter_4 post (nI i) xfc xtc (nI F) xT (nI m) xev xst sc pc dp fl mo cl rq te pa ke oc lg att al so n) (nI i) (fy_ed dp al (fy_eb sc mo cl Tj Dj m i al) g) (nI g) xfc xtc (nI F) xT (nI m) xev xst sc pc dp fl mo cl rq te pa ke oc lg att al so := by
        intro q
        rw [if_pos ⟨z, q⟩] at hI
        unfold wX_endingAfter_45
        refine nm_e (nm_e ?_)
        rw [nI_1]
        exact hI
      refine br_f z ⟨vg, ?_⟩
      by_cases y : (dp g &&& fy_ed dp al (fy_eb sc mo cl Tj Dj m i al) g) = 0
      · refine br_t y (fx_eb hm hi (by omega) hit (fy_bi_z (fun w => nm_e ?_) (fun w => join (Or.inr w))))
        rw [if_neg (fun q => q.2.elim (fun v => v y) (fun v => by rw [w] at v; exact absurd v (by decide)))] at hI
        rw [nI_1]
        exact hI
      · exact br_f y (join (Or.inl y))
theorem fx_ed {post : Int32 → Prop} {F m i : Nat} {Tj : Nat → Nat} {Dj : Nat → Nat → Nat} (hF : F ≤ 12) (hm : m ≤ 64) (hi : i < m) (hit : fx_it m Tj Dj te pa) (h : post (fy_ed dp al (fy_eb sc mo cl Tj Dj m i al) F)) : wpX_endingAfter post (xfc, xtc, nI F, xT, nI m, xev, xst, sc, pc, dp, fl, mo, cl, rq, te, pa, ke, oc, lg, att, al, so) (nI i) := by
  unfold wpX_endingAfter
  exact ⟨F + 1, fx_ed1 hF hm hi hit F 0 (F + 1) (by omega) (by omega) h⟩
theorem fx_td1 {post : SX → Prop} {F i : Nat} (hF : F ≤ 12) : ∀ (k x n b c : Nat) (s : Int32) (e : fy_E), x + k = F → k < n → fy_ok F b c e → b + k < 100000 → c < 100000 → (∀ g, bt s g = true → g < F ∧ ¬ e.2.2.2.2.1 g = -1) → post (xfc, xtc, nI F, xT, xn, nI ((fy_td F i k s e)).1, nI ((fy_td F i k s e)).2.2.2.1, sc, pc, dp, fl, mo, cl, rq, te, pa, ke, oc, ((fy_td F i k s e)).2.1, ((fy_td F i k s e)).2.2.1, ((fy_td F i k s e)).2.2.2.2.1, ((fy_td F i k s e)).2.2.2.2.2) →
    wX_tearDownAfter_8 post (nI i) n s (nI x) xfc xtc (nI F) xT xn (nI e.1) (nI e.2.2.2.1) sc pc dp fl mo cl rq te pa ke oc (e.2.1) (e.2.2.1) (e.2.2.2.2.1) (e.2.2.2.2.2) := by
  intro k
  induction k with
  | zero =>
    intro x n b c s e hk hn ho hb hcc hs h
    obtain ⟨n, rfl⟩ : ∃ r, n = r + 1 := ⟨n - 1, by omega⟩
    have ex : x = F := by omega
    subst ex
    exact br_t (nI_le (Nat.le_refl _) (by omega)) h
  | succ k ih =>
    intro x n b c s e hk hn ho hb hcc hs h
    obtain ⟨n, rfl⟩ : ∃ r, n = r + 1 := ⟨n - 1, by omega⟩
    rw [fy_td] at h
    refine br_f (nI_ge (by omega) (by omega)) ?_
    by_cases z : s = 0
    · rw [if_pos z] at h
      exact br_t z h
    · rw [if_neg z] at h
      have hpos : ∀ g, g < F → bt s g = true → (0 : Int32) < e.2.2.2.2.2 g := by
        intro g hg hb2
        rcases ho.2.2 g hg with y | ⟨-, t, t1, t2, t3⟩
        · exact absurd y (hs g hb2).2
        · rw [t3]
          have := ho.2.1
          exact nI_lt (a := 0) (by omega) (by omega)
      obtain ⟨w, w1, w2⟩ := fy_nz z
      have wF := (hs w w2).1
      rcases fy_la_p F hpos with ⟨a1, a2⟩ | ⟨a1, a2, a3, a4⟩
      · rw [a1 w wF] at w2
        exact absurd w2 (by decide)
      · have vg : vp_in (nI (fy_la s e.2.2.2.2.2 F).1) 12 := vp_in_nI (by omega) (by decide)
        have cg : (nI (fy_la s e.2.2.2.2.2 F).1).toNatClampNeg = (fy_la s e.2.2.2.2.2 F).1 := nI_clamp (by omega)
        refine br_f z (fx_la hF ⟨vg, ?_⟩)
        rw [cg]
        refine fx_log (by have := ho.1; omega) ⟨vg, nm_e (nm_e (nm_e ?_))⟩
        rw [nI_1]
        refine ih (x + 1) n (b + 1) c _ _ (by omega) (by omega) (fy_ok_of (fy_ok_lo ho)) (by omega) hcc (fun g hg => ?_) h
        have g32 : g < 32 := by
          rcases Nat.lt_or_ge g 32 with y | y
          · exact y
          · rw [b_big y] at hg
            exact absurd hg (by decide)
        rw [fy_clr s (by omega) g32, Bool.and_eq_true, Bool.not_eq_true', decide_eq_false_iff_not] at hg
        refine ⟨(hs g hg.1).1, ?_⟩
        show ¬ upd e.2.2.2.2.1 (fy_la s e.2.2.2.2.2 F).1 (-1) g = -1
        rw [pk_un hg.2]
        exact (hs g hg.1).2
theorem fy_ed_al {dp al : Nat → Int32} {eb : Nat → Bool} {F : Nat} (hF : F ≤ 12) : ∀ g, bt (fy_ed dp al eb F) g = true → g < F ∧ ¬ al g = -1 := by
  intro g hg
  rcases Nat.lt_or_ge g F with z | z
  · exact ⟨z, ((fy_ed_p (by omega) z).mp hg).1⟩
  · rw [fy_ed_hi F (by omega) g z] at hg
    exact absurd hg (by decide)
theorem fx_td {post : SX → Prop} {F m i b c : Nat} {Tj : Nat → Nat} {Dj : Nat → Nat → Nat} {e : fy_E} (hF : F ≤ 12) (hm : m ≤ 64) (hi : i < m) (hit : fx_it m Tj Dj te pa) (ho : fy_ok F b c e) (hb : b < 50000) (hcc : c < 50000)
    (h : post (xfc, xtc, nI F, xT, nI m, nI ((fy_td F i F (fy_ed dp e.2.2.2.2.1 (fy_eb sc mo cl Tj Dj m i e.2.2.2.2.1) F) e)).1, nI ((fy_td F i F (fy_ed dp e.2.2.2.2.1 (fy_eb sc mo cl Tj Dj m i e.2.2.2.2.1) F) e)).2.2.2.1, sc, pc, dp, fl, mo, cl, rq, te, pa, ke, oc, ((fy_td F i F (fy_ed dp e.2.2.2.2.1 (fy_eb sc mo cl Tj Dj m i e.2.2.2.2.1) F) e)).2.1, ((fy_td F i F (fy_ed dp e.2.2.2.2.1 (fy_eb sc mo cl Tj Dj m i e.2.2.2.2.1) F) e)).2.2.1, ((fy_td F i F (fy_ed dp e.2.2.2.2.1 (fy_eb sc mo cl Tj Dj m i e.2.2.2.2.1) F) e)).2.2.2.2.1, ((fy_td F i F (fy_ed dp e.2.2.2.2.1 (fy_eb sc mo cl Tj Dj m i e.2.2.2.2.1) F) e)).2.2.2.2.2)) : wpX_tearDownAfter post (xfc, xtc, nI F, xT, nI m, nI e.1, nI e.2.2.2.1, sc, pc, dp, fl, mo, cl, rq, te, pa, ke, oc, e.2.1, e.2.2.1, e.2.2.2.2.1, e.2.2.2.2.2) (nI i) := by
  unfold wpX_tearDownAfter
  refine fx_ed hF hm hi hit ⟨F + 1, ?_⟩
  exact fx_td1 hF F 0 (F + 1) b c _ e (by omega) (by omega) ho (by omega) (by omega) (fy_ed_al hF) h
theorem fx_cx2 {post : SX → Prop} : ∀ (k x n : Nat), x + k = 12 → k < n → post (xfc, xtc, xF, xT, xn, xev, xst, sc, pc, dp, fl, mo, cl, rq, te, pa, ke, oc, lg, att, fy_fill al (-1) 12, so) → wX_clearExecution_33 post xfc xtc xF xT xn xev xst n (nI x) sc pc dp fl mo cl rq te pa ke oc lg att (fy_fill al (-1) x) so := by
  intro k
  induction k with
  | zero =>
    intro x n hk hn h
    obtain ⟨n, rfl⟩ : ∃ r, n = r + 1 := ⟨n - 1, by omega⟩
    have e : x = 12 := by omega
    subst e
    exact br_t (by decide) h
  | succ k ih =>
    intro x n hk hn h
    obtain ⟨n, rfl⟩ : ∃ r, n = r + 1 := ⟨n - 1, by omega⟩
    refine br_f (nI_ge (b := 12) (by omega) (by decide)) ⟨vp_in_nI (by omega) (by decide), nm_e (nm_e ?_)⟩
    rw [nI_clamp (by omega), nI_1]
    exact ih (x + 1) n (by omega) (by omega) h
theorem fx_cx1 {post : SX → Prop} : ∀ (k x n : Nat), x + k = 36 → k < n → post (xfc, xtc, xF, xT, xn, xev, xst, sc, pc, dp, fl, mo, cl, rq, te, pa, ke, oc, lg, fy_fill att 0 36, fy_fill al (-1) 12, so) → wX_clearExecution_12 post xfc xtc xF xT xn xev xst n (nI x) sc pc dp fl mo cl rq te pa ke oc lg (fy_fill att 0 x) al so := by
  intro k
  induction k with
  | zero =>
    intro x n hk hn h
    obtain ⟨n, rfl⟩ : ∃ r, n = r + 1 := ⟨n - 1, by omega⟩
    have e : x = 36 := by omega
    subst e
    exact br_t (by decide) ⟨13, fx_cx2 12 0 13 (by omega) (by omega) h⟩
  | succ k ih =>
    intro x n hk hn h
    obtain ⟨n, rfl⟩ : ∃ r, n = r + 1 := ⟨n - 1, by omega⟩
    refine br_f (nI_ge (b := 36) (by omega) (by decide)) ⟨vp_in_nI (by omega) (by decide), nm_e (nm_e ?_)⟩
    rw [nI_clamp (by omega), nI_1]
    exact ih (x + 1) n (by omega) (by omega) h
/-- an execution's beginning -/
def fy_e0 (lg att al so : Nat → Int32) : fy_E := (0, lg, fy_fill att 0 36, 0, fy_fill al (-1) 12, so)
theorem fy_e0_ok {F : Nat} (hF : F ≤ 12) {lg att al so : Nat → Int32} : fy_ok F 0 0 (fy_e0 lg att al so) := ⟨Nat.le_refl 0, Nat.le_refl 0, fun f hf => Or.inl (fy_fill_e (by omega))⟩
theorem fx_cx {post : SX → Prop} (h : post (xfc, xtc, xF, xT, xn, nI (fy_e0 lg att al so).1, nI (fy_e0 lg att al so).2.2.2.1, sc, pc, dp, fl, mo, cl, rq, te, pa, ke, oc, (fy_e0 lg att al so).2.1, (fy_e0 lg att al so).2.2.1, (fy_e0 lg att al so).2.2.2.2.1, (fy_e0 lg att al so).2.2.2.2.2)) : wpX_clearExecution post (xfc, xtc, xF, xT, xn, xev, xst, sc, pc, dp, fl, mo, cl, rq, te, pa, ke, oc, lg, att, al, so) := by
  unfold wpX_clearExecution
  exact ⟨37, fx_cx1 36 0 37 (by omega) (by omega) h⟩
theorem fx_ex1 {post : SX → Prop} {F m : Nat} {Tj : Nat → Nat} {Dj : Nat → Nat → Nat} {e0 : fy_E} (hF : F ≤ 12) (hm : m ≤ 64) (hit : fx_it m Tj Dj te pa) (hD : ∀ j f, Dj j f < 4) (h0 : fy_ok F 0 0 e0)
    (h : ∀ oc : Nat → Int32, (∀ j, j < m → oc j = fy_ou fl sc mo cl dp Tj Dj m F e0 j) → post (xfc, xtc, nI F, xT, nI m, nI ((fy_ex fl sc mo cl dp Tj Dj m F e0 m)).1, nI ((fy_ex fl sc mo cl dp Tj Dj m F e0 m)).2.2.2.1, sc, pc, dp, fl, mo, cl, rq, te, pa, ke, oc, ((fy_ex fl sc mo cl dp Tj Dj m F e0 m)).2.1, ((fy_ex fl sc mo cl dp Tj Dj m F e0 m)).2.2.1, ((fy_ex fl sc mo cl dp Tj Dj m F e0 m)).2.2.2.2.1, ((fy_ex fl sc mo cl dp Tj Dj m F e0 m)).2.2.2.2.2)) :
    ∀ (k i n : Nat) (oc : Nat → Int32), i + k = m → k < n → (∀ j, j < i → oc j = fy_ou fl sc mo cl dp Tj Dj m F e0 j) →
    wX_executeItems_6 post n (nI i) xfc xtc (nI F) xT (nI m) (nI ((fy_ex fl sc mo cl dp Tj Dj m F e0 i)).1) (nI ((fy_ex fl sc mo cl dp Tj Dj m F e0 i)).2.2.2.1) sc pc dp fl mo cl rq te pa ke oc (((fy_ex fl sc mo cl dp Tj Dj m F e0 i)).2.1) (((fy_ex fl sc mo cl dp Tj Dj m F e0 i)).2.2.1) (((fy_ex fl sc mo cl dp Tj Dj m F e0 i)).2.2.2.2.1) (((fy_ex fl sc mo cl dp Tj Dj m F e0 i)).2.2.2.2.2) := by
  intro k
  induction k with
  | zero =>
    intro i n oc hk hn ho
    obtain ⟨n, rfl⟩ : ∃ r, n = r + 1 := ⟨n - 1, by omega⟩
    have e : i = m := by omega
    subst e
    exact br_t (nI_le (Nat.le_refl _) (by omega)) (h oc ho)
  | succ k ih =>
    intro i n oc hk hn ho
    obtain ⟨n, rfl⟩ : ∃ r, n = r + 1 := ⟨n - 1, by omega⟩
    obtain ⟨-, -, -, hpa⟩ := hit i (by omega)
    have hok := fy_ok_ex (fl := fl) (sc := sc) (mo := mo) (cl := cl) (dp := dp) (T := Tj) (n := m) hF hD h0 i
    have hok2 := fy_ok_su (fl := fl) (i := i) (hD i) F 0 _ _ _ hok
    have st : ∀ b : Bool, (fy_su fl (Dj i) i F 0 (fy_ex fl sc mo cl dp Tj Dj m F e0 i)).2 = b → ∀ j, j < i + 1 → upd oc i (if b = true then 1 else 2) j = fy_ou fl sc mo cl dp Tj Dj m F e0 j := by
      intro b hb j hj
      by_cases e : j = i
      · subst e
        rw [pk_us]
        unfold fy_ou
        rw [hb]
      · rw [pk_un e]
        exact ho j (by omega)
    refine br_f (nI_ge (by omega) (by omega)) ?_
    refine fx_su hF (by omega) (hD i) hpa hok (by omega) (by omega) ?_
    refine fy_bi_z (fun y => ?_) (fun y => ?_)
    · unfold wX_executeItems_32
      refine ⟨vp_in_nI (by omega) (by decide), nm_e ?_⟩
      rw [nI_clamp (by omega)]
      refine fx_td hF hm (by omega) hit hok2 (by omega) (by omega) (nm_e ?_)
      rw [nI_1]
      exact ih (i + 1) n _ (by omega) (by omega) (st false y)
    · unfold wX_executeItems_32
      refine ⟨vp_in_nI (by omega) (by decide), nm_e ?_⟩
      rw [nI_clamp (by omega)]
      refine fx_td hF hm (by omega) hit hok2 (by omega) (by omega) (nm_e ?_)
      rw [nI_1]
      exact ih (i + 1) n _ (by omega) (by omega) (st true y)
theorem fx_ex {post : SX → Prop} {F m : Nat} {Tj : Nat → Nat} {Dj : Nat → Nat → Nat} (hF : F ≤ 12) (hm : m ≤ 64) (hit : fx_it m Tj Dj te pa) (hD : ∀ j f, Dj j f < 4)
    (h : ∀ oc : Nat → Int32, (∀ j, j < m → oc j = fy_ou fl sc mo cl dp Tj Dj m F (fy_e0 lg att al so) j) → post (xfc, xtc, nI F, xT, nI m, nI ((fy_ex fl sc mo cl dp Tj Dj m F (fy_e0 lg att al so) m)).1, nI ((fy_ex fl sc mo cl dp Tj Dj m F (fy_e0 lg att al so) m)).2.2.2.1, sc, pc, dp, fl, mo, cl, rq, te, pa, ke, oc, ((fy_ex fl sc mo cl dp Tj Dj m F (fy_e0 lg att al so) m)).2.1, ((fy_ex fl sc mo cl dp Tj Dj m F (fy_e0 lg att al so) m)).2.2.1, ((fy_ex fl sc mo cl dp Tj Dj m F (fy_e0 lg att al so) m)).2.2.2.2.1, ((fy_ex fl sc mo cl dp Tj Dj m F (fy_e0 lg att al so) m)).2.2.2.2.2)) :
    wpX_executeItems post (xfc, xtc, nI F, xT, nI m, xev, xst, sc, pc, dp, fl, mo, cl, rq, te, pa, ke, oc, lg, att, al, so) := by
  unfold wpX_executeItems
  refine fx_cx ⟨m + 1, ?_⟩
  exact fx_ex1 hF hm hit hD (fy_e0_ok hF) h m 0 (m + 1) oc (by omega) (by omega) (fun j hj => absurd hj (Nat.not_lt_zero j))
theorem fx_kj_b {F T : Nat} (hF : F ≤ 12) (hT : T ≤ 16) (hp : fy_nb pc F 3) (hm : fy_nb mo T 3) (hc : fy_nb cl T 3) {j : Nat} (h0 : 0 < T) : fx_kj sc pc dp mo cl rq F T j < 2 ^ 63 := by
  have ht : fx_tj dp rq pc F T j < T := fy_tf_lt T j h0
  have h1 := (hm _ ht).2
  have h2 := (hc _ ht).2
  have h3 := (fy_ky_b (sc := sc) (pc := pc) (P := fx_dj dp rq pc F T j) (fun f => fx_dj_4 hp j f) hF (show fy_n mo (fx_tj dp rq pc F T j) < 4 by omega) (show fy_n cl (fx_tj dp rq pc F T j) < 4 by omega) (show fx_tj dp rq pc F T j < 16 by omega)).2
  exact Nat.lt_trans h3 (by decide)
/-- X's run -/
theorem fx_run {post : Int32 → SX → Prop} {F T : Nat} (hF : F ≤ 12) (hT : T ≤ 16) (hp : fy_nb pc F 3) (hm : fy_nb mo T 3) (hc : fy_nb cl T 3)
    (h1 : 64 < fy_tt (fx_g dp rq pc F) T → post (-1) (xfc, xtc, nI F, nI T, xn, xev, xst, sc, pc, dp, fl, mo, cl, rq, te, pa, ke, oc, lg, att, al, so))
    (h2 : fy_tt (fx_g dp rq pc F) T ≤ 64 → ∀ (s : Nat → Nat) (te pa : Nat → Int32) (ke : Nat → Int64) (oc : Nat → Int32), fy_So (fx_kj sc pc dp mo cl rq F T) (fy_tt (fx_g dp rq pc F) T) s →
      (∀ q, q < fy_tt (fx_g dp rq pc F) T → te q = nI (fx_tj dp rq pc F T (s q)) ∧ pa q = nI (fy_en (fx_dj dp rq pc F T (s q)) 12)) →
      (∀ j, j < fy_tt (fx_g dp rq pc F) T → oc j = fy_ou fl sc mo cl dp (fun q => fx_tj dp rq pc F T (s q)) (fun q => fx_dj dp rq pc F T (s q)) (fy_tt (fx_g dp rq pc F) T) F (fy_e0 lg att al so) j) →
      post (nI (fy_tt (fx_g dp rq pc F) T)) (xfc, xtc, nI F, nI T, nI (fy_tt (fx_g dp rq pc F) T), nI ((fy_ex fl sc mo cl dp (fun q => fx_tj dp rq pc F T (s q)) (fun q => fx_dj dp rq pc F T (s q)) (fy_tt (fx_g dp rq pc F) T) F (fy_e0 lg att al so) (fy_tt (fx_g dp rq pc F) T))).1, nI ((fy_ex fl sc mo cl dp (fun q => fx_tj dp rq pc F T (s q)) (fun q => fx_dj dp rq pc F T (s q)) (fy_tt (fx_g dp rq pc F) T) F (fy_e0 lg att al so) (fy_tt (fx_g dp rq pc F) T))).2.2.2.1, sc, pc, dp, fl, mo, cl, rq, te, pa, ke, oc, ((fy_ex fl sc mo cl dp (fun q => fx_tj dp rq pc F T (s q)) (fun q => fx_dj dp rq pc F T (s q)) (fy_tt (fx_g dp rq pc F) T) F (fy_e0 lg att al so) (fy_tt (fx_g dp rq pc F) T))).2.1, ((fy_ex fl sc mo cl dp (fun q => fx_tj dp rq pc F T (s q)) (fun q => fx_dj dp rq pc F T (s q)) (fy_tt (fx_g dp rq pc F) T) F (fy_e0 lg att al so) (fy_tt (fx_g dp rq pc F) T))).2.2.1, ((fy_ex fl sc mo cl dp (fun q => fx_tj dp rq pc F T (s q)) (fun q => fx_dj dp rq pc F T (s q)) (fy_tt (fx_g dp rq pc F) T) F (fy_e0 lg att al so) (fy_tt (fx_g dp rq pc F) T))).2.2.2.2.1, ((fy_ex fl sc mo cl dp (fun q => fx_tj dp rq pc F T (s q)) (fun q => fx_dj dp rq pc F T (s q)) (fy_tt (fx_g dp rq pc F) T) F (fy_e0 lg att al so) (fy_tt (fx_g dp rq pc F) T))).2.2.2.2.2)) :
    wpX_run post (xfc, xtc, nI F, nI T, xn, xev, xst, sc, pc, dp, fl, mo, cl, rq, te, pa, ke, oc, lg, att, al, so) := by
  have hb : fy_tt (fx_g dp rq pc F) T ≤ T * 531441 := fy_tt_b T (fun t _ => Nat.le_trans (fy_ct_b hp F (Nat.le_refl F)).2 (fy_3p hF))
  unfold wpX_run
  refine fx_ca hF hT hp (pk_le (fy_tt (fx_g dp rq pc F) T) 64 (fun z => ?_) (fun z => h1 z))
  refine fx_co hF hT hp hm hc z (fun te1 pa1 ke1 hcol => ?_)
  have hT0 : ∀ j, j < fy_tt (fx_g dp rq pc F) T → 0 < T := by
    intro j hj
    rcases Nat.eq_zero_or_pos T with y | y
    · subst y
      exact absurd hj (Nat.not_lt_zero j)
    · exact y
  refine fx_so z (fun j hj => ⟨(hcol j hj).2.2, fx_kj_b hF hT hp hm hc (hT0 j hj)⟩) (fun s te2 pa2 ke2 a1 a2 a3 => ?_)
  have hit : fx_it (fy_tt (fx_g dp rq pc F) T) (fun q => fx_tj dp rq pc F T (s q)) (fun q => fx_dj dp rq pc F T (s q)) te2 pa2 := by
    intro q hq
    have hs := a1.1 q hq
    have ht : fx_tj dp rq pc F T (s q) < T := fy_tf_lt T _ (hT0 q hq)
    exact ⟨Nat.lt_of_lt_of_le ht hT, by rw [a2 q hq]; exact (hcol _ hs).1, fun f => fx_dj_4 hp _ f, by rw [a3 q hq]; exact (hcol _ hs).2.1⟩
  refine fx_ex hF z hit (fun j f => fx_dj_4 hp _ f) (fun oc1 ho => ?_)
  exact h2 z s te2 pa2 ke2 oc1 a1 (fun q hq => ⟨(hit q hq).2.1, (hit q hq).2.2.2⟩) ho
end
end
section
/-! Y: closure, product, one item -/
theorem fy_nr1 : vp_nar .boolean 1 = 1 := rfl
theorem fy_nr0 : vp_nar .boolean 0 = 0 := rfl
theorem fy_nrb (b : Bool) : vp_nar .boolean (fy_bi b) = fy_bi b := by cases b <;> rfl
section
variable {yfc ytc yF yT yrf yn yev yst : Int32} {sc pc yd fl mo cl yr c tt tp us od it ip io lg att av ap so nt : Nat → Int32}
theorem fz_md1 {post : Int32 → SY → Prop} {dp : Nat → Int32} {S : Nat → Bool} {f : Nat} (hf : f < 12) (hyd : ∀ f g, f < 12 → g < 12 → yd (f * 12 + g) = fy_bi (bt (dp f) g)) (hd : ∀ g, bt (dp f) g = true → g < f)
    (h : ∀ (c : Nat → Int32) (ch : Int32), (∀ g, g < 12 → c g = fy_bi (S g || bt (dp f) g)) → (ch = 0 ∨ ch = 1) → (ch = 0 → ∀ g, g < 12 → (S g || bt (dp f) g) = S g) → post ch (yfc, ytc, yF, yT, yrf, yn, yev, yst, sc, pc, yd, fl, mo, cl, yr, c, tt, tp, us, od, it, ip, io, lg, att, av, ap, so, nt)) :
    ∀ (k d n : Nat) (c : Nat → Int32) (ch : Int32), d + k = f → k < n → (∀ g, g < 12 → c g = fy_bi (S g || (decide (g < d) && bt (dp f) g))) → (ch = 0 ∨ ch = 1) → (ch = 0 → ∀ g, g < d → (S g || bt (dp f) g) = S g) →
    wY_markDeps_4 post (nI f) yfc ytc yF yT yrf yn yev yst n ch (nI d) sc pc yd fl mo cl yr c tt tp us od it ip io lg att av ap so nt := by
  intro k
  induction k with
  | zero =>
    intro d n c ch hk hn h1 h2 h3
    obtain ⟨n, rfl⟩ : ∃ r, n = r + 1 := ⟨n - 1, by omega⟩
    have e : d = f := by omega
    subst e
    have e2 : ∀ g, (decide (g < d) && bt (dp d) g) = bt (dp d) g := by
      intro g
      cases hb : bt (dp d) g
      · rw [Bool.and_false]
      · rw [decide_eq_true (hd g hb), Bool.and_true]
    have H := h c ch (fun g hg => by rw [h1 g hg, e2]) h2 (fun z g hg => by
      rcases Nat.lt_or_ge g d with y | y
      · exact h3 z g y
      · cases hb : bt (dp d) g
        · rw [Bool.or_false]
        · have := hd g hb; omega)
    refine br_t (nI_le (Nat.le_refl _) (by omega)) ⟨?_, H⟩
    rcases h2 with z | z <;> rw [z] <;> rfl
  | succ k ih =>
    intro d n c ch hk hn h1 h2 h3
    obtain ⟨n, rfl⟩ : ∃ r, n = r + 1 := ⟨n - 1, by omega⟩
    have hv : vp_in (nI (f * 12 + d)) 144 := vp_in_nI (by omega) (by decide)
    have hc : (nI (f * 12 + d)).toNatClampNeg = f * 12 + d := nI_clamp (by omega)
    have hv2 : vp_in (nI d) 12 := vp_in_nI (by omega) (by decide)
    have hc2 : (nI d).toNatClampNeg = d := nI_clamp (by omega)
    have hx : nI f * 12 + nI d = nI (f * 12 + d) := by rw [← nI_add, ← pk_mul]; rfl
    refine br_f (nI_ge (by omega) (by omega)) (br_f (nI_ge (b := 12) (by omega) (by decide)) ?_)
    rw [hx, hc, hyd f d hf (by omega), hc2]
    have hS : ∀ g, g < 12 → g ≠ d → (decide (g < d + 1) && bt (dp f) g) = (decide (g < d) && bt (dp f) g) := by
      intro g _ hg
      rw [show decide (g < d + 1) = decide (g < d) from decide_eq_decide.mpr ⟨fun h => by omega, fun h => by omega⟩]
    refine ⟨hv, fy_bi_z (fun y => nm_e ?_) (fun y => ⟨hv2, ?_⟩)⟩
    · rw [nI_1]
      refine ih (d + 1) n c ch (by omega) (by omega) (fun g hg => ?_) h2 (fun z g hg => ?_)
      · by_cases e : g = d
        · subst e; rw [h1 g hg, y, Bool.and_false, Bool.and_false]
        · rw [h1 g hg, hS g hg e]
      · by_cases e : g = d
        · subst e; rw [y, Bool.or_false]
        · exact h3 z g (by omega)
    · rw [h1 d (by omega), decide_eq_false (Nat.lt_irrefl d), Bool.false_and, Bool.or_false]
      cases hs : S d
      · refine br_t rfl ⟨hv2, nm_e (nm_e ?_)⟩
        rw [nI_1, fy_nr1]
        refine ih (d + 1) n _ 1 (by omega) (by omega) (fun g hg => ?_) (Or.inr rfl) (fun z => absurd z (by decide))
        by_cases e : g = d
        · subst e; rw [pk_us, y, hs, decide_eq_true (Nat.lt_succ_self g)]; rfl
        · rw [pk_un e, h1 g hg, hS g hg e]
      · refine br_f (by decide) (nm_e ?_)
        rw [nI_1]
        refine ih (d + 1) n c ch (by omega) (by omega) (fun g hg => ?_) h2 (fun z g hg => ?_)
        · by_cases e : g = d
          · subst e; rw [h1 g hg, hs, Bool.true_or, Bool.true_or]
          · rw [h1 g hg, hS g hg e]
        · by_cases e : g = d
          · subst e; rw [hs, Bool.true_or]
          · exact h3 z g (by omega)
theorem fz_md {post : Int32 → SY → Prop} {dp : Nat → Int32} {S : Nat → Bool} {f : Nat} (hf : f < 12) (hyd : ∀ f g, f < 12 → g < 12 → yd (f * 12 + g) = fy_bi (bt (dp f) g)) (hd : ∀ g, bt (dp f) g = true → g < f) (hc : ∀ g, g < 12 → c g = fy_bi (S g))
    (h : ∀ (c : Nat → Int32) (ch : Int32), (∀ g, g < 12 → c g = fy_bi (S g || bt (dp f) g)) → (ch = 0 ∨ ch = 1) → (ch = 0 → ∀ g, g < 12 → (S g || bt (dp f) g) = S g) → post ch (yfc, ytc, yF, yT, yrf, yn, yev, yst, sc, pc, yd, fl, mo, cl, yr, c, tt, tp, us, od, it, ip, io, lg, att, av, ap, so, nt)) : wpY_markDeps post (yfc, ytc, yF, yT, yrf, yn, yev, yst, sc, pc, yd, fl, mo, cl, yr, c, tt, tp, us, od, it, ip, io, lg, att, av, ap, so, nt) (nI f) := by
  unfold wpY_markDeps
  exact ⟨f + 1, fz_md1 hf hyd hd h f 0 (f + 1) c 0 (by omega) (by omega) (fun g hg => by rw [hc g hg, decide_eq_false (Nat.not_lt_zero g), Bool.false_and, Bool.or_false]) (Or.inl rfl) (fun _ g hg => absurd hg (Nat.not_lt_zero g))⟩
/-- what a round leaves: the set at its start, the set now, below f all marked -/
def fz_rd (dp : Nat → Int32) (K : Nat → Prop) (S0 S : Nat → Bool) (f : Nat) (ch : Int32) : Prop :=
  (∀ g, S0 g = true → S g = true) ∧ (∀ g, S g = true → K g) ∧ (∀ e, e < f → S0 e = true → ∀ g, bt (dp e) g = true → S g = true) ∧ (ch = 0 ∨ ch = 1) ∧ (ch = 0 → ∀ g, g < 12 → S g = S0 g)
theorem fz_cc3 {post : SY → Prop} {dp : Nat → Int32} {q : Int32} {K : Nat → Prop} {F : Nat} {S0 : Nat → Bool} {x2 : Int32} {J : Int32 → Int32 → Int32 → Int32 → Int32 → Int32 → Int32 → Int32 → Int32 → (Nat → Int32) → (Nat → Int32) → (Nat → Int32) → (Nat → Int32) → (Nat → Int32) → (Nat → Int32) → (Nat → Int32) → (Nat → Int32) → (Nat → Int32) → (Nat → Int32) → (Nat → Int32) → (Nat → Int32) → (Nat → Int32) → (Nat → Int32) → (Nat → Int32) → (Nat → Int32) → (Nat → Int32) → (Nat → Int32) → (Nat → Int32) → (Nat → Int32) → (Nat → Int32) → Prop}
    (hF : F ≤ 12) (hyd : ∀ f g, f < 12 → g < 12 → yd (f * 12 + g) = fy_bi (bt (dp f) g)) (hd : ∀ f, f < F → ∀ g, bt (dp f) g = true → g < f) (hK : fy_K dp q F K)
    (hq : ∀ (S : Nat → Bool) (c : Nat → Int32), (∀ g, g < 12 → c g = fy_bi (S g)) → fz_rd dp K S0 S F 0 → post (yfc, ytc, nI F, yT, yrf, yn, yev, yst, sc, pc, yd, fl, mo, cl, yr, c, tt, tp, us, od, it, ip, io, lg, att, av, ap, so, nt))
    (hJ : ∀ (S : Nat → Bool) (c : Nat → Int32), (∀ g, g < 12 → c g = fy_bi (S g)) → fz_rd dp K S0 S F 1 → J (x2 + 1) yfc ytc (nI F) yT yrf yn yev yst sc pc yd fl mo cl yr c tt tp us od it ip io lg att av ap so nt) :
    ∀ (k f n : Nat) (S : Nat → Bool) (c : Nat → Int32) (ch : Int32), f + k = F → k < n → (∀ g, g < 12 → c g = fy_bi (S g)) → fz_rd dp K S0 S f ch →
    wY_computeClosure_60 post J x2 n ch (nI f) yfc ytc (nI F) yT yrf yn yev yst sc pc yd fl mo cl yr c tt tp us od it ip io lg att av ap so nt := by
  intro k
  induction k with
  | zero =>
    intro f n S c ch hk hn hc h
    obtain ⟨n, rfl⟩ : ∃ r, n = r + 1 := ⟨n - 1, by omega⟩
    have e : f = F := by omega
    subst e
    refine br_t (nI_le (Nat.le_refl _) (by omega)) ?_
    rcases h.2.2.2.1 with z | z
    · subst z
      exact br_t rfl (hq S c hc h)
    · subst z
      exact br_f (by decide) (nm_e (hJ S c hc h))
  | succ k ih =>
    intro f n S c ch hk hn hc h
    obtain ⟨n, rfl⟩ : ∃ r, n = r + 1 := ⟨n - 1, by omega⟩
    have hv2 : vp_in (nI f) 12 := vp_in_nI (by omega) (by decide)
    have hc2 : (nI f).toNatClampNeg = f := nI_clamp (by omega)
    obtain ⟨h1, h2, h3, h4, h5⟩ := h
    refine br_f (nI_ge (by omega) (by omega)) ⟨hv2, ?_⟩
    rw [hc2, hc f (by omega)]
    refine fy_bi_z (fun y => nm_e ?_) (fun y => fz_md (by omega) hyd (hd f (by omega)) hc (fun c' ch' a1 a2 a3 => ?_))
    · rw [nI_1]
      refine ih (f + 1) n S c ch (by omega) (by omega) hc ⟨h1, h2, fun e he hs g hg => ?_, h4, h5⟩
      by_cases ef : e = f
      · subst ef
        rw [h1 e hs] at y
        exact absurd y (by decide)
      · exact h3 e (by omega) hs g hg
    · have H : fz_rd dp K S0 (fun g => S g || bt (dp f) g) (f + 1) (if ch' = 0 then ch else 1) := by
        refine ⟨fun g hg => ?_, fun g hg => ?_, fun e he hs g hg => ?_, ?_, fun z g hg => ?_⟩
        · show (S g || bt (dp f) g) = true
          rw [h1 g hg, Bool.true_or]
        · rw [Bool.or_eq_true] at hg
          rcases hg with hg | hg
          · exact h2 g hg
          · exact (hK g).mpr (Or.inr ⟨f, by omega, h2 f y, hg⟩)
        · by_cases ef : e = f
          · subst ef
            show (S g || bt (dp e) g) = true
            rw [hg, Bool.or_true]
          · show (S g || bt (dp f) g) = true
            rw [h3 e (by omega) hs g hg, Bool.true_or]
        · split
          · exact h4
          · exact Or.inr rfl
        · by_cases z2 : ch' = 0
          · rw [if_pos z2] at z
            show (S g || bt (dp f) g) = S0 g
            rw [a3 z2 g hg, h5 z g hg]
          · rw [if_neg z2] at z
            exact absurd z (by decide)
      by_cases z2 : ch' = 0
      · rw [if_pos z2] at H
        refine br_t z2 (nm_e ?_)
        rw [nI_1]
        exact ih (f + 1) n _ c' ch (by omega) (by omega) a1 H
      · rw [if_neg z2] at H
        refine br_f z2 (nm_e ?_)
        rw [nI_1]
        exact ih (f + 1) n _ c' 1 (by omega) (by omega) a1 H
theorem fz_cc2 {post : SY → Prop} {dp : Nat → Int32} {q : Int32} {K : Nat → Prop} {F : Nat}
    (hF : F ≤ 12) (hyd : ∀ f g, f < 12 → g < 12 → yd (f * 12 + g) = fy_bi (bt (dp f) g)) (hd : ∀ f, f < F → ∀ g, bt (dp f) g = true → g < f) (hK : fy_K dp q F K) (hqF : ∀ g, bt q g = true → g < F)
    (h : ∀ (S : Nat → Bool) (c : Nat → Int32), (∀ g, g < 12 → c g = fy_bi (S g)) → (∀ g, S g = true ↔ K g) → post (yfc, ytc, nI F, yT, yrf, yn, yev, yst, sc, pc, yd, fl, mo, cl, yr, c, tt, tp, us, od, it, ip, io, lg, att, av, ap, so, nt)) :
    ∀ (k r n : Nat) (S : Nat → Bool) (c : Nat → Int32), r + k = 13 → k < n → (∀ g, g < 12 → c g = fy_bi (S g)) → fy_R q F K r S →
    wY_computeClosure_49 post n (nI r) yfc ytc (nI F) yT yrf yn yev yst sc pc yd fl mo cl yr c tt tp us od it ip io lg att av ap so nt := by
  intro k
  induction k with
  | zero =>
    intro r n S c hk hn hc hR
    obtain ⟨n, rfl⟩ : ∃ r, n = r + 1 := ⟨n - 1, by omega⟩
    have e : r = 13 := by omega
    subst e
    exact br_t (by decide) (h S c hc (fy_Re hK hd hqF hR (Or.inl (by omega))))
  | succ k ih =>
    intro r n S c hk hn hc hR
    obtain ⟨n, rfl⟩ : ∃ r, n = r + 1 := ⟨n - 1, by omega⟩
    refine br_f (nI_nlt (a := 12) (b := r) (by omega) (by decide)) ⟨F + 1, ?_⟩
    refine fz_cc3 (S0 := S) hF hyd hd hK (fun S1 c1 a1 a2 => ?_) (fun S1 c1 a1 a2 => ?_) F 0 (F + 1) S c 0 (by omega) (by omega) hc ⟨fun g hg => hg, hR.2.1, fun e he => absurd he (Nat.not_lt_zero e), Or.inl rfl, fun _ _ _ => rfl⟩
    · obtain ⟨h1, h2, h3, h4, h5⟩ := a2
      refine h S c1 (fun g hg => by rw [a1 g hg, h5 rfl g hg]) (fy_Re hK hd hqF hR (Or.inr (fun f hf hs g hg => ?_)))
      have := hd f hf g hg
      rw [← h5 rfl g (by omega)]
      exact h3 f hf hs g hg
    · obtain ⟨h1, h2, h3, h4, h5⟩ := a2
      rw [nI_1]
      exact ih (r + 1) n S1 c1 (by omega) (by omega) a1 (fy_Rs hK hd hR h1 h2 h3)
theorem fz_cp1 {post : Int32 → Prop} {F : Nat} {C : Int32} (hF : F ≤ 12) (hp : fy_nb pc F 3) (hc : ∀ g, g < 12 → c g = fy_bi (bt C g)) : ∀ (k f n : Nat), f + k = F → k < n → post (nI (fy_ct C pc F)) → wY_closureProduct_4 post yfc ytc (nI F) yT yrf yn yev yst sc pc yd fl mo cl yr c tt tp us od it ip io lg att av ap so nt n (nI (fy_ct C pc f)) (nI f) := by
  intro k
  induction k with
  | zero =>
    intro f n hk hn h
    obtain ⟨n, rfl⟩ : ∃ q, n = q + 1 := ⟨n - 1, by omega⟩
    have e : f = F := by omega
    subst e
    exact br_t (nI_le (Nat.le_refl _) (by omega)) h
  | succ k ih =>
    intro f n hk hn h
    obtain ⟨n, rfl⟩ : ∃ q, n = q + 1 := ⟨n - 1, by omega⟩
    have hi := ih (f + 1) n (by omega) (by omega) h
    rw [fy_ct] at hi
    obtain ⟨pe, pb⟩ := hp f (by omega)
    have hv2 : vp_in (nI f) 12 := vp_in_nI (by omega) (by decide)
    have hc2 : (nI f).toNatClampNeg = f := nI_clamp (by omega)
    refine br_f (nI_ge (by omega) (by omega)) ⟨hv2, ?_⟩
    rw [hc2, hc f (by omega)]
    refine fy_bi_z (fun hb => nm_e ?_) (fun hb => ⟨hv2, ?_⟩)
    · rw [if_neg (by rw [hb]; decide)] at hi
      rw [nI_1]
      exact hi
    · rw [if_pos hb] at hi
      rw [pe]
      unfold fy_vl at hi
      refine pk_lt (fy_n pc f) 1 (fun z => nm_e ?_) (fun z => ⟨hv2, nm_e (nm_e ?_)⟩)
      · rw [if_pos (by omega), Nat.mul_one] at hi
        rw [nI_1]
        exact hi
      · rw [if_neg (by omega)] at hi
        rw [pk_mul, nI_1]
        exact hi
theorem fz_cp {post : Int32 → Prop} {F : Nat} {C : Int32} (hF : F ≤ 12) (hp : fy_nb pc F 3) (hc : ∀ g, g < 12 → c g = fy_bi (bt C g)) (h : post (nI (fy_ct C pc F))) : wpY_closureProduct post (yfc, ytc, nI F, yT, yrf, yn, yev, yst, sc, pc, yd, fl, mo, cl, yr, c, tt, tp, us, od, it, ip, io, lg, att, av, ap, so, nt) := by
  unfold wpY_closureProduct
  exact ⟨F + 1, fz_cp1 hF hp hc F 0 (F + 1) (by omega) (by omega) h⟩
theorem fz_cc1 {post : SY → Prop} {F t : Nat} {q : Int32} (hF : F ≤ 12) (ht : t < 16) (hyr : ∀ g, g < 12 → yr (t * 12 + g) = fy_bi (bt q g)) (hq : ∀ g, bt q g = true → g < F)
    (h : ∀ c : Nat → Int32, (∀ g, g < 12 → c g = fy_bi (bt q g)) → ∃ n, wY_computeClosure_49 post n 0 yfc ytc (nI F) yT yrf yn yev yst sc pc yd fl mo cl yr c tt tp us od it ip io lg att av ap so nt) :
    ∀ (k f n : Nat) (c : Nat → Int32), f + k = 12 → k < n → (∀ g, g < f → c g = fy_bi (bt q g)) → wY_computeClosure_2 post (nI t) yfc ytc (nI F) yT yrf yn yev yst n (nI f) sc pc yd fl mo cl yr c tt tp us od it ip io lg att av ap so nt := by
  intro k
  induction k with
  | zero =>
    intro f n c hk hn h1
    obtain ⟨n, rfl⟩ : ∃ r, n = r + 1 := ⟨n - 1, by omega⟩
    have e : f = 12 := by omega
    subst e
    exact br_t (by decide) (h c h1)
  | succ k ih =>
    intro f n c hk hn h1
    obtain ⟨n, rfl⟩ : ∃ r, n = r + 1 := ⟨n - 1, by omega⟩
    have hv : vp_in (nI (t * 12 + f)) 192 := vp_in_nI (by omega) (by decide)
    have hc : (nI (t * 12 + f)).toNatClampNeg = t * 12 + f := nI_clamp (by omega)
    have hv2 : vp_in (nI f) 12 := vp_in_nI (by omega) (by decide)
    have hc2 : (nI f).toNatClampNeg = f := nI_clamp (by omega)
    have hx : nI t * 12 + nI f = nI (t * 12 + f) := by rw [← nI_add, ← pk_mul]; rfl
    have st : ∀ b : Bool, bt q f = b → ∀ g, g < f + 1 → upd c f (fy_bi b) g = fy_bi (bt q g) := by
      intro b hb g hg
      by_cases e : g = f
      · subst e
        rw [pk_us, hb]
      · rw [pk_un e]
        exact h1 g (by omega)
    refine br_f (nI_ge (b := 12) (by omega) (by decide)) ?_
    rw [hx, hc, hyr f (by omega), hc2]
    refine pk_le F f (fun z => ⟨hv2, nm_e (nm_e ?_)⟩) (fun z => ⟨hv, fy_bi_z (fun y => ⟨hv2, nm_e (nm_e ?_)⟩) (fun y => ⟨hv2, nm_e (nm_e ?_)⟩)⟩)
    · rw [nI_1]
      refine ih (f + 1) n _ (by omega) (by omega) (st false ?_)
      cases hb : bt q f
      · rfl
      · have := hq f hb
        omega
    · rw [nI_1]
      exact ih (f + 1) n _ (by omega) (by omega) (st false y)
    · rw [nI_1]
      exact ih (f + 1) n _ (by omega) (by omega) (st true y)
theorem fz_cc {post : SY → Prop} {dp : Nat → Int32} {q : Int32} {F t : Nat} (hF : F ≤ 12) (ht : t < 16) (hyd : ∀ f g, f < 12 → g < 12 → yd (f * 12 + g) = fy_bi (bt (dp f) g)) (hd : ∀ f, f < F → ∀ g, bt (dp f) g = true → g < f) (hyr : ∀ g, g < 12 → yr (t * 12 + g) = fy_bi (bt q g)) (hq : ∀ g, bt q g = true → g < F)
    (h : ∀ c : Nat → Int32, (∀ g, g < 12 → c g = fy_bi (bt (fy_go dp F q) g)) → post (yfc, ytc, nI F, yT, yrf, yn, yev, yst, sc, pc, yd, fl, mo, cl, yr, c, tt, tp, us, od, it, ip, io, lg, att, av, ap, so, nt)) : wpY_computeClosure post (yfc, ytc, nI F, yT, yrf, yn, yev, yst, sc, pc, yd, fl, mo, cl, yr, c, tt, tp, us, od, it, ip, io, lg, att, av, ap, so, nt) (nI t) := by
  unfold wpY_computeClosure
  refine ⟨13, fz_cc1 hF ht hyr hq (fun c1 h1 => ⟨14, ?_⟩) 12 0 13 c (by omega) (by omega) (fun g hg => absurd hg (Nat.not_lt_zero g))⟩
  have hK := fy_go_K (d := dp) (q := q) hd
  refine fz_cc2 hF hyd hd hK hq (fun S c2 a1 a2 => h c2 (fun g hg => ?_)) 13 0 14 (fun g => bt q g) c1 (by omega) (by omega) h1 (fy_R0 hK hd)
  rw [a1 g hg]
  exact congrArg fy_bi (Bool.eq_iff_iff.mpr (a2 g))
theorem fz_em1 {post : SY → Prop} {F m sl : Nat} {C : Int32} {tp0 : Nat → Int32} (hF : F ≤ 12) (hm : m < 2 ^ 31) (hsl : sl < 64) (hp : fy_nb pc F 3) (hc : ∀ g, g < 12 → c g = fy_bi (bt C g)) (hC : ∀ g, F ≤ g → bt C g = false)
    (h : ∀ tp : Nat → Int32, (∀ f, f < 12 → tp (sl * 12 + f) = nI (fy_dg C pc F m f) - 1) → (∀ j, j < sl * 12 → tp j = tp0 j) → post (yfc, ytc, nI F, yT, yrf, yn, yev, yst, sc, pc, yd, fl, mo, cl, yr, c, tt, tp, us, od, it, ip, io, lg, att, av, ap, so, nt)) :
    ∀ (k f n : Nat) (tp : Nat → Int32), f + k = 12 → k < n → (∀ g, g < f → tp (sl * 12 + g) = nI (fy_dg C pc F m g) - 1) → (∀ j, j < sl * 12 → tp j = tp0 j) →
    wY_emitItem_13 post (nI sl) yfc ytc (nI F) yT yrf yn yev yst n (nI (fy_rs C pc m f)) (nI f) sc pc yd fl mo cl yr c tt tp us od it ip io lg att av ap so nt := by
  intro k
  induction k with
  | zero =>
    intro f n tp hk hn h1 h2
    obtain ⟨n, rfl⟩ : ∃ r, n = r + 1 := ⟨n - 1, by omega⟩
    have e : f = 12 := by omega
    subst e
    exact br_t (by decide) (h tp h1 h2)
  | succ k ih =>
    intro f n tp hk hn h1 h2
    obtain ⟨n, rfl⟩ : ∃ r, n = r + 1 := ⟨n - 1, by omega⟩
    have hv : vp_in (nI (sl * 12 + f)) 768 := vp_in_nI (by omega) (by decide)
    have hcl : (nI (sl * 12 + f)).toNatClampNeg = sl * 12 + f := nI_clamp (by omega)
    have hv2 : vp_in (nI f) 12 := vp_in_nI (by omega) (by decide)
    have hc2 : (nI f).toNatClampNeg = f := nI_clamp (by omega)
    have hx : nI sl * 12 + nI f = nI (sl * 12 + f) := by rw [← nI_add, ← pk_mul]; rfl
    have hr := fy_rs_le C pc m f
    have st : ∀ x y : Int32, y = nI (fy_rs C pc m (f + 1)) → x = nI (fy_dg C pc F m f) - 1 → wY_emitItem_82 post (wY_emitItem_13 post (nI sl) yfc ytc (nI F) yT yrf yn yev yst n) (nI sl) y (nI f) x yfc ytc (nI F) yT yrf yn yev yst sc pc yd fl mo cl yr c tt tp us od it ip io lg att av ap so nt := by
      intro x y hy hx2
      unfold wY_emitItem_82
      rw [hx]
      refine ⟨hv, nm_e (nm_e ?_)⟩
      rw [hcl, nI_1, hy]
      refine ih (f + 1) n _ (by omega) (by omega) (fun g hg => ?_) (fun j hj => ?_)
      · by_cases e : g = f
        · subst e
          rw [pk_us, hx2]
        · rw [pk_un (by omega)]
          exact h1 g (by omega)
      · rw [pk_un (by omega)]
        exact h2 j hj
    refine br_f (nI_ge (b := 12) (by omega) (by decide)) (pk_le F f (fun z => ?_) (fun z => ⟨hv2, ?_⟩))
    · have hb := hC f z
      refine st _ _ ?_ ?_
      · rw [fy_rs, if_neg (by rw [hb]; decide)]
      · rw [fy_dg_0 z, fy_m0]
    · rw [hc2, hc f (by omega)]
      obtain ⟨pe, pb⟩ := hp f z
      refine fy_bi_z (fun y => ?_) (fun y => ⟨hv2, ?_⟩)
      · refine st _ _ ?_ ?_
        · rw [fy_rs, if_neg (by rw [y]; decide)]
        · have e : fy_dg C pc F m f = 0 := by unfold fy_dg; rw [if_neg (by rw [y]; simp)]
          rw [e, fy_m0]
      · rw [pe]
        have e : fy_dg C pc F m f = fy_rs C pc m f % fy_vl pc f + 1 := if_pos ⟨z, y⟩
        refine pk_eq (fy_n pc f) 0 (fun w => ?_) (fun w => ⟨hv2, nI_ne0 (by omega) (by omega), nm_e ⟨hv2, nI_ne0 (by omega) (by omega), nm_e ?_⟩⟩)
        · have ev : fy_vl pc f = 1 := if_pos w
          refine st _ _ ?_ ?_
          · rw [fy_rs, if_pos y, ev, Nat.div_one]
          · rw [e, ev, Nat.mod_one, fy_ms]; rfl
        · have ev : fy_vl pc f = fy_n pc f := if_neg w
          refine st _ _ ?_ ?_
          · rw [fy_rs, if_pos y, ev, pk_div (by omega) (by omega) (by omega)]
          · rw [e, ev, fy_ms, pk_rem (by omega) (by omega) (by omega)]
theorem fz_em {post : SY → Prop} {F m sl t : Nat} {C : Int32} (hF : F ≤ 12) (hm : m < 2 ^ 31) (hsl : sl < 64) (hp : fy_nb pc F 3) (hc : ∀ g, g < 12 → c g = fy_bi (bt C g)) (hC : ∀ g, F ≤ g → bt C g = false)
    (h : ∀ tp1 : Nat → Int32, (∀ f, f < 12 → tp1 (sl * 12 + f) = nI (fy_dg C pc F m f) - 1) → (∀ j, j < sl * 12 → tp1 j = tp j) → post (yfc, ytc, nI F, yT, yrf, yn, yev, yst, sc, pc, yd, fl, mo, cl, yr, c, upd tt sl (nI t), tp1, us, od, it, ip, io, lg, att, av, ap, so, nt)) : wpY_emitItem post (yfc, ytc, nI F, yT, yrf, yn, yev, yst, sc, pc, yd, fl, mo, cl, yr, c, tt, tp, us, od, it, ip, io, lg, att, av, ap, so, nt) (nI t) (nI m) (nI sl) := by
  unfold wpY_emitItem
  refine ⟨vp_in_nI hsl (by decide), nm_e ⟨13, ?_⟩⟩
  rw [nI_clamp (by omega)]
  exact fz_em1 hF hm hsl hp hc hC h 12 0 13 tp (by omega) (by omega) (fun g hg => absurd hg (Nat.not_lt_zero g)) (fun j hj => rfl)
end
end
section
/-! Y: comparing two slots, and choosing the least that is left -/
section
variable {yfc ytc yF yT yrf yn yev yst : Int32} {sc pc yd fl mo cl yr c tt tp us od it ip io lg att av ap so nt : Nat → Int32}
def fz_x (mo cl : Nat → Int32) (s : Int32) (t : Nat) : Int32 := if s = 0 then mo t else if s = 1 then cl t else nI t
theorem fz_c10 {post : Int32 → Prop} {J : Int32 → Prop} {s : Int32} {F a b ta tb ka kb : Nat} {P Q : Nat → Nat} (hF : F ≤ 12) (ha : a < 64) (hb : b < 64) (hta : tt a = nI ta) (htb : tt b = nI tb) (ba : ta < 16) (bb : tb < 16)
    (hPa : ∀ f, f < 12 → tp (a * 12 + f) = nI (P f) - 1) (hPb : ∀ f, f < 12 → tp (b * 12 + f) = nI (Q f) - 1) (hP : ∀ f, P f < 4) (hQ : ∀ f, Q f < 4)
    (hlt : fy_ap (fy_sl sc pc s) P ka F < fy_ap (fy_sl sc pc s) Q kb F → post (-1)) (hgt : fy_ap (fy_sl sc pc s) Q kb F < fy_ap (fy_sl sc pc s) P ka F → post 1)
    (heq : fy_ap (fy_sl sc pc s) P ka F = fy_ap (fy_sl sc pc s) Q kb F → wY_compare_172 post J (nI a) (nI b) s (fz_x mo cl s ta) (fz_x mo cl s tb) yfc ytc (nI F) yT yrf yn yev yst sc pc yd fl mo cl yr c tt tp us od it ip io lg att av ap so nt) :
    ∀ (k f n : Nat), f + k = F → k < n → fy_ap (fy_sl sc pc s) P ka f = fy_ap (fy_sl sc pc s) Q kb f → wY_compare_10 post J (nI a) (nI b) s yfc ytc (nI F) yT yrf yn yev yst sc pc yd fl mo cl yr c tt tp us od it ip io lg att av ap so nt n (nI f) := by
  have va : vp_in (nI a) 64 := vp_in_nI ha (by decide)
  have vb : vp_in (nI b) 64 := vp_in_nI hb (by decide)
  have vta : vp_in (nI ta) 16 := vp_in_nI ba (by decide)
  have vtb : vp_in (nI tb) 16 := vp_in_nI bb (by decide)
  have ca : (nI a).toNatClampNeg = a := nI_clamp (by omega)
  have cb : (nI b).toNatClampNeg = b := nI_clamp (by omega)
  have cta : (nI ta).toNatClampNeg = ta := nI_clamp (by omega)
  have ctb : (nI tb).toNatClampNeg = tb := nI_clamp (by omega)
  intro k
  induction k with
  | zero =>
    intro f n hk hn he
    obtain ⟨n, rfl⟩ : ∃ r, n = r + 1 := ⟨n - 1, by omega⟩
    have e : f = F := by omega
    subst e
    have H := heq he
    rw [wY_compare_10]
    simp only [ca, cb, hta, htb, cta, ctb]
    refine br_t (nI_le (Nat.le_refl _) (by omega)) ⟨va, nm_e ⟨vb, nm_e ?_⟩⟩
    unfold fz_x at H
    by_cases z : s = 0
    · rw [if_pos z, if_pos z] at H
      refine br_t z ⟨va, vta, nm_e ⟨vb, vtb, nm_e ?_⟩⟩
      unfold wY_compare_141
      exact br_f (fun y => by rw [z] at y; exact absurd y (by decide)) H
    · rw [if_neg z, if_neg z] at H
      refine br_f z ?_
      unfold wY_compare_141
      simp only [ca, cb, hta, htb, cta, ctb]
      by_cases y : s = 1
      · rw [if_pos y, if_pos y] at H
        exact br_t y ⟨va, vta, nm_e ⟨vb, vtb, nm_e H⟩⟩
      · rw [if_neg y, if_neg y] at H
        exact br_f y H
  | succ k ih =>
    intro f n hk hn he
    obtain ⟨n, rfl⟩ : ∃ r, n = r + 1 := ⟨n - 1, by omega⟩
    have hv2 : vp_in (nI f) 12 := vp_in_nI (by omega) (by decide)
    have hc2 : (nI f).toNatClampNeg = f := nI_clamp (by omega)
    have xa : nI a * 12 + nI f = nI (a * 12 + f) := by rw [← nI_add, ← pk_mul]; rfl
    have xb : nI b * 12 + nI f = nI (b * 12 + f) := by rw [← nI_add, ← pk_mul]; rfl
    have wa : vp_in (nI (a * 12 + f)) 768 := vp_in_nI (by omega) (by decide)
    have wb : vp_in (nI (b * 12 + f)) 768 := vp_in_nI (by omega) (by decide)
    have da : (nI (a * 12 + f)).toNatClampNeg = a * 12 + f := nI_clamp (by omega)
    have db : (nI (b * 12 + f)).toNatClampNeg = b * 12 + f := nI_clamp (by omega)
    have h1 := hP f
    have h2 := hQ f
    have s1 : fy_ap (fy_sl sc pc s) P ka (f + 1) = if fy_sl sc pc s f = true then fy_ap (fy_sl sc pc s) P ka f * 4 + P f else fy_ap (fy_sl sc pc s) P ka f := rfl
    have s2 : fy_ap (fy_sl sc pc s) Q kb (f + 1) = if fy_sl sc pc s f = true then fy_ap (fy_sl sc pc s) Q kb f * 4 + Q f else fy_ap (fy_sl sc pc s) Q kb f := rfl
    have skip : fy_sl sc pc s f = false → wY_compare_10 post J (nI a) (nI b) s yfc ytc (nI F) yT yrf yn yev yst sc pc yd fl mo cl yr c tt tp us od it ip io lg att av ap so nt n (nI f + 1) := by
      intro e
      rw [if_neg (by rw [e]; decide)] at s1 s2
      rw [nI_1]
      exact ih (f + 1) n (by omega) (by omega) (by rw [s1, s2, he])
    rw [wY_compare_10]
    simp only [hc2, xa, xb, da, db, hPa f (by omega), hPb f (by omega)]
    refine br_f (nI_ge (by omega) (by omega)) ⟨hv2, ?_⟩
    by_cases z2 : pc f < 1
    · exact br_t z2 (nm_e (skip (by unfold fy_sl; rw [decide_eq_false (p := 1 ≤ pc f) (by rw [Int32.not_le]; exact z2), Bool.and_false])))
    · refine br_f z2 ⟨hv2, ?_⟩
      by_cases z1 : sc f = s
      · have e : fy_sl sc pc s f = true := by unfold fy_sl; rw [decide_eq_true z1, decide_eq_true (p := 1 ≤ pc f) (Int32.not_lt.mp z2)]; rfl
        rw [if_pos e] at s1 s2
        refine br_t z1 ⟨wa, nm_e ⟨wb, nm_e ?_⟩⟩
        by_cases y : P f = Q f
        · refine br_t (by rw [y]) (nm_e ?_)
          rw [nI_1]
          exact ih (f + 1) n (by omega) (by omega) (by rw [s1, s2, he, y])
        · have dec : ∀ m l : Fin 4, m ≠ l → ¬ (nI m.val - 1 = nI l.val - 1) ∧ (nI l.val - 1 ≤ nI m.val - 1 ↔ l.val ≤ m.val) := by decide +kernel
          obtain ⟨d1, d2⟩ := dec ⟨P f, h1⟩ ⟨Q f, h2⟩ (fun q => y (congrArg Fin.val q))
          refine br_f d1 ?_
          by_cases w : Q f ≤ P f
          · exact br_t (d2.mpr w) (hgt (fy_ap_lt hQ (f := f + 1) (by omega) F (by omega)))
          · exact br_f (fun q => w (d2.mp q)) (hlt (fy_ap_lt hP (f := f + 1) (by omega) F (by omega)))
      · exact br_f z1 (nm_e (skip (by unfold fy_sl; rw [decide_eq_false z1, Bool.false_and])))
theorem fz_172 {post : Int32 → Prop} {J : Int32 → Prop} {s x1 x2 : Int32} {A B : Nat} (s' : Int32) (es : s + 1 = s') (hs : ¬ 3 ≤ s) (bA : A < 2 ^ 31) (bB : B < 2 ^ 31) (hlt : A < B → post (-1)) (hgt : B < A → post 1) (heq : A = B → J s') : wY_compare_172 post J x1 x2 s (nI A) (nI B) yfc ytc yF yT yrf yn yev yst sc pc yd fl mo cl yr c tt tp us od it ip io lg att av ap so nt := by
  unfold wY_compare_172
  refine br_f hs (pk_eq A B (fun e => nm_r es (heq e)) (fun e => pk_le B A (fun z => hgt (by omega)) (fun z => hlt z)))
theorem fz_cmp {post : Int32 → Prop} {F T a b ta tb : Nat} {P Q : Nat → Nat} (hF : F ≤ 12) (hT : T ≤ 16) (ha : a < 64) (hb : b < 64) (hta : tt a = nI ta) (htb : tt b = nI tb) (ba : ta < T) (bb : tb < T)
    (hPa : ∀ f, f < 12 → tp (a * 12 + f) = nI (P f) - 1) (hPb : ∀ f, f < 12 → tp (b * 12 + f) = nI (Q f) - 1) (hP : ∀ f, P f < 4) (hQ : ∀ f, Q f < 4) (hm : fy_nb mo T 3) (hc : fy_nb cl T 3)
    (h : post (fy_cp (fy_ky sc pc F (fy_n mo ta) (fy_n cl ta) ta P) (fy_ky sc pc F (fy_n mo tb) (fy_n cl tb) tb Q))) : wpY_compare post (yfc, ytc, nI F, yT, yrf, yn, yev, yst, sc, pc, yd, fl, mo, cl, yr, c, tt, tp, us, od, it, ip, io, lg, att, av, ap, so, nt) (nI a) (nI b) := by
  obtain ⟨ma, na⟩ := hm ta ba
  obtain ⟨mb, nb⟩ := hm tb bb
  obtain ⟨ca, da⟩ := hc ta ba
  obtain ⟨cb, db⟩ := hc tb bb
  unfold fy_ky at h
  have Lt : fy_ap (fy_sl sc pc 3) P (fy_ap (fy_sl sc pc 2) P (fy_ap (fy_sl sc pc 1) P (fy_ap (fy_sl sc pc 0) P 0 F * 4 + fy_n mo ta) F * 4 + fy_n cl ta) F * 16 + ta) F < fy_ap (fy_sl sc pc 3) Q (fy_ap (fy_sl sc pc 2) Q (fy_ap (fy_sl sc pc 1) Q (fy_ap (fy_sl sc pc 0) Q 0 F * 4 + fy_n mo tb) F * 4 + fy_n cl tb) F * 16 + tb) F → post (-1) := fun z => by unfold fy_cp at h; rw [if_pos z] at h; exact h
  have Gt : fy_ap (fy_sl sc pc 3) Q (fy_ap (fy_sl sc pc 2) Q (fy_ap (fy_sl sc pc 1) Q (fy_ap (fy_sl sc pc 0) Q 0 F * 4 + fy_n mo tb) F * 4 + fy_n cl tb) F * 16 + tb) F < fy_ap (fy_sl sc pc 3) P (fy_ap (fy_sl sc pc 2) P (fy_ap (fy_sl sc pc 1) P (fy_ap (fy_sl sc pc 0) P 0 F * 4 + fy_n mo ta) F * 4 + fy_n cl ta) F * 16 + ta) F → post 1 := fun z => by unfold fy_cp at h; rw [if_neg (by omega), if_pos z] at h; exact h
  have Eq : fy_ap (fy_sl sc pc 3) P (fy_ap (fy_sl sc pc 2) P (fy_ap (fy_sl sc pc 1) P (fy_ap (fy_sl sc pc 0) P 0 F * 4 + fy_n mo ta) F * 4 + fy_n cl ta) F * 16 + ta) F = fy_ap (fy_sl sc pc 3) Q (fy_ap (fy_sl sc pc 2) Q (fy_ap (fy_sl sc pc 1) Q (fy_ap (fy_sl sc pc 0) Q 0 F * 4 + fy_n mo tb) F * 4 + fy_n cl tb) F * 16 + tb) F → post 0 := fun z => by unfold fy_cp at h; rw [if_neg (by omega), if_neg (by omega)] at h; exact h
  clear h
  generalize e0 : fy_ap (fy_sl sc pc 0) P 0 F = A0 at *
  generalize f0 : fy_ap (fy_sl sc pc 0) Q 0 F = B0 at *
  generalize e1 : fy_ap (fy_sl sc pc 1) P (A0 * 4 + fy_n mo ta) F = A1 at *
  generalize f1 : fy_ap (fy_sl sc pc 1) Q (B0 * 4 + fy_n mo tb) F = B1 at *
  generalize e2 : fy_ap (fy_sl sc pc 2) P (A1 * 4 + fy_n cl ta) F = A2 at *
  generalize f2 : fy_ap (fy_sl sc pc 2) Q (B1 * 4 + fy_n cl tb) F = B2 at *
  have l5 : A2 * 16 + ta < B2 * 16 + tb → post (-1) := fun z => Lt (fy_ap_st hP z F)
  have g5 : B2 * 16 + tb < A2 * 16 + ta → post 1 := fun z => Gt (fy_ap_st hQ z F)
  have l3 : A1 * 4 + fy_n cl ta < B1 * 4 + fy_n cl tb → post (-1) := fun z => l5 (by have := fy_ap_st (sel := fy_sl sc pc 2) (Q := Q) hP z F; omega)
  have g3 : B1 * 4 + fy_n cl tb < A1 * 4 + fy_n cl ta → post 1 := fun z => g5 (by have := fy_ap_st (sel := fy_sl sc pc 2) (Q := P) hQ z F; omega)
  have l1 : A0 * 4 + fy_n mo ta < B0 * 4 + fy_n mo tb → post (-1) := fun z => l3 (by have := fy_ap_st (sel := fy_sl sc pc 1) (Q := Q) hP z F; omega)
  have g1 : B0 * 4 + fy_n mo tb < A0 * 4 + fy_n mo ta → post 1 := fun z => g3 (by have := fy_ap_st (sel := fy_sl sc pc 1) (Q := P) hQ z F; omega)
  unfold wpY_compare
  refine ⟨5, br_f (by decide) ⟨F + 1, fz_c10 (ka := 0) (kb := 0) hF ha hb hta htb (by omega) (by omega) hPa hPb hP hQ (fun z => l1 (by omega)) (fun z => g1 (by omega)) (fun z => ?_) F 0 (F + 1) (by omega) (by omega) rfl⟩⟩
  have z0 : A0 = B0 := by omega
  rw [show fz_x mo cl 0 ta = nI (fy_n mo ta) from ma, show fz_x mo cl 0 tb = nI (fy_n mo tb) from mb]
  refine fz_172 1 (by decide) (by decide) (by omega) (by omega) (fun y => l1 (by omega)) (fun y => g1 (by omega)) (fun m1 => ?_)
  refine br_f (by decide) ⟨F + 1, fz_c10 (ka := A0 * 4 + fy_n mo ta) (kb := B0 * 4 + fy_n mo tb) hF ha hb hta htb (by omega) (by omega) hPa hPb hP hQ (fun z => l3 (by omega)) (fun z => g3 (by omega)) (fun z => ?_) F 0 (F + 1) (by omega) (by omega) (show A0 * 4 + fy_n mo ta = B0 * 4 + fy_n mo tb by omega)⟩
  have z1 : A1 = B1 := by omega
  rw [show fz_x mo cl 1 ta = nI (fy_n cl ta) from ca, show fz_x mo cl 1 tb = nI (fy_n cl tb) from cb]
  refine fz_172 2 (by decide) (by decide) (by omega) (by omega) (fun y => l3 (by omega)) (fun y => g3 (by omega)) (fun m2 => ?_)
  refine br_f (by decide) ⟨F + 1, fz_c10 (ka := A1 * 4 + fy_n cl ta) (kb := B1 * 4 + fy_n cl tb) hF ha hb hta htb (by omega) (by omega) hPa hPb hP hQ (fun z => l5 (by omega)) (fun z => g5 (by omega)) (fun z => ?_) F 0 (F + 1) (by omega) (by omega) (show A1 * 4 + fy_n cl ta = B1 * 4 + fy_n cl tb by omega)⟩
  have z2 : A2 = B2 := by omega
  rw [show fz_x mo cl 2 ta = nI ta from rfl, show fz_x mo cl 2 tb = nI tb from rfl]
  refine fz_172 3 (by decide) (by decide) (by omega) (by omega) (fun y => l5 (by omega)) (fun y => g5 (by omega)) (fun m3 => ?_)
  refine br_f (by decide) ⟨F + 1, fz_c10 (ka := A2 * 16 + ta) (kb := B2 * 16 + tb) hF ha hb hta htb (by omega) (by omega) hPa hPb hP hQ Lt Gt (fun z => ?_) F 0 (F + 1) (by omega) (by omega) (show A2 * 16 + ta = B2 * 16 + tb by omega)⟩
  unfold wY_compare_172
  exact br_t (by decide) (nm_e (br_t (by decide) (Eq z)))
end
end
section
/-! Y: choosing the least that is left, copying -/
section
variable {yfc ytc yF yT yrf yn yev yst : Int32} {sc pc yd fl mo cl yr c tt tp us od it ip io lg att av ap so nt : Nat → Int32}
/-- what the slots hold: test and digits of each below m -/
def fz_sl (T m : Nat) (tj : Nat → Nat) (dj : Nat → Nat → Nat) (tt tp : Nat → Int32) : Prop := ∀ j, j < m → tj j < T ∧ tt j = nI (tj j) ∧ (∀ f, dj j f < 4) ∧ ∀ f, f < 12 → tp (j * 12 + f) = nI (dj j f) - 1
/-- used are those that stand in the first pos places -/
def fz_us (m pos : Nat) (s : Nat → Nat) (us : Nat → Int32) : Prop := ∀ j, j < m → (us j = 0 ∧ ∀ q, q < pos → s q ≠ j) ∨ (¬ us j = 0 ∧ ∃ q, q < pos ∧ s q = j)
theorem fz_se2 {post : Int32 → SY → Prop} {J : Int32 → (Nat → Int32) → (Nat → Int32) → (Nat → Int32) → (Nat → Int32) → (Nat → Int32) → (Nat → Int32) → (Nat → Int32) → (Nat → Int32) → (Nat → Int32) → (Nat → Int32) → (Nat → Int32) → (Nat → Int32) → (Nat → Int32) → (Nat → Int32) → (Nat → Int32) → (Nat → Int32) → (Nat → Int32) → (Nat → Int32) → (Nat → Int32) → (Nat → Int32) → (Nat → Int32) → Prop} {F T m pos : Nat} {tj s : Nat → Nat} {dj : Nat → Nat → Nat} (hF : F ≤ 12) (hT : T ≤ 16) (hm : m ≤ 64) (hp : pos < m) (hmo : fy_nb mo T 3) (hcl : fy_nb cl T 3) (hsl : fz_sl T m tj dj tt tp)
    (hs : fy_So (fun j => fy_ky sc pc F (fy_n mo (tj j)) (fy_n cl (tj j)) (tj j) (dj j)) m s) (hu : fz_us m pos s us)
    (hJ : J (nI (pos + 1)) sc pc yd fl mo cl yr c tt tp (upd us (s pos) 1) (upd od pos (nI (s pos))) it ip io lg att av ap so nt) :
    ∀ (k j n : Nat) (best : Int32), j + k = m → k < n → ((best = -1 ∧ ∀ i, i < j → ∃ q, q < pos ∧ s q = i) ∨ (∃ b, best = nI b ∧ b < j ∧ (∀ q, q < pos → s q ≠ b) ∧ ∀ i, i < j → (∀ q, q < pos → s q ≠ i) → i = b ∨ fy_L (fun j => fy_ky sc pc F (fy_n mo (tj j)) (fy_n cl (tj j)) (tj j) (dj j)) b i)) →
    wY_run_134 post J (nI m) (nI pos) yfc ytc (nI F) yT yrf yn yev yst sc pc yd fl mo cl yr c tt tp us od it ip io lg att av ap so nt n best (nI j) := by
  intro k
  induction k with
  | zero =>
    intro j n best hk hn h
    obtain ⟨n, rfl⟩ : ∃ r, n = r + 1 := ⟨n - 1, by omega⟩
    have e : j = m := by omega
    subst e
    refine br_t (nI_le (Nat.le_refl _) (by omega)) ?_
    have hsp := hs.1 pos hp
    rcases h with ⟨h1, h2⟩ | ⟨b, h1, h2, h3, h4⟩
    · obtain ⟨q, hq, eq⟩ := h2 (s pos) hsp
      have := fy_inj hs (by omega) hp eq
      omega
    · have eb : b = s pos := fy_sel hs hp h2 h3 h4
      subst h1
      refine br_t (nI_pos' (by omega)) ?_
      unfold wY_run_184
      refine ⟨vp_in_nI (by omega) (by decide), nm_e ⟨vp_in_nI (by omega) (by decide), nm_e (nm_e ?_)⟩⟩
      rw [nI_clamp (by omega), nI_clamp (by omega), nI_1, eb, fy_nr1]
      exact hJ
  | succ k ih =>
    intro j n best hk hn h
    obtain ⟨n, rfl⟩ : ∃ r, n = r + 1 := ⟨n - 1, by omega⟩
    have hc2 : (nI j).toNatClampNeg = j := nI_clamp (by omega)
    refine br_f (nI_ge (by omega) (by omega)) ⟨vp_in_nI (by omega) (by decide), ?_⟩
    rw [hc2]
    rcases hu j (by omega) with ⟨u1, u2⟩ | ⟨u1, u2⟩
    · refine br_t u1 ?_
      rcases h with ⟨h1, h2⟩ | ⟨b, h1, h2, h3, h4⟩
      · subst h1
        refine br_t (by decide) (nm_e ?_)
        rw [nI_1]
        refine ih (j + 1) n _ (by omega) (by omega) (Or.inr ⟨j, rfl, by omega, u2, fun i hi hq => ?_⟩)
        by_cases e : i = j
        · exact Or.inl e
        · obtain ⟨q, a1, a2⟩ := h2 i (by omega)
          exact absurd a2 (hq q a1)
      · subst h1
        obtain ⟨a1, a2, a3, a4⟩ := hsl j (by omega)
        obtain ⟨b1, b2, b3, b4⟩ := hsl b (by omega)
        refine br_f (nI_pos (by omega)) ?_
        refine fz_cmp hF hT (by omega) (by omega) a2 b2 a1 b1 a4 b4 a3 b3 hmo hcl ?_
        by_cases z : fy_ky sc pc F (fy_n mo (tj j)) (fy_n cl (tj j)) (tj j) (dj j) < fy_ky sc pc F (fy_n mo (tj b)) (fy_n cl (tj b)) (tj b) (dj b)
        · refine br_f (by rw [Int32.not_le]; exact (fy_cp_lt _ _).mpr z) (nm_e ?_)
          rw [nI_1]
          refine ih (j + 1) n _ (by omega) (by omega) (Or.inr ⟨j, rfl, by omega, u2, fun i hi hq => ?_⟩)
          by_cases e : i = j
          · exact Or.inl e
          · rcases h4 i (by omega) hq with y | y
            · subst y
              exact Or.inr (Or.inl z)
            · exact Or.inr (fy_L_t (Or.inl z) y)
        · refine br_t (by rw [← Int32.not_lt]; exact fun q => z ((fy_cp_lt _ _).mp q)) (nm_e ?_)
          rw [nI_1]
          refine ih (j + 1) n _ (by omega) (by omega) (Or.inr ⟨b, rfl, by omega, h3, fun i hi hq => ?_⟩)
          by_cases e : i = j
          · subst e
            refine Or.inr ?_
            unfold fy_L
            dsimp only
            omega
          · exact h4 i (by omega) hq
    · refine br_f u1 (nm_e ?_)
      rw [nI_1]
      refine ih (j + 1) n _ (by omega) (by omega) ?_
      rcases h with ⟨h1, h2⟩ | ⟨b, h1, h2, h3, h4⟩
      · refine Or.inl ⟨h1, fun i hi => ?_⟩
        by_cases e : i = j
        · subst e
          exact u2
        · exact h2 i (by omega)
      · refine Or.inr ⟨b, h1, by omega, h3, fun i hi hq => ?_⟩
        by_cases e : i = j
        · subst e
          obtain ⟨q, a1, a2⟩ := u2
          exact absurd a2 (hq q a1)
        · exact h4 i (by omega) hq
theorem fz_us_s {m pos : Nat} {s : Nat → Nat} {us : Nat → Int32} (h : fz_us m pos s us) : fz_us m (pos + 1) s (upd us (s pos) 1) := by
  intro j hj
  by_cases e : j = s pos
  · subst e
    rw [pk_us]
    exact Or.inr ⟨by decide, pos, by omega, rfl⟩
  · rw [pk_un e]
    rcases h j hj with ⟨h1, h2⟩ | ⟨h1, q, h2, h3⟩
    · refine Or.inl ⟨h1, fun q hq eq => ?_⟩
      by_cases e2 : q = pos
      · subst e2
        exact e eq.symm
      · exact h2 q (by omega) eq
    · exact Or.inr ⟨h1, q, by omega, h3⟩
theorem fz_se1 {post : Int32 → SY → Prop} {F T m : Nat} {tj s : Nat → Nat} {dj : Nat → Nat → Nat} (hF : F ≤ 12) (hT : T ≤ 16) (hm : m ≤ 64) (hmo : fy_nb mo T 3) (hcl : fy_nb cl T 3) (hsl : fz_sl T m tj dj tt tp)
    (hs : fy_So (fun j => fy_ky sc pc F (fy_n mo (tj j)) (fy_n cl (tj j)) (tj j) (dj j)) m s)
    (h : ∀ us od : Nat → Int32, (∀ p, p < m → od p = nI (s p)) → ∃ n, wY_run_208 post (nI m) n 0 yfc ytc (nI F) yT yrf yn yev yst sc pc yd fl mo cl yr c tt tp us od it ip io lg att av ap so nt) :
    ∀ (k pos n : Nat) (us od : Nat → Int32), pos + k = m → k < n → fz_us m pos s us → (∀ p, p < pos → od p = nI (s p)) →
    wY_run_123 post (nI m) yfc ytc (nI F) yT yrf yn yev yst n (nI pos) sc pc yd fl mo cl yr c tt tp us od it ip io lg att av ap so nt := by
  intro k
  induction k with
  | zero =>
    intro pos n us od hk hn h1 h2
    obtain ⟨n, rfl⟩ : ∃ r, n = r + 1 := ⟨n - 1, by omega⟩
    have e : pos = m := by omega
    subst e
    exact br_t (nI_le (Nat.le_refl _) (by omega)) (h us od h2)
  | succ k ih =>
    intro pos n us od hk hn h1 h2
    obtain ⟨n, rfl⟩ : ∃ r, n = r + 1 := ⟨n - 1, by omega⟩
    refine br_f (nI_ge (by omega) (by omega)) ⟨m + 1, ?_⟩
    refine fz_se2 hF hT hm (by omega) hmo hcl hsl hs h1 ?_ m 0 (m + 1) (-1) (by omega) (by omega) (Or.inl ⟨rfl, fun i hi => absurd hi (Nat.not_lt_zero i)⟩)
    refine ih (pos + 1) n _ _ (by omega) (by omega) (fz_us_s h1) (fun p hp => ?_)
    by_cases e : p = pos
    · subst e
      exact pk_us
    · rw [pk_un e]
      exact h2 p (by omega)
theorem fz_use {post : Int32 → SY → Prop} {m : Nat} (h : ∀ us : Nat → Int32, (∀ j, j < 64 → us j = 0) → ∃ n, wY_run_123 post (nI m) yfc ytc yF yT yrf yn yev yst n 0 sc pc yd fl mo cl yr c tt tp us od it ip io lg att av ap so nt) :
    ∀ (k j n : Nat) (us : Nat → Int32), j + k = 64 → k < n → (∀ i, i < j → us i = 0) → wY_run_102 post (nI m) yfc ytc yF yT yrf yn yev yst n (nI j) sc pc yd fl mo cl yr c tt tp us od it ip io lg att av ap so nt := by
  intro k
  induction k with
  | zero =>
    intro j n us hk hn h1
    obtain ⟨n, rfl⟩ : ∃ r, n = r + 1 := ⟨n - 1, by omega⟩
    have e : j = 64 := by omega
    subst e
    exact br_t (by decide) (h us h1)
  | succ k ih =>
    intro j n us hk hn h1
    obtain ⟨n, rfl⟩ : ∃ r, n = r + 1 := ⟨n - 1, by omega⟩
    refine br_f (nI_ge (b := 64) (by omega) (by decide)) ⟨vp_in_nI (by omega) (by decide), nm_e (nm_e ?_)⟩
    rw [nI_clamp (by omega), nI_1, fy_nr0]
    refine ih (j + 1) n _ (by omega) (by omega) (fun i hi => ?_)
    by_cases e : i = j
    · subst e
      exact pk_us
    · rw [pk_un e]
      exact h1 i (by omega)
/-- one item copied -/
theorem fz_cy1 {post : SY → Prop} {a p : Nat} {ip0 : Nat → Int32} (ha : a < 64) (hp : p < 64) (h : ∀ ip : Nat → Int32, (∀ f, f < 12 → ip (p * 12 + f) = tp (a * 12 + f)) → (∀ j, j < p * 12 → ip j = ip0 j) → post (yfc, ytc, yF, yT, yrf, yn, yev, yst, sc, pc, yd, fl, mo, cl, yr, c, tt, tp, us, od, it, ip, io, lg, att, av, ap, so, nt)) :
    ∀ (k f n : Nat) (ip : Nat → Int32), f + k = 12 → k < n → (∀ g, g < f → ip (p * 12 + g) = tp (a * 12 + g)) → (∀ j, j < p * 12 → ip j = ip0 j) → wY_copyItem_21 post (nI a) (nI p) yfc ytc yF yT yrf yn yev yst n (nI f) sc pc yd fl mo cl yr c tt tp us od it ip io lg att av ap so nt := by
  intro k
  induction k with
  | zero =>
    intro f n ip hk hn h1 h2
    obtain ⟨n, rfl⟩ : ∃ r, n = r + 1 := ⟨n - 1, by omega⟩
    have e : f = 12 := by omega
    subst e
    exact br_t (by decide) (h ip h1 h2)
  | succ k ih =>
    intro f n ip hk hn h1 h2
    obtain ⟨n, rfl⟩ : ∃ r, n = r + 1 := ⟨n - 1, by omega⟩
    have xa : nI a * 12 + nI f = nI (a * 12 + f) := by rw [← nI_add, ← pk_mul]; rfl
    have xb : nI p * 12 + nI f = nI (p * 12 + f) := by rw [← nI_add, ← pk_mul]; rfl
    refine br_f (nI_ge (b := 12) (by omega) (by decide)) ?_
    rw [xa, xb]
    refine ⟨vp_in_nI (by omega) (by decide), vp_in_nI (by omega) (by decide), nm_e (nm_e ?_)⟩
    rw [nI_clamp (by omega), nI_clamp (by omega), nI_1]
    refine ih (f + 1) n _ (by omega) (by omega) (fun g hg => ?_) (fun j hj => ?_)
    · by_cases e : g = f
      · subst e
        exact pk_us
      · rw [pk_un (by omega)]
        exact h1 g (by omega)
    · rw [pk_un (by omega)]
      exact h2 j hj
theorem fz_cy {post : SY → Prop} {a p : Nat} (ha : a < 64) (hp : p < 64) (h : ∀ ip1 : Nat → Int32, (∀ f, f < 12 → ip1 (p * 12 + f) = tp (a * 12 + f)) → (∀ j, j < p * 12 → ip1 j = ip j) → post (yfc, ytc, yF, yT, yrf, yn, yev, yst, sc, pc, yd, fl, mo, cl, yr, c, tt, tp, us, od, upd it p (tt a), ip1, upd io p 0, lg, att, av, ap, so, nt)) : wpY_copyItem post (yfc, ytc, yF, yT, yrf, yn, yev, yst, sc, pc, yd, fl, mo, cl, yr, c, tt, tp, us, od, it, ip, io, lg, att, av, ap, so, nt) (nI a) (nI p) := by
  unfold wpY_copyItem
  refine ⟨vp_in_nI ha (by decide), vp_in_nI hp (by decide), nm_e ⟨vp_in_nI hp (by decide), nm_e ⟨13, ?_⟩⟩⟩
  rw [nI_clamp (by omega), nI_clamp (by omega)]
  exact fz_cy1 ha hp h 12 0 13 ip (by omega) (by omega) (fun g hg => absurd hg (Nat.not_lt_zero g)) (fun j hj => rfl)
end
end
section
/-! Y: setup and teardown of an item -/
section
variable {yfc ytc yF yT yrf yn yev yst : Int32} {sc pc yd fl mo cl yr c tt tp us od it ip io lg att av ap so nt : Nat → Int32}
/-- X's alive parameters against Y's -/
def fz_al (F : Nat) (al av ap : Nat → Int32) : Prop := ∀ f, f < F → (av f = 0 ∧ al f = -1) ∨ (av f = 1 ∧ ¬ al f = -1 ∧ ap f = al f)
def fz_it (m : Nat) (Tj : Nat → Nat) (Dj : Nat → Nat → Nat) (it ip : Nat → Int32) : Prop := ∀ j, j < m → Tj j < 16 ∧ it j = nI (Tj j) ∧ (∀ f, Dj j f < 4) ∧ ∀ f, f < 12 → ip (j * 12 + f) = nI (Dj j f) - 1
theorem fz_log {post : SY → Prop} {e : fy_E} {kind p : Int32} {i f : Nat} (he : e.1 < 100000) (h : post (yfc, ytc, yF, yT, yrf, yn, nI (fy_lo kind i f p e).1, nI (fy_lo kind i f p e).2.2.2.1, sc, pc, yd, fl, mo, cl, yr, c, tt, tp, us, od, it, ip, io, (fy_lo kind i f p e).2.1, (fy_lo kind i f p e).2.2.1, av, ap, (fy_lo kind i f p e).2.2.2.2.2, nt)) : wpY_logEvent post (yfc, ytc, yF, yT, yrf, yn, nI e.1, nI e.2.2.2.1, sc, pc, yd, fl, mo, cl, yr, c, tt, tp, us, od, it, ip, io, e.2.1, e.2.2.1, av, ap, e.2.2.2.2.2, nt) kind (nI i) (nI f) p := by
  unfold wpY_logEvent
  unfold fy_lo at h
  dsimp only at h
  refine br_f (nI_pos (by omega)) ?_
  by_cases z : e.1 < 256
  · rw [if_pos z] at h
    refine br_f (nI_ge (b := 256) z (by decide)) ⟨vp_in_nI z (by decide), nm_e (nm_e ?_)⟩
    rw [nI_clamp (by omega), nI_1]
    exact h
  · rw [if_neg z] at h
    refine br_t (nI_le (a := 256) (by omega) (by omega)) (nm_e ?_)
    rw [nI_1]
    exact h
theorem fz_al_on {F f p : Nat} {al av ap : Nat → Int32} (h : fz_al F al av ap) (hp : p < 3) : fz_al F (upd al f (nI p)) (upd av f 1) (upd ap f (nI p)) := by
  intro g hg
  by_cases z : g = f
  · subst z
    rw [pk_us, pk_us, pk_us]
    exact Or.inr ⟨rfl, fy_neg1 hp, rfl⟩
  · rw [pk_un z, pk_un z, pk_un z]
    exact h g hg
theorem fz_al_of {F f : Nat} {al av ap : Nat → Int32} (h : fz_al F al av ap) : fz_al F (upd al f (-1)) (upd av f 0) ap := by
  intro g hg
  by_cases z : g = f
  · subst z
    rw [pk_us, pk_us]
    exact Or.inl ⟨rfl, rfl⟩
  · rw [pk_un z, pk_un z]
    exact h g hg
theorem fz_su1 {post : SY → Prop} {F i : Nat} {D : Nat → Nat} (hF : F ≤ 12) (hi : i < 64) (hD : ∀ f, D f < 4) (hip : ∀ f, f < 12 → ip (i * 12 + f) = nI (D f) - 1) :
    ∀ (k f n b c0 : Nat) (e : fy_E) (av ap : Nat → Int32), f + k = F → k < n → fy_ok F b c0 e → b + k < 100000 → c0 + k < 100000 → fz_al F e.2.2.2.2.1 av ap →
    (∀ av ap : Nat → Int32, fz_al F (fy_su fl D i k f e).1.2.2.2.2.1 av ap → post (yfc, ytc, yF, yT, nI F, yn, nI ((fy_su fl D i k f e).1).1, nI ((fy_su fl D i k f e).1).2.2.2.1, sc, pc, yd, fl, mo, cl, yr, c, tt, tp, us, od, it, ip, upd io i (if (fy_su fl D i k f e).2 = true then 1 else 2), ((fy_su fl D i k f e).1).2.1, ((fy_su fl D i k f e).1).2.2.1, av, ap, ((fy_su fl D i k f e).1).2.2.2.2.2, nt)) →
    wY_setupItem_4 post (nI i) 1 n (nI f) yfc ytc yF yT (nI F) yn (nI e.1) (nI e.2.2.2.1) sc pc yd fl mo cl yr c tt tp us od it ip io (e.2.1) (e.2.2.1) av ap (e.2.2.2.2.2) nt := by
  have vi : vp_in (nI i) 64 := vp_in_nI hi (by decide)
  have ci : (nI i).toNatClampNeg = i := nI_clamp (by omega)
  intro k
  induction k with
  | zero =>
    intro f n b c0 e av ap hk hn ho hb hcc ha h
    obtain ⟨n, rfl⟩ : ∃ r, n = r + 1 := ⟨n - 1, by omega⟩
    have ef : f = F := by omega
    subst ef
    refine br_t (nI_le (Nat.le_refl _) (by omega)) ⟨vi, nm_e ?_⟩
    rw [ci]
    exact h av ap ha
  | succ k ih =>
    intro f n b c0 e av ap hk hn ho hb hcc ha h
    obtain ⟨n, rfl⟩ : ∃ r, n = r + 1 := ⟨n - 1, by omega⟩
    have vf : vp_in (nI f) 12 := vp_in_nI (by omega) (by decide)
    have cf : (nI f).toNatClampNeg = f := nI_clamp (by omega)
    have xa : nI i * 12 + nI f = nI (i * 12 + f) := by rw [← nI_add, ← pk_mul]; rfl
    have hd := hD f
    rw [fy_su] at h
    refine br_f (nI_ge (by omega) (by omega)) ?_
    rw [xa, nI_clamp (show i * 12 + f < 2 ^ 31 by omega), hip f (by omega), cf]
    refine ⟨vp_in_nI (by omega) (by decide), nm_e (fy_ge (D f) hd (fun z => nm_e ?_) (fun p hp hp3 => ?_))⟩
    · rw [if_pos (Or.inl z)] at h
      rw [nI_1]
      exact ih (f + 1) n b c0 e av ap (by omega) (by omega) ho (by omega) (by omega) ha h
    · rw [hp, fy_ms]
      rw [hp, Nat.add_sub_cancel] at h
      refine br_t (nI_le (b := 2) (by omega) (by decide)) ⟨vf, ?_⟩
      have join : ¬ e.2.2.2.2.1 f = nI p → wY_setupItem_62 post (wY_setupItem_4 post (nI i) 1 n) (nI i) 1 (nI f) (nI p) yfc ytc yF yT (nI F) yn (nI e.1) (nI e.2.2.2.1) sc pc yd fl mo cl yr c tt tp us od it ip io (e.2.1) (e.2.2.1) av ap (e.2.2.2.2.2) nt := by
        intro z
        rw [if_neg (fun q => q.elim (fun w => absurd w (Nat.succ_ne_zero p)) z)] at h
        have ho2 := fy_ok_sf (fl := fl) (i := i) (f := f) (p := p) ho hp3
        have vs : vp_in (nI (f * 3 + p)) 36 := vp_in_nI (by omega) (by decide)
        have cs : (nI (f * 3 + p)).toNatClampNeg = f * 3 + p := nI_clamp (by omega)
        have xs : nI f * 3 + nI p = nI (f * 3 + p) := by rw [← nI_add, ← pk_mul]; rfl
        unfold wY_setupItem_62
        refine nm_r xs ⟨vs, vs, nm_e ⟨vs, vs, ?_⟩⟩
        rw [cs, pk_us]
        unfold fy_sf at h ho2
        by_cases y : e.2.2.1 (f * 3 + p) + 1 = fl (f * 3 + p)
        · rw [if_pos y] at h
          refine br_t y (fz_log (e := fy_at f p e) (by have := ho.1; show e.1 < 100000; omega) ⟨vi, nm_e ?_⟩)
          rw [ci]
          exact h av ap ha
        · rw [if_neg y] at h ho2
          refine br_f y (fz_log (e := fy_at f p e) (by have := ho.1; show e.1 < 100000; omega) (nm_e ⟨vf, nm_e ⟨vf, nm_e ⟨vf, nm_e (nm_e ?_)⟩⟩⟩))
          rw [cf, nI_1, nI_1, fy_nr1]
          exact ih (f + 1) n (b + 1) (c0 + 1) _ _ _ (by omega) (by omega) ho2 (by omega) (by omega) (fz_al_on ha hp3) h
      rcases ha f (by omega) with ⟨a1, a2⟩ | ⟨a1, a2, a3⟩
      · exact br_t a1 (join (by rw [a2]; exact fun q => fy_neg1 hp3 q.symm))
      · refine br_f (by rw [a1]; decide) ⟨vf, ?_⟩
        by_cases z : e.2.2.2.2.1 f = nI p
        · rw [if_pos (Or.inr z)] at h
          refine br_t (by rw [a3, z]) (nm_e ?_)
          rw [nI_1]
          exact ih (f + 1) n b c0 e av ap (by omega) (by omega) ho (by omega) (by omega) ha h
        · exact br_f (by rw [a3]; exact z) (join z)
theorem fz_su {post : SY → Prop} {F i b c0 : Nat} {D : Nat → Nat} {e : fy_E} (hF : F ≤ 12) (hi : i < 64) (hD : ∀ f, D f < 4) (hip : ∀ f, f < 12 → ip (i * 12 + f) = nI (D f) - 1) (ho : fy_ok F b c0 e) (hb : b < 50000) (hcc : c0 < 50000) (ha : fz_al F e.2.2.2.2.1 av ap)
    (h : ∀ av ap : Nat → Int32, fz_al F (fy_su fl D i F 0 e).1.2.2.2.2.1 av ap → post (yfc, ytc, yF, yT, nI F, yn, nI ((fy_su fl D i F 0 e).1).1, nI ((fy_su fl D i F 0 e).1).2.2.2.1, sc, pc, yd, fl, mo, cl, yr, c, tt, tp, us, od, it, ip, upd io i (if (fy_su fl D i F 0 e).2 = true then 1 else 2), ((fy_su fl D i F 0 e).1).2.1, ((fy_su fl D i F 0 e).1).2.2.1, av, ap, ((fy_su fl D i F 0 e).1).2.2.2.2.2, nt)) : wpY_setupItem post (yfc, ytc, yF, yT, nI F, yn, nI e.1, nI e.2.2.2.1, sc, pc, yd, fl, mo, cl, yr, c, tt, tp, us, od, it, ip, io, e.2.1, e.2.2.1, av, ap, e.2.2.2.2.2, nt) (nI i) := by
  unfold wpY_setupItem
  exact ⟨F + 1, fz_su1 hF hi hD hip F 0 (F + 1) b c0 e av ap (by omega) (by omega) ho (by omega) (by omega) ha h⟩
theorem fz_hd1 {post : Int32 → Prop} {dp : Nat → Int32} {M : Nat → Bool} {g : Nat} (hg : g < 12) (hyd : ∀ f g, f < 12 → g < 12 → yd (f * 12 + g) = fy_bi (bt (dp f) g)) (hnt : ∀ d, d < g → nt d = fy_bi (M d))
    (h1 : (∃ d, d < g ∧ bt (dp g) d = true ∧ M d = true) → post 1) (h0 : (∀ d, d < g → ¬ (bt (dp g) d = true ∧ M d = true)) → post 0) :
    ∀ (k d n : Nat), d + k = g → k < n → (∀ x, x < d → ¬ (bt (dp g) x = true ∧ M x = true)) → wY_hasDepInT_2 post (nI g) yfc ytc yF yT yrf yn yev yst sc pc yd fl mo cl yr c tt tp us od it ip io lg att av ap so nt n (nI d) := by
  intro k
  induction k with
  | zero =>
    intro d n hk hn h
    obtain ⟨n, rfl⟩ : ∃ r, n = r + 1 := ⟨n - 1, by omega⟩
    have e : d = g := by omega
    subst e
    exact br_t (nI_le (Nat.le_refl _) (by omega)) (h0 h)
  | succ k ih =>
    intro d n hk hn h
    obtain ⟨n, rfl⟩ : ∃ r, n = r + 1 := ⟨n - 1, by omega⟩
    have vd : vp_in (nI d) 12 := vp_in_nI (by omega) (by decide)
    have cd : (nI d).toNatClampNeg = d := nI_clamp (by omega)
    have xa : nI g * 12 + nI d = nI (g * 12 + d) := by rw [← nI_add, ← pk_mul]; rfl
    have nx : ¬ (bt (dp g) d = true ∧ M d = true) → wY_hasDepInT_2 post (nI g) yfc ytc yF yT yrf yn yev yst sc pc yd fl mo cl yr c tt tp us od it ip io lg att av ap so nt n (nI d + 1) := by
      intro z
      rw [nI_1]
      refine ih (d + 1) n (by omega) (by omega) (fun x hx => ?_)
      by_cases e : x = d
      · subst e
        exact z
      · exact h x (by omega)
    refine br_f (nI_ge (by omega) (by omega)) (br_f (nI_ge (b := 12) (by omega) (by decide)) ?_)
    rw [xa, nI_clamp (show g * 12 + d < 2 ^ 31 by omega), hyd g d hg (by omega), cd, hnt d (by omega)]
    refine ⟨vp_in_nI (by omega) (by decide), fy_bi_z (fun y => nm_e (nx (fun q => by rw [y] at q; exact absurd q.1 (by decide)))) (fun y => ⟨vd, fy_bi_z (fun w => nm_e (nx (fun q => by rw [w] at q; exact absurd q.2 (by decide)))) (fun w => h1 ⟨d, by omega, y, w⟩)⟩)⟩
theorem fz_hd {post : Int32 → Prop} {dp : Nat → Int32} {M : Nat → Bool} {g : Nat} (hg : g < 12) (hyd : ∀ f g, f < 12 → g < 12 → yd (f * 12 + g) = fy_bi (bt (dp f) g)) (hnt : ∀ d, d < g → nt d = fy_bi (M d))
    (h1 : (∃ d, d < g ∧ bt (dp g) d = true ∧ M d = true) → post 1) (h0 : (∀ d, d < g → ¬ (bt (dp g) d = true ∧ M d = true)) → post 0) : wpY_hasDepInT post (yfc, ytc, yF, yT, yrf, yn, yev, yst, sc, pc, yd, fl, mo, cl, yr, c, tt, tp, us, od, it, ip, io, lg, att, av, ap, so, nt) (nI g) := by
  unfold wpY_hasDepInT
  exact ⟨g + 1, fz_hd1 hg hyd hnt h1 h0 g 0 (g + 1) (by omega) (by omega) (fun x hx => absurd hx (Nat.not_lt_zero x))⟩
end
end
section
/-! Y: teardown after an item -/
section
variable {yfc ytc yF yT yrf yn yev yst : Int32} {sc pc yd fl mo cl yr c tt tp us od it ip io lg att av ap so nt : Nat → Int32}
theorem fz_181 {post : SY → Prop} {J : Int32 → (Nat → Int32) → (Nat → Int32) → (Nat → Int32) → (Nat → Int32) → (Nat → Int32) → (Nat → Int32) → (Nat → Int32) → (Nat → Int32) → (Nat → Int32) → (Nat → Int32) → (Nat → Int32) → (Nat → Int32) → (Nat → Int32) → (Nat → Int32) → (Nat → Int32) → (Nat → Int32) → (Nat → Int32) → (Nat → Int32) → (Nat → Int32) → (Nat → Int32) → (Nat → Int32) → Prop} {m i g : Nat} {x2 : Int32} {h5 : Bool} {Tj : Nat → Nat} {Dj : Nat → Nat → Nat} (hm : m ≤ 64) (hn : i + 1 < m) (hg : g < 12) (hit : fz_it m Tj Dj it ip)
    (hJ : ∀ b : Bool, (b = true ↔ h5 = true ∨ (¬ Dj (i + 1) g = 0 ∧ ¬ nI (Dj (i + 1) g - 1) = ap g)) → J (nI (g + 1)) sc pc yd fl mo cl yr c tt tp us od it ip io lg att av ap so (upd nt g (fy_bi b))) : wY_teardownAfter_181 post J (nI i) x2 (nI g) (fy_bi h5) yfc ytc yF yT yrf yn yev yst sc pc yd fl mo cl yr c tt tp us od it ip io lg att av ap so nt := by
  obtain ⟨-, -, d4, hip⟩ := hit (i + 1) hn
  have vg : vp_in (nI g) 12 := vp_in_nI hg (by decide)
  have cg : (nI g).toNatClampNeg = g := nI_clamp (by omega)
  have xa : (nI i + 1) * 12 + nI g = nI ((i + 1) * 12 + g) := by rw [← nI_add ((i + 1) * 12) g, ← pk_mul, nI_1]; rfl
  unfold wY_teardownAfter_181
  rw [xa, nI_clamp (show (i + 1) * 12 + g < 2 ^ 31 by omega), hip g hg, cg, nI_1, fy_nrb, fy_nr1]
  have d := d4 g
  refine ⟨vp_in_nI (by omega) (by decide), nm_e (fy_ge (Dj (i + 1) g) d (fun z => ⟨vg, nm_e (nm_e (hJ h5 ?_))⟩) (fun p hp hp3 => ⟨vg, ?_⟩))⟩
  · exact ⟨Or.inl, fun q => q.elim id (fun w => absurd z w.1)⟩
  · rw [hp, fy_ms]
    rw [hp, Nat.add_sub_cancel] at hJ
    by_cases y : nI p = ap g
    · exact br_t y ⟨vg, nm_e (nm_e (hJ h5 ⟨Or.inl, fun q => q.elim id (fun w => absurd y w.2)⟩))⟩
    · exact br_f y ⟨vg, nm_e (nm_e (hJ true ⟨fun _ => Or.inr ⟨Nat.succ_ne_zero p, y⟩, fun _ => rfl⟩))⟩
theorem fz_167 {post : SY → Prop} {J : Int32 → (Nat → Int32) → (Nat → Int32) → (Nat → Int32) → (Nat → Int32) → (Nat → Int32) → (Nat → Int32) → (Nat → Int32) → (Nat → Int32) → (Nat → Int32) → (Nat → Int32) → (Nat → Int32) → (Nat → Int32) → (Nat → Int32) → (Nat → Int32) → (Nat → Int32) → (Nat → Int32) → (Nat → Int32) → (Nat → Int32) → (Nat → Int32) → (Nat → Int32) → (Nat → Int32) → Prop} {m i g : Nat} {x2 x4 : Int32} {h5 h8 : Bool} {Tj : Nat → Nat} {Dj : Nat → Nat → Nat} (hm : m ≤ 64) (hn : i + 1 < m) (hg : g < 12) (hit : fz_it m Tj Dj it ip)
    (hJ : ∀ b : Bool, (b = true ↔ h5 = true ∨ (x4 = 1 ∧ h8 = false) ∨ (¬ Dj (i + 1) g = 0 ∧ ¬ nI (Dj (i + 1) g - 1) = ap g)) → J (nI (g + 1)) sc pc yd fl mo cl yr c tt tp us od it ip io lg att av ap so (upd nt g (fy_bi b))) : wY_teardownAfter_167 post J (nI i) x2 (nI g) x4 (fy_bi h5) (fy_bi h8) yfc ytc yF yT yrf yn yev yst sc pc yd fl mo cl yr c tt tp us od it ip io lg att av ap so nt := by
  unfold wY_teardownAfter_167
  by_cases z : x4 = 1
  · refine br_t z (fy_bi_z (fun y => ?_) (fun y => ?_))
    · exact fz_181 (h5 := true) hm hn hg hit (fun b hb => hJ b ⟨fun _ => Or.inr (Or.inl ⟨z, y⟩), fun _ => hb.mpr (Or.inl rfl)⟩)
    · exact fz_181 hm hn hg hit (fun b hb => hJ b ⟨fun q => (hb.mp q).elim Or.inl (fun w => Or.inr (Or.inr w)), fun q => hb.mpr (q.elim Or.inl (fun w => w.elim (fun v => by rw [y] at v; exact absurd v.2 (by decide)) Or.inr))⟩)
  · refine br_f z (fz_181 hm hn hg hit (fun b hb => hJ b ⟨fun q => (hb.mp q).elim Or.inl (fun w => Or.inr (Or.inr w)), fun q => hb.mpr (q.elim Or.inl (fun w => w.elim (fun v => absurd v.1 z) Or.inr))⟩))
theorem fz_151 {post : SY → Prop} {J : Int32 → (Nat → Int32) → (Nat → Int32) → (Nat → Int32) → (Nat → Int32) → (Nat → Int32) → (Nat → Int32) → (Nat → Int32) → (Nat → Int32) → (Nat → Int32) → (Nat → Int32) → (Nat → Int32) → (Nat → Int32) → (Nat → Int32) → (Nat → Int32) → (Nat → Int32) → (Nat → Int32) → (Nat → Int32) → (Nat → Int32) → (Nat → Int32) → (Nat → Int32) → (Nat → Int32) → Prop} {m i g : Nat} {x2 x4 : Int32} {h5 h8 h0 : Bool} {Tj : Nat → Nat} {Dj : Nat → Nat → Nat} (hm : m ≤ 64) (hn : i + 1 < m) (hg : g < 12) (hit : fz_it m Tj Dj it ip)
    (hJ : ∀ b : Bool, (b = true ↔ h5 = true ∨ (x4 = 2 ∧ h0 = false) ∨ (x4 = 1 ∧ h8 = false) ∨ (¬ Dj (i + 1) g = 0 ∧ ¬ nI (Dj (i + 1) g - 1) = ap g)) → J (nI (g + 1)) sc pc yd fl mo cl yr c tt tp us od it ip io lg att av ap so (upd nt g (fy_bi b))) : wY_teardownAfter_151 post J (nI i) x2 (nI g) x4 (fy_bi h5) (fy_bi h8) (fy_bi h0) yfc ytc yF yT yrf yn yev yst sc pc yd fl mo cl yr c tt tp us od it ip io lg att av ap so nt := by
  unfold wY_teardownAfter_151
  by_cases z : x4 = 2
  · refine br_t z (fy_bi_z (fun y => ?_) (fun y => ?_))
    · exact fz_167 (h5 := true) hm hn hg hit (fun b hb => hJ b ⟨fun _ => Or.inr (Or.inl ⟨z, y⟩), fun _ => hb.mpr (Or.inl rfl)⟩)
    · exact fz_167 hm hn hg hit (fun b hb => hJ b ⟨fun q => (hb.mp q).elim Or.inl (fun w => Or.inr (Or.inr w)), fun q => hb.mpr (q.elim Or.inl (fun w => w.elim (fun v => by rw [y] at v; exact absurd v.2 (by decide)) Or.inr))⟩)
  · refine br_f z (fz_167 hm hn hg hit (fun b hb => hJ b ⟨fun q => (hb.mp q).elim Or.inl (fun w => Or.inr (Or.inr w)), fun q => hb.mpr (q.elim Or.inl (fun w => w.elim (fun v => absurd v.1 z) Or.inr))⟩))
theorem fz_68 {post : SY → Prop} {J : Int32 → (Nat → Int32) → (Nat → Int32) → (Nat → Int32) → (Nat → Int32) → (Nat → Int32) → (Nat → Int32) → (Nat → Int32) → (Nat → Int32) → (Nat → Int32) → (Nat → Int32) → (Nat → Int32) → (Nat → Int32) → (Nat → Int32) → (Nat → Int32) → (Nat → Int32) → (Nat → Int32) → (Nat → Int32) → (Nat → Int32) → (Nat → Int32) → (Nat → Int32) → (Nat → Int32) → Prop} {m i g : Nat} {x4 : Int32} {h5 : Bool} {Tj : Nat → Nat} {Dj : Nat → Nat → Nat} (hm : m ≤ 64) (hi : i < m) (hg : g < 12) (hit : fz_it m Tj Dj it ip)
    (hl : m ≤ i + 1 → h5 = true)
    (hJ : ∀ b : Bool, (b = true ↔ h5 = true ∨ m ≤ i + 1 ∨ (x4 = 2 ∧ ¬ (mo (Tj i) = mo (Tj (i + 1)) ∧ cl (Tj i) = cl (Tj (i + 1)))) ∨ (x4 = 1 ∧ ¬ mo (Tj i) = mo (Tj (i + 1))) ∨ (¬ Dj (i + 1) g = 0 ∧ ¬ nI (Dj (i + 1) g - 1) = ap g)) → J (nI (g + 1)) sc pc yd fl mo cl yr c tt tp us od it ip io lg att av ap so (upd nt g (fy_bi b))) :
    wY_teardownAfter_68 post J (nI i) (fy_bi (decide (m ≤ i + 1))) (nI g) x4 (fy_bi h5) yfc ytc yF yT yrf yn yev yst sc pc yd fl mo cl yr c tt tp us od it ip io lg att av ap so nt := by
  obtain ⟨t1, t2, -, -⟩ := hit i hi
  have vg : vp_in (nI g) 12 := vp_in_nI hg (by decide)
  have cg : (nI g).toNatClampNeg = g := nI_clamp (by omega)
  unfold wY_teardownAfter_68
  refine fy_bi_z (fun y => ?_) (fun y => ?_)
  · have hn : i + 1 < m := by have := of_decide_eq_false y; omega
    obtain ⟨n1, n2, -, -⟩ := hit (i + 1) hn
    have vt : vp_in (nI (Tj i)) 16 := vp_in_nI t1 (by decide)
    have ct : (nI (Tj i)).toNatClampNeg = Tj i := nI_clamp (by omega)
    have vu : vp_in (nI (Tj (i + 1))) 16 := vp_in_nI n1 (by decide)
    have cu : (nI (Tj (i + 1))).toNatClampNeg = Tj (i + 1) := nI_clamp (by omega)
    rw [nI_1]
    refine br_f (nI_ge (b := 64) (by omega) (by decide)) ⟨vp_in_nI (by omega) (by decide), ?_⟩
    rw [nI_clamp (show i < 2 ^ 31 by omega), nI_clamp (show i + 1 < 2 ^ 31 by omega), t2, n2]
    refine nm_e ⟨vp_in_nI (by omega) (by decide), nm_e ⟨vu, vt, ?_⟩⟩
    rw [ct, cu]
    by_cases y1 : mo (Tj (i + 1)) = mo (Tj i)
    · refine br_t y1 ?_
      unfold wY_teardownAfter_122
      refine br_f (by decide) ⟨vu, vt, ?_⟩
      rw [ct, cu]
      by_cases y2 : cl (Tj (i + 1)) = cl (Tj i)
      · refine br_t y2 (fz_151 (h8 := true) (h0 := true) hm hn hg hit (fun b hb => hJ b ?_))
        rw [hb]
        exact ⟨fun q => q.elim Or.inl (fun w => w.elim (fun v => absurd v.2 (by decide)) (fun w => w.elim (fun v => absurd v.2 (by decide)) (fun w => Or.inr (Or.inr (Or.inr (Or.inr w)))))), fun q => q.elim Or.inl (fun w => w.elim (fun v => by omega) (fun w => w.elim (fun v => absurd ⟨y1.symm, y2.symm⟩ v.2) (fun w => w.elim (fun v => absurd y1.symm v.2) (fun w => Or.inr (Or.inr (Or.inr w))))))⟩
      · refine br_f y2 ?_
        unfold wY_teardownAfter_150
        refine fz_151 (h8 := true) (h0 := false) hm hn hg hit (fun b hb => hJ b ?_)
        rw [hb]
        exact ⟨fun q => q.elim Or.inl (fun w => w.elim (fun v => Or.inr (Or.inr (Or.inl ⟨v.1, fun r => y2 r.2.symm⟩))) (fun w => w.elim (fun v => absurd v.2 (by decide)) (fun w => Or.inr (Or.inr (Or.inr (Or.inr w)))))), fun q => q.elim Or.inl (fun w => w.elim (fun v => by omega) (fun w => w.elim (fun v => Or.inr (Or.inl ⟨v.1, rfl⟩)) (fun w => w.elim (fun v => absurd y1.symm v.2) (fun w => Or.inr (Or.inr (Or.inr w))))))⟩
    · refine br_f y1 ?_
      unfold wY_teardownAfter_122
      refine br_t rfl ?_
      unfold wY_teardownAfter_150
      refine fz_151 (h8 := false) (h0 := false) hm hn hg hit (fun b hb => hJ b ?_)
      rw [hb]
      exact ⟨fun q => q.elim Or.inl (fun w => w.elim (fun v => Or.inr (Or.inr (Or.inl ⟨v.1, fun r => y1 r.1.symm⟩))) (fun w => w.elim (fun v => Or.inr (Or.inr (Or.inr (Or.inl ⟨v.1, fun r => y1 r.symm⟩)))) (fun w => Or.inr (Or.inr (Or.inr (Or.inr w)))))), fun q => q.elim Or.inl (fun w => w.elim (fun v => by omega) (fun w => w.elim (fun v => Or.inr (Or.inl ⟨v.1, rfl⟩)) (fun w => w.elim (fun v => Or.inr (Or.inr (Or.inl ⟨v.1, rfl⟩))) (fun w => Or.inr (Or.inr (Or.inr w))))))⟩
  · have hx := of_decide_eq_true y
    refine ⟨vg, nm_e (nm_e ?_)⟩
    rw [cg, nI_1, fy_nrb]
    exact hJ h5 ⟨Or.inl, fun _ => hl hx⟩
theorem fz_18 {post : SY → Prop} {F m i : Nat} {al : Nat → Int32} {Tj : Nat → Nat} {Dj : Nat → Nat → Nat} (hF : F ≤ 12) (hm : m ≤ 64) (hi : i < m) (hit : fz_it m Tj Dj it ip) (ha : fz_al F al av ap)
    (h : ∀ nt : Nat → Int32, (∀ g, g < F → nt g = fy_bi (decide (¬ al g = -1) && fy_eb sc mo cl Tj Dj m i al g)) → ∃ n, wY_teardownAfter_231 post (nI i) yfc ytc yF yT (nI F) yn yev yst n 0 sc pc yd fl mo cl yr c tt tp us od it ip io lg att av ap so nt) :
    ∀ (k g n : Nat) (nt : Nat → Int32), g + k = F → k < n → (∀ d, d < g → nt d = fy_bi (decide (¬ al d = -1) && fy_eb sc mo cl Tj Dj m i al d)) →
    wY_teardownAfter_18 post (nI i) (fy_bi (decide (m ≤ i + 1))) yfc ytc yF yT (nI F) yn yev yst n (nI g) sc pc yd fl mo cl yr c tt tp us od it ip io lg att av ap so nt := by
  intro k
  induction k with
  | zero =>
    intro g n nt hk hn h1
    obtain ⟨n, rfl⟩ : ∃ r, n = r + 1 := ⟨n - 1, by omega⟩
    have e : g = F := by omega
    subst e
    exact br_t (nI_le (Nat.le_refl _) (by omega)) (h nt h1)
  | succ k ih =>
    intro g n nt hk hn h1
    obtain ⟨n, rfl⟩ : ∃ r, n = r + 1 := ⟨n - 1, by omega⟩
    have vg : vp_in (nI g) 12 := vp_in_nI (by omega) (by decide)
    have cg : (nI g).toNatClampNeg = g := nI_clamp (by omega)
    have nx : ∀ nt' : Nat → Int32, nt' g = fy_bi (decide (¬ al g = -1) && fy_eb sc mo cl Tj Dj m i al g) → (∀ d, d ≠ g → nt' d = nt d) → wY_teardownAfter_18 post (nI i) (fy_bi (decide (m ≤ i + 1))) yfc ytc yF yT (nI F) yn yev yst n (nI (g + 1)) sc pc yd fl mo cl yr c tt tp us od it ip io lg att av ap so nt' := by
      intro nt' e1 e2
      refine ih (g + 1) n nt' (by omega) (by omega) (fun d hd => ?_)
      by_cases e : d = g
      · subst e
        exact e1
      · rw [e2 d e]
        exact h1 d (by omega)
    refine br_f (nI_ge (by omega) (by omega)) ⟨vg, nm_e ⟨vg, ?_⟩⟩
    rw [cg, fy_nr0]
    rcases ha g (by omega) with ⟨a1, a2⟩ | ⟨a1, a2, a3⟩
    · refine br_t a1 (nm_e ?_)
      rw [nI_1]
      refine nx _ ?_ (fun d hd => pk_un hd)
      rw [pk_us, decide_eq_false (fun q => q a2), Bool.false_and]
      rfl
    · refine br_f (by rw [a1]; decide) ⟨vg, nm_e ?_⟩
      have fin : ∀ b : Bool, (b = true ↔ sc g = 3 ∨ m ≤ i + 1 ∨ (sc g = 2 ∧ ¬ (mo (Tj i) = mo (Tj (i + 1)) ∧ cl (Tj i) = cl (Tj (i + 1)))) ∨ (sc g = 1 ∧ ¬ mo (Tj i) = mo (Tj (i + 1))) ∨ (¬ Dj (i + 1) g = 0 ∧ ¬ nI (Dj (i + 1) g - 1) = ap g)) → wY_teardownAfter_18 post (nI i) (fy_bi (decide (m ≤ i + 1))) yfc ytc yF yT (nI F) yn yev yst n (nI (g + 1)) sc pc yd fl mo cl yr c tt tp us od it ip io lg att av ap so (upd (upd nt g 0) g (fy_bi b)) := by
        intro b hb
        refine nx _ ?_ (fun d hd => by rw [pk_un hd, pk_un hd])
        rw [pk_us, decide_eq_true a2, Bool.true_and]
        apply congrArg
        rw [Bool.eq_iff_iff, hb]
        unfold fy_eb
        rw [decide_eq_true_eq, a3]
        exact ⟨fun q => q.elim Or.inl (fun q => q.elim (fun w => Or.inr (Or.inl w)) (fun q => q.elim (fun w => Or.inr (Or.inr (Or.inr (Or.inl w)))) (fun q => q.elim (fun w => Or.inr (Or.inr (Or.inr (Or.inr w)))) (fun w => Or.inr (Or.inr (Or.inl w)))))), fun q => q.elim Or.inl (fun q => q.elim (fun w => Or.inr (Or.inl w)) (fun q => q.elim (fun w => Or.inr (Or.inr (Or.inr (Or.inr w)))) (fun q => q.elim (fun w => Or.inr (Or.inr (Or.inl w))) (fun w => Or.inr (Or.inr (Or.inr (Or.inl w)))))))⟩
      by_cases z3 : sc g = 3
      · refine br_t z3 ?_
        unfold wY_teardownAfter_63
        exact fz_68 (h5 := true) hm hi (by omega) hit (fun _ => rfl) (fun b hb => fin b ⟨fun _ => Or.inl z3, fun _ => hb.mpr (Or.inl rfl)⟩)
      · refine br_f z3 (fy_bi_z (fun y => ?_) (fun y => ?_))
        · exact fz_68 (h5 := false) hm hi (by omega) hit (fun q => absurd q (of_decide_eq_false y)) (fun b hb => fin b ⟨fun q => (hb.mp q).elim (fun w => absurd w (by decide)) Or.inr, fun q => q.elim (fun w => absurd w z3) (fun w => hb.mpr (Or.inr w))⟩)
        · unfold wY_teardownAfter_63
          exact fz_68 (h5 := true) hm hi (by omega) hit (fun _ => rfl) (fun b hb => fin b ⟨fun _ => Or.inr (Or.inl (of_decide_eq_true y)), fun _ => hb.mpr (Or.inl rfl)⟩)
end
end
section
/-! Y: teardown: who must join, who goes first -/
section
variable {yfc ytc yF yT yrf yn yev yst : Int32} {sc pc yd fl mo cl yr c tt tp us od it ip io lg att av ap so nt : Nat → Int32}
theorem fz_243 {post : SY → Prop} {J : Int32 → (Nat → Int32) → (Nat → Int32) → (Nat → Int32) → (Nat → Int32) → (Nat → Int32) → (Nat → Int32) → (Nat → Int32) → (Nat → Int32) → (Nat → Int32) → (Nat → Int32) → (Nat → Int32) → (Nat → Int32) → (Nat → Int32) → (Nat → Int32) → (Nat → Int32) → (Nat → Int32) → (Nat → Int32) → (Nat → Int32) → (Nat → Int32) → (Nat → Int32) → (Nat → Int32) → Prop} {F i : Nat} {x3 : Int32} {dp al : Nat → Int32} {eb S : Nat → Bool} (hF : F ≤ 12) (hyd : ∀ f g, f < 12 → g < 12 → yd (f * 12 + g) = fy_bi (bt (dp f) g)) (ha : fz_al F al av ap)
    (hS1 : ∀ g, g < F → S g = true → bt (fy_ed dp al eb F) g = true) (hS0 : ∀ g, g < F → ¬ al g = -1 → eb g = true → S g = true)
    (hq : ∀ nt : Nat → Int32, (∀ g, g < F → nt g = fy_bi (bt (fy_ed dp al eb F) g)) → ∃ n, wY_teardownAfter_314 post (nI i) n 0 yfc ytc yF yT (nI F) yn yev yst sc pc yd fl mo cl yr c tt tp us od it ip io lg att av ap so nt)
    (hJ : (¬ ∀ g, g < F → S g = bt (fy_ed dp al eb F) g) → ∀ nt : Nat → Int32, (∀ g, g < F → nt g = fy_bi (bt (fy_ed dp al eb F) g)) → J (x3 + 1) sc pc yd fl mo cl yr c tt tp us od it ip io lg att av ap so nt) :
    ∀ (k g n : Nat) (x4 : Int32) (nt : Nat → Int32), g + k = F → k < n → (∀ d, d < g → nt d = fy_bi (bt (fy_ed dp al eb F) d)) → (∀ d, g ≤ d → d < F → nt d = fy_bi (S d)) → (x4 = 0 ∨ (x4 = 1 ∧ ¬ ∀ g, g < F → S g = bt (fy_ed dp al eb F) g)) →
    wY_teardownAfter_243 post J (nI i) x3 yfc ytc yF yT (nI F) yn yev yst n x4 (nI g) sc pc yd fl mo cl yr c tt tp us od it ip io lg att av ap so nt := by
  intro k
  induction k with
  | zero =>
    intro g n x4 nt hk hn h1 h2 h3
    obtain ⟨n, rfl⟩ : ∃ r, n = r + 1 := ⟨n - 1, by omega⟩
    have e : g = F := by omega
    subst e
    refine br_t (nI_le (Nat.le_refl _) (by omega)) ?_
    rcases h3 with z | ⟨z, w⟩
    · exact br_t z (hq nt h1)
    · exact br_f (by rw [z]; decide) (nm_e (hJ w nt h1))
  | succ k ih =>
    intro g n x4 nt hk hn h1 h2 h3
    obtain ⟨n, rfl⟩ : ∃ r, n = r + 1 := ⟨n - 1, by omega⟩
    have vg : vp_in (nI g) 12 := vp_in_nI (by omega) (by decide)
    have cg : (nI g).toNatClampNeg = g := nI_clamp (by omega)
    have hE := fy_ed_p (dp := dp) (al := al) (eb := eb) (F := F) (i := g) (by omega) (by omega)
    have nx : S g = bt (fy_ed dp al eb F) g → wY_teardownAfter_243 post J (nI i) x3 yfc ytc yF yT (nI F) yn yev yst n x4 (nI (g + 1)) sc pc yd fl mo cl yr c tt tp us od it ip io lg att av ap so nt := by
      intro e
      refine ih (g + 1) n x4 nt (by omega) (by omega) (fun d hd => ?_) (fun d hd hd2 => h2 d (by omega) hd2) h3
      by_cases ed : d = g
      · subst ed
        rw [h2 d (Nat.le_refl d) (by omega), e]
      · exact h1 d (by omega)
    refine br_f (nI_ge (by omega) (by omega)) ⟨vg, ?_⟩
    rw [cg]
    rcases ha g (by omega) with ⟨a1, a2⟩ | ⟨a1, a2, a3⟩
    · refine br_t a1 (nm_e ?_)
      rw [nI_1]
      refine nx ?_
      have e1 : bt (fy_ed dp al eb F) g = false := by
        cases hb : bt (fy_ed dp al eb F) g
        · rfl
        · exact absurd a2 (hE.mp hb).1
      cases hs : S g
      · rw [e1]
      · rw [hS1 g (by omega) hs] at e1
        exact absurd e1 (by decide)
    · refine br_f (by rw [a1]; decide) ⟨vg, ?_⟩
      rw [h2 g (Nat.le_refl g) (by omega)]
      refine fy_bi_z (fun y => ?_) (fun y => nm_e ?_)
      · refine fz_hd (M := fun d => bt (fy_ed dp al eb F) d) (by omega) hyd h1 (fun hx => ?_) (fun hx => ?_)
        · have e1 : bt (fy_ed dp al eb F) g = true := hE.mpr ⟨a2, Or.inr hx⟩
          refine br_f (by decide) ⟨vg, nm_e (nm_e ?_)⟩
          rw [nI_1, fy_nr1]
          refine ih (g + 1) n 1 _ (by omega) (by omega) (fun d hd => ?_) (fun d hd hd2 => ?_) (Or.inr ⟨rfl, fun q => ?_⟩)
          · by_cases ed : d = g
            · subst ed
              rw [pk_us, e1]
              rfl
            · rw [pk_un ed]
              exact h1 d (by omega)
          · rw [pk_un (by omega)]
            exact h2 d (by omega) hd2
          · rw [q g (by omega), e1] at y
            exact absurd y (by decide)
        · refine br_t rfl (nm_e ?_)
          rw [nI_1]
          refine nx ?_
          rw [y]
          cases hb : bt (fy_ed dp al eb F) g
          · rfl
          · rcases (hE.mp hb).2 with w | ⟨d, d1, d2, d3⟩
            · rw [hS0 g (by omega) a2 w] at y
              exact absurd y (by decide)
            · exact absurd ⟨d2, d3⟩ (hx d d1)
      · rw [nI_1]
        exact nx (by rw [y, hS1 g (by omega) y])
theorem fz_231 {post : SY → Prop} {F i : Nat} {dp al : Nat → Int32} {eb : Nat → Bool} (hF : F ≤ 12) (hyd : ∀ f g, f < 12 → g < 12 → yd (f * 12 + g) = fy_bi (bt (dp f) g)) (ha : fz_al F al av ap)
    (hq : ∀ nt : Nat → Int32, (∀ g, g < F → nt g = fy_bi (bt (fy_ed dp al eb F) g)) → ∃ n, wY_teardownAfter_314 post (nI i) n 0 yfc ytc yF yT (nI F) yn yev yst sc pc yd fl mo cl yr c tt tp us od it ip io lg att av ap so nt)
    (hnt : ∀ g, g < F → nt g = fy_bi (decide (¬ al g = -1) && eb g)) : wY_teardownAfter_231 post (nI i) yfc ytc yF yT (nI F) yn yev yst 2 0 sc pc yd fl mo cl yr c tt tp us od it ip io lg att av ap so nt := by
  refine br_f (by decide) ⟨F + 1, ?_⟩
  refine fz_243 (S := fun g => decide (¬ al g = -1) && eb g) hF hyd ha (fun g hg h => ?_) (fun g hg h1 h2 => ?_) hq (fun _ nt1 h1 => ?_) F 0 (F + 1) 0 nt (by omega) (by omega) (fun d hd => absurd hd (Nat.not_lt_zero d)) (fun d _ hd => hnt d hd) (Or.inl rfl)
  · have h' : (decide (¬ al g = -1) && eb g) = true := h
    rw [Bool.and_eq_true, decide_eq_true_eq] at h'
    exact (fy_ed_p (by omega) hg).mpr ⟨h'.1, Or.inl h'.2⟩
  · show (decide (¬ al g = -1) && eb g) = true
    rw [decide_eq_true h1, h2]
    rfl
  · refine br_f (by decide) ⟨F + 1, ?_⟩
    exact fz_243 (S := fun g => bt (fy_ed dp al eb F) g) hF hyd ha (fun g hg h => h) (fun g hg h1 h2 => (fy_ed_p (by omega) hg).mpr ⟨h1, Or.inl h2⟩) hq (fun w => absurd (fun _ _ => rfl) w) F 0 (F + 1) 0 nt1 (by omega) (by omega) (fun d hd => absurd hd (Nat.not_lt_zero d)) (fun d _ hd => h1 d hd) (Or.inl rfl)
theorem fz_326 {post : SY → Prop} {J : Int32 → Int32 → Int32 → Int32 → Int32 → Int32 → Int32 → Int32 → Int32 → (Nat → Int32) → (Nat → Int32) → (Nat → Int32) → (Nat → Int32) → (Nat → Int32) → (Nat → Int32) → (Nat → Int32) → (Nat → Int32) → (Nat → Int32) → (Nat → Int32) → (Nat → Int32) → (Nat → Int32) → (Nat → Int32) → (Nat → Int32) → (Nat → Int32) → (Nat → Int32) → (Nat → Int32) → (Nat → Int32) → (Nat → Int32) → (Nat → Int32) → (Nat → Int32) → Prop} {F i b c0 : Nat} {x3 s : Int32} {e : fy_E} (hF : F ≤ 12) (ho : fy_ok F b c0 e) (hb : b < 100000) (hcc : c0 < 100000) (ha : fz_al F e.2.2.2.2.1 av ap) (hs : ∀ g, bt s g = true → g < F ∧ ¬ e.2.2.2.2.1 g = -1) (hnt : ∀ g, g < F → nt g = fy_bi (bt s g))
    (h0 : (∀ g, g < F → bt s g = false) → post (yfc, ytc, yF, yT, nI F, yn, nI e.1, nI e.2.2.2.1, sc, pc, yd, fl, mo, cl, yr, c, tt, tp, us, od, it, ip, io, e.2.1, e.2.2.1, av, ap, e.2.2.2.2.2, nt))
    (h1 : (fy_la s e.2.2.2.2.2 F).1 < F → bt s (fy_la s e.2.2.2.2.2 F).1 = true → J (x3 + 1) yfc ytc yF yT (nI F) yn (nI ((fy_of (fy_la s e.2.2.2.2.2 F).1 (fy_lo 2 i (fy_la s e.2.2.2.2.2 F).1 (e.2.2.2.2.1 (fy_la s e.2.2.2.2.2 F).1) e))).1) (nI ((fy_of (fy_la s e.2.2.2.2.2 F).1 (fy_lo 2 i (fy_la s e.2.2.2.2.2 F).1 (e.2.2.2.2.1 (fy_la s e.2.2.2.2.2 F).1) e))).2.2.2.1) sc pc yd fl mo cl yr c tt tp us od it ip io (((fy_of (fy_la s e.2.2.2.2.2 F).1 (fy_lo 2 i (fy_la s e.2.2.2.2.2 F).1 (e.2.2.2.2.1 (fy_la s e.2.2.2.2.2 F).1) e))).2.1) (((fy_of (fy_la s e.2.2.2.2.2 F).1 (fy_lo 2 i (fy_la s e.2.2.2.2.2 F).1 (e.2.2.2.2.1 (fy_la s e.2.2.2.2.2 F).1) e))).2.2.1) (upd av (fy_la s e.2.2.2.2.2 F).1 0) ap (((fy_of (fy_la s e.2.2.2.2.2 F).1 (fy_lo 2 i (fy_la s e.2.2.2.2.2 F).1 (e.2.2.2.2.1 (fy_la s e.2.2.2.2.2 F).1) e))).2.2.2.2.2) (upd nt (fy_la s e.2.2.2.2.2 F).1 0)) :
    ∀ (k g n : Nat), g + k = F → k < n → wY_teardownAfter_326 post J (nI i) x3 yfc ytc yF yT (nI F) yn (nI e.1) (nI e.2.2.2.1) sc pc yd fl mo cl yr c tt tp us od it ip io (e.2.1) (e.2.2.1) av ap (e.2.2.2.2.2) nt n (fy_B s e.2.2.2.2.2 g) (nI g) := by
  have hpos : ∀ g, g < F → bt s g = true → (0 : Int32) < e.2.2.2.2.2 g := by
    intro g hg hb2
    rcases ho.2.2 g hg with y | ⟨-, t, t1, t2, t3⟩
    · exact absurd y (hs g hb2).2
    · rw [t3]
      have := ho.2.1
      exact nI_lt (a := 0) (by omega) (by omega)
  intro k
  induction k with
  | zero =>
    intro g n hk hn
    obtain ⟨n, rfl⟩ : ∃ r, n = r + 1 := ⟨n - 1, by omega⟩
    have eg : g = F := by omega
    subst eg
    refine br_t (nI_le (Nat.le_refl _) (by omega)) ?_
    rcases fy_B_c hpos with ⟨a1, a2, a3⟩ | ⟨a1, a2, a3, a4⟩
    · rw [a2]
      exact br_f (by decide) (h0 a1)
    · rw [a4]
      have vg : vp_in (nI (fy_la s e.2.2.2.2.2 g).1) 12 := vp_in_nI (by omega) (by decide)
      have cg : (nI (fy_la s e.2.2.2.2.2 g).1).toNatClampNeg = (fy_la s e.2.2.2.2.2 g).1 := nI_clamp (by omega)
      have ea : ap (fy_la s e.2.2.2.2.2 g).1 = e.2.2.2.2.1 (fy_la s e.2.2.2.2.2 g).1 := by
        rcases ha _ a1 with ⟨-, w⟩ | ⟨-, -, w⟩
        · exact absurd w (hs _ a2).2
        · exact w
      refine br_t (nI_pos' (by omega)) ⟨vg, ?_⟩
      rw [cg, ea]
      refine fz_log (by have := ho.1; omega) ⟨vg, nm_e ⟨vg, nm_e (nm_e ?_)⟩⟩
      exact h1 a1 a2
  | succ k ih =>
    intro g n hk hn
    obtain ⟨n, rfl⟩ : ∃ r, n = r + 1 := ⟨n - 1, by omega⟩
    have vg : vp_in (nI g) 12 := vp_in_nI (by omega) (by decide)
    have cg : (nI g).toNatClampNeg = g := nI_clamp (by omega)
    have hI := ih (g + 1) n (by omega) (by omega)
    have hpg : ∀ d, d < g → bt s d = true → (0 : Int32) < e.2.2.2.2.2 d := fun d hd => hpos d (by omega)
    unfold fy_B at hI
    rw [fy_la] at hI
    refine br_f (nI_ge (by omega) (by omega)) ⟨vg, ?_⟩
    rw [cg, hnt g (by omega)]
    refine fy_bi_z (fun y => nm_e ?_) (fun y => ⟨vg, ?_⟩)
    · rw [if_neg (show ¬ (bt s g = true ∧ (fy_la s e.2.2.2.2.2 g).2 < e.2.2.2.2.2 g) from fun q => by rw [y] at q; exact absurd q.1 (by decide))] at hI
      rw [nI_1]
      exact hI
    · have av1 : av g = 1 := by
        rcases ha g (by omega) with ⟨-, w⟩ | ⟨w, -, -⟩
        · exact absurd w (hs g y).2
        · exact w
      refine br_f (by rw [av1]; decide) ?_
      have hp0 := hpos g (by omega) y
      rcases fy_B_c hpg with ⟨a1, a2, a3⟩ | ⟨a1, a2, a3, a4⟩
      · rw [if_pos (show bt s g = true ∧ (fy_la s e.2.2.2.2.2 g).2 < e.2.2.2.2.2 g from ⟨y, by rw [a3]; exact hp0⟩), if_neg (fun q => by have q' : e.2.2.2.2.2 g = 0 := q; rw [q'] at hp0; exact absurd hp0 (by decide))] at hI
        rw [a2]
        refine br_t (by decide) (nm_e ?_)
        rw [nI_1]
        exact hI
      · have cl1 : (nI (fy_la s e.2.2.2.2.2 g).1).toNatClampNeg = (fy_la s e.2.2.2.2.2 g).1 := nI_clamp (by omega)
        rw [a4]
        refine br_f (nI_pos (by omega)) ⟨vg, vp_in_nI (by omega) (by decide), ?_⟩
        rw [cl1, ← a3]
        by_cases w : (fy_la s e.2.2.2.2.2 g).2 < e.2.2.2.2.2 g
        · rw [if_pos (show bt s g = true ∧ (fy_la s e.2.2.2.2.2 g).2 < e.2.2.2.2.2 g from ⟨y, w⟩), if_neg (fun q => by have q' : e.2.2.2.2.2 g = 0 := q; rw [q'] at hp0; exact absurd hp0 (by decide))] at hI
          refine br_f (Int32.not_le.mpr w) (nm_e ?_)
          rw [nI_1]
          exact hI
        · rw [if_neg (show ¬ (bt s g = true ∧ (fy_la s e.2.2.2.2.2 g).2 < e.2.2.2.2.2 g) from fun q => w q.2)] at hI
          refine br_t (Int32.not_lt.mp w) (nm_e ?_)
          rw [nI_1]
          unfold fy_B at a4
          rw [a4] at hI
          exact hI
theorem fz_314 {post : SY → Prop} {F i : Nat} (hF : F ≤ 12) : ∀ (k x n b c0 : Nat) (s : Int32) (e : fy_E) (av nt : Nat → Int32), x + k = F → k < n → fy_ok F b c0 e → b + k < 100000 → c0 < 100000 → fz_al F e.2.2.2.2.1 av ap → (∀ g, bt s g = true → g < F ∧ ¬ e.2.2.2.2.1 g = -1) → (∀ g, g < F → nt g = fy_bi (bt s g)) → fy_cn s F ≤ k →
    (∀ av nt : Nat → Int32, fz_al F (fy_td F i k s e).2.2.2.2.1 av ap → post (yfc, ytc, yF, yT, nI F, yn, nI ((fy_td F i k s e)).1, nI ((fy_td F i k s e)).2.2.2.1, sc, pc, yd, fl, mo, cl, yr, c, tt, tp, us, od, it, ip, io, ((fy_td F i k s e)).2.1, ((fy_td F i k s e)).2.2.1, av, ap, ((fy_td F i k s e)).2.2.2.2.2, nt)) →
    wY_teardownAfter_314 post (nI i) n (nI x) yfc ytc yF yT (nI F) yn (nI e.1) (nI e.2.2.2.1) sc pc yd fl mo cl yr c tt tp us od it ip io (e.2.1) (e.2.2.1) av ap (e.2.2.2.2.2) nt := by
  intro k
  induction k with
  | zero =>
    intro x n b c0 s e av nt hk hn ho hb hcc ha hs hnt hcn h
    obtain ⟨n, rfl⟩ : ∃ r, n = r + 1 := ⟨n - 1, by omega⟩
    have hno := fy_cn_0 (s := s) (F := F) (by omega)
    refine pk_le 12 x (fun z => h av nt ha) (fun z => ⟨F + 1, ?_⟩)
    refine fz_326 (b := b) (c0 := c0) hF ho (by omega) hcc ha hs hnt (fun _ => h av nt ha) (fun w1 w2 => ?_) F 0 (F + 1) (by omega) (by omega)
    rw [hno _ w1] at w2
    exact absurd w2 (by decide)
  | succ k ih =>
    intro x n b c0 s e av nt hk hn ho hb hcc ha hs hnt hcn h
    obtain ⟨n, rfl⟩ : ∃ r, n = r + 1 := ⟨n - 1, by omega⟩
    rw [fy_td] at h
    refine br_f (nI_ge (b := 12) (by omega) (by decide)) ⟨F + 1, ?_⟩
    refine fz_326 (b := b) (c0 := c0) hF ho (by omega) hcc ha hs hnt (fun w => ?_) (fun w1 w2 => ?_) F 0 (F + 1) (by omega) (by omega)
    · have z : s = 0 := by
        rw [fy_z]
        intro g hg
        cases hb2 : bt s g
        · rfl
        · rw [w g (hs g hb2).1] at hb2
          exact absurd hb2 (by decide)
      rw [if_pos z] at h
      exact h av nt ha
    · have z : ¬ s = 0 := fun q => by rw [q, b_0] at w2; exact absurd w2 (by decide)
      rw [if_neg z] at h
      rw [nI_1]
      have hcl := fy_cn_clr w2 (by omega) F (by omega) w1
      refine ih (x + 1) n (b + 1) c0 _ _ _ _ (by omega) (by omega) (fy_ok_of (fy_ok_lo ho)) (by omega) hcc (fz_al_of ha) (fun g hg => ?_) (fun g hg => ?_) (by omega) h
      · have g32 : g < 32 := by
          rcases Nat.lt_or_ge g 32 with y | y
          · exact y
          · rw [b_big y] at hg
            exact absurd hg (by decide)
        rw [fy_clr s (by omega) g32, Bool.and_eq_true, Bool.not_eq_true', decide_eq_false_iff_not] at hg
        refine ⟨(hs g hg.1).1, ?_⟩
        show ¬ upd e.2.2.2.2.1 (fy_la s e.2.2.2.2.2 F).1 (-1) g = -1
        rw [pk_un hg.2]
        exact (hs g hg.1).2
      · rw [fy_clr s (by omega) (by omega)]
        by_cases eg : g = (fy_la s e.2.2.2.2.2 F).1
        · rw [eg, pk_us, decide_eq_true rfl, Bool.not_true, Bool.and_false]
          rfl
        · rw [pk_un eg, decide_eq_false eg, Bool.not_false, Bool.and_true]
          exact hnt g hg
theorem fz_td {post : SY → Prop} {F m i b c0 : Nat} {dp : Nat → Int32} {Tj : Nat → Nat} {Dj : Nat → Nat → Nat} {e : fy_E} (hF : F ≤ 12) (hm : m ≤ 64) (hi : i < m) (hyd : ∀ f g, f < 12 → g < 12 → yd (f * 12 + g) = fy_bi (bt (dp f) g)) (hit : fz_it m Tj Dj it ip) (ho : fy_ok F b c0 e) (hb : b < 50000) (hcc : c0 < 50000) (ha : fz_al F e.2.2.2.2.1 av ap)
    (h : ∀ av nt : Nat → Int32, fz_al F (fy_td F i F (fy_ed dp e.2.2.2.2.1 (fy_eb sc mo cl Tj Dj m i e.2.2.2.2.1) F) e).2.2.2.2.1 av ap → post (yfc, ytc, yF, yT, nI F, nI m, nI ((fy_td F i F (fy_ed dp e.2.2.2.2.1 (fy_eb sc mo cl Tj Dj m i e.2.2.2.2.1) F) e)).1, nI ((fy_td F i F (fy_ed dp e.2.2.2.2.1 (fy_eb sc mo cl Tj Dj m i e.2.2.2.2.1) F) e)).2.2.2.1, sc, pc, yd, fl, mo, cl, yr, c, tt, tp, us, od, it, ip, io, ((fy_td F i F (fy_ed dp e.2.2.2.2.1 (fy_eb sc mo cl Tj Dj m i e.2.2.2.2.1) F) e)).2.1, ((fy_td F i F (fy_ed dp e.2.2.2.2.1 (fy_eb sc mo cl Tj Dj m i e.2.2.2.2.1) F) e)).2.2.1, av, ap, ((fy_td F i F (fy_ed dp e.2.2.2.2.1 (fy_eb sc mo cl Tj Dj m i e.2.2.2.2.1) F) e)).2.2.2.2.2, nt)) :
    wpY_teardownAfter post (yfc, ytc, yF, yT, nI F, nI m, nI e.1, nI e.2.2.2.1, sc, pc, yd, fl, mo, cl, yr, c, tt, tp, us, od, it, ip, io, e.2.1, e.2.2.1, av, ap, e.2.2.2.2.2, nt) (nI i) := by
  have main : wY_teardownAfter_18 post (nI i) (fy_bi (decide (m ≤ i + 1))) yfc ytc yF yT (nI F) (nI m) (nI e.1) (nI e.2.2.2.1) (F + 1) (nI 0) sc pc yd fl mo cl yr c tt tp us od it ip io (e.2.1) (e.2.2.1) av ap (e.2.2.2.2.2) nt := by
    refine fz_18 (al := e.2.2.2.2.1) hF hm hi hit ha (fun nt1 h1 => ⟨2, ?_⟩) F 0 (F + 1) nt (by omega) (by omega) (fun d hd => absurd hd (Nat.not_lt_zero d))
    refine fz_231 hF hyd ha (fun nt2 h2 => ⟨F + 1, ?_⟩) h1
    exact fz_314 hF F 0 (F + 1) b c0 _ e av nt2 (by omega) (by omega) ho (by omega) (by omega) ha (fy_ed_al hF) h2 (fy_cn_le _ F) h
  have hx : nI m - 1 = nI (m - 1) := pk_sub (b := 1) (by omega)
  unfold wpY_teardownAfter
  refine pk_eq i (m - 1) (fun z => ⟨F + 1, ?_⟩) (fun z => ⟨F + 1, ?_⟩) rfl hx
  · rw [decide_eq_true (show m ≤ i + 1 by omega)] at main
    exact main
  · rw [decide_eq_false (show ¬ m ≤ i + 1 by omega)] at main
    exact main
end
end
section
/-! Y: a run -/
section
variable {yfc ytc yF yT yrf yn yev yst : Int32} {sc pc yd fl mo cl yr c tt tp us od it ip io lg att av ap so nt : Nat → Int32}
theorem fz_sl_s {T m t : Nat} {tj : Nat → Nat} {dj : Nat → Nat → Nat} {tt tp tp1 : Nat → Int32} (h : fz_sl T m tj dj tt tp) (ht : t < T) (e1 : tj m = t) (e2 : ∀ f, dj m f < 4) (e3 : ∀ f, f < 12 → tp1 (m * 12 + f) = nI (dj m f) - 1) (e4 : ∀ j, j < m * 12 → tp1 j = tp j) : fz_sl T (m + 1) tj dj (upd tt m (nI t)) tp1 := by
  intro j hj
  by_cases e : j = m
  · subst e
    rw [pk_us, e1]
    exact ⟨ht, rfl, e2, e3⟩
  · obtain ⟨a1, a2, a3, a4⟩ := h j (by omega)
    rw [pk_un e]
    exact ⟨a1, a2, a3, fun f hf => by rw [e4 _ (by omega)]; exact a4 f hf⟩
theorem fz_r64 {post : Int32 → SY → Prop} {J : Int32 → Int32 → Int32 → Int32 → Int32 → Int32 → Int32 → Int32 → Int32 → Int32 → (Nat → Int32) → (Nat → Int32) → (Nat → Int32) → (Nat → Int32) → (Nat → Int32) → (Nat → Int32) → (Nat → Int32) → (Nat → Int32) → (Nat → Int32) → (Nat → Int32) → (Nat → Int32) → (Nat → Int32) → (Nat → Int32) → (Nat → Int32) → (Nat → Int32) → (Nat → Int32) → (Nat → Int32) → (Nat → Int32) → (Nat → Int32) → (Nat → Int32) → (Nat → Int32) → Prop} {F T t : Nat} {dp rq : Nat → Int32} (hF : F ≤ 12) (hT : T ≤ 16) (ht : t < T) (hp : fy_nb pc F 3) (hN : fy_tt (fx_g dp rq pc F) (t + 1) ≤ 64) (hc : ∀ g, g < 12 → c g = fy_bi (bt (fy_go dp F (rq t)) g)) (hC : ∀ g, F ≤ g → bt (fy_go dp F (rq t)) g = false)
    (hJ : ∀ tt tp : Nat → Int32, fz_sl T (fy_tt (fx_g dp rq pc F) (t + 1)) (fx_tj dp rq pc F T) (fx_dj dp rq pc F T) tt tp → J (nI (fy_tt (fx_g dp rq pc F) (t + 1))) (nI (t + 1)) yfc ytc (nI F) yT yrf yn yev yst sc pc yd fl mo cl yr c tt tp us od it ip io lg att av ap so nt) :
    ∀ (k q n : Nat) (tt tp : Nat → Int32), q + k = fx_g dp rq pc F t → k < n → fz_sl T (fy_tt (fx_g dp rq pc F) t + q) (fx_tj dp rq pc F T) (fx_dj dp rq pc F T) tt tp →
    wY_run_64 post J (nI t) (nI (fx_g dp rq pc F t)) n (nI (fy_tt (fx_g dp rq pc F) t + q)) (nI q) yfc ytc (nI F) yT yrf yn yev yst sc pc yd fl mo cl yr c tt tp us od it ip io lg att av ap so nt := by
  have hg : fx_g dp rq pc F t ≤ 531441 := Nat.le_trans (fy_ct_b hp F (Nat.le_refl F)).2 (fy_3p hF)
  have hN2 : fy_tt (fx_g dp rq pc F) (t + 1) = fy_tt (fx_g dp rq pc F) t + fx_g dp rq pc F t := rfl
  intro k
  induction k with
  | zero =>
    intro q n tt tp hk hn h
    obtain ⟨n, rfl⟩ : ∃ r, n = r + 1 := ⟨n - 1, by omega⟩
    have e : q = fx_g dp rq pc F t := by omega
    subst e
    refine br_t (nI_le (Nat.le_refl _) (by omega)) (nm_e ?_)
    rw [nI_1]
    exact hJ tt tp h
  | succ k ih =>
    intro q n tt tp hk hn h
    obtain ⟨n, rfl⟩ : ∃ r, n = r + 1 := ⟨n - 1, by omega⟩
    have hq : q < fx_g dp rq pc F t := by omega
    refine br_f (nI_ge hq (by omega)) (br_f (nI_ge (b := 64) (by omega) (by decide)) ?_)
    refine fz_em hF (by omega) (by omega) hp hc hC (fun tp1 a1 a2 => nm_e (nm_e ?_))
    rw [nI_1, nI_1]
    refine ih (q + 1) n _ _ (by omega) (by omega) (fz_sl_s h ht (fx_tj_e ht hq) (fun f => fx_dj_4 hp _ f) (fun f hf => ?_) a2)
    show tp1 ((fy_tt (fx_g dp rq pc F) t + q) * 12 + f) = nI (fx_dj dp rq pc F T (fy_tt (fx_g dp rq pc F) t + q) f) - 1
    rw [a1 f hf, fx_dj_e ht hq]
theorem fz_goC {dp rq : Nat → Int32} {F t : Nat} (hd : ∀ f, f < F → ∀ g, bt (dp f) g = true → g < f) (hq : ∀ g, bt (rq t) g = true → g < F) : ∀ g, F ≤ g → bt (fy_go dp F (rq t)) g = false := by
  intro g hg
  cases hb : bt (fy_go dp F (rq t)) g
  · rfl
  · have := fy_K_lt (fy_go_K hd) hd hq hb
    omega
theorem fz_r42 {post : Int32 → SY → Prop} {F T : Nat} {dp rq : Nat → Int32} (hF : F ≤ 12) (hT : T ≤ 16) (hp : fy_nb pc F 3) (hyd : ∀ f g, f < 12 → g < 12 → yd (f * 12 + g) = fy_bi (bt (dp f) g)) (hd : ∀ f, f < F → ∀ g, bt (dp f) g = true → g < f) (hyr : ∀ t g, t < 16 → g < 12 → yr (t * 12 + g) = fy_bi (bt (rq t) g)) (hrq : ∀ t g, t < 16 → bt (rq t) g = true → g < F) (hN : fy_tt (fx_g dp rq pc F) T ≤ 64)
    (h : ∀ c tt tp : Nat → Int32, fz_sl T (fy_tt (fx_g dp rq pc F) T) (fx_tj dp rq pc F T) (fx_dj dp rq pc F T) tt tp → ∃ n, wY_run_102 post (nI (fy_tt (fx_g dp rq pc F) T)) yfc ytc (nI F) (nI T) yrf yn yev yst n 0 sc pc yd fl mo cl yr c tt tp us od it ip io lg att av ap so nt) :
    ∀ (k t n : Nat) (c tt tp : Nat → Int32), t + k = T → k < n → fz_sl T (fy_tt (fx_g dp rq pc F) t) (fx_tj dp rq pc F T) (fx_dj dp rq pc F T) tt tp →
    wY_run_42 post n (nI (fy_tt (fx_g dp rq pc F) t)) (nI t) yfc ytc (nI F) (nI T) yrf yn yev yst sc pc yd fl mo cl yr c tt tp us od it ip io lg att av ap so nt := by
  intro k
  induction k with
  | zero =>
    intro t n c tt tp hk hn hs
    obtain ⟨n, rfl⟩ : ∃ r, n = r + 1 := ⟨n - 1, by omega⟩
    have e : t = T := by omega
    subst e
    exact br_t (nI_le (Nat.le_refl _) (by omega)) (h c tt tp hs)
  | succ k ih =>
    intro t n c tt tp hk hn hs
    obtain ⟨n, rfl⟩ : ∃ r, n = r + 1 := ⟨n - 1, by omega⟩
    have hN2 := fy_tt_m (g := fx_g dp rq pc F) (show t + 1 ≤ T by omega)
    refine br_f (nI_ge (by omega) (by omega)) ?_
    refine fz_cc hF (by omega) hyd hd (fun g hg => hyr t g (by omega) hg) (fun g hg => hrq t g (by omega) hg) (fun c1 hc1 => ?_)
    refine fz_cp hF hp hc1 ⟨fx_g dp rq pc F t + 1, ?_⟩
    exact fz_r64 hF hT (by omega) hp (by omega) hc1 (fz_goC hd (fun g hg => hrq t g (by omega) hg)) (fun tt1 tp1 h1 => ih (t + 1) n c1 tt1 tp1 (by omega) (by omega) h1) (fx_g dp rq pc F t) 0 _ tt tp (by omega) (by omega) hs
theorem fz_r4 {post : Int32 → SY → Prop} {F T : Nat} {dp rq : Nat → Int32} (hF : F ≤ 12) (hT : T ≤ 16) (hp : fy_nb pc F 3) (hyd : ∀ f g, f < 12 → g < 12 → yd (f * 12 + g) = fy_bi (bt (dp f) g)) (hd : ∀ f, f < F → ∀ g, bt (dp f) g = true → g < f) (hyr : ∀ t g, t < 16 → g < 12 → yr (t * 12 + g) = fy_bi (bt (rq t) g)) (hrq : ∀ t g, t < 16 → bt (rq t) g = true → g < F)
    (h1 : 64 < fy_tt (fx_g dp rq pc F) T → ∀ c : Nat → Int32, post (-1) (yfc, ytc, nI F, nI T, yrf, yn, yev, yst, sc, pc, yd, fl, mo, cl, yr, c, tt, tp, us, od, it, ip, io, lg, att, av, ap, so, nt))
    (h2 : fy_tt (fx_g dp rq pc F) T ≤ 64 → ∀ c : Nat → Int32, ∃ n, wY_run_42 post n 0 0 yfc ytc (nI F) (nI T) yrf yn yev yst sc pc yd fl mo cl yr c tt tp us od it ip io lg att av ap so nt) :
    ∀ (k t n : Nat) (c : Nat → Int32), t + k = T → k < n → wY_run_4 post n (nI (fy_tt (fx_g dp rq pc F) t)) (nI t) yfc ytc (nI F) (nI T) yrf yn yev yst sc pc yd fl mo cl yr c tt tp us od it ip io lg att av ap so nt := by
  have hb : fy_tt (fx_g dp rq pc F) T ≤ T * 531441 := fy_tt_b T (fun t _ => Nat.le_trans (fy_ct_b hp F (Nat.le_refl F)).2 (fy_3p hF))
  intro k
  induction k with
  | zero =>
    intro t n c hk hn
    obtain ⟨n, rfl⟩ : ∃ r, n = r + 1 := ⟨n - 1, by omega⟩
    have e : t = T := by omega
    subst e
    exact br_t (nI_le (Nat.le_refl _) (by omega)) (pk_le (fy_tt (fx_g dp rq pc F) t) 64 (fun z => h2 z c) (fun z => h1 z c))
  | succ k ih =>
    intro t n c hk hn
    obtain ⟨n, rfl⟩ : ∃ r, n = r + 1 := ⟨n - 1, by omega⟩
    refine br_f (nI_ge (by omega) (by omega)) ?_
    refine fz_cc hF (by omega) hyd hd (fun g hg => hyr t g (by omega) hg) (fun g hg => hrq t g (by omega) hg) (fun c1 hc1 => ?_)
    refine fz_cp hF hp hc1 (nm_e (nm_e ?_))
    rw [nI_1, nI_add]
    exact ih (t + 1) n c1 (by omega) (by omega)
theorem fz_r208 {post : Int32 → SY → Prop} {T m : Nat} {tj s : Nat → Nat} {dj : Nat → Nat → Nat} (hm : m ≤ 64) (hT : T ≤ 16) (hsl : fz_sl T m tj dj tt tp) (hs : ∀ p, p < m → s p < m) (hod : ∀ p, p < m → od p = nI (s p))
    (h : ∀ it ip io : Nat → Int32, fz_it m (fun q => tj (s q)) (fun q => dj (s q)) it ip → ∃ n, wY_run_250 post (nI m) yfc ytc yF yT yF (nI m) 0 yst n 0 sc pc yd fl mo cl yr c tt tp us od it ip io lg att av ap so nt) :
    ∀ (k p n : Nat) (it ip io : Nat → Int32), p + k = m → k < n → fz_it p (fun q => tj (s q)) (fun q => dj (s q)) it ip → wY_run_208 post (nI m) n (nI p) yfc ytc yF yT yrf yn yev yst sc pc yd fl mo cl yr c tt tp us od it ip io lg att av ap so nt := by
  intro k
  induction k with
  | zero =>
    intro p n it ip io hk hn h1
    obtain ⟨n, rfl⟩ : ∃ r, n = r + 1 := ⟨n - 1, by omega⟩
    have e : p = m := by omega
    subst e
    exact br_t (nI_le (Nat.le_refl _) (by omega)) (h it ip io h1)
  | succ k ih =>
    intro p n it ip io hk hn h1
    obtain ⟨n, rfl⟩ : ∃ r, n = r + 1 := ⟨n - 1, by omega⟩
    have hsp := hs p (by omega)
    obtain ⟨b1, b2, b3, b4⟩ := hsl (s p) hsp
    refine br_f (nI_ge (by omega) (by omega)) ⟨vp_in_nI (by omega) (by decide), ?_⟩
    rw [nI_clamp (by omega), hod p (by omega)]
    refine fz_cy (by omega) (by omega) (fun ip1 a1 a2 => nm_e ?_)
    rw [nI_1]
    refine ih (p + 1) n _ _ _ (by omega) (by omega) (fun j hj => ?_)
    by_cases e : j = p
    · subst e
      rw [pk_us]
      exact ⟨Nat.lt_of_lt_of_le b1 hT, b2, b3, fun f hf => by rw [a1 f hf]; exact b4 f hf⟩
    · obtain ⟨d1, d2, d3, d4⟩ := h1 j (by omega)
      rw [pk_un e]
      exact ⟨d1, d2, d3, fun f hf => by rw [a2 _ (by omega)]; exact d4 f hf⟩
theorem fz_r271 {post : Int32 → SY → Prop} {x2 : Int32} (h : ∀ av nt : Nat → Int32, (∀ f, f < 12 → av f = 0) → ∃ n, wY_run_304 post x2 n 0 yfc ytc yF yT yrf yn yev 0 sc pc yd fl mo cl yr c tt tp us od it ip io lg att av ap so nt) :
    ∀ (k x n : Nat) (av nt : Nat → Int32), x + k = 12 → k < n → (∀ f, f < x → av f = 0) → wY_run_271 post x2 yfc ytc yF yT yrf yn yev yst n (nI x) sc pc yd fl mo cl yr c tt tp us od it ip io lg att av ap so nt := by
  intro k
  induction k with
  | zero =>
    intro x n av nt hk hn h1
    obtain ⟨n, rfl⟩ : ∃ r, n = r + 1 := ⟨n - 1, by omega⟩
    have e : x = 12 := by omega
    subst e
    exact br_t (by decide) (h av nt h1)
  | succ k ih =>
    intro x n av nt hk hn h1
    obtain ⟨n, rfl⟩ : ∃ r, n = r + 1 := ⟨n - 1, by omega⟩
    refine br_f (nI_ge (b := 12) (by omega) (by decide)) ⟨vp_in_nI (by omega) (by decide), nm_e ⟨vp_in_nI (by omega) (by decide), nm_e (nm_e ?_)⟩⟩
    rw [nI_clamp (by omega), nI_1, fy_nr0]
    refine ih (x + 1) n _ _ (by omega) (by omega) (fun f hf => ?_)
    by_cases e : f = x
    · subst e
      exact pk_us
    · rw [pk_un e]
      exact h1 f (by omega)
theorem fz_r250 {post : Int32 → SY → Prop} {x2 : Int32} (h : ∀ av nt : Nat → Int32, (∀ f, f < 12 → av f = 0) → ∃ n, wY_run_304 post x2 n 0 yfc ytc yF yT yrf yn yev 0 sc pc yd fl mo cl yr c tt tp us od it ip io lg (fy_fill att 0 36) av ap so nt) :
    ∀ (k x n : Nat), x + k = 36 → k < n → wY_run_250 post x2 yfc ytc yF yT yrf yn yev yst n (nI x) sc pc yd fl mo cl yr c tt tp us od it ip io lg (fy_fill att 0 x) av ap so nt := by
  intro k
  induction k with
  | zero =>
    intro x n hk hn
    obtain ⟨n, rfl⟩ : ∃ r, n = r + 1 := ⟨n - 1, by omega⟩
    have e : x = 36 := by omega
    subst e
    exact br_t (by decide) ⟨13, fz_r271 h 12 0 13 av nt (by omega) (by omega) (fun f hf => absurd hf (Nat.not_lt_zero f))⟩
  | succ k ih =>
    intro x n hk hn
    obtain ⟨n, rfl⟩ : ∃ r, n = r + 1 := ⟨n - 1, by omega⟩
    refine br_f (nI_ge (b := 36) (by omega) (by decide)) ⟨vp_in_nI (by omega) (by decide), nm_e (nm_e ?_)⟩
    rw [nI_clamp (by omega), nI_1]
    exact ih (x + 1) n (by omega) (by omega)
theorem fz_r304 {post : Int32 → SY → Prop} {x2 : Int32} {F m : Nat} {dp : Nat → Int32} {Tj : Nat → Nat} {Dj : Nat → Nat → Nat} {e0 : fy_E} (hF : F ≤ 12) (hm : m ≤ 64) (hyd : ∀ f g, f < 12 → g < 12 → yd (f * 12 + g) = fy_bi (bt (dp f) g)) (hit : fz_it m Tj Dj it ip) (hD : ∀ j f, Dj j f < 4) (h0 : fy_ok F 0 0 e0)
    (h : ∀ io av ap nt : Nat → Int32, (∀ j, j < m → io j = fy_ou fl sc mo cl dp Tj Dj m F e0 j) → post x2 (yfc, ytc, yF, yT, nI F, nI m, nI ((fy_ex fl sc mo cl dp Tj Dj m F e0 m)).1, nI ((fy_ex fl sc mo cl dp Tj Dj m F e0 m)).2.2.2.1, sc, pc, yd, fl, mo, cl, yr, c, tt, tp, us, od, it, ip, io, ((fy_ex fl sc mo cl dp Tj Dj m F e0 m)).2.1, ((fy_ex fl sc mo cl dp Tj Dj m F e0 m)).2.2.1, av, ap, ((fy_ex fl sc mo cl dp Tj Dj m F e0 m)).2.2.2.2.2, nt)) :
    ∀ (k i n : Nat) (io av ap nt : Nat → Int32), i + k = m → k < n → (∀ j, j < i → io j = fy_ou fl sc mo cl dp Tj Dj m F e0 j) → fz_al F (fy_ex fl sc mo cl dp Tj Dj m F e0 i).2.2.2.2.1 av ap →
    wY_run_304 post x2 n (nI i) yfc ytc yF yT (nI F) (nI m) (nI ((fy_ex fl sc mo cl dp Tj Dj m F e0 i)).1) (nI ((fy_ex fl sc mo cl dp Tj Dj m F e0 i)).2.2.2.1) sc pc yd fl mo cl yr c tt tp us od it ip io (((fy_ex fl sc mo cl dp Tj Dj m F e0 i)).2.1) (((fy_ex fl sc mo cl dp Tj Dj m F e0 i)).2.2.1) av ap (((fy_ex fl sc mo cl dp Tj Dj m F e0 i)).2.2.2.2.2) nt := by
  intro k
  induction k with
  | zero =>
    intro i n io av ap nt hk hn ho ha
    obtain ⟨n, rfl⟩ : ∃ r, n = r + 1 := ⟨n - 1, by omega⟩
    have e : i = m := by omega
    subst e
    exact br_t (nI_le (Nat.le_refl _) (by omega)) (h io av ap nt ho)
  | succ k ih =>
    intro i n io av ap nt hk hn ho ha
    obtain ⟨n, rfl⟩ : ∃ r, n = r + 1 := ⟨n - 1, by omega⟩
    obtain ⟨-, -, -, hip⟩ := hit i (by omega)
    have hok := fy_ok_ex (fl := fl) (sc := sc) (mo := mo) (cl := cl) (dp := dp) (T := Tj) (n := m) hF hD h0 i
    have hok2 := fy_ok_su (fl := fl) (i := i) (hD i) F 0 _ _ _ hok
    refine br_f (nI_ge (by omega) (by omega)) ?_
    refine fz_su hF (by omega) (hD i) hip hok (by omega) (by omega) ha (fun av1 ap1 ha1 => ?_)
    refine fz_td hF hm (by omega) hyd hit hok2 (by omega) (by omega) ha1 (fun av2 nt2 ha2 => nm_e ?_)
    rw [nI_1]
    refine ih (i + 1) n _ _ _ _ (by omega) (by omega) (fun j hj => ?_) ha2
    by_cases e : j = i
    · subst e
      rw [pk_us]
      rfl
    · rw [pk_un e]
      exact ho j (by omega)
/-- Y's run, the sorted order s given -/
theorem fz_run {post : Int32 → SY → Prop} {F T : Nat} {dp rq al : Nat → Int32} (hF : F ≤ 12) (hT : T ≤ 16) (hp : fy_nb pc F 3) (hmo : fy_nb mo T 3) (hcl : fy_nb cl T 3) (hyd : ∀ f g, f < 12 → g < 12 → yd (f * 12 + g) = fy_bi (bt (dp f) g)) (hd : ∀ f, f < F → ∀ g, bt (dp f) g = true → g < f) (hyr : ∀ t g, t < 16 → g < 12 → yr (t * 12 + g) = fy_bi (bt (rq t) g)) (hrq : ∀ t g, t < 16 → bt (rq t) g = true → g < F)
    (h1 : 64 < fy_tt (fx_g dp rq pc F) T → ∀ c : Nat → Int32, post (-1) (yfc, ytc, nI F, nI T, yrf, yn, yev, yst, sc, pc, yd, fl, mo, cl, yr, c, tt, tp, us, od, it, ip, io, lg, att, av, ap, so, nt))
    (h2 : fy_tt (fx_g dp rq pc F) T ≤ 64 → ∃ s : Nat → Nat, fy_So (fx_kj sc pc dp mo cl rq F T) (fy_tt (fx_g dp rq pc F) T) s ∧
      ∀ c tt tp us od it ip io av ap nt : Nat → Int32, fz_it (fy_tt (fx_g dp rq pc F) T) (fun q => fx_tj dp rq pc F T (s q)) (fun q => fx_dj dp rq pc F T (s q)) it ip →
      (∀ j, j < fy_tt (fx_g dp rq pc F) T → io j = fy_ou fl sc mo cl dp (fun q => fx_tj dp rq pc F T (s q)) (fun q => fx_dj dp rq pc F T (s q)) (fy_tt (fx_g dp rq pc F) T) F (fy_e0 lg att al so) j) →
      post (nI (fy_tt (fx_g dp rq pc F) T)) (yfc, ytc, nI F, nI T, nI F, nI (fy_tt (fx_g dp rq pc F) T), nI ((fy_ex fl sc mo cl dp (fun q => fx_tj dp rq pc F T (s q)) (fun q => fx_dj dp rq pc F T (s q)) (fy_tt (fx_g dp rq pc F) T) F (fy_e0 lg att al so) (fy_tt (fx_g dp rq pc F) T))).1, nI ((fy_ex fl sc mo cl dp (fun q => fx_tj dp rq pc F T (s q)) (fun q => fx_dj dp rq pc F T (s q)) (fy_tt (fx_g dp rq pc F) T) F (fy_e0 lg att al so) (fy_tt (fx_g dp rq pc F) T))).2.2.2.1, sc, pc, yd, fl, mo, cl, yr, c, tt, tp, us, od, it, ip, io, ((fy_ex fl sc mo cl dp (fun q => fx_tj dp rq pc F T (s q)) (fun q => fx_dj dp rq pc F T (s q)) (fy_tt (fx_g dp rq pc F) T) F (fy_e0 lg att al so) (fy_tt (fx_g dp rq pc F) T))).2.1, ((fy_ex fl sc mo cl dp (fun q => fx_tj dp rq pc F T (s q)) (fun q => fx_dj dp rq pc F T (s q)) (fy_tt (fx_g dp rq pc F) T) F (fy_e0 lg att al so) (fy_tt (fx_g dp rq pc F) T))).2.2.1, av, ap, ((fy_ex fl sc mo cl dp (fun q => fx_tj dp rq pc F T (s q)) (fun q => fx_dj dp rq pc F T (s q)) (fy_tt (fx_g dp rq pc F) T) F (fy_e0 lg att al so) (fy_tt (fx_g dp rq pc F) T))).2.2.2.2.2, nt)) :
    wpY_run post (yfc, ytc, nI F, nI T, yrf, yn, yev, yst, sc, pc, yd, fl, mo, cl, yr, c, tt, tp, us, od, it, ip, io, lg, att, av, ap, so, nt) := by
  unfold wpY_run
  refine ⟨T + 1, fz_r4 hF hT hp hyd hd hyr hrq h1 (fun hN c1 => ⟨T + 1, ?_⟩) T 0 (T + 1) c (by omega) (by omega)⟩
  obtain ⟨s, hs, h3⟩ := h2 hN
  refine fz_r42 hF hT hp hyd hd hyr hrq hN (fun c2 tt2 tp2 hsl => ⟨65, ?_⟩) T 0 (T + 1) c1 tt tp (by omega) (by omega) (fun j hj => absurd hj (Nat.not_lt_zero j))
  refine fz_use (fun us3 hus => ⟨fy_tt (fx_g dp rq pc F) T + 1, ?_⟩) 64 0 65 us (by omega) (by omega) (fun i hi => absurd hi (Nat.not_lt_zero i))
  refine fz_se1 hF hT hN hmo hcl hsl hs (fun us4 od4 hod => ⟨fy_tt (fx_g dp rq pc F) T + 1, ?_⟩) (fy_tt (fx_g dp rq pc F) T) 0 (fy_tt (fx_g dp rq pc F) T + 1) us3 od (by omega) (by omega) (fun j hj => Or.inl ⟨hus j (by omega), fun q hq => absurd hq (Nat.not_lt_zero q)⟩) (fun p hq => absurd hq (Nat.not_lt_zero p))
  refine fz_r208 hN hT hsl hs.1 hod (fun it5 ip5 io5 hit => ⟨37, ?_⟩) (fy_tt (fx_g dp rq pc F) T) 0 (fy_tt (fx_g dp rq pc F) T + 1) it ip io (by omega) (by omega) (fun j hj => absurd hj (Nat.not_lt_zero j))
  refine fz_r250 (fun av6 nt6 hav => ⟨fy_tt (fx_g dp rq pc F) T + 1, ?_⟩) 36 0 37 (by omega) (by omega)
  refine fz_r304 (e0 := fy_e0 lg att al so) hF hN hyd hit (fun j f => fx_dj_4 hp _ f) (fy_e0_ok hF) (fun io7 av7 ap7 nt7 ho => ?_) (fy_tt (fx_g dp rq pc F) T) 0 (fy_tt (fx_g dp rq pc F) T + 1) io5 av6 ap nt6 (by omega) (by omega) (fun j hj => absurd hj (Nat.not_lt_zero j)) (fun f hf => Or.inl ⟨hav f (by omega), fy_fill_e (by omega)⟩)
  exact h3 c2 tt2 tp2 us4 od4 it5 ip5 io7 av7 ap7 nt7 hit ho
end
end
section
/-! the relation -/
def fy_Rl (fc tc F T RF n ev : Nat) (sc pc dp mo cl rq te pa oc yd yr it ip io : Nat → Int32) : Prop :=
  (fc ≤ 12 ∧ tc ≤ 16 ∧ F ≤ fc ∧ T ≤ tc ∧ RF ≤ F ∧ n ≤ 64 ∧ ev ≤ 2000) ∧
  (fy_nb sc F 3 ∧ fy_nb pc F 3 ∧ fy_nb mo T 3 ∧ fy_nb cl T 3) ∧
  (∀ f g, f < 12 → g < 12 → yd (f * 12 + g) = fy_bi (bt (dp f) g)) ∧ (∀ f g, f < 12 → bt (dp f) g = true → g < f) ∧
  (∀ t g, t < 16 → g < 12 → yr (t * 12 + g) = fy_bi (bt (rq t) g)) ∧ (∀ t g, t < 16 → bt (rq t) g = true → g < F) ∧
  (∀ j, j < n → it j = te j ∧ io j = oc j ∧ ∃ D : Nat → Nat, (∀ f, D f < 4) ∧ (∀ f, RF ≤ f → D f = 0) ∧ pa j = nI (fy_en D 12) ∧ ∀ f, f < 12 → ip (j * 12 + f) = nI (D f) - 1)
/-- both states hold the same definitions (sets as bits here, as rows of booleans there) and the same results; what an execution leaves behind is alike too, but for the alive parameters -/
def i_Rel (k : Nat) (u : SX) (v : SY) : Prop :=
  ∃ (fc tc F T RF n ev : Nat) (st : Int32) (sc pc dp fl mo cl rq te pa oc lg att al so yd yr c tt tp us od it ip io av ap nt : Nat → Int32) (ke : Nat → Int64),
    u = (nI fc, nI tc, nI F, nI T, nI n, nI ev, st, sc, pc, dp, fl, mo, cl, rq, te, pa, ke, oc, lg, att, al, so) ∧
    v = (nI fc, nI tc, nI F, nI T, nI RF, nI n, nI ev, st, sc, pc, yd, fl, mo, cl, yr, c, tt, tp, us, od, it, ip, io, lg, att, av, ap, so, nt) ∧
    fy_Rl fc tc F T RF n ev sc pc dp mo cl rq te pa oc yd yr it ip io
theorem i_up {k : Nat} {u : SX} {v : SY} (h : i_Rel k u v) : i_Rel (k + 4) u v := h
theorem fy_mk {k fc tc F T RF n ev : Nat} {st : Int32} {sc pc dp fl mo cl rq te pa oc lg att al so yd yr c tt tp us od it ip io av ap nt : Nat → Int32} {ke : Nat → Int64} (h : fy_Rl fc tc F T RF n ev sc pc dp mo cl rq te pa oc yd yr it ip io) :
    i_Rel k (nI fc, nI tc, nI F, nI T, nI n, nI ev, st, sc, pc, dp, fl, mo, cl, rq, te, pa, ke, oc, lg, att, al, so) (nI fc, nI tc, nI F, nI T, nI RF, nI n, nI ev, st, sc, pc, yd, fl, mo, cl, yr, c, tt, tp, us, od, it, ip, io, lg, att, av, ap, so, nt) :=
  ⟨fc, tc, F, T, RF, n, ev, st, sc, pc, dp, fl, mo, cl, rq, te, pa, oc, lg, att, al, so, yd, yr, c, tt, tp, us, od, it, ip, io, av, ap, nt, ke, rfl, rfl, h⟩
theorem fy_clm (x : Int32) (lo hi : Nat) (h1 : lo ≤ hi) (h2 : hi < 100) : ∃ c, lo ≤ c ∧ c ≤ hi ∧ ((nI lo ≤ x ∧ x ≤ nI hi ∧ x = nI c) ∨ (nI lo ≤ x ∧ ¬ x ≤ nI hi ∧ c = hi) ∨ (¬ nI lo ≤ x ∧ c = lo)) := by
  by_cases a1 : nI lo ≤ x
  · by_cases a2 : x ≤ nI hi
    · have h0 : ¬ x < 0 := fun z => by
        have := nI_pos' (n := lo) (by omega)
        exact absurd z (Int32.not_lt.mpr (Int32.le_trans this a1))
      obtain ⟨j, hj, rfl⟩ := nI_of h0
      rw [nI_leI (by omega) hj] at a1
      rw [nI_leI hj (by omega)] at a2
      exact ⟨j, a1, a2, Or.inl ⟨nI_le a1 hj, nI_le a2 (by omega), rfl⟩⟩
    · exact ⟨hi, h1, Nat.le_refl _, Or.inr (Or.inl ⟨a1, a2, rfl⟩)⟩
  · exact ⟨lo, Nat.le_refl _, h1, Or.inr (Or.inr ⟨a1, rfl⟩)⟩
theorem i_vc0 (k0 : Int32) (k1 : Int32) : wpX_init (fun u => wpY_init (fun v => i_Rel 2 u v) k0 k1) k0 k1 := by
  obtain ⟨c1, l1, b1, h1⟩ := fy_clm k0 2 12 (by decide) (by decide)
  obtain ⟨c2, l2, b2, h2⟩ := fy_clm k1 1 16 (by decide) (by decide)
  have X1 : ∀ post : Int32 → Prop, post (nI c1) → wpX_clamp post k0 2 12 := by
    intro post hp
    unfold wpX_clamp
    rcases h1 with ⟨a1, a2, a3⟩ | ⟨a1, a2, a3⟩ | ⟨a1, a3⟩
    · exact br_t a1 (br_t a2 (by rw [a3]; exact hp))
    · subst a3
      exact br_t a1 (br_f a2 hp)
    · subst a3
      exact br_f a1 hp
  have X2 : ∀ post : Int32 → Prop, post (nI c2) → wpX_clamp post k1 1 16 := by
    intro post hp
    unfold wpX_clamp
    rcases h2 with ⟨a1, a2, a3⟩ | ⟨a1, a2, a3⟩ | ⟨a1, a3⟩
    · exact br_t a1 (br_t a2 (by rw [a3]; exact hp))
    · subst a3
      exact br_t a1 (br_f a2 hp)
    · subst a3
      exact br_f a1 hp
  have Z : i_Rel 2 (nI c1, nI c2, 0, 0, 0, 0, 0, (fun _ => 0), (fun _ => 0), (fun _ => 0), (fun _ => 0), (fun _ => 0), (fun _ => 0), (fun _ => 0), (fun _ => 0), (fun _ => 0), (fun _ => 0), (fun _ => 0), (fun _ => 0), (fun _ => 0), (fun _ => 0), (fun _ => 0)) (nI c1, nI c2, 0, 0, 0, 0, 0, 0, (fun _ => 0), (fun _ => 0), (fun _ => 0), (fun _ => 0), (fun _ => 0), (fun _ => 0), (fun _ => 0), (fun _ => 0), (fun _ => 0), (fun _ => 0), (fun _ => 0), (fun _ => 0), (fun _ => 0), (fun _ => 0), (fun _ => 0), (fun _ => 0), (fun _ => 0), (fun _ => 0), (fun _ => 0), (fun _ => 0), (fun _ => 0)) := by
    refine fy_mk (fc := c1) (tc := c2) (F := 0) (T := 0) (RF := 0) (n := 0) (ev := 0) ⟨⟨b1, b2, by omega, by omega, by omega, by omega, by omega⟩, ⟨?_, ?_, ?_, ?_⟩, fun f g _ _ => ?_, fun f g _ h => ?_, fun f g _ _ => ?_, fun f g _ h => ?_, fun j hj => absurd hj (Nat.not_lt_zero j)⟩
    · exact fun f hf => absurd hf (Nat.not_lt_zero f)
    · exact fun f hf => absurd hf (Nat.not_lt_zero f)
    · exact fun f hf => absurd hf (Nat.not_lt_zero f)
    · exact fun f hf => absurd hf (Nat.not_lt_zero f)
    · show 0 = fy_bi (bt 0 g)
      rw [b_0]
      rfl
    · have h' : bt 0 g = true := h
      rw [b_0] at h'
      exact absurd h' (by decide)
    · show 0 = fy_bi (bt 0 g)
      rw [b_0]
      rfl
    · have h' : bt 0 g = true := h
      rw [b_0] at h'
      exact absurd h' (by decide)
  unfold wpX_init
  refine X1 _ (X2 _ ?_)
  have Y2 : wY_init_199 (fun v => i_Rel 2 (nI c1, nI c2, 0, 0, 0, 0, 0, (fun _ => 0), (fun _ => 0), (fun _ => 0), (fun _ => 0), (fun _ => 0), (fun _ => 0), (fun _ => 0), (fun _ => 0), (fun _ => 0), (fun _ => 0), (fun _ => 0), (fun _ => 0), (fun _ => 0), (fun _ => 0), (fun _ => 0)) v) k1 (nI c1) 0 0 0 0 0 0 0 0 (fun _ => 0) (fun _ => 0) (fun _ => 0) (fun _ => 0) (fun _ => 0) (fun _ => 0) (fun _ => 0) (fun _ => 0) (fun _ => 0) (fun _ => 0) (fun _ => 0) (fun _ => 0) (fun _ => 0) (fun _ => 0) (fun _ => 0) (fun _ => 0) (fun _ => 0) (fun _ => 0) (fun _ => 0) (fun _ => 0) (fun _ => 0) := by
    unfold wY_init_199
    rcases h2 with ⟨a1, a2, a3⟩ | ⟨a1, a2, a3⟩ | ⟨a1, a3⟩
    · exact br_t a1 (br_t a2 (by rw [a3]; exact Z))
    · subst a3
      exact br_t a1 (br_f a2 Z)
    · subst a3
      exact br_f a1 Z
  unfold wpY_init
  rcases h1 with ⟨a1, a2, a3⟩ | ⟨a1, a2, a3⟩ | ⟨a1, a3⟩
  · exact br_t a1 (br_t a2 (by rw [a3]; exact Y2))
  · subst a3
    exact br_t a1 (br_f a2 Y2)
  · subst a3
    exact br_f a1 Y2
end
section
/-! owed: the definitions -/
theorem fy_lt4 {x : Int32} (h0 : ¬ x < 0) (h3 : x ≤ 3) : ∃ j, j ≤ 3 ∧ x = nI j := nI_of2 (M := 3) (by decide) h0 h3
theorem i_vc_defineFixture {k : Nat} {u : SX} {v : SY} (I : i_Rel k u v) (hk : k + 4 ≤ 2050) (v1 : Int32) (v2 : Int32) : wpX_defineFixture (fun r u' => wpY_defineFixture (fun r' v' => r' = r ∧ i_Rel (k + 4) u' v') v v1 v2) u v1 v2 := by
  have I0 := I
  obtain ⟨fc, tc, F, T, RF, n, ev, st, sc, pc, dp, fl, mo, cl, rq, te, pa, oc, lg, att, al, so, yd, yr, c, tt, tp, us, od, it, ip, io, av, ap, nt, ke, rfl, rfl, R⟩ := I
  obtain ⟨⟨hfc, htc, hF, hT, hRF, hn, hev⟩, ⟨hsc, hpc, hmo, hcl⟩, hyd, hdp, hyr, hrq, hit⟩ := R
  have I1 := i_up I0
  unfold wpX_defineFixture wpY_defineFixture
  dsimp only
  by_cases a1 : v1 < 0
  · exact br_t a1 (br_t a1 ⟨rfl, I1⟩)
  by_cases a2 : v1 ≤ 3
  · by_cases a3 : v2 < 0
    · exact br_f a1 (br_t a2 (br_t a3 (br_f a1 (br_t a2 (br_t a3 ⟨rfl, I1⟩)))))
    by_cases a4 : v2 ≤ 3
    · by_cases a5 : F < fc
      · have b5 : nI F < nI fc := nI_lt a5 (by omega)
        have vF : vp_in (nI F) 12 := vp_in_nI (by omega) (by decide)
        obtain ⟨s, hs, rfl⟩ := fy_lt4 a1 a2
        obtain ⟨p, hp, rfl⟩ := fy_lt4 a3 a4
        refine br_f a1 (br_t a2 (br_f a3 (br_t a4 (br_t b5 ⟨vF, nm_e ⟨vF, nm_e (nm_e ?_)⟩⟩))))
        refine br_f a1 (br_t a2 (br_f a3 (br_t a4 (br_t b5 ⟨vF, nm_e ⟨vF, nm_e (nm_e ?_)⟩⟩))))
        rw [nI_clamp (show F < 2 ^ 31 by omega), nI_1]
        refine ⟨nI_pred F, fy_mk ⟨⟨hfc, htc, by omega, hT, by omega, hn, hev⟩, ⟨fy_nb_upd hsc (by decide) hs, fy_nb_upd hpc (by decide) hp, hmo, hcl⟩, hyd, hdp, hyr, fun t g ht h => ?_, hit⟩⟩
        have := hrq t g ht h
        omega
      · have b5 : ¬ nI F < nI fc := nI_nlt (by omega) (by omega)
        exact br_f a1 (br_t a2 (br_f a3 (br_t a4 (br_f b5 (br_f a1 (br_t a2 (br_f a3 (br_t a4 (br_f b5 ⟨rfl, I1⟩)))))))))
    · exact br_f a1 (br_t a2 (br_f a3 (br_f a4 (br_f a1 (br_t a2 (br_f a3 (br_f a4 ⟨rfl, I1⟩)))))))
  · exact br_f a1 (br_f a2 (br_f a1 (br_f a2 ⟨rfl, I1⟩)))
theorem i_vc_addTest {k : Nat} {u : SX} {v : SY} (I : i_Rel k u v) (hk : k + 4 ≤ 2050) (v1 : Int32) (v2 : Int32) : wpX_addTest (fun r u' => wpY_addTest (fun r' v' => r' = r ∧ i_Rel (k + 4) u' v') v v1 v2) u v1 v2 := by
  have I0 := I
  obtain ⟨fc, tc, F, T, RF, n, ev, st, sc, pc, dp, fl, mo, cl, rq, te, pa, oc, lg, att, al, so, yd, yr, c, tt, tp, us, od, it, ip, io, av, ap, nt, ke, rfl, rfl, R⟩ := I
  obtain ⟨⟨hfc, htc, hF, hT, hRF, hn, hev⟩, ⟨hsc, hpc, hmo, hcl⟩, hyd, hdp, hyr, hrq, hit⟩ := R
  have I1 := i_up I0
  unfold wpX_addTest wpY_addTest
  dsimp only
  by_cases a1 : v1 < 0
  · exact br_t a1 (br_t a1 ⟨rfl, I1⟩)
  by_cases a2 : v1 ≤ 3
  · by_cases a3 : v2 < 0
    · exact br_f a1 (br_t a2 (br_t a3 (br_f a1 (br_t a2 (br_t a3 ⟨rfl, I1⟩)))))
    by_cases a4 : v2 ≤ 3
    · by_cases a5 : T < tc
      · have b5 : nI T < nI tc := nI_lt a5 (by omega)
        have vF : vp_in (nI T) 16 := vp_in_nI (by omega) (by decide)
        obtain ⟨s, hs, rfl⟩ := fy_lt4 a1 a2
        obtain ⟨p, hp, rfl⟩ := fy_lt4 a3 a4
        refine br_f a1 (br_t a2 (br_f a3 (br_t a4 (br_t b5 ⟨vF, nm_e ⟨vF, nm_e (nm_e ?_)⟩⟩))))
        refine br_f a1 (br_t a2 (br_f a3 (br_t a4 (br_t b5 ⟨vF, nm_e ⟨vF, nm_e (nm_e ?_)⟩⟩))))
        rw [nI_clamp (show T < 2 ^ 31 by omega), nI_1]
        exact ⟨nI_pred T, fy_mk ⟨⟨hfc, htc, hF, by omega, hRF, hn, hev⟩, ⟨hsc, hpc, fy_nb_upd hmo (by decide) hs, fy_nb_upd hcl (by decide) hp⟩, hyd, hdp, hyr, hrq, hit⟩⟩
      · have b5 : ¬ nI T < nI tc := nI_nlt (by omega) (by omega)
        exact br_f a1 (br_t a2 (br_f a3 (br_t a4 (br_f b5 (br_f a1 (br_t a2 (br_f a3 (br_t a4 (br_f b5 ⟨rfl, I1⟩)))))))))
    · exact br_f a1 (br_t a2 (br_f a3 (br_f a4 (br_f a1 (br_t a2 (br_f a3 (br_f a4 ⟨rfl, I1⟩)))))))
  · exact br_f a1 (br_f a2 (br_f a1 (br_f a2 ⟨rfl, I1⟩)))
/-- one bit more, here and there -/
theorem fy_put1 {w : Nat} {yd dp : Nat → Int32} {f g : Nat} (h : ∀ f g, f < w → g < 12 → yd (f * 12 + g) = fy_bi (bt (dp f) g)) (hg : g < 12) : ∀ a b, a < w → b < 12 → upd yd (f * 12 + g) 1 (a * 12 + b) = fy_bi (bt (upd dp f (dp f ||| ((1 : Int32) <<< (nI g &&& 31))) a) b) := by
  intro a b ha hb
  by_cases e : a = f
  · subst e
    rw [pk_us, fy_set _ (by omega) (by omega)]
    by_cases e2 : b = g
    · subst e2
      rw [pk_us, decide_eq_true rfl, Bool.or_true]
      rfl
    · rw [pk_un (by omega), decide_eq_false e2, Bool.or_false]
      exact h a b ha hb
  · rw [pk_un (by omega), pk_un e]
    exact h a b ha hb
theorem fy_put2 {dp : Nat → Int32} {f g a b : Nat} (hg : g < 12) (h : bt (upd dp f (dp f ||| ((1 : Int32) <<< (nI g &&& 31))) a) b = true) : bt (dp a) b = true ∨ (a = f ∧ b = g) := by
  by_cases e : a = f
  · subst e
    rw [pk_us] at h
    rcases Nat.lt_or_ge b 32 with z | z
    · rw [fy_set _ (by omega) z, Bool.or_eq_true, decide_eq_true_eq] at h
      exact h.elim Or.inl (fun q => Or.inr ⟨rfl, q⟩)
    · rw [b_big z] at h
      exact absurd h (by decide)
  · rw [pk_un e] at h
    exact Or.inl h
theorem i_vc_addDependency {k : Nat} {u : SX} {v : SY} (I : i_Rel k u v) (hk : k + 4 ≤ 2050) (v1 : Int32) (v2 : Int32) : wpX_addDependency (fun r u' => wpY_addDependency (fun r' v' => r' = r ∧ i_Rel (k + 4) u' v') v v1 v2) u v1 v2 := by
  have I0 := I
  obtain ⟨fc, tc, F, T, RF, n, ev, st, sc, pc, dp, fl, mo, cl, rq, te, pa, oc, lg, att, al, so, yd, yr, c, tt, tp, us, od, it, ip, io, av, ap, nt, ke, rfl, rfl, R⟩ := I
  obtain ⟨⟨hfc, htc, hF, hT, hRF, hn, hev⟩, ⟨hsc, hpc, hmo, hcl⟩, hyd, hdp, hyr, hrq, hit⟩ := R
  have I1 := i_up I0
  unfold wpX_addDependency wpY_addDependency
  dsimp only
  refine fx_isF (by omega) (fun z => br_t rfl ?_) (fun f hf e => br_f (by decide) ?_)
  · by_cases z0 : v1 < 0
    · exact br_t z0 ⟨rfl, I1⟩
    · rcases z with z | z
      · exact absurd z z0
      · exact br_f z0 (br_f (Int32.not_lt.mpr z) ⟨rfl, I1⟩)
  · subst e
    have f0 : ¬ nI f < 0 := nI_pos (by omega)
    have f1 : nI f < nI F := nI_lt hf (by omega)
    have vf : vp_in (nI f) 12 := vp_in_nI (by omega) (by decide)
    have cf : (nI f).toNatClampNeg = f := nI_clamp (by omega)
    refine fx_isF (by omega) (fun z => br_t rfl ?_) (fun g hg e => br_f (by decide) ?_)
    · by_cases z0 : v2 < 0
      · exact br_f f0 (br_t f1 (br_t z0 ⟨rfl, I1⟩))
      · rcases z with z | z
        · exact absurd z z0
        · exact br_f f0 (br_t f1 (br_f z0 (br_f (Int32.not_lt.mpr z) ⟨rfl, I1⟩)))
    · subst e
      have g0 : ¬ nI g < 0 := nI_pos (by omega)
      have g1 : nI g < nI F := nI_lt hg (by omega)
      have vg : vp_in (nI g) 12 := vp_in_nI (by omega) (by decide)
      have cg : (nI g).toNatClampNeg = g := nI_clamp (by omega)
      by_cases z1 : f ≤ g
      · exact br_t (nI_le z1 (by omega)) (br_f f0 (br_t f1 (br_f g0 (br_t g1 (br_f (nI_nlt z1 (by omega)) ⟨rfl, I1⟩)))))
      · have z2 : nI g < nI f := nI_lt (by omega) (by omega)
        refine br_f (nI_ge (by omega) (by omega)) ⟨vg, vf, ?_⟩
        rw [cf, cg]
        by_cases z3 : sc f < sc g
        · exact br_t z3 (br_f f0 (br_t f1 (br_f g0 (br_t g1 (br_t z2 ⟨vg, vf, br_f (Int32.not_le.mpr z3) ⟨rfl, I1⟩⟩)))))
        · have xa : nI f * 12 + nI g = nI (f * 12 + g) := by rw [← nI_add, ← pk_mul]; rfl
          have va : vp_in (nI (f * 12 + g)) 144 := vp_in_nI (by omega) (by decide)
          have ca : (nI (f * 12 + g)).toNatClampNeg = f * 12 + g := nI_clamp (by omega)
          refine br_f z3 ⟨vf, fx_has (by omega) ?_⟩
          have hy := hyd f g (by omega) (by omega)
          rw [xa, ca, hy, fy_nr1]
          refine fy_bi_z (fun y => ⟨vf, vf, nm_e ?_⟩) (fun y => ?_)
          · refine br_f f0 (br_t f1 (br_f g0 (br_t g1 (br_t z2 ⟨vg, vf, br_t (Int32.not_lt.mp z3) ⟨va, br_t (by rw [y]; rfl) ⟨va, nm_e ⟨rfl, fy_mk ⟨⟨hfc, htc, hF, hT, hRF, hn, hev⟩, ⟨hsc, hpc, hmo, hcl⟩, fy_put1 hyd (by omega), fun a b ha h => ?_, hyr, hrq, hit⟩⟩⟩⟩⟩))))
            rcases fy_put2 (by omega) h with q | ⟨q1, q2⟩
            · exact hdp a b ha q
            · omega
          · exact br_f f0 (br_t f1 (br_f g0 (br_t g1 (br_t z2 ⟨vg, vf, br_t (Int32.not_lt.mp z3) ⟨va, br_f (by rw [y]; decide) ⟨rfl, I1⟩⟩⟩))))
theorem i_vc_requestFixture {k : Nat} {u : SX} {v : SY} (I : i_Rel k u v) (hk : k + 4 ≤ 2050) (v1 : Int32) (v2 : Int32) : wpX_requestFixture (fun r u' => wpY_requestFixture (fun r' v' => r' = r ∧ i_Rel (k + 4) u' v') v v1 v2) u v1 v2 := by
  have I0 := I
  obtain ⟨fc, tc, F, T, RF, n, ev, st, sc, pc, dp, fl, mo, cl, rq, te, pa, oc, lg, att, al, so, yd, yr, c, tt, tp, us, od, it, ip, io, av, ap, nt, ke, rfl, rfl, R⟩ := I
  obtain ⟨⟨hfc, htc, hF, hT, hRF, hn, hev⟩, ⟨hsc, hpc, hmo, hcl⟩, hyd, hdp, hyr, hrq, hit⟩ := R
  have I1 := i_up I0
  unfold wpX_requestFixture wpY_requestFixture
  dsimp only
  rcases pk_ix v1 (n := T) (by omega) with z | z | ⟨t, ht, rfl⟩
  · exact br_t z (br_t z ⟨rfl, I1⟩)
  · by_cases z0 : v1 < 0
    · exact br_t z0 (br_t z0 ⟨rfl, I1⟩)
    · exact br_f z0 (br_t z (br_f z0 (br_f (Int32.not_lt.mpr z) ⟨rfl, I1⟩)))
  · have t0 : ¬ nI t < 0 := nI_pos (by omega)
    have t1 : nI t < nI T := nI_lt ht (by omega)
    have vt : vp_in (nI t) 16 := vp_in_nI (by omega) (by decide)
    have ct : (nI t).toNatClampNeg = t := nI_clamp (by omega)
    refine br_f t0 (br_f (nI_ge ht (by omega)) (fx_isF (by omega) (fun z => br_t rfl ?_) (fun g hg e => br_f (by decide) ?_)))
    · by_cases z0 : v2 < 0
      · exact br_f t0 (br_t t1 (br_t z0 ⟨rfl, I1⟩))
      · rcases z with z | z
        · exact absurd z z0
        · exact br_f t0 (br_t t1 (br_f z0 (br_f (Int32.not_lt.mpr z) ⟨rfl, I1⟩)))
    · subst e
      have g0 : ¬ nI g < 0 := nI_pos (by omega)
      have g1 : nI g < nI F := nI_lt hg (by omega)
      have xa : nI t * 12 + nI g = nI (t * 12 + g) := by rw [← nI_add, ← pk_mul]; rfl
      have va : vp_in (nI (t * 12 + g)) 192 := vp_in_nI (by omega) (by decide)
      have ca : (nI (t * 12 + g)).toNatClampNeg = t * 12 + g := nI_clamp (by omega)
      have hy := hyr t g (by omega) (by omega)
      refine ⟨vt, fx_has (by omega) ?_⟩
      rw [ct, xa, ca, hy, fy_nr1]
      refine fy_bi_z (fun y => ⟨vt, vt, nm_e ?_⟩) (fun y => ?_)
      · refine br_f t0 (br_t t1 (br_f g0 (br_t g1 ⟨va, br_t (by rw [y]; rfl) ⟨va, nm_e ⟨rfl, fy_mk ⟨⟨hfc, htc, hF, hT, hRF, hn, hev⟩, ⟨hsc, hpc, hmo, hcl⟩, hyd, hdp, fy_put1 hyr (by omega), fun a b ha h => ?_, hit⟩⟩⟩⟩)))
        rcases fy_put2 (by omega) h with q | ⟨q1, q2⟩
        · exact hrq a b ha q
        · omega
      · exact br_f t0 (br_t t1 (br_f g0 (br_t g1 ⟨va, br_f (by rw [y]; decide) ⟨rfl, I1⟩⟩)))
theorem i_vc_setFailure {k : Nat} {u : SX} {v : SY} (I : i_Rel k u v) (hk : k + 4 ≤ 2050) (v1 : Int32) (v2 : Int32) (v3 : Int32) : wpX_setFailure (fun r u' => wpY_setFailure (fun r' v' => r' = r ∧ i_Rel (k + 4) u' v') v v1 v2 v3) u v1 v2 v3 := by
  have I0 := I
  obtain ⟨fc, tc, F, T, RF, n, ev, st, sc, pc, dp, fl, mo, cl, rq, te, pa, oc, lg, att, al, so, yd, yr, c, tt, tp, us, od, it, ip, io, av, ap, nt, ke, rfl, rfl, R⟩ := I
  have R0 := R
  obtain ⟨⟨hfc, htc, hF, hT, hRF, hn, hev⟩, ⟨hsc, hpc, hmo, hcl⟩, hyd, hdp, hyr, hrq, hit⟩ := R
  have I1 := i_up I0
  unfold wpX_setFailure
  dsimp only
  refine fx_isF (by omega) (fun z => br_t rfl ?_) (fun f hf e => br_f (by decide) ?_)
  · unfold wpY_setFailure
    dsimp only
    by_cases z0 : v1 < 0
    · exact br_t z0 ⟨rfl, I1⟩
    · rcases z with z | z
      · exact absurd z z0
      · exact br_f z0 (br_f (Int32.not_lt.mpr z) ⟨rfl, I1⟩)
  · subst e
    have f0 : ¬ nI f < 0 := nI_pos (by omega)
    have f1 : nI f < nI F := nI_lt hf (by omega)
    have vf : vp_in (nI f) 12 := vp_in_nI (by omega) (by decide)
    have cf : (nI f).toNatClampNeg = f := nI_clamp (by omega)
    obtain ⟨pe, pb⟩ := hpc f hf
    obtain ⟨v1', v2'⟩ := fy_vl_b hpc hf
    have yj : ∀ post : Int32 → SY → Prop, wY_setFailure_34 post (nI f) v2 v3 (nI (fy_vl pc f)) (nI fc) (nI tc) (nI F) (nI T) (nI RF) (nI n) (nI ev) st sc pc yd fl mo cl yr c tt tp us od it ip io lg att av ap so nt → wpY_setFailure post (nI fc, nI tc, nI F, nI T, nI RF, nI n, nI ev, st, sc, pc, yd, fl, mo, cl, yr, c, tt, tp, us, od, it, ip, io, lg, att, av, ap, so, nt) (nI f) v2 v3 := by
      intro post hp
      unfold wpY_setFailure
      refine br_f f0 (br_t f1 ⟨vf, ?_⟩)
      rw [cf, pe]
      unfold fy_vl at hp
      refine pk_le 1 (fy_n pc f) (fun z => ⟨vf, ?_⟩) (fun z => ?_)
      · rw [if_neg (by omega)] at hp
        exact hp
      · rw [if_pos (by omega)] at hp
        exact hp
    by_cases z0 : v2 < 0
    · refine br_t z0 (yj _ ?_)
      unfold wY_setFailure_34
      exact br_t z0 ⟨rfl, I1⟩
    · refine br_f z0 (fx_vc (F := F) (by omega) hpc hf ?_)
      by_cases z1 : v2 < nI (fy_vl pc f)
      · by_cases z2 : v3 < 0
        · refine br_t z1 (br_t z2 (yj _ ?_))
          unfold wY_setFailure_34
          exact br_f z0 (br_t z1 (br_t z2 ⟨rfl, I1⟩))
        · by_cases z3 : v3 ≤ 15
          · obtain ⟨p, hp, rfl⟩ := nI_of z0
            rw [nI_ltI hp (by omega)] at z1
            have z1' : nI p < nI (fy_vl pc f) := nI_lt z1 (by omega)
            have xa : nI f * 3 + nI p = nI (f * 3 + p) := by rw [← nI_add, ← pk_mul]; rfl
            have va : vp_in (nI (f * 3 + p)) 36 := vp_in_nI (by omega) (by decide)
            refine br_t z1' (br_f z2 (br_t z3 (fx_slot ⟨va, nm_e (yj _ ?_)⟩)))
            unfold wY_setFailure_34
            rw [xa]
            exact br_f z0 (br_t z1' (br_f z2 (br_t z3 ⟨va, nm_e ⟨rfl, fy_mk R0⟩⟩)))
          · refine br_t z1 (br_f z2 (br_f z3 (yj _ ?_)))
            unfold wY_setFailure_34
            exact br_f z0 (br_t z1 (br_f z2 (br_f z3 ⟨rfl, I1⟩)))
      · refine br_f z1 (yj _ ?_)
        unfold wY_setFailure_34
        exact br_f z0 (br_f z1 ⟨rfl, I1⟩)
end
section
/-! owed: the getters -/
theorem i_vc_itemCount {k : Nat} {u : SX} {v : SY} (I : i_Rel k u v) (hk : k + 4 ≤ 2050) : wpX_itemCount (fun r => wpY_itemCount (fun r' => r' = r ∧ i_Rel (k + 4) u v) v) u := by
  have I0 := I
  obtain ⟨fc, tc, F, T, RF, n, ev, st, sc, pc, dp, fl, mo, cl, rq, te, pa, oc, lg, att, al, so, yd, yr, c, tt, tp, us, od, it, ip, io, av, ap, nt, ke, rfl, rfl, R⟩ := I
  exact ⟨rfl, i_up I0⟩
theorem i_vc_eventCount {k : Nat} {u : SX} {v : SY} (I : i_Rel k u v) (hk : k + 4 ≤ 2050) : wpX_eventCount (fun r => wpY_eventCount (fun r' => r' = r ∧ i_Rel (k + 4) u v) v) u := by
  have I0 := I
  obtain ⟨fc, tc, F, T, RF, n, ev, st, sc, pc, dp, fl, mo, cl, rq, te, pa, oc, lg, att, al, so, yd, yr, c, tt, tp, us, od, it, ip, io, av, ap, nt, ke, rfl, rfl, R⟩ := I
  exact ⟨rfl, i_up I0⟩
theorem i_vc_itemTest {k : Nat} {u : SX} {v : SY} (I : i_Rel k u v) (hk : k + 4 ≤ 2050) (v1 : Int32) : wpX_itemTest (fun r => wpY_itemTest (fun r' => r' = r ∧ i_Rel (k + 4) u v) v v1) u v1 := by
  have I0 := I
  obtain ⟨fc, tc, F, T, RF, n, ev, st, sc, pc, dp, fl, mo, cl, rq, te, pa, oc, lg, att, al, so, yd, yr, c, tt, tp, us, od, it, ip, io, av, ap, nt, ke, rfl, rfl, R⟩ := I
  obtain ⟨⟨hfc, htc, hF, hT, hRF, hn, hev⟩, ⟨hsc, hpc, hmo, hcl⟩, hyd, hdp, hyr, hrq, hit⟩ := R
  have I1 := i_up I0
  unfold wpX_itemTest wpY_itemTest
  dsimp only
  refine fx_isI (by omega) (fun z => br_t rfl ?_) (fun j hj e => br_f (by decide) ?_)
  · by_cases z0 : v1 < 0
    · exact br_t z0 ⟨rfl, I1⟩
    · rcases z with z | z
      · exact absurd z z0
      · exact br_f z0 (br_f (Int32.not_lt.mpr z) ⟨rfl, I1⟩)
  · subst e
    have vj : vp_in (nI j) 64 := vp_in_nI (by omega) (by decide)
    refine ⟨vj, br_f (nI_pos (by omega)) (br_t (nI_lt hj (by omega)) ⟨vj, ?_, I1⟩)⟩
    rw [nI_clamp (by omega)]
    exact (hit j hj).1
theorem i_vc_itemOutcome {k : Nat} {u : SX} {v : SY} (I : i_Rel k u v) (hk : k + 4 ≤ 2050) (v1 : Int32) : wpX_itemOutcome (fun r => wpY_itemOutcome (fun r' => r' = r ∧ i_Rel (k + 4) u v) v v1) u v1 := by
  have I0 := I
  obtain ⟨fc, tc, F, T, RF, n, ev, st, sc, pc, dp, fl, mo, cl, rq, te, pa, oc, lg, att, al, so, yd, yr, c, tt, tp, us, od, it, ip, io, av, ap, nt, ke, rfl, rfl, R⟩ := I
  obtain ⟨⟨hfc, htc, hF, hT, hRF, hn, hev⟩, ⟨hsc, hpc, hmo, hcl⟩, hyd, hdp, hyr, hrq, hit⟩ := R
  have I1 := i_up I0
  unfold wpX_itemOutcome wpY_itemOutcome
  dsimp only
  refine fx_isI (by omega) (fun z => br_t rfl ?_) (fun j hj e => br_f (by decide) ?_)
  · by_cases z0 : v1 < 0
    · exact br_t z0 ⟨rfl, I1⟩
    · rcases z with z | z
      · exact absurd z z0
      · exact br_f z0 (br_f (Int32.not_lt.mpr z) ⟨rfl, I1⟩)
  · subst e
    have vj : vp_in (nI j) 64 := vp_in_nI (by omega) (by decide)
    refine ⟨vj, br_f (nI_pos (by omega)) (br_t (nI_lt hj (by omega)) ⟨vj, ?_, I1⟩)⟩
    rw [nI_clamp (by omega)]
    exact (hit j hj).2.1
theorem i_vc_itemParam {k : Nat} {u : SX} {v : SY} (I : i_Rel k u v) (hk : k + 4 ≤ 2050) (v1 : Int32) (v2 : Int32) : wpX_itemParam (fun r => wpY_itemParam (fun r' => r' = r ∧ i_Rel (k + 4) u v) v v1 v2) u v1 v2 := by
  have I0 := I
  obtain ⟨fc, tc, F, T, RF, n, ev, st, sc, pc, dp, fl, mo, cl, rq, te, pa, oc, lg, att, al, so, yd, yr, c, tt, tp, us, od, it, ip, io, av, ap, nt, ke, rfl, rfl, R⟩ := I
  obtain ⟨⟨hfc, htc, hF, hT, hRF, hn, hev⟩, ⟨hsc, hpc, hmo, hcl⟩, hyd, hdp, hyr, hrq, hit⟩ := R
  have I1 := i_up I0
  unfold wpX_itemParam wpY_itemParam
  dsimp only
  refine fx_isI (by omega) (fun z => br_t rfl ?_) (fun j hj e => br_f (by decide) ?_)
  · by_cases z0 : v1 < 0
    · exact br_t z0 ⟨rfl, I1⟩
    · rcases z with z | z
      · exact absurd z z0
      · exact br_f z0 (br_f (Int32.not_lt.mpr z) ⟨rfl, I1⟩)
  · subst e
    have vj : vp_in (nI j) 64 := vp_in_nI (by omega) (by decide)
    have cj : (nI j).toNatClampNeg = j := nI_clamp (by omega)
    have j0 : ¬ nI j < 0 := nI_pos (by omega)
    have j1 : nI j < nI n := nI_lt hj (by omega)
    obtain ⟨-, -, D, d1, d2, d3, d4⟩ := hit j hj
    refine fx_isF (by omega) (fun z => br_t rfl ?_) (fun f hf e => br_f (by decide) ⟨vj, ?_⟩)
    · by_cases z0 : v2 < 0
      · exact br_f j0 (br_t j1 (br_t z0 ⟨rfl, I1⟩))
      · rcases z with z | z
        · exact absurd z z0
        · have z2 : ¬ v2 < nI RF := Int32.not_lt.mpr (Int32.le_trans (nI_le hRF (by omega)) z)
          exact br_f j0 (br_t j1 (br_f z0 (br_f z2 ⟨rfl, I1⟩)))
    · subst e
      have xa : nI j * 12 + nI f = nI (j * 12 + f) := by rw [← nI_add, ← pk_mul]; rfl
      rw [cj, d3, xa, nI_clamp (show j * 12 + f < 2 ^ 31 by omega), d4 f (by omega)]
      refine fx_pin d1 (by omega) (br_f j0 (br_t j1 (br_f (nI_pos (by omega)) (pk_lt f RF (fun z => ⟨vp_in_nI (by omega) (by decide), rfl, I1⟩) (fun z => ⟨?_, I1⟩)))))
      rw [d2 f z, fy_m0]
theorem i_vc_event {k : Nat} {u : SX} {v : SY} (I : i_Rel k u v) (hk : k + 4 ≤ 2050) (v1 : Int32) : wpX_event (fun r => wpY_event (fun r' => r' = r ∧ i_Rel (k + 4) u v) v v1) u v1 := by
  have I0 := I
  obtain ⟨fc, tc, F, T, RF, n, ev, st, sc, pc, dp, fl, mo, cl, rq, te, pa, oc, lg, att, al, so, yd, yr, c, tt, tp, us, od, it, ip, io, av, ap, nt, ke, rfl, rfl, R⟩ := I
  obtain ⟨⟨hfc, htc, hF, hT, hRF, hn, hev⟩, ⟨hsc, hpc, hmo, hcl⟩, hyd, hdp, hyr, hrq, hit⟩ := R
  have I1 := i_up I0
  unfold wpX_event wpY_event wY_event_20
  dsimp only
  by_cases z0 : v1 < 0
  · exact br_t z0 (br_c (fun _ => br_t z0 ⟨rfl, I1⟩) (fun _ => br_t z0 ⟨rfl, I1⟩))
  · obtain ⟨j, hj, rfl⟩ := nI_of z0
    refine br_f z0 (pk_le ev j (fun a1 => ?_) (fun a1 => pk_le 256 j (fun a2 => ?_) (fun a2 => ?_)))
    · exact pk_le 256 ev (fun b1 => br_f z0 (br_f (nI_nlt (b := 256) (by omega) (by omega)) ⟨rfl, I1⟩)) (fun b1 => br_f z0 (br_f (nI_nlt a1 (by omega)) ⟨rfl, I1⟩))
    · exact pk_le 256 ev (fun b1 => br_f z0 (br_f (nI_nlt (b := 256) (by omega) (by omega)) ⟨rfl, I1⟩)) (fun b1 => by omega)
    · have vj : vp_in (nI j) 256 := vp_in_nI (by omega) (by decide)
      exact ⟨vj, pk_le 256 ev (fun b1 => br_f z0 (br_t (nI_lt (b := 256) (by omega) (by decide)) ⟨vj, rfl, I1⟩)) (fun b1 => br_f z0 (br_t (nI_lt a1 (by omega)) ⟨vj, rfl, I1⟩))⟩
theorem i_vc_run {k : Nat} {u : SX} {v : SY} (I : i_Rel k u v) (hk : k + 4 ≤ 2050) : wpX_run (fun r u' => wpY_run (fun r' v' => r' = r ∧ i_Rel (k + 4) u' v') v) u := by
  obtain ⟨fc, tc, F, T, RF, n, ev, st, sc, pc, dp, fl, mo, cl, rq, te, pa, oc, lg, att, al, so, yd, yr, c, tt, tp, us, od, it, ip, io, av, ap, nt, ke, rfl, rfl, R⟩ := I
  have R0 := R
  obtain ⟨⟨hfc, htc, hF, hT, hRF, hn, hev⟩, ⟨hsc, hpc, hmo, hcl⟩, hyd, hdp, hyr, hrq, hit⟩ := R
  have hd : ∀ f, f < F → ∀ g, bt (dp f) g = true → g < f := fun f hf g h => hdp f g (by omega) h
  refine fx_run (by omega) (by omega) hpc hmo hcl (fun z => ?_) (fun z s te1 pa1 ke1 oc1 hs h1 h2 => ?_)
  · exact fz_run (al := al) (by omega) (by omega) hpc hmo hcl hyd hd hyr hrq (fun _ c1 => ⟨rfl, fy_mk R0⟩) (fun y => by omega)
  · refine fz_run (al := al) (by omega) (by omega) hpc hmo hcl hyd hd hyr hrq (fun y => by omega) (fun _ => ⟨s, hs, fun c1 tt1 tp1 us1 od1 it1 ip1 io1 av1 ap1 nt1 g1 g2 => ⟨rfl, fy_mk ⟨⟨hfc, htc, hF, hT, Nat.le_refl F, z, ?_⟩, ⟨hsc, hpc, hmo, hcl⟩, hyd, hdp, hyr, hrq, fun j hj => ?_⟩⟩⟩)
    · have := (fy_ok_ex (fl := fl) (sc := sc) (mo := mo) (cl := cl) (dp := dp) (T := fun q => fx_tj dp rq pc F T (s q)) (D := fun q => fx_dj dp rq pc F T (s q)) (n := fy_tt (fx_g dp rq pc F) T) (e := fy_e0 lg att al so) (show F ≤ 12 by omega) (fun i f => fx_dj_4 hpc _ f) (fy_e0_ok (by omega)) (fy_tt (fx_g dp rq pc F) T)).1
      omega
    · obtain ⟨q1, q2, q3, q4⟩ := g1 j hj
      refine ⟨by rw [(h1 j hj).1]; exact q2, by rw [h2 j hj, g2 j hj], fx_dj dp rq pc F T (s j), q3, fun f hf => fx_dj_0 hf, (h1 j hj).2, q4⟩
end
