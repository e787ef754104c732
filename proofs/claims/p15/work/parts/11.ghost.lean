theorem gh_31 : ¬ (3 : Nat) = 1 := by decide
theorem gh_32 : ¬ (3 : Nat) = 2 := by decide
theorem gh_12 : ¬ (1 : Nat) = 2 := by decide
theorem gh_21 : ¬ (2 : Nat) = 1 := by decide
/-! the log as a row of events (kind, item, fixture, parameter), and what holds of it while an execution goes on -/
abbrev gh_E : Type := Nat × Nat × Nat × Nat
def gh_co (g : gh_E) : Int32 := nI g.1 * 100000 + nI g.2.1 * 1000 + nI g.2.2.1 * 10 + nI g.2.2.2
def gh_lf (g : gh_E) (f : Nat) : Prop := (g.1 = 1 ∨ g.1 = 2) ∧ g.2.2.1 = f
def gh_ap (G : Nat → gh_E) (n : Nat) (g : gh_E) : Nat → gh_E := fun k => if k = n then g else G k
theorem gh_at {G : Nat → gh_E} {n : Nat} {g : gh_E} : gh_ap G n g n = g := if_pos rfl
theorem gh_ne {G : Nat → gh_E} {n k : Nat} {g : gh_E} (h : k ≠ n) : gh_ap G n g k = G k := if_neg h
theorem gh_lt {G : Nat → gh_E} {n k : Nat} {g : gh_E} (h : k < n) : gh_ap G n g k = G k := gh_ne (by omega)
/-- not ended among the first n -/
def gh_op (G : Nat → gh_E) (n a : Nat) : Prop := ∀ x, a < x → x < n → ¬ gh_lf (G x) (G a).2.2.1
/-- the scope of fixture f bears the items j to i -/
def gh_Sc (sc mo cl : Nat → Int32) (T : Nat → Nat) (f j i : Nat) : Prop :=
  (sc f = 3 → j = i) ∧ (sc f = 2 → ∀ q, j ≤ q → q ≤ i → mo (T q) = mo (T j) ∧ cl (T q) = cl (T j)) ∧ (sc f = 1 → ∀ q, j ≤ q → q ≤ i → mo (T q) = mo (T j))
/-- the setup at a is ended at b -/
def gh_cd (sc mo cl dp : Nat → Int32) (T : Nat → Nat) (G : Nat → gh_E) (a b : Nat) : Prop :=
  a < b ∧ gh_lf (G b) (G a).2.2.1 ∧ (∀ x, a < x → x < b → ¬ gh_lf (G x) (G a).2.2.1) ∧ (G b).1 = 2 ∧ (G b).2.2.2 = (G a).2.2.2 ∧
  (∀ c, a < c → c < b → (G c).1 = 1 → bt (dp (G c).2.2.1) (G a).2.2.1 = true → ∃ y, c < y ∧ y < b ∧ gh_lf (G y) (G c).2.2.1) ∧ (G a).2.1 ≤ (G b).2.1 ∧ gh_Sc sc mo cl T (G a).2.2.1 (G a).2.1 (G b).2.1
theorem gh_cd_cg {sc mo cl dp : Nat → Int32} {T : Nat → Nat} {G H : Nat → gh_E} {a b : Nat} (h : ∀ k, k ≤ b → H k = G k) (h1 : gh_cd sc mo cl dp T G a b) : gh_cd sc mo cl dp T H a b := by
  obtain ⟨c1, c2, c3, c4, c5, c6, c7, c8⟩ := h1
  have ea := h a (by omega)
  have eb := h b (by omega)
  refine ⟨c1, ?_, fun x hx hxb => ?_, ?_, ?_, fun c hc hcb => ?_, ?_, ?_⟩
  · rw [ea, eb]; exact c2
  · rw [ea, h x (by omega)]; exact c3 x hx hxb
  · rw [eb]; exact c4
  · rw [ea, eb]; exact c5
  · rw [ea, h c (by omega)]
    intro k1 k2
    obtain ⟨y, y1, y2, y3⟩ := c6 c hc hcb k1 k2
    exact ⟨y, y1, y2, by rw [h y (by omega)]; exact y3⟩
  · rw [ea, eb]; exact c7
  · rw [ea, eb]; exact c8
def gh_I (sc mo cl dp : Nat → Int32) (T : Nat → Nat) (F i n : Nat) (G : Nat → gh_E) (lg al so : Nat → Int32) : Prop :=
  n ≤ 256 ∧
  (∀ k, k < n → lg k = gh_co (G k) ∧ 1 ≤ (G k).1 ∧ (G k).1 ≤ 3 ∧ (G k).2.1 ≤ i ∧ (G k).2.2.1 < F ∧ (G k).2.2.2 < 3) ∧
  (∀ f p, f < F → p < 3 → al f = nI p → ∃ a, a < n ∧ (G a).1 = 1 ∧ (G a).2.2.1 = f ∧ (G a).2.2.2 = p ∧ gh_op G n a) ∧
  (∀ a, a < n → (G a).1 = 1 → (gh_op G n a ∧ al (G a).2.2.1 = nI (G a).2.2.2 ∧ gh_Sc sc mo cl T (G a).2.2.1 (G a).2.1 i) ∨ ∃ b, b < n ∧ gh_cd sc mo cl dp T G a b) ∧
  (∀ b, b < n → (G b).1 = 2 → ∃ a, a < b ∧ gh_lf (G a) (G b).2.2.1 ∧ (∀ x, a < x → x < b → ¬ gh_lf (G x) (G b).2.2.1) ∧ (G a).1 = 1) ∧
  (∀ a b, a < b → b < n → (G a).1 = 1 → (G b).1 = 1 → gh_op G n a → gh_op G n b → so (G a).2.2.1 < so (G b).2.2.1)
theorem gh_op_s {G : Nat → gh_E} {n a : Nat} {g : gh_E} (ha : a < n) : gh_op (gh_ap G n g) (n + 1) a ↔ gh_op G n a ∧ ¬ gh_lf g (G a).2.2.1 := by
  constructor
  · intro h
    refine ⟨fun x hx hxn => ?_, ?_⟩
    · have := h x hx (by omega)
      rw [gh_lt ha, gh_lt hxn] at this
      exact this
    · have := h n ha (by omega)
      rw [gh_lt ha, gh_at] at this
      exact this
  · intro ⟨h1, h2⟩ x hx hxn
    rw [gh_lt ha]
    by_cases e : x = n
    · subst e
      rw [gh_at]
      exact h2
    · rw [gh_ne e]
      exact h1 x hx (by omega)
theorem gh_op_n {G : Nat → gh_E} {n : Nat} {g : gh_E} : gh_op (gh_ap G n g) (n + 1) n := fun x hx hxn => by omega
/-- the log keeps what it held, and holds the new event -/
theorem gh_lgs {G : Nat → gh_E} {F i n : Nat} {lg : Nat → Int32} {g : gh_E} (h : ∀ k, k < n → lg k = gh_co (G k) ∧ 1 ≤ (G k).1 ∧ (G k).1 ≤ 3 ∧ (G k).2.1 ≤ i ∧ (G k).2.2.1 < F ∧ (G k).2.2.2 < 3) (h1 : 1 ≤ g.1 ∧ g.1 ≤ 3 ∧ g.2.1 ≤ i ∧ g.2.2.1 < F ∧ g.2.2.2 < 3) :
    ∀ k, k < n + 1 → upd lg n (gh_co g) k = gh_co (gh_ap G n g k) ∧ 1 ≤ (gh_ap G n g k).1 ∧ (gh_ap G n g k).1 ≤ 3 ∧ (gh_ap G n g k).2.1 ≤ i ∧ (gh_ap G n g k).2.2.1 < F ∧ (gh_ap G n g k).2.2.2 < 3 := by
  intro k hk
  by_cases e : k = n
  · subst e
    rw [pk_us, gh_at]
    exact ⟨rfl, h1⟩
  · rw [pk_un e, gh_ne e]
    exact h k (by omega)
/-- the last but one: teardowns stay matched -/
theorem gh_Es {G : Nat → gh_E} {n : Nat} {g : gh_E} (h : ∀ b, b < n → (G b).1 = 2 → ∃ a, a < b ∧ gh_lf (G a) (G b).2.2.1 ∧ (∀ x, a < x → x < b → ¬ gh_lf (G x) (G b).2.2.1) ∧ (G a).1 = 1) {b : Nat} (hb : b < n) (h2 : (gh_ap G n g b).1 = 2) :
    ∃ a, a < b ∧ gh_lf (gh_ap G n g a) (gh_ap G n g b).2.2.1 ∧ (∀ x, a < x → x < b → ¬ gh_lf (gh_ap G n g x) (gh_ap G n g b).2.2.1) ∧ (gh_ap G n g a).1 = 1 := by
  rw [gh_lt hb] at h2
  obtain ⟨a, a1, a2, a3, a4⟩ := h b hb h2
  refine ⟨a, a1, ?_, fun x hx hxb => ?_, ?_⟩
  · rw [gh_lt (show a < n by omega), gh_lt hb]; exact a2
  · rw [gh_lt (show x < n by omega), gh_lt hb]; exact a3 x hx hxb
  · rw [gh_lt (show a < n by omega)]; exact a4
/-- a failed setup -/
theorem gh_3 {sc mo cl dp : Nat → Int32} {T : Nat → Nat} {F i n f p : Nat} {G : Nat → gh_E} {lg al so : Nat → Int32} (h : gh_I sc mo cl dp T F i n G lg al so) (hn : n < 256) (hf : f < F) (hp : p < 3) :
    gh_I sc mo cl dp T F i (n + 1) (gh_ap G n (3, i, f, p)) (upd lg n (gh_co (3, i, f, p))) al so := by
  obtain ⟨hA, hB, hC, hD, hE, hS⟩ := h
  have nl : ∀ x, ¬ gh_lf (3, i, f, p) x := fun x q => q.1.elim (fun w => absurd w gh_31) (fun w => absurd w gh_32)
  refine ⟨by omega, gh_lgs hB ⟨by show 1 ≤ 3; omega, by show 3 ≤ 3; omega, Nat.le_refl i, hf, hp⟩, fun x y hx hy hxy => ?_, fun a ha h1 => ?_, fun b hb h2 => ?_, fun a b hab hb h1 h2 => ?_⟩
  · obtain ⟨a, a1, a2, a3, a4, a5⟩ := hC x y hx hy hxy
    exact ⟨a, by omega, by rw [gh_lt a1]; exact a2, by rw [gh_lt a1]; exact a3, by rw [gh_lt a1]; exact a4, (gh_op_s a1).mpr ⟨a5, nl _⟩⟩
  · by_cases e : a = n
    · subst e
      rw [gh_at] at h1
      exact absurd h1 gh_31
    · have ha' : a < n := by omega
      rw [gh_lt ha'] at h1 ⊢
      rcases hD a ha' h1 with ⟨o1, o2, o3⟩ | ⟨b, b1, b2⟩
      · exact Or.inl ⟨(gh_op_s ha').mpr ⟨o1, nl _⟩, o2, o3⟩
      · exact Or.inr ⟨b, by omega, gh_cd_cg (fun k hk => gh_lt (by omega)) b2⟩
  · by_cases e : b = n
    · subst e
      rw [gh_at] at h2
      exact absurd h2 gh_32
    · exact gh_Es hE (by omega) h2
  · by_cases e : b = n
    · subst e
      rw [gh_at] at h2
      exact absurd h2 gh_31
    · have hb' : b < n := by omega
      have ha' : a < n := by omega
      rw [gh_lt hb'] at h2 ⊢
      rw [gh_lt ha'] at h1 ⊢
      intro o1 o2
      exact hS a b hab hb' h1 h2 ((gh_op_s ha').mp o1).1 ((gh_op_s hb').mp o2).1
/-- a setup of a fixture that isn't alive -/
theorem gh_1 {sc mo cl dp : Nat → Int32} {T : Nat → Nat} {F i n f p : Nat} {G : Nat → gh_E} {lg al so : Nat → Int32} {s : Int32} (h : gh_I sc mo cl dp T F i n G lg al so) (hn : n < 256) (hf : f < F) (hp : p < 3) (hal : al f = -1) (hs : ∀ g, g < F → ¬ al g = -1 → so g < s) :
    gh_I sc mo cl dp T F i (n + 1) (gh_ap G n (1, i, f, p)) (upd lg n (gh_co (1, i, f, p))) (upd al f (nI p)) (upd so f s) := by
  obtain ⟨hA, hB, hC, hD, hE, hS⟩ := h
  have nof : ∀ a, a < n → (G a).1 = 1 → gh_op G n a → ¬ (G a).2.2.1 = f := by
    intro a ha h1 o1 ef
    rcases hD a ha h1 with ⟨o1', o2, o3⟩ | ⟨b, b1, b2⟩
    · rw [ef, hal] at o2
      exact fy_neg1 (hB a ha).2.2.2.2.2 o2.symm
    · exact o1 b b2.1 b1 b2.2.1
  have alo : ∀ a, a < n → (G a).1 = 1 → gh_op G n a → ¬ al (G a).2.2.1 = -1 := by
    intro a ha h1 o1
    rcases hD a ha h1 with ⟨o1', o2, o3⟩ | ⟨b, b1, b2⟩
    · rw [o2]
      exact fy_neg1 (hB a ha).2.2.2.2.2
    · exact absurd b2.2.1 (o1 b b2.1 b1)
  refine ⟨by omega, gh_lgs hB ⟨Nat.le_refl 1, by show 1 ≤ 3; omega, Nat.le_refl i, hf, hp⟩, fun x y hx hy hxy => ?_, fun a ha h1 => ?_, fun b hb h2 => ?_, fun a b hab hb h1 h2 => ?_⟩
  · by_cases e : x = f
    · subst e
      rw [pk_us, nI_eq (by omega) (by omega)] at hxy
      exact ⟨n, by omega, by rw [gh_at], by rw [gh_at], by rw [gh_at]; exact hxy, gh_op_n⟩
    · rw [pk_un e] at hxy
      obtain ⟨a, a1, a2, a3, a4, a5⟩ := hC x y hx hy hxy
      exact ⟨a, by omega, by rw [gh_lt a1]; exact a2, by rw [gh_lt a1]; exact a3, by rw [gh_lt a1]; exact a4, (gh_op_s a1).mpr ⟨a5, fun q => e (by rw [← a3]; exact q.2.symm)⟩⟩
  · by_cases e : a = n
    · subst e
      rw [gh_at]
      refine Or.inl ⟨gh_op_n, pk_us, fun _ => rfl, fun _ q hq hqi => ?_, fun _ q hq hqi => ?_⟩
      · have hq : i ≤ q := hq
        rw [show q = i by omega]
        exact ⟨rfl, rfl⟩
      · have hq : i ≤ q := hq
        rw [show q = i by omega]
    · have ha' : a < n := by omega
      rw [gh_lt ha'] at h1 ⊢
      rcases hD a ha' h1 with ⟨o1, o2, o3⟩ | ⟨b, b1, b2⟩
      · have ne := nof a ha' h1 o1
        exact Or.inl ⟨(gh_op_s ha').mpr ⟨o1, fun q => ne q.2.symm⟩, by rw [pk_un ne]; exact o2, o3⟩
      · exact Or.inr ⟨b, by omega, gh_cd_cg (fun k hk => gh_lt (by omega)) b2⟩
  · by_cases e : b = n
    · subst e
      rw [gh_at] at h2
      exact absurd h2 gh_12
    · exact gh_Es hE (by omega) h2
  · have ha' : a < n := by omega
    rw [gh_lt ha'] at h1 ⊢
    intro o1 o2
    have oa := ((gh_op_s ha').mp o1).1
    have ne := nof a ha' h1 oa
    rw [pk_un ne]
    by_cases e : b = n
    · subst e
      rw [gh_at, pk_us]
      exact hs _ (hB a ha').2.2.2.2.1 (alo a ha' h1 oa)
    · have hb' : b < n := by omega
      rw [gh_lt hb'] at h2 ⊢
      have ob := ((gh_op_s hb').mp o2).1
      rw [pk_un (nof b hb' h2 ob)]
      exact hS a b hab hb' h1 h2 oa ob
/-- a teardown of an alive fixture on which no later one depends -/
theorem gh_2 {sc mo cl dp : Nat → Int32} {T : Nat → Nat} {F i n f p : Nat} {G : Nat → gh_E} {lg al so : Nat → Int32} (h : gh_I sc mo cl dp T F i n G lg al so) (hn : n < 256) (hf : f < F) (hp : p < 3) (hal : al f = nI p) (hs : ∀ g, g < F → ¬ al g = -1 → bt (dp g) f = true → ¬ so f < so g) :
    gh_I sc mo cl dp T F i (n + 1) (gh_ap G n (2, i, f, p)) (upd lg n (gh_co (2, i, f, p))) (upd al f (-1)) so := by
  obtain ⟨hA, hB, hC, hD, hE, hS⟩ := h
  obtain ⟨a0, z1, z2, z3, z4, z5⟩ := hC f p hf hp hal
  have lfn : gh_lf (2, i, f, p) f := ⟨Or.inr rfl, rfl⟩
  refine ⟨by omega, gh_lgs hB ⟨by show 1 ≤ 2; omega, by show 2 ≤ 3; omega, Nat.le_refl i, hf, hp⟩, fun x y hx hy hxy => ?_, fun a ha h1 => ?_, fun b hb h2 => ?_, fun a b hab hb h1 h2 => ?_⟩
  · by_cases e : x = f
    · subst e
      rw [pk_us] at hxy
      exact absurd hxy.symm (fy_neg1 hy)
    · rw [pk_un e] at hxy
      obtain ⟨a, a1, a2, a3, a4, a5⟩ := hC x y hx hy hxy
      exact ⟨a, by omega, by rw [gh_lt a1]; exact a2, by rw [gh_lt a1]; exact a3, by rw [gh_lt a1]; exact a4, (gh_op_s a1).mpr ⟨a5, fun q => e (by rw [← a3]; exact q.2.symm)⟩⟩
  · by_cases e : a = n
    · subst e
      rw [gh_at] at h1
      exact absurd h1 gh_21
    · have ha' : a < n := by omega
      have h1' := h1
      rw [gh_lt ha'] at h1 ⊢
      rcases hD a ha' h1 with ⟨o1, o2, o3⟩ | ⟨b, b1, b2⟩
      · by_cases ef : (G a).2.2.1 = f
        · refine Or.inr ⟨n, by omega, ha', ?_, fun x hx hxn => ?_, by rw [gh_at], ?_, fun c hc hcn => ?_, ?_, ?_⟩
          · rw [gh_at, gh_lt ha', ef]; exact lfn
          · rw [gh_lt hxn, gh_lt ha']; exact o1 x hx hxn
          · rw [gh_at, gh_lt ha']
            rw [ef, hal, nI_eq (by omega) (by have := (hB a ha').2.2.2.2.2; omega)] at o2
            exact o2
          · rw [gh_lt hcn, gh_lt ha', ef]
            intro k1 k2
            rcases hD c hcn k1 with ⟨q1, q2, q3⟩ | ⟨b, b1, b2⟩
            · have s1 := hS a c hc hcn h1 k1 o1 q1
              rw [ef] at s1
              exact absurd s1 (hs _ (hB c hcn).2.2.2.2.1 (by rw [q2]; exact fy_neg1 (hB c hcn).2.2.2.2.2) k2)
            · exact ⟨b, b2.1, b1, by rw [gh_lt b1]; exact b2.2.1⟩
          · rw [gh_at, gh_lt ha']
            exact (hB a ha').2.2.2.1
          · rw [gh_at, gh_lt ha']
            exact o3
        · exact Or.inl ⟨(gh_op_s ha').mpr ⟨o1, fun q => ef q.2.symm⟩, by rw [pk_un ef]; exact o2, o3⟩
      · exact Or.inr ⟨b, by omega, gh_cd_cg (fun k hk => gh_lt (by omega)) b2⟩
  · by_cases e : b = n
    · subst e
      refine ⟨a0, z1, ?_, fun x hx hxb => ?_, ?_⟩
      · rw [gh_lt z1, gh_at]
        exact ⟨Or.inl z2, z3⟩
      · rw [gh_lt hxb, gh_at]
        have := z5 x hx hxb
        rw [z3] at this
        exact this
      · rw [gh_lt z1]
        exact z2
    · exact gh_Es hE (by omega) h2
  · by_cases e : b = n
    · subst e
      rw [gh_at] at h2
      exact absurd h2 gh_21
    · have hb' : b < n := by omega
      have ha' : a < n := by omega
      rw [gh_lt hb'] at h2 ⊢
      rw [gh_lt ha'] at h1 ⊢
      intro o1 o2
      exact hS a b hab hb' h1 h2 ((gh_op_s ha').mp o1).1 ((gh_op_s hb').mp o2).1
