/-! an execution as a pure picture: (events, log, attempts, stamps, alive parameter or -1, stamp of) -/
abbrev fy_E : Type := Nat × (Nat → Int32) × (Nat → Int32) × Nat × (Nat → Int32) × (Nat → Int32)
def fy_lo (kind : Int32) (i f : Nat) (p : Int32) (e : fy_E) : fy_E :=
  (e.1 + 1, (if e.1 < 256 then upd e.2.1 e.1 (kind * 100000 + nI i * 1000 + nI f * 10 + p) else e.2.1), e.2.2)
def fy_at (f p : Nat) (e : fy_E) : fy_E := (e.1, e.2.1, upd e.2.2.1 (f * 3 + p) (e.2.2.1 (f * 3 + p) + 1), e.2.2.2)
def fy_on (f p : Nat) (e : fy_E) : fy_E := (e.1, e.2.1, e.2.2.1, e.2.2.2.1 + 1, upd e.2.2.2.2.1 f (nI p), upd e.2.2.2.2.2 f (nI (e.2.2.2.1 + 1)))
def fy_of (g : Nat) (e : fy_E) : fy_E := (e.1, e.2.1, e.2.2.1, e.2.2.2.1, upd e.2.2.2.2.1 g (-1), e.2.2.2.2.2)
def fy_sf (fl : Nat → Int32) (i f p : Nat) (e : fy_E) : fy_E × Bool :=
  if e.2.2.1 (f * 3 + p) + 1 = fl (f * 3 + p) then (fy_lo 3 i f (nI p) (fy_at f p e), false)
  else (fy_on f p (fy_lo 1 i f (nI p) (fy_at f p e)), true)
/-- the setup of item i, of whose fixtures f and k more are left -/
def fy_su (fl : Nat → Int32) (D : Nat → Nat) (i : Nat) : Nat → Nat → fy_E → fy_E × Bool
  | 0, _, e => (e, true)
  | k + 1, f, e =>
    if D f = 0 ∨ e.2.2.2.2.1 f = nI (D f - 1) then fy_su fl D i k (f + 1) e
    else if (fy_sf fl i f (D f - 1) e).2 = false then ((fy_sf fl i f (D f - 1) e).1, false)
    else fy_su fl D i k (f + 1) (fy_sf fl i f (D f - 1) e).1
/-- what holds in an execution: at most b events, at most c stamps, an alive fixture has a parameter and a stamp -/
def fy_ok (F b c : Nat) (e : fy_E) : Prop := e.1 ≤ b ∧ e.2.2.2.1 ≤ c ∧ ∀ f, f < F → e.2.2.2.2.1 f = -1 ∨ ((∃ p, p < 3 ∧ e.2.2.2.2.1 f = nI p) ∧ ∃ s, 1 ≤ s ∧ s ≤ e.2.2.2.1 ∧ e.2.2.2.2.2 f = nI s)
theorem fy_ok_w {F b c b' c' : Nat} {e : fy_E} (h : fy_ok F b c e) (hb : b ≤ b') (hc : c ≤ c') : fy_ok F b' c' e := ⟨by have := h.1; omega, by have := h.2.1; omega, h.2.2⟩
theorem fy_ok_lo {F b c i f : Nat} {kind p : Int32} {e : fy_E} (h : fy_ok F b c e) : fy_ok F (b + 1) c (fy_lo kind i f p e) := ⟨by have := h.1; show e.1 + 1 ≤ b + 1; omega, h.2.1, h.2.2⟩
theorem fy_ok_at {F b c f p : Nat} {e : fy_E} (h : fy_ok F b c e) : fy_ok F b c (fy_at f p e) := ⟨h.1, h.2.1, h.2.2⟩
theorem fy_ok_on {F b c f p : Nat} {e : fy_E} (h : fy_ok F b c e) (hp : p < 3) : fy_ok F b (c + 1) (fy_on f p e) := by
  obtain ⟨h1, h2, h3⟩ := h
  refine ⟨h1, by show e.2.2.2.1 + 1 ≤ c + 1; omega, fun g hg => ?_⟩
  show upd e.2.2.2.2.1 f (nI p) g = -1 ∨ ((∃ q, q < 3 ∧ upd e.2.2.2.2.1 f (nI p) g = nI q) ∧ ∃ s, 1 ≤ s ∧ s ≤ e.2.2.2.1 + 1 ∧ upd e.2.2.2.2.2 f (nI (e.2.2.2.1 + 1)) g = nI s)
  by_cases z : g = f
  · subst z
    rw [pk_us, pk_us]
    exact Or.inr ⟨⟨p, hp, rfl⟩, _, by omega, by omega, rfl⟩
  · rw [pk_un z, pk_un z]
    rcases h3 g hg with y | ⟨y, s, a, b, d⟩
    · exact Or.inl y
    · exact Or.inr ⟨y, s, a, by omega, d⟩
theorem fy_ok_of {F b c g : Nat} {e : fy_E} (h : fy_ok F b c e) : fy_ok F b c (fy_of g e) := by
  obtain ⟨h1, h2, h3⟩ := h
  refine ⟨h1, h2, fun f hf => ?_⟩
  show upd e.2.2.2.2.1 g (-1) f = -1 ∨ ((∃ q, q < 3 ∧ upd e.2.2.2.2.1 g (-1) f = nI q) ∧ ∃ s, 1 ≤ s ∧ s ≤ e.2.2.2.1 ∧ e.2.2.2.2.2 f = nI s)
  by_cases z : f = g
  · subst z
    rw [pk_us]
    exact Or.inl rfl
  · rw [pk_un z]
    exact h3 f hf
theorem fy_ok_sf {fl : Nat → Int32} {F b c i f p : Nat} {e : fy_E} (h : fy_ok F b c e) (hp : p < 3) : fy_ok F (b + 1) (c + 1) (fy_sf fl i f p e).1 := by
  unfold fy_sf
  split
  · exact fy_ok_w (fy_ok_lo (fy_ok_at h)) (by omega) (by omega)
  · exact fy_ok_on (fy_ok_lo (fy_ok_at h)) hp
theorem fy_ok_su {fl : Nat → Int32} {D : Nat → Nat} {F i : Nat} (hD : ∀ f, D f < 4) : ∀ (k f b c : Nat) (e : fy_E), fy_ok F b c e → fy_ok F (b + k) (c + k) (fy_su fl D i k f e).1 := by
  intro k
  induction k with
  | zero => exact fun f b c e h => h
  | succ k ih =>
    intro f b c e h
    rw [fy_su]
    have hd := hD f
    split
    · exact fy_ok_w (ih (f + 1) b c e h) (by omega) (by omega)
    · rename_i z
      have h2 := fy_ok_sf (fl := fl) (i := i) (f := f) (p := D f - 1) h (by omega)
      split
      · exact fy_ok_w h2 (by omega) (by omega)
      · exact fy_ok_w (ih (f + 1) (b + 1) (c + 1) _ h2) (by omega) (by omega)
/-- what ends by itself after item i -/
def fy_eb (sc mo cl : Nat → Int32) (T : Nat → Nat) (D : Nat → Nat → Nat) (n i : Nat) (al : Nat → Int32) (g : Nat) : Bool :=
  decide (sc g = 3 ∨ n ≤ i + 1 ∨ (¬ D (i + 1) g = 0 ∧ ¬ nI (D (i + 1) g - 1) = al g) ∨ (sc g = 2 ∧ ¬ (mo (T i) = mo (T (i + 1)) ∧ cl (T i) = cl (T (i + 1)))) ∨ (sc g = 1 ∧ ¬ mo (T i) = mo (T (i + 1))))
/-- the upward pass -/
def fy_ed (dp al : Nat → Int32) (eb : Nat → Bool) : Nat → Int32
  | 0 => 0
  | g + 1 => if ¬ al g = -1 ∧ (¬ (dp g &&& fy_ed dp al eb g) = 0 ∨ eb g = true) then fy_ed dp al eb g ||| ((1 : Int32) <<< (nI g &&& 31)) else fy_ed dp al eb g
theorem fy_ed_hi {dp al : Nat → Int32} {eb : Nat → Bool} : ∀ g, g ≤ 32 → ∀ i, g ≤ i → bt (fy_ed dp al eb g) i = false := by
  intro g
  induction g with
  | zero => intro _ i _; exact b_0 i
  | succ g ih =>
    intro hg i hi
    rcases Nat.lt_or_ge i 32 with z | z
    · rw [fy_ed]
      split
      · rw [fy_set _ (by omega) z, ih (by omega) i (by omega), decide_eq_false (by omega)]
        rfl
      · exact ih (by omega) i (by omega)
    · exact b_big z
theorem fy_ed_lo {dp al : Nat → Int32} {eb : Nat → Bool} {i : Nat} : ∀ g, g ≤ 32 → i < g → bt (fy_ed dp al eb g) i = bt (fy_ed dp al eb (i + 1)) i := by
  intro g
  induction g with
  | zero => intro _ h; omega
  | succ g ih =>
    intro hg hi
    rcases Nat.lt_or_ge i g with z | z
    · rw [← ih (by omega) z, fy_ed]
      split
      · rw [fy_set _ (by omega) (by omega), decide_eq_false (by omega), Bool.or_false]
      · rfl
    · rw [show i = g by omega]
theorem fy_ed_p {dp al : Nat → Int32} {eb : Nat → Bool} {F i : Nat} (hF : F ≤ 32) (hi : i < F) :
    bt (fy_ed dp al eb F) i = true ↔ (¬ al i = -1 ∧ (eb i = true ∨ ∃ d, d < i ∧ bt (dp i) d = true ∧ bt (fy_ed dp al eb F) d = true)) := by
  have e1 : bt (fy_ed dp al eb (i + 1)) i = true ↔ (¬ al i = -1 ∧ (¬ (dp i &&& fy_ed dp al eb i) = 0 ∨ eb i = true)) := by
    rw [fy_ed]
    split
    · rename_i z
      rw [fy_set _ (by omega) (by omega), decide_eq_true rfl, Bool.or_true]
      exact ⟨fun _ => z, fun _ => rfl⟩
    · rename_i z
      rw [fy_ed_hi i (by omega) i (Nat.le_refl i)]
      exact ⟨fun h => absurd h (by decide), fun h => absurd h z⟩
  have e2 : ¬ (dp i &&& fy_ed dp al eb i) = 0 ↔ ∃ d, d < i ∧ bt (dp i) d = true ∧ bt (fy_ed dp al eb F) d = true := by
    rw [fy_and0]
    constructor
    · intro h
      apply Classical.byContradiction
      intro hn
      apply h
      intro d hd hab
      rcases Nat.lt_or_ge d i with z | z
      · apply hn
        refine ⟨d, z, hab.1, ?_⟩
        rw [fy_ed_lo F hF (by omega), ← fy_ed_lo i (by omega) z]
        exact hab.2
      · rw [fy_ed_hi i (by omega) d z] at hab
        exact absurd hab.2 (by decide)
    · intro ⟨d, h1, h2, h3⟩ h
      apply h d (by omega)
      refine ⟨h2, ?_⟩
      rw [fy_ed_lo i (by omega) h1, ← fy_ed_lo F hF (by omega)]
      exact h3
  rw [fy_ed_lo F hF hi, e1, e2]
  exact ⟨fun h => ⟨h.1, h.2.elim Or.inr Or.inl⟩, fun h => ⟨h.1, h.2.elim Or.inr Or.inl⟩⟩
/-- the member with the latest stamp, and that stamp -/
def fy_la (s : Int32) (so : Nat → Int32) : Nat → Nat × Int32
  | 0 => (0, 0)
  | g + 1 => if bt s g = true ∧ (fy_la s so g).2 < so g then (g, so g) else fy_la s so g
theorem fy_la_p {s : Int32} {so : Nat → Int32} : ∀ F, (∀ g, g < F → bt s g = true → (0 : Int32) < so g) →
    ((∀ g, g < F → bt s g = false) ∧ fy_la s so F = (0, 0)) ∨ ((fy_la s so F).1 < F ∧ bt s (fy_la s so F).1 = true ∧ (fy_la s so F).2 = so (fy_la s so F).1 ∧ (0 : Int32) < (fy_la s so F).2) := by
  intro F
  induction F with
  | zero => exact fun _ => Or.inl ⟨fun g h => absurd h (Nat.not_lt_zero g), rfl⟩
  | succ F ih =>
    intro h
    have h1 := ih (fun g hg => h g (by omega))
    rw [fy_la]
    split
    · rename_i z
      exact Or.inr ⟨Nat.lt_succ_self F, z.1, rfl, h F (Nat.lt_succ_self F) z.1⟩
    · rename_i z
      rcases h1 with ⟨a1, a2⟩ | ⟨a1, a2, a3, a4⟩
      · refine Or.inl ⟨fun g hg => ?_, a2⟩
        rcases Nat.lt_or_ge g F with y | y
        · exact a1 g y
        · have e : g = F := by omega
          subst e
          cases hb : bt s g
          · rfl
          · exact absurd ⟨hb, by rw [a2]; exact h g (Nat.lt_succ_self g) hb⟩ z
      · exact Or.inr ⟨by omega, a2, a3, a4⟩
/-- k teardowns at most of the set s after item i -/
def fy_td (F i : Nat) : Nat → Int32 → fy_E → fy_E
  | 0, _, e => e
  | k + 1, s, e => if s = 0 then e else
    fy_td F i k (s &&& (((1 : Int32) <<< (nI (fy_la s e.2.2.2.2.2 F).1 &&& 31)) ^^^ (-1))) (fy_of (fy_la s e.2.2.2.2.2 F).1 (fy_lo 2 i (fy_la s e.2.2.2.2.2 F).1 (e.2.2.2.2.1 (fy_la s e.2.2.2.2.2 F).1) e))
theorem fy_ok_td {F i : Nat} : ∀ (k b c : Nat) (s : Int32) (e : fy_E), fy_ok F b c e → fy_ok F (b + k) c (fy_td F i k s e) := by
  intro k
  induction k with
  | zero => exact fun b c s e h => h
  | succ k ih =>
    intro b c s e h
    rw [fy_td]
    split
    · exact fy_ok_w h (by omega) (by omega)
    · exact fy_ok_w (ih (b + 1) c _ _ (fy_ok_of (fy_ok_lo h))) (by omega) (by omega)
/-- how many members below F -/
def fy_cn (s : Int32) : Nat → Nat
  | 0 => 0
  | g + 1 => fy_cn s g + (if bt s g = true then 1 else 0)
theorem fy_cn_le (s : Int32) : ∀ F, fy_cn s F ≤ F
  | 0 => Nat.le_refl _
  | g + 1 => by
    have := fy_cn_le s g
    rw [fy_cn]
    split <;> omega
theorem fy_cn_0 {s : Int32} : ∀ {F : Nat}, fy_cn s F = 0 → ∀ g, g < F → bt s g = false
  | 0, _, g, hg => absurd hg (Nat.not_lt_zero g)
  | F + 1, h, g, hg => by
    rw [fy_cn] at h
    rcases Nat.lt_or_ge g F with z | z
    · exact fy_cn_0 (by omega) g z
    · have e : g = F := by omega
      subst e
      cases hb : bt s g
      · rfl
      · rw [hb, if_pos rfl] at h
        omega
theorem fy_cn_cg {s r : Int32} : ∀ {F : Nat}, (∀ g, g < F → bt s g = bt r g) → fy_cn s F = fy_cn r F
  | 0, _ => rfl
  | F + 1, h => by rw [fy_cn, fy_cn, fy_cn_cg (fun g hg => h g (by omega)), h F (by omega)]
theorem fy_cn_clr {s : Int32} {g : Nat} (hs : bt s g = true) (hg : g < 32) : ∀ F, F ≤ 32 → g < F → fy_cn (s &&& (((1 : Int32) <<< (nI g &&& 31)) ^^^ (-1))) F + 1 = fy_cn s F := by
  intro F
  induction F with
  | zero => intro _ h; omega
  | succ F ih =>
    intro hF hgF
    rw [fy_cn, fy_cn, fy_clr s hg (show F < 32 by omega)]
    rcases Nat.lt_or_ge g F with z | z
    · have := ih (by omega) z
      rw [decide_eq_false (show ¬ F = g by omega), Bool.not_false, Bool.and_true]
      omega
    · have e : g = F := by omega
      subst e
      have e2 : fy_cn (s &&& (((1 : Int32) <<< (nI g &&& 31)) ^^^ (-1))) g = fy_cn s g := fy_cn_cg (fun h hh => by
        rw [fy_clr s hg (show h < 32 by omega), decide_eq_false (show ¬ h = g by omega), Bool.not_false, Bool.and_true])
      rw [e2, decide_eq_true rfl, Bool.not_true, Bool.and_false, hs, if_neg (by decide), if_pos rfl]
/-! item after item -/
def fy_st (fl sc mo cl dp : Nat → Int32) (T : Nat → Nat) (D : Nat → Nat → Nat) (n F i : Nat) (e : fy_E) : fy_E :=
  fy_td F i F (fy_ed dp (fy_su fl (D i) i F 0 e).1.2.2.2.2.1 (fy_eb sc mo cl T D n i (fy_su fl (D i) i F 0 e).1.2.2.2.2.1) F) (fy_su fl (D i) i F 0 e).1
def fy_ex (fl sc mo cl dp : Nat → Int32) (T : Nat → Nat) (D : Nat → Nat → Nat) (n F : Nat) (e : fy_E) : Nat → fy_E
  | 0 => e
  | i + 1 => fy_st fl sc mo cl dp T D n F i (fy_ex fl sc mo cl dp T D n F e i)
/-- the outcome of item i -/
def fy_ou (fl sc mo cl dp : Nat → Int32) (T : Nat → Nat) (D : Nat → Nat → Nat) (n F : Nat) (e : fy_E) (i : Nat) : Int32 :=
  if (fy_su fl (D i) i F 0 (fy_ex fl sc mo cl dp T D n F e i)).2 = true then 1 else 2
theorem fy_ok_ex {fl sc mo cl dp : Nat → Int32} {T : Nat → Nat} {D : Nat → Nat → Nat} {n F : Nat} {e : fy_E} (hF : F ≤ 12) (hD : ∀ i f, D i f < 4) (h : fy_ok F 0 0 e) : ∀ i, fy_ok F (24 * i) (12 * i) (fy_ex fl sc mo cl dp T D n F e i) := by
  intro i
  induction i with
  | zero => exact h
  | succ i ih =>
    have h1 := fy_ok_su (fl := fl) (i := i) (hD i) F 0 _ _ _ ih
    have h2 := fy_ok_td (i := i) F _ _ (fy_ed dp (fy_su fl (D i) i F 0 (fy_ex fl sc mo cl dp T D n F e i)).1.2.2.2.2.1 (fy_eb sc mo cl T D n i (fy_su fl (D i) i F 0 (fy_ex fl sc mo cl dp T D n F e i)).1.2.2.2.2.1) F) _ h1
    exact fy_ok_w h2 (by omega) (by omega)
/-- an array with its first m places set to x -/
def fy_fill (a : Nat → Int32) (x : Int32) : Nat → Nat → Int32
  | 0 => a
  | m + 1 => upd (fy_fill a x m) m x
theorem fy_fill_e {a : Nat → Int32} {x : Int32} : ∀ {m j : Nat}, j < m → fy_fill a x m j = x
  | 0, j, h => absurd h (Nat.not_lt_zero j)
  | m + 1, j, h => by
    rw [fy_fill]
    by_cases e : j = m
    · subst e
      exact pk_us
    · rw [pk_un e]
      exact fy_fill_e (by omega)
/-- the latest member as a candidate, -1 if there is none -/
def fy_B (s : Int32) (so : Nat → Int32) (g : Nat) : Int32 := if (fy_la s so g).2 = 0 then -1 else nI (fy_la s so g).1
theorem fy_B_c {s : Int32} {so : Nat → Int32} {F : Nat} (h : ∀ g, g < F → bt s g = true → (0 : Int32) < so g) :
    ((∀ g, g < F → bt s g = false) ∧ fy_B s so F = -1 ∧ fy_la s so F = (0, 0)) ∨ ((fy_la s so F).1 < F ∧ bt s (fy_la s so F).1 = true ∧ (fy_la s so F).2 = so (fy_la s so F).1 ∧ fy_B s so F = nI (fy_la s so F).1) := by
  rcases fy_la_p F h with ⟨a1, a2⟩ | ⟨a1, a2, a3, a4⟩
  · refine Or.inl ⟨a1, ?_, a2⟩
    unfold fy_B
    rw [a2, if_pos rfl]
  · refine Or.inr ⟨a1, a2, a3, ?_⟩
    unfold fy_B
    rw [if_neg (fun z => by rw [z] at a4; exact absurd a4 (by decide))]
theorem fy_ap_st {sel : Nat → Bool} {P Q : Nat → Nat} {k l : Nat} (hP : ∀ f, P f < 4) (h : k < l) (F : Nat) : fy_ap sel P k F < fy_ap sel Q l F := fy_ap_lt hP (f := 0) h F (Nat.zero_le F)
