/-! the log's row through an execution -/
theorem gh_lom {kind p : Int32} {i f : Nat} {e : fy_E} : (fy_lo kind i f p e).1 = e.1 + 1 := rfl
theorem gh_sfm {fl : Nat → Int32} {i f p : Nat} {e : fy_E} : (fy_sf fl i f p e).1.1 = e.1 + 1 := by
  unfold fy_sf
  split <;> rfl
theorem gh_sum {fl : Nat → Int32} {D : Nat → Nat} {i : Nat} : ∀ (k f : Nat) (e : fy_E), e.1 ≤ (fy_su fl D i k f e).1.1 := by
  intro k
  induction k with
  | zero => exact fun f e => Nat.le_refl _
  | succ k ih =>
    intro f e
    rw [fy_su]
    have h := gh_sfm (fl := fl) (i := i) (f := f) (p := D f - 1) (e := e)
    split
    · exact ih (f + 1) e
    · split
      · show e.1 ≤ (fy_sf fl i f (D f - 1) e).1.1
        omega
      · have := ih (f + 1) (fy_sf fl i f (D f - 1) e).1
        omega
theorem gh_tdm {F i : Nat} : ∀ (k : Nat) (s : Int32) (e : fy_E), e.1 ≤ (fy_td F i k s e).1 := by
  intro k
  induction k with
  | zero => exact fun s e => Nat.le_refl _
  | succ k ih =>
    intro s e
    rw [fy_td]
    split
    · exact Nat.le_refl _
    · refine Nat.le_trans ?_ (ih _ _)
      show e.1 ≤ e.1 + 1
      omega
theorem gh_stm {fl sc mo cl dp : Nat → Int32} {T : Nat → Nat} {D : Nat → Nat → Nat} {n F i : Nat} {e : fy_E} : e.1 ≤ (fy_st fl sc mo cl dp T D n F i e).1 := Nat.le_trans (gh_sum F 0 e) (gh_tdm F _ _)
theorem gh_exm {fl sc mo cl dp : Nat → Int32} {T : Nat → Nat} {D : Nat → Nat → Nat} {n F : Nat} {e : fy_E} {i : Nat} : ∀ j, i ≤ j → (fy_ex fl sc mo cl dp T D n F e i).1 ≤ (fy_ex fl sc mo cl dp T D n F e j).1 := by
  intro j
  induction j with
  | zero => intro h; rw [show i = 0 by omega]; exact Nat.le_refl _
  | succ j ih =>
    intro h
    rcases Nat.lt_or_ge j i with z | z
    · rw [show i = j + 1 by omega]; exact Nat.le_refl _
    · exact Nat.le_trans (ih z) gh_stm
/-- the row grown from n to m by events of item i -/
def gh_X (i n : Nat) (G : Nat → gh_E) (m : Nat) (H : Nat → gh_E) : Prop := n ≤ m ∧ (∀ k, k < n → H k = G k) ∧ (∀ k, n ≤ k → k < m → (H k).2.1 = i)
theorem gh_Xr {i n : Nat} {G : Nat → gh_E} : gh_X i n G n G := ⟨Nat.le_refl n, fun _ _ => rfl, fun k h1 h2 => by omega⟩
theorem gh_Xt {i n m l : Nat} {G H K : Nat → gh_E} (h1 : gh_X i n G m H) (h2 : gh_X i m H l K) : gh_X i n G l K := by
  obtain ⟨a1, a2, a3⟩ := h1
  obtain ⟨b1, b2, b3⟩ := h2
  refine ⟨by omega, fun k hk => by rw [b2 k (by omega), a2 k hk], fun k hk hl => ?_⟩
  rcases Nat.lt_or_ge k m with z | z
  · rw [b2 k z]; exact a3 k hk z
  · exact b3 k z hl
theorem gh_X1 {i n : Nat} {G : Nat → gh_E} {g : gh_E} (h : g.2.1 = i) : gh_X i n G (n + 1) (gh_ap G n g) := ⟨by omega, fun k hk => gh_lt hk, fun k h1 h2 => by rw [show k = n by omega, gh_at]; exact h⟩
/-- item i finds fixture f with parameter p set up, and not ended before it -/
def gh_Q (n : Nat) (G : Nat → gh_E) (i f p : Nat) : Prop := ∃ a, a < n ∧ (G a).1 = 1 ∧ (G a).2.2.1 = f ∧ (G a).2.2.2 = p ∧ (G a).2.1 ≤ i ∧ ∀ x, a < x → x < n → gh_lf (G x) f → i ≤ (G x).2.1
theorem gh_QX {i j n m f p : Nat} {G H : Nat → gh_E} (h : gh_Q n G i f p) (hx : gh_X j n G m H) (hj : i ≤ j) : gh_Q m H i f p := by
  obtain ⟨a, a1, a2, a3, a4, a5, a6⟩ := h
  obtain ⟨b1, b2, b3⟩ := hx
  have ea := b2 a a1
  refine ⟨a, by omega, by rw [ea]; exact a2, by rw [ea]; exact a3, by rw [ea]; exact a4, by rw [ea]; exact a5, fun x hx hxm hl => ?_⟩
  rcases Nat.lt_or_ge x n with z | z
  · rw [b2 x z] at hl ⊢; exact a6 x hx z hl
  · rw [b3 x z hxm]; exact hj
section
variable {fl sc mo cl dp : Nat → Int32} {T : Nat → Nat} {D : Nat → Nat → Nat}
def gh_J (sc mo cl dp : Nat → Int32) (T : Nat → Nat) (F i : Nat) (e : fy_E) (G : Nat → gh_E) : Prop := gh_I sc mo cl dp T F i e.1 G e.2.1 e.2.2.2.2.1 e.2.2.2.2.2
theorem gh_sf {F i f p b c : Nat} {e : fy_E} {G : Nat → gh_E} (h : gh_J sc mo cl dp T F i e G) (ho : fy_ok F b c e) (hc : c < 100000) (he : e.1 < 256) (hf : f < F) (hp : p < 3) (hal : e.2.2.2.2.1 f = -1) :
    ∃ H, gh_J sc mo cl dp T F i (fy_sf fl i f p e).1 H ∧ gh_X i e.1 G (fy_sf fl i f p e).1.1 H ∧ (∀ g, g ≠ f → (fy_sf fl i f p e).1.2.2.2.2.1 g = e.2.2.2.2.1 g) ∧ ((fy_sf fl i f p e).2 = true → (fy_sf fl i f p e).1.2.2.2.2.1 f = nI p) := by
  unfold fy_sf
  split
  · refine ⟨gh_ap G e.1 (3, i, f, p), ?_, gh_X1 rfl, fun g _ => rfl, fun z => absurd z Bool.false_ne_true⟩
    have := gh_3 h he hf hp
    unfold gh_J fy_lo fy_at
    dsimp only
    rw [if_pos he]
    exact this
  · refine ⟨gh_ap G e.1 (1, i, f, p), ?_, gh_X1 rfl, fun g hg => pk_un hg, fun _ => pk_us⟩
    have := gh_1 (s := nI (e.2.2.2.1 + 1)) h he hf hp hal (fun g hg hn => by
      rcases ho.2.2 g hg with z | ⟨-, t, t1, t2, t3⟩
      · exact absurd z hn
      · rw [t3]
        have := ho.2.1
        exact nI_lt (by omega) (by omega))
    unfold gh_J fy_on fy_lo fy_at
    dsimp only
    rw [if_pos he]
    exact this
/-- what an item finds alive has its parameter -/
def gh_P (F : Nat) (Di : Nat → Nat) (f : Nat) (al : Nat → Int32) : Prop := ∀ g, f ≤ g → g < F → al g = -1 ∨ Di g = 0 ∨ al g = nI (Di g - 1)
theorem gh_su {F i : Nat} {Di : Nat → Nat} (hD : ∀ f, Di f < 4) : ∀ (k f b c : Nat) (e : fy_E) (G : Nat → gh_E), f + k = F → fy_ok F b c e → c + k < 100000 → gh_J sc mo cl dp T F i e G → gh_P F Di f e.2.2.2.2.1 → (fy_su fl Di i k f e).1.1 ≤ 256 →
    ∃ H, gh_J sc mo cl dp T F i (fy_su fl Di i k f e).1 H ∧ gh_X i e.1 G (fy_su fl Di i k f e).1.1 H ∧ (∀ g, g < f → (fy_su fl Di i k f e).1.2.2.2.2.1 g = e.2.2.2.2.1 g) ∧ ((fy_su fl Di i k f e).2 = true → ∀ g, f ≤ g → g < F → ¬ Di g = 0 → (fy_su fl Di i k f e).1.2.2.2.2.1 g = nI (Di g - 1)) := by
  intro k
  induction k with
  | zero =>
    intro f b c e G hk ho hc h hP he
    exact ⟨G, h, gh_Xr, fun g _ => rfl, fun _ g h1 h2 => by omega⟩
  | succ k ih =>
    intro f b c e G hk ho hc h hP he
    have hm := gh_sum (fl := fl) (D := Di) (i := i) (k + 1) f e
    have hd := hD f
    rw [fy_su] at he hm ⊢
    by_cases z : Di f = 0 ∨ e.2.2.2.2.1 f = nI (Di f - 1)
    · rw [if_pos z] at he hm ⊢
      obtain ⟨H, h1, h2, h3, h4⟩ := ih (f + 1) b c e G (by omega) ho (by omega) h (fun g hg hgF => hP g (by omega) hgF) he
      refine ⟨H, h1, h2, fun g hg => h3 g (by omega), fun y g hg hgF hn => ?_⟩
      by_cases e1 : g = f
      · subst e1
        rw [h3 g (by omega)]
        exact z.elim (fun w => absurd w hn) id
      · exact h4 y g (by omega) hgF hn
    · rw [if_neg z] at he hm ⊢
      have hal : e.2.2.2.2.1 f = -1 := by
        rcases hP f (Nat.le_refl f) (by omega) with w | w | w
        · exact w
        · exact absurd (Or.inl w) z
        · exact absurd (Or.inr w) z
      have hp3 : Di f - 1 < 3 := by omega
      have hD0 : ¬ Di f = 0 := fun w => z (Or.inl w)
      have hsm := gh_sfm (fl := fl) (i := i) (f := f) (p := Di f - 1) (e := e)
      have he1 : e.1 < 256 := by
        by_cases y : (fy_sf fl i f (Di f - 1) e).2 = false
        · rw [if_pos y] at he
          have he' : (fy_sf fl i f (Di f - 1) e).1.1 ≤ 256 := he
          omega
        · rw [if_neg y] at he
          have := gh_sum (fl := fl) (D := Di) (i := i) k (f + 1) (fy_sf fl i f (Di f - 1) e).1
          omega
      obtain ⟨H, h1, h2, h3, h4⟩ := gh_sf (fl := fl) h ho (by omega) he1 (show f < F by omega) hp3 hal
      by_cases y : (fy_sf fl i f (Di f - 1) e).2 = false
      · rw [if_pos y]
        exact ⟨H, h1, h2, fun g hg => h3 g (by omega), fun w => absurd w Bool.false_ne_true⟩
      · rw [if_neg y] at he ⊢
        obtain ⟨K, k1, k2, k3, k4⟩ := ih (f + 1) (b + 1) (c + 1) _ H (by omega) (fy_ok_sf ho hp3) (by omega) h1 (fun g hg hgF => by rw [h3 g (by omega)]; exact hP g (by omega) hgF) he
        refine ⟨K, k1, gh_Xt h2 k2, fun g hg => by rw [k3 g (by omega), h3 g (by omega)], fun w g hg hgF hn => ?_⟩
        by_cases e1 : g = f
        · subst e1
          rw [k3 g (by omega)]
          exact h4 (ts_nf y)
        · exact k4 w g (by omega) hgF hn
theorem gh_mx {s : Int32} {so : Nat → Int32} : ∀ (F h : Nat), h < F → bt s h = true → so h ≤ (fy_la s so F).2 := by
  intro F
  induction F with
  | zero => intro h hh; omega
  | succ F ih =>
    intro h hh hb
    rw [fy_la]
    by_cases z : bt s F = true ∧ (fy_la s so F).2 < so F
    · rw [if_pos z]
      rcases Nat.lt_or_ge h F with y | y
      · exact Int32.le_of_lt (Int32.lt_of_le_of_lt (ih h y hb) z.2)
      · rw [show h = F by omega]
        exact Int32.le_refl _
    · rw [if_neg z]
      rcases Nat.lt_or_ge h F with y | y
      · exact ih h y hb
      · rw [show h = F by omega] at hb ⊢
        exact Int32.not_lt.mp (fun q => z ⟨hb, q⟩)
theorem gh_td {F i : Nat} (hF : F ≤ 12) : ∀ (k b c : Nat) (s : Int32) (e : fy_E) (G : Nat → gh_E), fy_ok F b c e → c < 100000 → gh_J sc mo cl dp T F i e G → (∀ g, bt s g = true → g < F ∧ ¬ e.2.2.2.2.1 g = -1) →
    (∀ g h, h < F → bt s g = true → ¬ e.2.2.2.2.1 h = -1 → bt (dp h) g = true → bt s h = true) → fy_cn s F ≤ k → (fy_td F i k s e).1 ≤ 256 →
    ∃ H, gh_J sc mo cl dp T F i (fy_td F i k s e) H ∧ gh_X i e.1 G (fy_td F i k s e).1 H ∧ (∀ g, bt s g = true → (fy_td F i k s e).2.2.2.2.1 g = -1) ∧ (∀ g, bt s g = false → (fy_td F i k s e).2.2.2.2.1 g = e.2.2.2.2.1 g) := by
  intro k
  induction k with
  | zero =>
    intro b c s e G ho hc h hs hcl hcn he
    have hno := fy_cn_0 (s := s) (F := F) (by omega)
    refine ⟨G, h, gh_Xr, fun g hg => ?_, fun g _ => rfl⟩
    rw [hno g (hs g hg).1] at hg
    exact absurd hg (by decide)
  | succ k ih =>
    intro b c s e G ho hc h hs hcl hcn he
    rw [fy_td] at he ⊢
    by_cases z : s = 0
    · rw [if_pos z] at he ⊢
      refine ⟨G, h, gh_Xr, fun g hg => ?_, fun g _ => rfl⟩
      rw [z, b_0] at hg
      exact absurd hg (by decide)
    · rw [if_neg z] at he ⊢
      have hpos : ∀ g, g < F → bt s g = true → (0 : Int32) < e.2.2.2.2.2 g := by
        intro g hg hb2
        rcases ho.2.2 g hg with y | ⟨-, t, t1, t2, t3⟩
        · exact absurd y (hs g hb2).2
        · rw [t3]
          have := ho.2.1
          exact nI_lt (a := 0) (by omega) (by omega)
      obtain ⟨w, w1, w2⟩ := fy_nz z
      rcases fy_la_p F hpos with ⟨a1, a2⟩ | ⟨a1, a2, a3, a4⟩
      · rw [a1 w (hs w w2).1] at w2
        exact absurd w2 (by decide)
      · have he2 : e.1 + 1 ≤ 256 := by
          have q := Nat.le_trans (gh_tdm (F := F) (i := i) k _ _) he
          exact q
        obtain ⟨p, hp, hpe⟩ : ∃ p, p < 3 ∧ e.2.2.2.2.1 (fy_la s e.2.2.2.2.2 F).1 = nI p := by
          rcases ho.2.2 _ a1 with y | ⟨y, -⟩
          · exact absurd y (hs _ a2).2
          · exact y
        have g2 := gh_2 (p := p) h (by omega) a1 hp hpe (fun g hg hga hgd => by
          have := gh_mx (so := e.2.2.2.2.2) F g hg (hcl _ g hg a2 hga hgd)
          rw [a3] at this
          exact Int32.not_lt.mpr this)
        have hJ : gh_J sc mo cl dp T F i (fy_of (fy_la s e.2.2.2.2.2 F).1 (fy_lo 2 i (fy_la s e.2.2.2.2.2 F).1 (e.2.2.2.2.1 (fy_la s e.2.2.2.2.2 F).1) e)) (gh_ap G e.1 (2, i, (fy_la s e.2.2.2.2.2 F).1, p)) := by
          unfold gh_J fy_of fy_lo
          dsimp only
          rw [if_pos (show e.1 < 256 by omega), hpe]
          exact g2
        have hcl2 := fy_cn_clr a2 (by omega) F (by omega) a1
        have bits : ∀ g, bt (s &&& (((1 : Int32) <<< (nI (fy_la s e.2.2.2.2.2 F).1 &&& 31)) ^^^ (-1))) g = true ↔ bt s g = true ∧ g ≠ (fy_la s e.2.2.2.2.2 F).1 := by
          intro g
          rcases Nat.lt_or_ge g 32 with y | y
          · rw [fy_clr s (by omega) y, Bool.and_eq_true, Bool.not_eq_true', decide_eq_false_iff_not]
          · rw [b_big y, b_big y]
            exact ⟨fun q => absurd q (by decide), fun q => absurd q.1 (by decide)⟩
        have hs2 : ∀ g, bt (s &&& (((1 : Int32) <<< (nI (fy_la s e.2.2.2.2.2 F).1 &&& 31)) ^^^ (-1))) g = true → g < F ∧ ¬ upd e.2.2.2.2.1 (fy_la s e.2.2.2.2.2 F).1 (-1) g = -1 := by
          intro g hg
          obtain ⟨q1, q2⟩ := (bits g).mp hg
          rw [pk_un q2]
          exact hs g q1
        have hcl3 : ∀ g h, h < F → bt (s &&& (((1 : Int32) <<< (nI (fy_la s e.2.2.2.2.2 F).1 &&& 31)) ^^^ (-1))) g = true → ¬ upd e.2.2.2.2.1 (fy_la s e.2.2.2.2.2 F).1 (-1) h = -1 → bt (dp h) g = true → bt (s &&& (((1 : Int32) <<< (nI (fy_la s e.2.2.2.2.2 F).1 &&& 31)) ^^^ (-1))) h = true := by
          intro g h' hh hg hal hd
          obtain ⟨q1, q2⟩ := (bits g).mp hg
          have eh : h' ≠ (fy_la s e.2.2.2.2.2 F).1 := fun q => by rw [q, pk_us] at hal; exact hal rfl
          rw [pk_un eh] at hal
          exact (bits h').mpr ⟨hcl g h' hh q1 hal hd, eh⟩
        obtain ⟨K, k1, k2, k3, k4⟩ := ih (b + 1) c _ _ _ (fy_ok_of (fy_ok_lo ho)) hc hJ hs2 hcl3 (by omega) he
        refine ⟨K, k1, gh_Xt (gh_X1 rfl) k2, fun g hg => ?_, fun g hg => ?_⟩
        · by_cases eg : g = (fy_la s e.2.2.2.2.2 F).1
          · have hb : bt (s &&& (((1 : Int32) <<< (nI (fy_la s e.2.2.2.2.2 F).1 &&& 31)) ^^^ (-1))) g = false := ts_nt (fun q => ((bits g).mp q).2 eg)
            rw [k4 g hb]
            show upd e.2.2.2.2.1 (fy_la s e.2.2.2.2.2 F).1 (-1) g = -1
            rw [eg, pk_us]
          · exact k3 g ((bits g).mpr ⟨hg, eg⟩)
        · have hb : bt (s &&& (((1 : Int32) <<< (nI (fy_la s e.2.2.2.2.2 F).1 &&& 31)) ^^^ (-1))) g = false := ts_nt (fun q => by rw [((bits g).mp q).1] at hg; exact absurd hg (by decide))
          have eg : g ≠ (fy_la s e.2.2.2.2.2 F).1 := fun q => by rw [q, a2] at hg; exact absurd hg (by decide)
          rw [k4 g hb]
          show upd e.2.2.2.2.1 (fy_la s e.2.2.2.2.2 F).1 (-1) g = e.2.2.2.2.1 g
          rw [pk_un eg]
end
