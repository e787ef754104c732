/-! the log's row at the end of an execution -/
section
variable {fl sc mo cl dp : Nat → Int32} {T : Nat → Nat} {D : Nat → Nat → Nat}
/-- what is alive after item i goes on into the next item -/
def gh_N (sc mo cl : Nat → Int32) (T : Nat → Nat) (D : Nat → Nat → Nat) (F N i : Nat) (al : Nat → Int32) : Prop :=
  ∀ g, g < F → ¬ al g = -1 → ¬ sc g = 3 ∧ i + 1 < N ∧ (D (i + 1) g = 0 ∨ al g = nI (D (i + 1) g - 1)) ∧ (sc g = 2 → mo (T i) = mo (T (i + 1)) ∧ cl (T i) = cl (T (i + 1))) ∧ (sc g = 1 → mo (T i) = mo (T (i + 1)))
theorem gh_st {F N i : Nat} {e : fy_E} {G : Nat → gh_E} (hF : F ≤ 12) (hi : i < N) (hN : N ≤ 64) (hD : ∀ j f, D j f < 4) (hdp : ∀ f g, f < 12 → bt (dp f) g = true → g < f) (ho : fy_ok F (24 * i) (12 * i) e) (h : gh_J sc mo cl dp T F i e G) (hP : gh_P F (D i) 0 e.2.2.2.2.1) (he : (fy_st fl sc mo cl dp T D N F i e).1 ≤ 256) :
    ∃ H, gh_J sc mo cl dp T F i (fy_st fl sc mo cl dp T D N F i e) H ∧ gh_X i e.1 G (fy_st fl sc mo cl dp T D N F i e).1 H ∧ gh_N sc mo cl T D F N i (fy_st fl sc mo cl dp T D N F i e).2.2.2.2.1 ∧
      ((fy_su fl (D i) i F 0 e).2 = true → ∀ f p, f < F → D i f = p + 1 → gh_Q (fy_st fl sc mo cl dp T D N F i e).1 H i f p) := by
  unfold fy_st at he ⊢
  have hok := fy_ok_su (fl := fl) (i := i) (hD i) F 0 _ _ _ ho
  have he1 : (fy_su fl (D i) i F 0 e).1.1 ≤ 256 := Nat.le_trans (gh_tdm F _ _) he
  obtain ⟨H, h1, h2, h3, h4⟩ := gh_su (hD i) F 0 _ _ e G (by omega) ho (by omega) h hP he1
  obtain ⟨K, k1, k2, k3, k4⟩ := gh_td (i := i) hF F _ _ (fy_ed dp (fy_su fl (D i) i F 0 e).1.2.2.2.2.1 (fy_eb sc mo cl T D N i (fy_su fl (D i) i F 0 e).1.2.2.2.2.1) F) _ H hok (by omega) h1 (fy_ed_al hF) (fun g x hx hg hal hd => (fy_ed_p (by omega) hx).mpr ⟨hal, Or.inr ⟨g, hdp x g (by omega) hd, hd, hg⟩⟩) (fy_cn_le _ F) he
  refine ⟨K, k1, gh_Xt h2 k2, fun g hg hal => ?_, fun y f p hf hp => ?_⟩
  · have hb : bt (fy_ed dp (fy_su fl (D i) i F 0 e).1.2.2.2.2.1 (fy_eb sc mo cl T D N i (fy_su fl (D i) i F 0 e).1.2.2.2.2.1) F) g = false := ts_nt (fun q => hal (k3 g q))
    have ea := k4 g hb
    rw [ea] at hal ⊢
    have neb : ¬ fy_eb sc mo cl T D N i (fy_su fl (D i) i F 0 e).1.2.2.2.2.1 g = true := fun q => by
      rw [(fy_ed_p (by omega) hg).mpr ⟨hal, Or.inl q⟩] at hb
      exact absurd hb (by decide)
    have neb2 : ¬ (sc g = 3 ∨ N ≤ i + 1 ∨ (¬ D (i + 1) g = 0 ∧ ¬ nI (D (i + 1) g - 1) = (fy_su fl (D i) i F 0 e).1.2.2.2.2.1 g) ∨ (sc g = 2 ∧ ¬ (mo (T i) = mo (T (i + 1)) ∧ cl (T i) = cl (T (i + 1)))) ∨ (sc g = 1 ∧ ¬ mo (T i) = mo (T (i + 1)))) := fun q => neb (decide_eq_true q)
    refine ⟨fun q => neb2 (Or.inl q), ?_, ?_, fun q => ?_, fun q => ?_⟩
    · rcases Nat.lt_or_ge (i + 1) N with y | y
      · exact y
      · exact absurd (Or.inr (Or.inl y)) neb2
    · by_cases y : D (i + 1) g = 0
      · exact Or.inl y
      · by_cases w : nI (D (i + 1) g - 1) = (fy_su fl (D i) i F 0 e).1.2.2.2.2.1 g
        · exact Or.inr w.symm
        · exact absurd (Or.inr (Or.inr (Or.inl ⟨y, w⟩))) neb2
    · by_cases y : mo (T i) = mo (T (i + 1)) ∧ cl (T i) = cl (T (i + 1))
      · exact y
      · exact absurd (Or.inr (Or.inr (Or.inr (Or.inl ⟨q, y⟩)))) neb2
    · by_cases y : mo (T i) = mo (T (i + 1))
      · exact y
      · exact absurd (Or.inr (Or.inr (Or.inr (Or.inr ⟨q, y⟩)))) neb2
  · have d4 := hD i f
    have ea := h4 y f (by omega) hf (by omega)
    rw [hp, Nat.add_sub_cancel] at ea
    obtain ⟨hA, hB, hC, -⟩ := h1
    obtain ⟨a, a1, a2, a3, a4, a5⟩ := hC f p hf (by omega) ea
    refine gh_QX (G := H) ⟨a, a1, a2, a3, a4, (hB a a1).2.2.2.1, fun x hx hxn hl => ?_⟩ k2 (Nat.le_refl i)
    have := a5 x hx hxn
    rw [a3] at this
    exact absurd hl this
theorem gh_nx {F N i n : Nat} {G : Nat → gh_E} {lg al so : Nat → Int32} (h : gh_I sc mo cl dp T F i n G lg al so) (hN : gh_N sc mo cl T D F N i al) : gh_I sc mo cl dp T F (i + 1) n G lg al so := by
  obtain ⟨hA, hB, hC, hD, hE, hS⟩ := h
  refine ⟨hA, fun k hk => ?_, hC, fun a ha h1 => ?_, hE, hS⟩
  · obtain ⟨b1, b2, b3, b4, b5⟩ := hB k hk
    exact ⟨b1, b2, b3, by omega, b5⟩
  · rcases hD a ha h1 with ⟨o1, o2, o3⟩ | q
    · obtain ⟨-, -, -, b4, b5, b6⟩ := hB a ha
      obtain ⟨n1, n2, n3, n4, n5⟩ := hN _ b5 (by rw [o2]; exact fy_neg1 b6)
      obtain ⟨s3, s2, s1⟩ := o3
      refine Or.inl ⟨o1, o2, fun z => absurd z n1, fun z q hq hqi => ?_, fun z q hq hqi => ?_⟩
      · by_cases e : q = i + 1
        · have := s2 z i b4 (Nat.le_refl i)
          have n4' := n4 z
          rw [e, ← n4'.1, ← n4'.2]
          exact this
        · exact s2 z q hq (by omega)
      · by_cases e : q = i + 1
        · have := s1 z i b4 (Nat.le_refl i)
          rw [e, ← n5 z]
          exact this
        · exact s1 z q hq (by omega)
    · exact Or.inr q
theorem gh_ex {F N : Nat} {e0 : fy_E} (hF : F ≤ 12) (hN : N ≤ 64) (hD : ∀ j f, D j f < 4) (hdp : ∀ f g, f < 12 → bt (dp f) g = true → g < f) (h0 : fy_ok F 0 0 e0) (hal : ∀ f, f < F → e0.2.2.2.2.1 f = -1) (he : (fy_ex fl sc mo cl dp T D N F e0 N).1 ≤ 256) :
    ∀ i, i < N → ∃ H, gh_J sc mo cl dp T F i (fy_ex fl sc mo cl dp T D N F e0 (i + 1)) H ∧ gh_N sc mo cl T D F N i (fy_ex fl sc mo cl dp T D N F e0 (i + 1)).2.2.2.2.1 ∧
      ∀ j, j ≤ i → (fy_su fl (D j) j F 0 (fy_ex fl sc mo cl dp T D N F e0 j)).2 = true → ∀ f p, f < F → D j f = p + 1 → gh_Q (fy_ex fl sc mo cl dp T D N F e0 (i + 1)).1 H j f p := by
  intro i
  induction i with
  | zero =>
    intro hi
    have e00 : e0.1 = 0 := by have := h0.1; omega
    have hm : (fy_ex fl sc mo cl dp T D N F e0 1).1 ≤ 256 := Nat.le_trans (gh_exm N (by omega)) he
    have hJ0 : gh_J sc mo cl dp T F 0 e0 (fun _ => (0, 0, 0, 0)) := by
      unfold gh_J
      rw [e00]
      refine ⟨by omega, fun k hk => absurd hk (Nat.not_lt_zero k), fun f p hf hp q => ?_, fun a ha => absurd ha (Nat.not_lt_zero a), fun b hb => absurd hb (Nat.not_lt_zero b), fun a b _ hb => absurd hb (Nat.not_lt_zero b)⟩
      rw [hal f hf] at q
      exact absurd q.symm (fy_neg1 hp)
    obtain ⟨H, h1, h2, h3, h4⟩ := gh_st (fl := fl) (e := e0) hF hi hN hD hdp h0 hJ0 (fun g _ hg => Or.inl (hal g hg)) hm
    refine ⟨H, h1, h3, fun j hj hs => ?_⟩
    have ej : j = 0 := by omega
    subst ej
    exact h4 hs
  | succ i ih =>
    intro hi
    obtain ⟨G, g1, g2, g3⟩ := ih (by omega)
    have hm : (fy_ex fl sc mo cl dp T D N F e0 (i + 1 + 1)).1 ≤ 256 := Nat.le_trans (gh_exm N (by omega)) he
    have hok := fy_ok_ex (fl := fl) (sc := sc) (mo := mo) (cl := cl) (dp := dp) (T := T) (n := N) hF hD h0 (i + 1)
    obtain ⟨H, h1, h2, h3, h4⟩ := gh_st (fl := fl) (e := fy_ex fl sc mo cl dp T D N F e0 (i + 1)) hF hi hN hD hdp hok (gh_nx g1 g2) (fun g _ hg => by
      by_cases z : (fy_ex fl sc mo cl dp T D N F e0 (i + 1)).2.2.2.2.1 g = -1
      · exact Or.inl z
      · exact Or.inr (g2 g hg z).2.2.1) hm
    refine ⟨H, h1, h3, fun j hj hs => ?_⟩
    by_cases ej : j = i + 1
    · subst ej
      exact h4 hs
    · exact fun f p hf hp => gh_QX (g3 j (by omega) hs f p hf hp) h2 (by omega)
/-- what the law asks of a log: the events, every setup ended, every teardown matched, and what the passed items found -/
def gh_L (sc mo cl dp : Nat → Int32) (T : Nat → Nat) (D : Nat → Nat → Nat) (F N n : Nat) (lg oc : Nat → Int32) (G : Nat → gh_E) : Prop :=
  n ≤ 256 ∧ (∀ k, k < n → lg k = gh_co (G k) ∧ 1 ≤ (G k).1 ∧ (G k).1 ≤ 3 ∧ (G k).2.1 < N ∧ (G k).2.2.1 < F ∧ (G k).2.2.2 < 3) ∧
  (∀ a, a < n → (G a).1 = 1 → ∃ b, b < n ∧ gh_cd sc mo cl dp T G a b) ∧
  (∀ b, b < n → (G b).1 = 2 → ∃ a, a < b ∧ gh_lf (G a) (G b).2.2.1 ∧ (∀ x, a < x → x < b → ¬ gh_lf (G x) (G b).2.2.1) ∧ (G a).1 = 1) ∧
  (∀ i, i < N → oc i = 1 → ∀ f p, f < F → D i f = p + 1 → gh_Q n G i f p)
theorem gh_fin {F N : Nat} {e0 : fy_E} {oc : Nat → Int32} (hF : F ≤ 12) (hN : N ≤ 64) (hD : ∀ j f, D j f < 4) (hdp : ∀ f g, f < 12 → bt (dp f) g = true → g < f) (h0 : fy_ok F 0 0 e0) (hal : ∀ f, f < F → e0.2.2.2.2.1 f = -1) (hoc : ∀ i, i < N → oc i = fy_ou fl sc mo cl dp T D N F e0 i) (he : (fy_ex fl sc mo cl dp T D N F e0 N).1 ≤ 256) :
    ∃ G, gh_L sc mo cl dp T D F N (fy_ex fl sc mo cl dp T D N F e0 N).1 (fy_ex fl sc mo cl dp T D N F e0 N).2.1 oc G := by
  rcases Nat.eq_zero_or_pos N with z | z
  · subst z
    have e00 : (fy_ex fl sc mo cl dp T D 0 F e0 0).1 = 0 := by have := h0.1; show e0.1 = 0; omega
    refine ⟨fun _ => (0, 0, 0, 0), he, ?_, ?_, ?_, fun i hi => absurd hi (Nat.not_lt_zero i)⟩
    · intro k hk; omega
    · intro k hk; omega
    · intro k hk; omega
  · obtain ⟨M, rfl⟩ : ∃ M, N = M + 1 := ⟨N - 1, by omega⟩
    obtain ⟨G, g1, g2, g3⟩ := gh_ex (fl := fl) (sc := sc) (mo := mo) (cl := cl) (T := T) hF hN hD hdp h0 hal he M (by omega)
    obtain ⟨hA, hB, hC, hDD, hE, hS⟩ := g1
    refine ⟨G, hA, fun k hk => ?_, fun a ha h1 => ?_, hE, fun i hi ho f p hf hp => ?_⟩
    · obtain ⟨b1, b2, b3, b4, b5⟩ := hB k hk
      exact ⟨b1, b2, b3, by omega, b5⟩
    · rcases hDD a ha h1 with ⟨o1, o2, o3⟩ | q
      · obtain ⟨-, -, -, b4, b5, b6⟩ := hB a ha
        have := (g2 _ b5 (by rw [o2]; exact fy_neg1 b6)).2.1
        omega
      · exact q
    · refine g3 i (by omega) ?_ f p hf hp
      rw [hoc i hi] at ho
      unfold fy_ou at ho
      by_cases y : (fy_su fl (D i) i F 0 (fy_ex fl sc mo cl dp T D (M + 1) F e0 i)).2 = true
      · exact y
      · rw [if_neg y] at ho
        exact absurd ho (by decide)
end
