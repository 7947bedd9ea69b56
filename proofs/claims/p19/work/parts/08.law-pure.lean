/-! the law's picture: valid maps, what a call leaves, the law's own places -/
def lq_V (P : Nat) (a b : Nat → Int32) : Prop := ∀ j, j < P → (a j = -6 ∧ b j = -6) ∨ (rg_PT (a j) ∧ rg_BK (b j))
theorem rg_bk_ok {s j l : Nat} {q v : Int32} (h : rg_PA (nI l) q v) (hl : l ≤ 256) (h1 : s ≤ j) (h2 : j < s + l) : rg_BK (rg_bk s v j) := by
  unfold rg_bk
  by_cases z : v = 0
  · rw [if_pos z]; exact Or.inl rfl
  · rw [if_neg z]
    rcases h.2 with h | ⟨h3, h4, h5⟩
    · exact absurd h z
    · obtain ⟨n, hn, rfl, fn⟩ := rg_nat (x := v) (by omega)
      have hl' : (nI l).toInt = l := nI_toInt (by omega)
      right
      rw [nI_add, nI_toInt (by omega)]
      omega
theorem rg_all {a : Nat → Int32} {s l : Nat} (h : ¬ rg_cn (rg_mp a) s l < l) {j : Nat} (h1 : s ≤ j) (h2 : j < s + l) : ¬ a j = -6 := by
  have := rg_cn_all h (j - s) (by omega)
  rw [show s + (j - s) = j from by omega] at this
  exact rg_mp_t.mp this
theorem lq_V_fill {P s l : Nat} {q v : Int32} {a b : Nat → Int32} (hP : P ≤ 256) (hs : s + l ≤ P) (hV : lq_V P a b) (hA : rg_PA (nI l) q v) : lq_V P (rg_on s l (fun _ => q) a) (rg_on s l (rg_bk s v) b) := by
  intro j hj
  by_cases e : s ≤ j ∧ j < s + l
  · rw [rg_on_t e, rg_on_t e]
    exact Or.inr ⟨hA.1, rg_bk_ok hA (by omega) e.1 e.2⟩
  · rw [rg_on_f e, rg_on_f e]
    exact hV j hj
theorem lq_V_free {P s l : Nat} {a b : Nat → Int32} (hV : lq_V P a b) : lq_V P (rg_on s l (fun _ => -6) a) (rg_on s l (fun _ => -6) b) := by
  intro j hj
  by_cases e : s ≤ j ∧ j < s + l
  · rw [rg_on_t e, rg_on_t e]
    exact Or.inl ⟨rfl, rfl⟩
  · rw [rg_on_f e, rg_on_f e]
    exact hV j hj
theorem lq_V_prot {P s l : Nat} {q : Int32} {a b : Nat → Int32} (hV : lq_V P a b) (hq : rg_PT q) (hA : ¬ rg_cn (rg_mp a) s l < l) : lq_V P (rg_on s l (fun _ => q) a) b := by
  intro j hj
  by_cases e : s ≤ j ∧ j < s + l
  · rw [rg_on_t e]
    rcases hV j hj with ⟨e1, _⟩ | ⟨_, e2⟩
    · exact absurd e1 (rg_all hA e.1 e.2)
    · exact Or.inr ⟨hq, e2⟩
  · rw [rg_on_f e]
    exact hV j hj
theorem lq_V_mv {P s l t : Nat} {a b : Nat → Int32} (hs : s + l ≤ P) (hV : lq_V P a b) (hA : ¬ rg_cn (rg_mp a) s l < l) : lq_V P (rg_mv s l t a) (rg_mv s l t b) := by
  intro j hj
  unfold rg_mv
  by_cases e : t ≤ j ∧ j < t + l
  · rw [rg_on_t e, rg_on_t e]
    exact hV (s + (j - t)) (by omega)
  · rw [rg_on_f e, rg_on_f e]
    exact lq_V_free hV j hj
/-- what a call leaves: a valid map within the limit; refused: nothing changed; done: E -/
def lq_F (P R : Nat) (a b : Nat → Int32) (E : (Nat → Int32) → (Nat → Int32) → Prop) : Int32 → (Nat → Int32) → (Nat → Int32) → Prop := fun r a' b' => lq_V P a' b' ∧ rg_ok P R a' b' ∧ ((r < 0 ∧ a' = a ∧ b' = b) ∨ (¬ r < 0 ∧ E a' b'))
theorem lq_neg {P R : Nat} {a b : Nat → Int32} {E : (Nat → Int32) → (Nat → Int32) → Prop} {r : Int32} (hV : lq_V P a b) (hok : rg_ok P R a b) (hr : r < 0) : lq_F P R a b E r a b := ⟨hV, hok, Or.inl ⟨hr, rfl, rfl⟩⟩
theorem lq_gate {P R : Nat} {a b a' b' : Nat → Int32} {E : (Nat → Int32) → (Nat → Int32) → Prop} {r : Int32} (hV : lq_V P a b) (hok : rg_ok P R a b) (hV' : lq_V P a' b') (hr : ¬ r < 0) (hE : E a' b') : rg_gate P R a b a' b' r (lq_F P R a b E) :=
  ⟨fun k => ⟨hV', k, Or.inr ⟨hr, hE⟩⟩, fun _ => lq_neg hV hok (by decide)⟩
def lq_Ef (P : Nat) (a b : Nat → Int32) (x19 x21 x23 x27 : Int32) : (Nat → Int32) → (Nat → Int32) → Prop := fun a' b' => ∃ t l, x21 = nI t ∧ x19 = nI l ∧ t + l ≤ P ∧ a' = rg_on t l (fun _ => x23) a ∧ b' = rg_on t l (rg_bk t x27) b
def lq_Eu (P : Nat) (a b : Nat → Int32) (x15 x19 : Int32) : (Nat → Int32) → (Nat → Int32) → Prop := fun a' b' => ∃ s l, x15 = nI s ∧ x19 = nI l ∧ s + l ≤ P ∧ a' = rg_on s l (fun _ => -6) a ∧ b' = rg_on s l (fun _ => -6) b
def lq_Ep (P : Nat) (a b : Nat → Int32) (x15 x19 x23 : Int32) : (Nat → Int32) → (Nat → Int32) → Prop := fun a' b' => ∃ s l, x15 = nI s ∧ x19 = nI l ∧ s + l ≤ P ∧ a' = rg_on s l (fun _ => x23) a ∧ b' = b
def lq_Em (P : Nat) (a b : Nat → Int32) (x15 x19 x21 : Int32) : (Nat → Int32) → (Nat → Int32) → Prop := fun a' b' => ∃ s l t, x15 = nI s ∧ x19 = nI l ∧ x21 = nI t ∧ s + l ≤ P ∧ t + l ≤ P ∧ a' = rg_mv s l t a ∧ b' = rg_mv s l t b
/-- the law's own lowest place, highest place -/
def rg_AT (a : Nat → Int32) (P f l : Nat) (v : Int32) : Prop :=
  (∃ t, f ≤ t ∧ t + l ≤ P ∧ rg_fr a t l ∧ (∀ t', f ≤ t' → t' < t → ¬ rg_fr a t' l) ∧ v = nI t) ∨ ((∀ t', f ≤ t' → t' + l ≤ P → ¬ rg_fr a t' l) ∧ v = -1)
def rg_AH (a : Nat → Int32) (to l : Nat) (v : Int32) : Prop :=
  (∃ t, t + l ≤ to ∧ rg_fr a t l ∧ (∀ t', t < t' → t' + l ≤ to → ¬ rg_fr a t' l) ∧ v = nI t) ∨ ((∀ t', t' + l ≤ to → ¬ rg_fr a t' l) ∧ v = -1)
theorem rg_AT_u {a : Nat → Int32} {P f l t : Nat} {v : Int32} (h : rg_AT a P f l v) (h1 : f ≤ t) (h2 : t + l ≤ P) (h3 : rg_fr a t l) (h4 : ∀ t', f ≤ t' → t' < t → ¬ rg_fr a t' l) : v = nI t := by
  rcases h with ⟨t', g1, g2, g3, g4, rfl⟩ | ⟨g1, rfl⟩
  · rcases Nat.lt_trichotomy t t' with e | e | e
    · exact absurd h3 (g4 t h1 e)
    · rw [e]
    · exact absurd g3 (h4 t' g1 e)
  · exact absurd h3 (g1 t h1 h2)
theorem rg_AH_u {a : Nat → Int32} {to l t : Nat} {v : Int32} (h : rg_AH a to l v) (h2 : t + l ≤ to) (h3 : rg_fr a t l) (h4 : ∀ t', t < t' → t' + l ≤ to → ¬ rg_fr a t' l) : v = nI t := by
  rcases h with ⟨t', g2, g3, g4, rfl⟩ | ⟨g1, rfl⟩
  · rcases Nat.lt_trichotomy t t' with e | e | e
    · exact absurd g3 (h4 t' e g2)
    · rw [e]
    · exact absurd h3 (g4 t e h2)
  · exact absurd h3 (g1 t h2)
theorem lq_0 {n : Nat} (h : n < 2 ^ 31) : ¬ nI n < 0 := nI_pos h
theorem lq_mapNew {P R : Nat} {a b : Nat → Int32} {v1 v2 v3 v4 : Int32} (hP : P ≤ 256) (hV : lq_V P a b) (hok : rg_ok P R a b) : sp_mapNew P R a b v1 v2 v3 v4 (lq_F P R a b (lq_Ef P a b v2 v1 v3 v4)) := by
  refine ⟨fun g => ⟨fun _ => ?_, fun _ => lq_neg hV hok (by decide)⟩, fun _ => lq_neg hV hok (by decide)⟩
  obtain ⟨s, l, rfl, rfl, hl, hs⟩ := rg_PR_n g.1
  rw [nI_clamp (show s < 2 ^ 31 by omega), nI_clamp (show l < 2 ^ 31 by omega)]
  exact lq_gate hV hok (lq_V_fill hP hs hV g.2) (by decide) ⟨s, l, rfl, rfl, hs, rfl, rfl⟩
theorem lq_mapOver {P R : Nat} {a b : Nat → Int32} {v1 v2 v3 v4 : Int32} (hP : P ≤ 256) (hV : lq_V P a b) (hok : rg_ok P R a b) : sp_mapOver P R a b v1 v2 v3 v4 (lq_F P R a b (lq_Ef P a b v2 v1 v3 v4)) := by
  refine ⟨fun g => ?_, fun _ => lq_neg hV hok (by decide)⟩
  obtain ⟨s, l, rfl, rfl, hl, hs⟩ := rg_PR_n g.1
  rw [nI_clamp (show s < 2 ^ 31 by omega), nI_clamp (show l < 2 ^ 31 by omega)]
  have hle := rg_cn_le (rg_mp a) s l
  exact lq_gate hV hok (lq_V_fill hP hs hV g.2) (lq_0 (by omega)) ⟨s, l, rfl, rfl, hs, rfl, rfl⟩
theorem lq_mapLow {P R : Nat} {a b : Nat → Int32} {v1 v2 v3 v4 at_ : Int32} (hP : P ≤ 256) (hV : lq_V P a b) (hok : rg_ok P R a b) (ha : ∀ x y, v1 = nI x → v2 = nI y → x < P → 1 ≤ y → y ≤ P → rg_AT a P x y at_) : sp_mapLow P R a b v1 v2 v3 v4 (lq_F P R a b (lq_Ef P a b v2 at_ v3 v4)) := by
  refine ⟨fun g => ?_, fun _ => lq_neg hV hok (by decide)⟩
  obtain ⟨⟨g1, g2⟩, g3⟩ := g
  obtain ⟨x, rfl, hx⟩ := rg_PG_n g1
  obtain ⟨y, rfl, hy1, hy2⟩ := rg_LN_n g2
  rw [nI_clamp (show x < 2 ^ 31 by omega), nI_clamp (show y < 2 ^ 31 by omega)]
  intro r hF
  refine ⟨fun h0 => ?_, fun _ => lq_neg hV hok (by decide)⟩
  rcases hF with ⟨t, f1, f2, f3, f4, rfl⟩ | ⟨f1, rfl⟩
  · rw [nI_clamp (show t < 2 ^ 31 by omega)]
    exact lq_gate hV hok (lq_V_fill hP f2 hV g3) (lq_0 (by omega)) ⟨t, y, rg_AT_u (ha x y rfl rfl hx hy1 hy2) f1 f2 f3 f4, rfl, f2, rfl, rfl⟩
  · exact absurd h0 (by decide)
theorem lq_mapHigh {P R : Nat} {a b : Nat → Int32} {v1 v2 v3 v4 at_ : Int32} (hP : P ≤ 256) (hV : lq_V P a b) (hok : rg_ok P R a b) (ha : ∀ x y, v1 = nI x → v2 = nI y → 1 ≤ x → x ≤ P → 1 ≤ y → y ≤ P → rg_AH a x y at_) : sp_mapHigh P R a b v1 v2 v3 v4 (lq_F P R a b (lq_Ef P a b v2 at_ v3 v4)) := by
  refine ⟨fun g => ?_, fun _ => lq_neg hV hok (by decide)⟩
  obtain ⟨⟨g1, g2⟩, g3⟩ := g
  obtain ⟨x, rfl, hx1, hx2⟩ := rg_LN_n g1
  obtain ⟨y, rfl, hy1, hy2⟩ := rg_LN_n g2
  rw [nI_clamp (show x < 2 ^ 31 by omega), nI_clamp (show y < 2 ^ 31 by omega)]
  intro r hF
  refine ⟨fun h0 => ?_, fun _ => lq_neg hV hok (by decide)⟩
  rcases hF with ⟨t, f2, f3, f4, rfl⟩ | ⟨f1, rfl⟩
  · rw [nI_clamp (show t < 2 ^ 31 by omega)]
    exact lq_gate hV hok (lq_V_fill hP (by omega) hV g3) (lq_0 (by omega)) ⟨t, y, rg_AH_u (ha x y rfl rfl hx1 hx2 hy1 hy2) f2 f3 f4, rfl, by omega, rfl, rfl⟩
  · exact absurd h0 (by decide)
theorem lq_unmap {P R : Nat} {a b : Nat → Int32} {v1 v2 : Int32} (hP : P ≤ 256) (hV : lq_V P a b) (hok : rg_ok P R a b) : sp_unmap P R a b v1 v2 (lq_F P R a b (lq_Eu P a b v1 v2)) := by
  refine ⟨fun g => ?_, fun _ => lq_neg hV hok (by decide)⟩
  obtain ⟨s, l, rfl, rfl, hl, hs⟩ := rg_PR_n g
  rw [nI_clamp (show s < 2 ^ 31 by omega), nI_clamp (show l < 2 ^ 31 by omega)]
  have hle := rg_cn_le (rg_mp a) s l
  exact lq_gate hV hok (lq_V_free hV) (lq_0 (by omega)) ⟨s, l, rfl, rfl, hs, rfl, rfl⟩
theorem lq_protect {P R : Nat} {a b : Nat → Int32} {v1 v2 v3 : Int32} (hP : P ≤ 256) (hV : lq_V P a b) (hok : rg_ok P R a b) : sp_protect P R a b v1 v2 v3 (lq_F P R a b (lq_Ep P a b v1 v2 v3)) := by
  refine ⟨fun g => ?_, fun _ => lq_neg hV hok (by decide)⟩
  obtain ⟨g1, g2⟩ := g
  obtain ⟨s, l, rfl, rfl, hl, hs⟩ := rg_PR_n g1
  rw [nI_clamp (show s < 2 ^ 31 by omega), nI_clamp (show l < 2 ^ 31 by omega)]
  refine ⟨fun _ => lq_neg hV hok (by decide), fun hA => ?_⟩
  have hle := rg_cn_le (fun j => decide (¬ a j = v3)) s l
  exact lq_gate hV hok (lq_V_prot hV g2 hA) (lq_0 (by omega)) ⟨s, l, rfl, rfl, hs, rfl, rfl⟩
theorem lq_move {P R : Nat} {a b : Nat → Int32} {v1 v2 v3 : Int32} (hP : P ≤ 256) (hV : lq_V P a b) (hok : rg_ok P R a b) : sp_move P R a b v1 v2 v3 (lq_F P R a b (lq_Em P a b v1 v2 v3)) := by
  refine ⟨fun g => ?_, fun _ => lq_neg hV hok (by decide)⟩
  obtain ⟨g1, g2⟩ := g
  obtain ⟨s, l, rfl, rfl, hl, hs⟩ := rg_PR_n g1
  obtain ⟨t, l', rfl, el, hl', ht⟩ := rg_PR_n g2
  have el : l = l' := (nI_eq (by omega) (by omega)).mp el
  subst el
  rw [nI_clamp (show s < 2 ^ 31 by omega), nI_clamp (show l < 2 ^ 31 by omega), nI_clamp (show t < 2 ^ 31 by omega)]
  refine ⟨fun _ => lq_neg hV hok (by decide), fun hA => ?_⟩
  have hle := rg_cn_le (rg_out a s l) t l
  exact lq_gate hV hok (lq_V_mv hs hV hA) (lq_0 (by omega)) ⟨s, l, t, rfl, rfl, rfl, hs, ht, rfl, rfl⟩
theorem lq_moveFree {P R : Nat} {a b : Nat → Int32} {v1 v2 v3 at_ : Int32} (hP : P ≤ 256) (hV : lq_V P a b) (hok : rg_ok P R a b) (ha : ∀ x y, v3 = nI x → v2 = nI y → x < P → 1 ≤ y → y ≤ P → rg_AT a P x y at_) : sp_moveFree P R a b v1 v2 v3 (lq_F P R a b (lq_Em P a b v1 v2 at_)) := by
  refine ⟨fun g => ?_, fun _ => lq_neg hV hok (by decide)⟩
  obtain ⟨g1, g2⟩ := g
  obtain ⟨s, l, rfl, rfl, hl, hs⟩ := rg_PR_n g1
  obtain ⟨x, rfl, hx⟩ := rg_PG_n g2
  rw [nI_clamp (show s < 2 ^ 31 by omega), nI_clamp (show l < 2 ^ 31 by omega), nI_clamp (show x < 2 ^ 31 by omega)]
  refine ⟨fun _ => lq_neg hV hok (by decide), fun hA => ?_⟩
  intro r hF
  refine ⟨fun h0 => ?_, fun _ => lq_neg hV hok (by decide)⟩
  rcases hF with ⟨t, f1, f2, f3, f4, rfl⟩ | ⟨f1, rfl⟩
  · rw [nI_clamp (show t < 2 ^ 31 by omega)]
    exact lq_gate hV hok (lq_V_mv hs hV hA) (lq_0 (by omega)) ⟨s, l, t, rfl, rfl, rg_AT_u (ha x l rfl rfl hx hl (by omega)) f1 f2 f3 f4, hs, f2, rfl, rfl⟩
  · exact absurd h0 (by decide)
