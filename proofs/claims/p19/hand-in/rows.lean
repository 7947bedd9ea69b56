section
/-! the pure picture: a page's protection a j (-6: free) and backing b j; counts; runs of free pages -/
def rg_mp (a : Nat → Int32) (j : Nat) : Bool := decide (¬ a j = -6)
def rg_co (a b : Nat → Int32) (j : Nat) : Bool := decide (1 ≤ j ∧ ¬ a j = -6 ∧ a j = a (j - 1) ∧ ((b (j - 1) = 0 ∧ b j = 0) ∨ (b j = b (j - 1) + 1 ∧ b j / 1024 = b (j - 1) / 1024)))
def rg_st (a b : Nat → Int32) (j : Nat) : Bool := rg_mp a j && !rg_co a b j
def rg_cn (p : Nat → Bool) (s : Nat) : Nat → Nat
  | 0 => 0
  | n + 1 => rg_cn p s n + (if p (s + n) = true then 1 else 0)
theorem rg_cn_0 (p : Nat → Bool) (s : Nat) : rg_cn p s 0 = 0 := rfl
theorem rg_cn_t {p : Nat → Bool} {s n : Nat} (h : p (s + n) = true) : rg_cn p s (n + 1) = rg_cn p s n + 1 := by
  rw [rg_cn, if_pos h]
theorem rg_cn_f {p : Nat → Bool} {s n : Nat} (h : p (s + n) = false) : rg_cn p s (n + 1) = rg_cn p s n := by
  rw [rg_cn, if_neg (by rw [h]; exact Bool.false_ne_true), Nat.add_zero]
theorem rg_cn_le (p : Nat → Bool) (s n : Nat) : rg_cn p s n ≤ n := by
  induction n with
  | zero => exact Nat.le_refl 0
  | succ n ih =>
    rw [rg_cn]
    split <;> omega
theorem rg_cn_all {p : Nat → Bool} {s n : Nat} (h : ¬ rg_cn p s n < n) : ∀ i, i < n → p (s + i) = true := by
  induction n with
  | zero => intro i hi; omega
  | succ n ih =>
    have hle := rg_cn_le p s n
    intro i hi
    rw [rg_cn] at h
    by_cases hp : p (s + n) = true
    · rw [if_pos hp] at h
      by_cases e : i = n
      · rw [e]; exact hp
      · exact ih (by omega) i (by omega)
    · rw [if_neg hp] at h; omega
theorem rg_cn_z {p : Nat → Bool} {s n : Nat} : rg_cn p s n = 0 ↔ ∀ i, i < n → p (s + i) = false := by
  induction n with
  | zero => exact ⟨fun _ i hi => by omega, fun _ => rfl⟩
  | succ n ih =>
    rw [rg_cn]
    constructor
    · intro h i hi
      have h1 : ¬ p (s + n) = true := by intro hp; rw [if_pos hp] at h; omega
      rw [if_neg h1] at h
      by_cases e : i = n
      · rw [e]; exact Bool.eq_false_iff.mpr h1
      · exact ih.mp (by omega) i (by omega)
    · intro h
      have h1 : ¬ p (s + n) = true := by rw [h n (by omega)]; exact Bool.false_ne_true
      rw [if_neg h1, ih.mpr (fun i hi => h i (by omega))]
theorem rg_mp_t {a : Nat → Int32} {j : Nat} : rg_mp a j = true ↔ ¬ a j = -6 := decide_eq_true_iff
theorem rg_mp_f {a : Nat → Int32} {j : Nat} : rg_mp a j = false ↔ a j = -6 := by
  rw [rg_mp, decide_eq_false_iff_not, Decidable.not_not]
/-- pages t .. t+l-1 are free -/
def rg_fr (a : Nat → Int32) (t l : Nat) : Prop := ∀ i, i < l → a (t + i) = -6
theorem rg_fr_cn {a : Nat → Int32} {t l : Nat} : rg_cn (rg_mp a) t l = 0 ↔ rg_fr a t l := by
  rw [rg_cn_z]
  exact ⟨fun h i hi => rg_mp_f.mp (h i hi), fun h i hi => rg_mp_f.mpr (h i hi)⟩
/-- findLow's answer -/
def rg_FL (a : Nat → Int32) (P f l : Nat) (r : Int32) : Prop :=
  (∃ t, f ≤ t ∧ t + l ≤ P ∧ rg_fr a t l ∧ (∀ t', f ≤ t' → t' < t → ¬ rg_fr a t' l) ∧ r = nI t) ∨ ((∀ t', f ≤ t' → t' + l ≤ P → ¬ rg_fr a t' l) ∧ r = -4)
theorem rg_FL_u {a : Nat → Int32} {P f l : Nat} {r r' : Int32} (h : rg_FL a P f l r) (h' : rg_FL a P f l r') : r' = r := by
  rcases h with ⟨t, h1, h2, h3, h4, rfl⟩ | ⟨h1, rfl⟩ <;> rcases h' with ⟨t', g1, g2, g3, g4, rfl⟩ | ⟨g1, rfl⟩
  · rcases Nat.lt_trichotomy t t' with e | e | e
    · exact absurd h3 (g4 t h1 e)
    · rw [e]
    · exact absurd g3 (h4 t' g1 e)
  · exact absurd h3 (g1 t h1 h2)
  · exact absurd g3 (h1 t' g1 g2)
  · rfl
/-- findHigh's answer -/
def rg_FH (a : Nat → Int32) (to l : Nat) (r : Int32) : Prop :=
  (∃ t, t + l ≤ to ∧ rg_fr a t l ∧ (∀ t', t < t' → t' + l ≤ to → ¬ rg_fr a t' l) ∧ r = nI t) ∨ ((∀ t', t' + l ≤ to → ¬ rg_fr a t' l) ∧ r = -4)
theorem rg_FH_u {a : Nat → Int32} {to l : Nat} {r r' : Int32} (h : rg_FH a to l r) (h' : rg_FH a to l r') : r' = r := by
  rcases h with ⟨t, h2, h3, h4, rfl⟩ | ⟨h1, rfl⟩ <;> rcases h' with ⟨t', g2, g3, g4, rfl⟩ | ⟨g1, rfl⟩
  · rcases Nat.lt_trichotomy t t' with e | e | e
    · exact absurd g3 (h4 t' e g2)
    · rw [e]
    · exact absurd h3 (g4 t e h2)
  · exact absurd h3 (g1 t h2)
  · exact absurd g3 (h1 t' g2)
  · rfl
/-- longestGap's answer below P -/
def rg_LG (a : Nat → Int32) (P L : Nat) : Prop := (∃ t, t + L ≤ P ∧ rg_fr a t L) ∧ ∀ t l, t + l ≤ P → rg_fr a t l → l ≤ L
theorem rg_LG_u {a : Nat → Int32} {P L L' : Nat} (h : rg_LG a P L) (h' : rg_LG a P L') : L' = L := by
  obtain ⟨⟨t, h1, h2⟩, h3⟩ := h
  obtain ⟨⟨t', g1, g2⟩, g3⟩ := h'
  have := h3 t' L' g1 g2
  have := g3 t L h1 h2
  omega
/-- the run of free pages that ends at q, not below f -/
def rg_run (a : Nat → Int32) (f q run : Nat) : Prop := f + run ≤ q ∧ (∀ i, q - run ≤ i → i < q → a i = -6) ∧ (q - run = f ∨ ¬ a (q - run - 1) = -6)
theorem rg_run_0 (a : Nat → Int32) (f : Nat) : rg_run a f f 0 := ⟨Nat.le_refl _, fun i h1 h2 => by omega, Or.inl rfl⟩
theorem rg_run_f {a : Nat → Int32} {f q run : Nat} (h : rg_run a f q run) (hq : a q = -6) : rg_run a f (q + 1) (run + 1) := by
  obtain ⟨h1, h2, h3⟩ := h
  refine ⟨by omega, fun i g1 g2 => ?_, ?_⟩
  · by_cases e : i = q
    · rw [e]; exact hq
    · exact h2 i (by omega) (by omega)
  · rw [show q + 1 - (run + 1) = q - run from by omega]; exact h3
theorem rg_run_m {a : Nat → Int32} {f q run : Nat} (h : rg_run a f q run) (hq : ¬ a q = -6) : rg_run a f (q + 1) 0 := by
  obtain ⟨h1, h2, h3⟩ := h
  exact ⟨by omega, fun i g1 g2 => by omega, Or.inr (by rw [show q + 1 - 0 - 1 = q from by omega]; exact hq)⟩
theorem rg_run_x {a : Nat → Int32} {f q run t l : Nat} (h : rg_run a f q run) (ht : f ≤ t) (e : t + l = q) (hf : rg_fr a t l) : l ≤ run := by
  obtain ⟨h1, h2, h3⟩ := h
  by_cases hl : l ≤ run
  · exact hl
  · rcases h3 with h3 | h3
    · omega
    · have := hf (q - run - 1 - t) (by omega)
      rw [show t + (q - run - 1 - t) = q - run - 1 from by omega] at this
      exact absurd this h3
theorem rg_run_fr {a : Nat → Int32} {f q run : Nat} (h : rg_run a f q run) : rg_fr a (q - run) run := by
  obtain ⟨h1, h2, h3⟩ := h
  exact fun i hi => h2 (q - run + i) (by omega) (by omega)
/-- findLow's loop at page q -/
def rg_IL (a : Nat → Int32) (f l q run : Nat) : Prop := rg_run a f q run ∧ run < l ∧ ∀ t, f ≤ t → t + l ≤ q → ¬ rg_fr a t l
theorem rg_IL_0 (a : Nat → Int32) {f l : Nat} (hl : 1 ≤ l) : rg_IL a f l f 0 := ⟨rg_run_0 a f, by omega, fun t h1 h2 _ => by omega⟩
theorem rg_IL_x {a : Nat → Int32} {f l q run : Nat} (h : rg_IL a f l q run) : rg_FL a q f l (-4) := Or.inr ⟨h.2.2, rfl⟩
theorem rg_IL_r {a : Nat → Int32} {f l q run P : Nat} (h : rg_IL a f l q run) (hq : a q = -6) (e : run + 1 = l) (hP : q < P) : l ≤ q + 1 ∧ rg_FL a P f l (nI (q + 1 - l)) := by
  obtain ⟨h1, h2, h3⟩ := h
  have g := rg_run_f h1 hq
  rw [e] at g
  have hle := g.1
  refine ⟨by omega, Or.inl ⟨q + 1 - l, by omega, by omega, rg_run_fr g, fun t' a1 a2 => h3 t' a1 (by omega), rfl⟩⟩
theorem rg_IL_f {a : Nat → Int32} {f l q run : Nat} (h : rg_IL a f l q run) (hq : a q = -6) (e : ¬ run + 1 = l) : rg_IL a f l (q + 1) (run + 1) := by
  obtain ⟨h1, h2, h3⟩ := h
  have g := rg_run_f h1 hq
  refine ⟨g, by omega, fun t a1 a2 a3 => ?_⟩
  by_cases e2 : t + l ≤ q
  · exact h3 t a1 e2 a3
  · have := rg_run_x g a1 (by omega) a3
    omega
theorem rg_IL_m {a : Nat → Int32} {f l q run : Nat} (h : rg_IL a f l q run) (hq : ¬ a q = -6) (hl : 1 ≤ l) : rg_IL a f l (q + 1) 0 := by
  obtain ⟨h1, h2, h3⟩ := h
  have g := rg_run_m h1 hq
  refine ⟨g, by omega, fun t a1 a2 a3 => ?_⟩
  by_cases e2 : t + l ≤ q
  · exact h3 t a1 e2 a3
  · have := rg_run_x g a1 (by omega) a3
    omega
/-- the run of free pages that begins at q, below to -/
def rg_rud (a : Nat → Int32) (to q run : Nat) : Prop := q + run ≤ to ∧ rg_fr a q run ∧ (q + run = to ∨ ¬ a (q + run) = -6)
theorem rg_rud_0 (a : Nat → Int32) (to : Nat) : rg_rud a to to 0 := ⟨Nat.le_refl _, fun i h => by omega, Or.inl rfl⟩
theorem rg_rud_f {a : Nat → Int32} {to q run : Nat} (h : rg_rud a to (q + 1) run) (hq : a q = -6) : rg_rud a to q (run + 1) := by
  obtain ⟨h1, h2, h3⟩ := h
  refine ⟨by omega, fun i g1 => ?_, ?_⟩
  · by_cases e : i = 0
    · rw [e]; exact hq
    · have := h2 (i - 1) (by omega)
      rw [show q + 1 + (i - 1) = q + i from by omega] at this
      exact this
  · rw [show q + (run + 1) = q + 1 + run from by omega]; exact h3
theorem rg_rud_m {a : Nat → Int32} {to q : Nat} (h : q + 1 ≤ to) (hq : ¬ a q = -6) : rg_rud a to q 0 :=
  ⟨by omega, fun i g1 => by omega, Or.inr hq⟩
theorem rg_rud_x {a : Nat → Int32} {to q run l : Nat} (h : rg_rud a to q run) (e : q + l ≤ to) (hf : rg_fr a q l) : l ≤ run := by
  obtain ⟨h1, h2, h3⟩ := h
  by_cases hl : l ≤ run
  · exact hl
  · rcases h3 with h3 | h3
    · omega
    · exact absurd (hf run (by omega)) h3
/-- findHigh's loop with q pages left -/
def rg_IH (a : Nat → Int32) (to l q run : Nat) : Prop := rg_rud a to q run ∧ run < l ∧ ∀ t, q ≤ t → t + l ≤ to → ¬ rg_fr a t l
theorem rg_IH_0 (a : Nat → Int32) {to l : Nat} (hl : 1 ≤ l) : rg_IH a to l to 0 := ⟨rg_rud_0 a to, by omega, fun t h1 h2 _ => by omega⟩
theorem rg_IH_x {a : Nat → Int32} {to l run : Nat} (h : rg_IH a to l 0 run) : rg_FH a to l (-4) := Or.inr ⟨fun t' e => h.2.2 t' (Nat.zero_le _) e, rfl⟩
theorem rg_IH_r {a : Nat → Int32} {to l q run : Nat} (h : rg_IH a to l (q + 1) run) (hq : a q = -6) (e : run + 1 = l) : rg_FH a to l (nI q) := by
  obtain ⟨h1, h2, h3⟩ := h
  have g := rg_rud_f h1 hq
  rw [e] at g
  exact Or.inl ⟨q, g.1, g.2.1, fun t' a1 a2 => h3 t' (by omega) a2, rfl⟩
theorem rg_IH_f {a : Nat → Int32} {to l q run : Nat} (h : rg_IH a to l (q + 1) run) (hq : a q = -6) (e : ¬ run + 1 = l) : rg_IH a to l q (run + 1) := by
  obtain ⟨h1, h2, h3⟩ := h
  have g := rg_rud_f h1 hq
  refine ⟨g, by omega, fun t a1 a2 a3 => ?_⟩
  by_cases e2 : q + 1 ≤ t
  · exact h3 t e2 a2 a3
  · have e3 : t = q := by omega
    rw [e3] at a2 a3
    have := rg_rud_x g a2 a3
    omega
theorem rg_IH_m {a : Nat → Int32} {to l q run : Nat} (h : rg_IH a to l (q + 1) run) (hq : ¬ a q = -6) (hl : 1 ≤ l) : rg_IH a to l q 0 := by
  obtain ⟨h1, h2, h3⟩ := h
  have g : rg_rud a to q 0 := rg_rud_m (by have := h1.1; omega) hq
  refine ⟨g, by omega, fun t a1 a2 a3 => ?_⟩
  by_cases e2 : q + 1 ≤ t
  · exact h3 t e2 a2 a3
  · have e3 : t = q := by omega
    rw [e3] at a2 a3
    have := rg_rud_x g a2 a3
    omega
/-- longestGap, the class: at page q, longest L, run -/
def rg_IG (a : Nat → Int32) (q L run : Nat) : Prop := rg_run a 0 q run ∧ rg_LG a q L
theorem rg_IG_0 (a : Nat → Int32) : rg_IG a 0 0 0 := ⟨rg_run_0 a 0, ⟨0, Nat.le_refl _, fun i h => by omega⟩, fun t l h _ => by omega⟩
theorem rg_IG_s {a : Nat → Int32} {q L run : Nat} (hL : rg_LG a q L) (g : rg_run a 0 (q + 1) run) (h : run ≤ L) : rg_IG a (q + 1) L run := by
  obtain ⟨⟨t, h1, h2⟩, h3⟩ := hL
  refine ⟨g, ⟨t, by omega, h2⟩, fun t' l e1 e2 => ?_⟩
  by_cases e : t' + l ≤ q
  · exact h3 t' l e e2
  · have := rg_run_x g (Nat.zero_le t') (by omega) e2
    omega
theorem rg_IG_g {a : Nat → Int32} {q L run : Nat} (hL : rg_LG a q L) (g : rg_run a 0 (q + 1) run) (h : L < run) : rg_IG a (q + 1) run run := by
  obtain ⟨⟨t, h1, h2⟩, h3⟩ := hL
  have hle := g.1
  refine ⟨g, ⟨q + 1 - run, by omega, rg_run_fr g⟩, fun t' l e1 e2 => ?_⟩
  by_cases e : t' + l ≤ q
  · have := h3 t' l e e2
    omega
  · exact rg_run_x g (Nat.zero_le t') (by omega) e2
/-- longestGap, the reference: before the turn of first page f -/
def rg_JG (a : Nat → Int32) (P f L : Nat) : Prop := (∃ t, t + L ≤ P ∧ rg_fr a t L) ∧ ∀ t l, t < f → t + l ≤ P → rg_fr a t l → l ≤ L
theorem rg_JG_0 (a : Nat → Int32) (P : Nat) : rg_JG a P 0 0 := ⟨⟨0, by omega, fun i h => by omega⟩, fun t l h => by omega⟩
theorem rg_JG_x {a : Nat → Int32} {P L : Nat} (h : rg_JG a P P L) : rg_LG a P L :=
  ⟨h.1, fun t l e1 e2 => by
    by_cases e : t < P
    · exact h.2 t l e e1 e2
    · omega⟩
theorem rg_JG_s {a : Nat → Int32} {P f L l : Nat} (h : rg_JG a P f L) (g : rg_rud a P f l) (e : l ≤ L) : rg_JG a P (f + 1) L :=
  ⟨h.1, fun t l' e0 e1 e2 => by
    by_cases e3 : t < f
    · exact h.2 t l' e3 e1 e2
    · have e4 : t = f := by omega
      rw [e4] at e1 e2
      have := rg_rud_x g e1 e2
      omega⟩
theorem rg_JG_g {a : Nat → Int32} {P f L l : Nat} (h : rg_JG a P f L) (g : rg_rud a P f l) (e : L < l) : rg_JG a P (f + 1) l :=
  ⟨⟨f, g.1, g.2.1⟩, fun t l' e0 e1 e2 => by
    by_cases e3 : t < f
    · have := h.2 t l' e3 e1 e2
      omega
    · have e4 : t = f := by omega
      rw [e4] at e1 e2
      exact rg_rud_x g e1 e2⟩
theorem rg_LG_le {a : Nat → Int32} {P L : Nat} (h : rg_LG a P L) : L ≤ P := by
  obtain ⟨⟨t, h1, _⟩, _⟩ := h
  omega
/-- regionStart's answer: the first page that p marks with k marked pages before it -/
def rg_RS (p : Nat → Bool) (P : Nat) (k r : Int32) : Prop :=
  (∃ t, t < P ∧ p t = true ∧ nI (rg_cn p 0 t) = k ∧ (∀ t', t' < t → p t' = true → ¬ nI (rg_cn p 0 t') = k) ∧ r = nI t) ∨ ((∀ t', t' < P → p t' = true → ¬ nI (rg_cn p 0 t') = k) ∧ r = -1)
theorem rg_RS_u {p : Nat → Bool} {P : Nat} {k r r' : Int32} (h : rg_RS p P k r) (h' : rg_RS p P k r') : r' = r := by
  rcases h with ⟨t, h1, h2, h3, h4, rfl⟩ | ⟨h1, rfl⟩ <;> rcases h' with ⟨t', g1, g2, g3, g4, rfl⟩ | ⟨g1, rfl⟩
  · rcases Nat.lt_trichotomy t t' with e | e | e
    · exact absurd h3 (g4 t e h2)
    · rw [e]
    · exact absurd g3 (h4 t' e g2)
  · exact absurd h3 (g1 t h1 h2)
  · exact absurd g3 (h1 t' g1 g2)
  · rfl
/-- regionStart's loop at page q -/
def rg_IS (p : Nat → Bool) (q : Nat) (k : Int32) : Prop := ∀ t', t' < q → p t' = true → ¬ nI (rg_cn p 0 t') = k
theorem rg_IS_0 (p : Nat → Bool) (k : Int32) : rg_IS p 0 k := fun t h => by omega
theorem rg_IS_x {p : Nat → Bool} {q : Nat} {k : Int32} (h : rg_IS p q k) : rg_RS p q k (-1) := Or.inr ⟨h, rfl⟩
theorem rg_IS_r {p : Nat → Bool} {q P : Nat} {k : Int32} (h : rg_IS p q k) (hq : q < P) (hp : p q = true) (e : nI (rg_cn p 0 q) = k) : rg_RS p P k (nI q) := Or.inl ⟨q, hq, hp, e, h, rfl⟩
theorem rg_IS_n {p : Nat → Bool} {q : Nat} {k : Int32} (h : rg_IS p q k) (e : ¬ nI (rg_cn p 0 q) = k) : rg_IS p (q + 1) k := by
  intro t ht hp
  by_cases e2 : t = q
  · rw [e2]; exact e
  · exact h t (by omega) hp
theorem rg_IS_m {p : Nat → Bool} {q : Nat} {k : Int32} (h : rg_IS p q k) (e : p q = false) : rg_IS p (q + 1) k := by
  intro t ht hp
  by_cases e2 : t = q
  · rw [e2, e] at hp; exact absurd hp Bool.false_ne_true
  · exact h t (by omega) hp
/-- regionLength's answer from first page t -/
def rg_RL (c : Nat → Bool) (P t l : Nat) : Prop := 1 ≤ l ∧ t + l ≤ P ∧ (∀ i, 1 ≤ i → i < l → c (t + i) = true) ∧ (t + l = P ∨ c (t + l) = false)
theorem rg_RL_u {c : Nat → Bool} {P t l l' : Nat} (h : rg_RL c P t l) (h' : rg_RL c P t l') : l' = l := by
  obtain ⟨h1, h2, h3, h4⟩ := h
  obtain ⟨g1, g2, g3, g4⟩ := h'
  rcases Nat.lt_trichotomy l l' with e | e | e
  · rcases h4 with h4 | h4
    · omega
    · rw [g3 l h1 e] at h4; exact absurd h4.symm Bool.false_ne_true
  · exact e.symm
  · rcases g4 with g4 | g4
    · omega
    · rw [h3 l' g1 e] at g4; exact absurd g4.symm Bool.false_ne_true
end
section
/-! ints: proper ranges and attributes; the relation of the two maps -/
theorem rg_i0 : (0 : Int32).toInt = 0 := by decide
theorem rg_i1 : (1 : Int32).toInt = 1 := by decide
theorem rg_i7 : (7 : Int32).toInt = 7 := by decide
theorem rg_i1024 : (1024 : Int32).toInt = 1024 := by decide
theorem rg_i8191 : (8191 : Int32).toInt = 8191 := by decide
theorem rg_im6 : (-6 : Int32).toInt = -6 := by decide
theorem rg_n1024 : (1024 : Int32) = nI 1024 := by decide
theorem rg_n256 : (256 : Int32) = nI 256 := by decide
theorem rg_nat {x : Int32} (h : 0 ≤ x.toInt) : ∃ n : Nat, n < 2 ^ 31 ∧ x = nI n ∧ x.toInt = n := by
  have h' : ¬ x < 0 := by rw [Int32.lt_iff_toInt_lt, rg_i0]; omega
  obtain ⟨n, hn, rfl⟩ := nI_of h'
  exact ⟨n, hn, rfl, nI_toInt hn⟩
/-- the range (s, l) is proper -/
def rg_PR (P : Nat) (s l : Int32) : Prop := 0 ≤ s.toInt ∧ 1 ≤ l.toInt ∧ s.toInt + l.toInt ≤ P
theorem rg_PR_n {P : Nat} {s l : Int32} (h : rg_PR P s l) : ∃ x y : Nat, s = nI x ∧ l = nI y ∧ 1 ≤ y ∧ x + y ≤ P := by
  obtain ⟨h1, h2, h3⟩ := h
  obtain ⟨x, hx, ex, fx⟩ := rg_nat h1
  obtain ⟨y, hy, ey, fy⟩ := rg_nat (x := l) (by omega)
  exact ⟨x, y, ex, ey, by omega, by omega⟩
/-- a length, a bound -/
def rg_LN (P : Nat) (l : Int32) : Prop := 1 ≤ l.toInt ∧ l.toInt ≤ P
theorem rg_LN_n {P : Nat} {l : Int32} (h : rg_LN P l) : ∃ y : Nat, l = nI y ∧ 1 ≤ y ∧ y ≤ P := by
  obtain ⟨h1, h2⟩ := h
  obtain ⟨y, hy, ey, fy⟩ := rg_nat (x := l) (by omega)
  exact ⟨y, ey, by omega, by omega⟩
/-- a page -/
def rg_PG (P : Nat) (s : Int32) : Prop := 0 ≤ s.toInt ∧ s.toInt < P
theorem rg_PG_n {P : Nat} {s : Int32} (h : rg_PG P s) : ∃ x : Nat, s = nI x ∧ x < P := by
  obtain ⟨h1, h2⟩ := h
  obtain ⟨x, hx, ex, fx⟩ := rg_nat h1
  exact ⟨x, ex, by omega⟩
/-- a protection -/
def rg_PT (p : Int32) : Prop := 0 ≤ p.toInt ∧ p.toInt ≤ 7
theorem rg_PT_6 {p : Int32} (h : rg_PT p) : ¬ p = -6 := by
  intro e
  have h1 := h.1
  rw [e, rg_im6] at h1
  omega
/-- a backing -/
def rg_BK (b : Int32) : Prop := b = 0 ∨ (1024 ≤ b.toInt ∧ b.toInt ≤ 8191)
/-- (l, p, b) are proper attributes -/
def rg_PA (l p b : Int32) : Prop := rg_PT p ∧ (b = 0 ∨ (1024 ≤ b.toInt ∧ b.toInt ≤ 8191 ∧ b.toInt % 1024 + l.toInt ≤ 1024))
theorem rg_sub {P : Nat} (hP : P ≤ 256) {l : Int32} (h : rg_LN P l) : (nI P - l).toInt = P - l.toInt := by
  obtain ⟨y, rfl, h1, h2⟩ := rg_LN_n h
  rw [pk_sub h2, nI_toInt (by omega), nI_toInt (by omega)]
  omega
theorem rg_rem {b : Int32} (h1 : 1024 ≤ b.toInt) (h2 : b.toInt ≤ 8191) : ∃ c : Nat, c < 1024 ∧ b - b / 1024 * 1024 = nI c ∧ b.toInt % 1024 = c := by
  obtain ⟨n, hn, rfl, fn⟩ := rg_nat (x := b) (by omega)
  refine ⟨n % 1024, by omega, ?_, by omega⟩
  rw [rg_n1024]
  exact pk_rem hn (by omega) (by omega)
/-- the two maps below P: a, b the class's; m, p, c the reference's -/
def rg_R (P : Nat) (a b m p c : Nat → Int32) : Prop := ∀ j, j < P → (m j = 0 ∧ a j = -6 ∧ b j = -6) ∨ (m j = 1 ∧ a j = p j ∧ b j = c j ∧ ¬ a j = -6 ∧ rg_BK (b j))
/-- the reference's own continuing -/
def rg_cy (m p c : Nat → Int32) (j : Nat) : Bool := decide (1 ≤ j ∧ ¬ m j = 0 ∧ ¬ m (j - 1) = 0 ∧ p j = p (j - 1) ∧ ((c (j - 1) = 0 ∧ c j = 0) ∨ (1024 ≤ c (j - 1) ∧ 1024 ≤ c j ∧ c (j - 1) / 1024 = c j / 1024 ∧ c j = c (j - 1) + 1)))
theorem rg_cy_co {P : Nat} {a b m p c : Nat → Int32} (h : rg_R P a b m p c) {j : Nat} (hj : j < P) : rg_cy m p c j = rg_co a b j := by
  unfold rg_cy rg_co
  apply decide_eq_decide.mpr
  have h10 : ¬ (1 : Int32) = 0 := by decide
  by_cases h1 : 1 ≤ j
  · rcases h j hj with ⟨e1, e2, e3⟩ | ⟨e1, e2, e3, e4, e5⟩
    · constructor
      · intro z; exact absurd e1 z.2.1
      · intro z; exact absurd e2 z.2.1
    · rcases h (j - 1) (by omega) with ⟨f1, f2, f3⟩ | ⟨f1, f2, f3, f4, f5⟩
      · constructor
        · intro z; exact absurd f1 z.2.2.1
        · intro z; rw [f2] at z; exact absurd z.2.2.1 e4
      · rw [e1, f1, ← e2, ← f2, ← e3, ← f3]
        constructor
        · rintro ⟨_, _, _, z1, z2⟩
          refine ⟨h1, e4, z1, ?_⟩
          rcases z2 with z2 | ⟨_, _, z3, z4⟩
          · exact Or.inl z2
          · exact Or.inr ⟨z4, z3.symm⟩
        · rintro ⟨_, _, z1, z2⟩
          refine ⟨h1, h10, h10, z1, ?_⟩
          rcases z2 with z2 | ⟨z3, z4⟩
          · exact Or.inl z2
          · right
            have k1 : 1024 ≤ (b (j - 1)).toInt := by
              rcases f5 with f5 | f5
              · rw [f5] at z3
                rcases e5 with e5 | e5
                · rw [z3] at e5; exact absurd e5 (by decide)
                · rw [z3] at e5; exact absurd e5.1 (by decide)
              · exact f5.1
            have k2 : 1024 ≤ (b j).toInt := by
              rcases e5 with e5 | e5
              · rw [e5] at z4
                obtain ⟨n, hn, en, fn⟩ := rg_nat (x := b (j - 1)) (by omega)
                rcases f5 with f5 | f5
                · rw [f5] at k1; exact absurd k1 (by decide)
                · rw [en, rg_n1024, pk_div hn (by omega) (by omega), show (0 : Int32) / nI 1024 = nI 0 from by decide, nI_eq (by omega) (by omega)] at z4
                  omega
              · exact e5.1
            refine ⟨?_, ?_, z4.symm, z3⟩
            · rw [Int32.le_iff_toInt_le, rg_i1024]; exact k1
            · rw [Int32.le_iff_toInt_le, rg_i1024]; exact k2
  · constructor
    · intro z; exact absurd z.1 h1
    · intro z; exact absurd z.1 h1
theorem rg_R_mp {P : Nat} {a b m p c : Nat → Int32} (h : rg_R P a b m p c) {j : Nat} (hj : j < P) : (m j = 0 ∧ rg_mp a j = false) ∨ (m j = 1 ∧ rg_mp a j = true) := by
  rcases h j hj with ⟨e1, e2, _⟩ | ⟨e1, _, _, e4, _⟩
  · exact Or.inl ⟨e1, rg_mp_f.mpr e2⟩
  · exact Or.inr ⟨e1, rg_mp_t.mpr e4⟩
end
section
/-! stores over a range; the pure new maps -/
def rg_F (lo hi : Nat) (g o n : Nat → Int32) : Prop := (∀ j, lo ≤ j → j < hi → n j = g j) ∧ (∀ j, ¬ (lo ≤ j ∧ j < hi) → n j = o j)
theorem rg_F_0 (lo : Nat) (g o : Nat → Int32) : rg_F lo lo g o o := ⟨fun j h1 h2 => by omega, fun j _ => rfl⟩
theorem rg_F_s {lo i k : Nat} {g o n : Nat → Int32} {x : Int32} (h : rg_F lo i g o n) (hl : lo ≤ i) (hk : k = i) (hx : x = g i) : rg_F lo (i + 1) g o (upd n k x) := by
  subst hk hx
  refine ⟨fun j h1 h2 => ?_, fun j h1 => ?_⟩
  · by_cases e : j = k
    · rw [e, pk_us]
    · rw [pk_un e]; exact h.1 j h1 (by omega)
  · rw [pk_un (by omega)]; exact h.2 j (by omega)
theorem rg_F_k {lo i : Nat} {g o n : Nat → Int32} (h : rg_F lo i g o n) (hl : lo ≤ i) (hx : n i = g i) : rg_F lo (i + 1) g o n := by
  refine ⟨fun j h1 h2 => ?_, fun j h1 => h.2 j (by omega)⟩
  by_cases e : j = i
  · rw [e]; exact hx
  · exact h.1 j h1 (by omega)
/-- the pages s .. s+l-1 of a get g, the others stay -/
def rg_on (s l : Nat) (g a : Nat → Int32) : Nat → Int32 := fun j => if s ≤ j ∧ j < s + l then g j else a j
theorem rg_on_t {s l j : Nat} {g a : Nat → Int32} (h : s ≤ j ∧ j < s + l) : rg_on s l g a j = g j := if_pos h
theorem rg_on_f {s l j : Nat} {g a : Nat → Int32} (h : ¬ (s ≤ j ∧ j < s + l)) : rg_on s l g a j = a j := if_neg h
/-- agree below P -/
def rg_eq (P : Nat) (a b : Nat → Int32) : Prop := ∀ j, j < P → a j = b j
theorem rg_F_on {P s l : Nat} {g a o n : Nat → Int32} (h : rg_F s (s + l) g o n) (ho : rg_eq P o a) : rg_eq P n (rg_on s l g a) := by
  intro j hj
  by_cases e : s ≤ j ∧ j < s + l
  · rw [rg_on_t e]; exact h.1 j e.1 e.2
  · rw [rg_on_f e, h.2 j e]; exact ho j hj
theorem rg_F_eq {P : Nat} {g o n : Nat → Int32} (h : rg_F 0 P g o n) : rg_eq P n g := fun j hj => h.1 j (Nat.zero_le j) hj
/-- the backing of a filled page -/
def rg_bk (s : Nat) (b : Int32) : Nat → Int32 := fun j => if b = 0 then 0 else b + nI (j - s)
/-- the map's region limit holds -/
def rg_ok (P R : Nat) (a b : Nat → Int32) : Prop := rg_cn (rg_st a b) 0 P ≤ R
theorem rg_cn_cg {p q : Nat → Bool} {s n : Nat} (h : ∀ i, i < n → p (s + i) = q (s + i)) : rg_cn p s n = rg_cn q s n := by
  induction n with
  | zero => rfl
  | succ n ih => rw [rg_cn, rg_cn, ih (fun i hi => h i (by omega)), h n (by omega)]
theorem rg_st_cg {P : Nat} {a b a' b' : Nat → Int32} (ha : rg_eq P a a') (hb : rg_eq P b b') {j : Nat} (hj : j < P) : rg_st a b j = rg_st a' b' j := by
  unfold rg_st rg_mp rg_co
  rw [ha j hj, hb j hj]
  by_cases h : 1 ≤ j
  · rw [ha (j - 1) (by omega), hb (j - 1) (by omega)]
  · simp [h]
theorem rg_ct_cg {P : Nat} {a b a' b' : Nat → Int32} (ha : rg_eq P a a') (hb : rg_eq P b b') : rg_cn (rg_st a b) 0 P = rg_cn (rg_st a' b') 0 P :=
  rg_cn_cg (fun i hi => rg_st_cg ha hb (by omega))
/-- the relation depends on the pages below P alone -/
theorem rg_R_cg {P : Nat} {a b m p c a' b' : Nat → Int32} (h : rg_R P a b m p c) (ha : rg_eq P a' a) (hb : rg_eq P b' b) : rg_R P a' b' m p c := by
  intro j hj
  rw [ha j hj, hb j hj]
  exact h j hj
theorem rg_R_cy {P : Nat} {a b m p c m' p' c' : Nat → Int32} (h : rg_R P a b m p c) (hm : rg_eq P m' m) (hp : rg_eq P p' p) (hc : rg_eq P c' c) : rg_R P a b m' p' c' := by
  intro j hj
  rw [hm j hj, hp j hj, hc j hj]
  exact h j hj
end
section
/-! the class, reading: one lemma a method, general post -/
theorem rg_10 : ¬ (1 : Int32) = 0 := by decide
theorem rg_k0 : ¬ (1024 : Int32) = 0 := by decide
theorem rx_isLength {post : Int32 → Prop} {P : Nat} {f : Int32} {a b d e : Nat → Int32} (hP : P ≤ 256) (l : Int32) (h1 : rg_LN P l → post 1) (h0 : ¬ rg_LN P l → post 0) : wpX_isLength post (nI P, f, a, b, d, e) l := by
  refine br_c (fun h => h0 ?_) (fun h => br_c (fun g => h0 ?_) (fun g => h1 ?_))
  · rw [Int32.lt_iff_toInt_lt, rg_i1] at h
    exact fun z => by have := z.1; omega
  · rw [Int32.lt_iff_toInt_lt, nI_toInt (by omega)] at g
    exact fun z => by have := z.2; omega
  · rw [Int32.lt_iff_toInt_lt, rg_i1] at h
    rw [Int32.lt_iff_toInt_lt, nI_toInt (by omega)] at g
    exact ⟨by omega, by omega⟩
theorem rx_isPage {post : Int32 → Prop} {P : Nat} {f : Int32} {a b d e : Nat → Int32} (hP : P ≤ 256) (l : Int32) (h1 : rg_PG P l → post 1) (h0 : ¬ rg_PG P l → post 0) : wpX_isPage post (nI P, f, a, b, d, e) l := by
  refine br_c (fun h => h0 ?_) (fun h => br_c (fun g => h0 ?_) (fun g => h1 ?_))
  · rw [Int32.lt_iff_toInt_lt, rg_i0] at h
    exact fun z => by have := z.1; omega
  · rw [Int32.le_iff_toInt_le, nI_toInt (by omega)] at g
    exact fun z => by have := z.2; omega
  · rw [Int32.lt_iff_toInt_lt, rg_i0] at h
    rw [Int32.le_iff_toInt_le, nI_toInt (by omega)] at g
    exact ⟨by omega, by omega⟩
theorem rx_range {post : Int32 → Prop} {P : Nat} {f : Int32} {a b d e : Nat → Int32} (hP : P ≤ 256) (s l : Int32) (h1 : rg_PR P s l → post 1) (h0 : ¬ rg_PR P s l → post 0) : wpX_isProperRange post (nI P, f, a, b, d, e) s l := by
  refine br_c (fun h => h0 ?_) (fun h => rx_isLength hP l (fun g => br_f rg_10 (br_c (fun k => h0 ?_) (fun k => h1 ?_))) (fun g => br_t rfl (h0 ?_)))
  · rw [Int32.lt_iff_toInt_lt, rg_i0] at h
    exact fun z => by have := z.1; omega
  · rw [Int32.lt_iff_toInt_lt, rg_sub hP g] at k
    exact fun z => by have := z.2.2; omega
  · rw [Int32.lt_iff_toInt_lt, rg_i0] at h
    rw [Int32.lt_iff_toInt_lt, rg_sub hP g] at k
    exact ⟨by omega, g.1, by omega⟩
  · rw [Int32.lt_iff_toInt_lt, rg_i0] at h
    exact fun z => g ⟨z.2.1, by have := z.2.2; omega⟩
theorem rx_prot {post : Int32 → Prop} (p : Int32) (h1 : rg_PT p → post 1) (h0 : ¬ rg_PT p → post 0) : wpX_isProperProt post () p := by
  refine br_c (fun h => h0 ?_) (fun h => br_c (fun g => h0 ?_) (fun g => h1 ?_))
  · rw [Int32.lt_iff_toInt_lt, rg_i0] at h
    exact fun z => by have := z.1; omega
  · rw [Int32.lt_iff_toInt_lt, rg_i7] at g
    exact fun z => by have := z.2; omega
  · rw [Int32.lt_iff_toInt_lt, rg_i0] at h
    rw [Int32.lt_iff_toInt_lt, rg_i7] at g
    exact ⟨by omega, by omega⟩
theorem rx_attr {post : Int32 → Prop} (l p b : Int32) (h1 : rg_PA l p b → post 1) (h0 : ¬ rg_PA l p b → post 0) : wpX_areProperAttributes post () l p b := by
  unfold wpX_areProperAttributes
  refine rx_prot p (fun g => br_f rg_10 (br_c (fun z => h1 ⟨g, Or.inl z⟩) (fun z => br_c (fun k => h0 ?_) (fun k => br_c (fun k2 => h0 ?_) (fun k2 => ⟨rg_k0, br_c (fun k3 => h0 ?_) (fun k3 => h1 ?_)⟩))))) (fun g => br_t rfl (h0 (fun z => g z.1)))
  · rw [Int32.lt_iff_toInt_lt, rg_i1024] at k
    rintro ⟨_, z2 | ⟨z3, _, _⟩⟩
    · exact z z2
    · omega
  · rw [Int32.lt_iff_toInt_lt, rg_i8191] at k2
    rintro ⟨_, z2 | ⟨_, z3, _⟩⟩
    · exact z z2
    · omega
  · rw [Int32.lt_iff_toInt_lt, rg_i1024] at k
    rw [Int32.lt_iff_toInt_lt, rg_i8191] at k2
    obtain ⟨c, hc, e1, e2⟩ := rg_rem (b := b) (by omega) (by omega)
    have e3 : (1024 : Int32) - nI c = nI (1024 - c) := by
      rw [rg_n1024]; exact pk_sub (by omega)
    rw [e1, e3, Int32.lt_iff_toInt_lt, nI_toInt (by omega)] at k3
    rintro ⟨_, z2 | ⟨_, _, z3⟩⟩
    · exact z z2
    · omega
  · rw [Int32.lt_iff_toInt_lt, rg_i1024] at k
    rw [Int32.lt_iff_toInt_lt, rg_i8191] at k2
    obtain ⟨c, hc, e1, e2⟩ := rg_rem (b := b) (by omega) (by omega)
    have e3 : (1024 : Int32) - nI c = nI (1024 - c) := by
      rw [rg_n1024]; exact pk_sub (by omega)
    rw [e1, e3, Int32.lt_iff_toInt_lt, nI_toInt (by omega)] at k3
    exact ⟨g, Or.inr ⟨by omega, by omega, by omega⟩⟩
theorem rx_cnt {post : Int32 → Prop} {P s l : Nat} {f : Int32} {a b d e : Nat → Int32} (hP : P ≤ 256) (hs : s + l ≤ P) (h : post (nI (rg_cn (rg_mp a) s l))) : wpX_countMapped post (nI P, f, a, b, d, e) (nI s) (nI l) :=
  pk_loop (fun n i c => wX_countMapped_5 post (nI s) (nI l) (nI P) f a b d e n (nI c) (nI (s + i))) (fun i c => c = rg_cn (rg_mp a) s i) l 0 0 (Nat.zero_le _) rfl
    (fun n c hc => pk_le (s + l) (s + l) (fun _ => by rw [hc]; exact h) (fun z => absurd z (by omega)) (hx := nI_add s l))
    (fun n i c hi hc hw => pk_le (s + l) (s + i) (fun z => absurd z (by omega)) (fun _ => ⟨pk_in (s + i) 256 (by omega), br_c
      (fun z => nm_r (nI_1 (s + i)) (hw c (by rw [nI_clamp (show s + i < 2 ^ 31 by omega)] at z; rw [rg_cn_f (rg_mp_f.mpr z)]; exact hc)))
      (fun z => nm_r (nI_1 c) (nm_r (nI_1 (s + i)) (hw (c + 1) (by rw [nI_clamp (show s + i < 2 ^ 31 by omega)] at z; rw [rg_cn_t (rg_mp_t.mpr z), hc]))))⟩) (hx := nI_add s l))
/-- what countMappedOutside counts -/
def rg_out (a : Nat → Int32) (s l j : Nat) : Bool := (decide (j < s) || decide (s + l ≤ j)) && rg_mp a j
theorem rx_out {post : Int32 → Prop} {P s l t : Nat} {f : Int32} {a b d e : Nat → Int32} (hP : P ≤ 256) (hs : s + l ≤ P) (ht : t + l ≤ P) (h : post (nI (rg_cn (rg_out a s l) t l))) : wpX_countMappedOutside post (nI P, f, a, b, d, e) (nI t) (nI s) (nI l) := by
  refine pk_loop (fun n i c => wX_countMappedOutside_6 post (nI t) (nI s) (nI l) (nI P) f a b d e n (nI c) (nI (t + i))) (fun i c => c = rg_cn (rg_out a s l) t i) l 0 0 (Nat.zero_le _) rfl
    (fun n c hc => pk_le (t + l) (t + l) (fun _ => by rw [hc]; exact h) (fun z => absurd z (by omega)) (hx := nI_add t l))
    (fun n i c hi hc hw => ?_)
  have hk := nI_clamp (show t + i < 2 ^ 31 by omega)
  have tl : (t + i < s ∨ s + l ≤ t + i) → wX_countMappedOutside_33 post (wX_countMappedOutside_6 post (nI t) (nI s) (nI l) (nI P) f a b d e n) (nI t) (nI s) (nI l) (nI c) (nI (t + i)) 1 (nI P) f a b d e := by
    intro ho
    have ho' : (decide (t + i < s) || decide (s + l ≤ t + i)) = true := by
      rcases ho with ho | ho
      · rw [decide_eq_true ho]; rfl
      · rw [decide_eq_true ho]; exact Bool.or_true _
    refine br_f rg_10 ⟨pk_in (t + i) 256 (by omega), br_c (fun z => nm_r (nI_1 (t + i)) (hw c ?_)) (fun z => nm_r (nI_1 c) (nm_r (nI_1 (t + i)) (hw (c + 1) ?_)))⟩
    · rw [hk] at z
      rw [rg_cn_f (by unfold rg_out; rw [rg_mp_f.mpr z]; exact Bool.and_false _)]
      exact hc
    · rw [hk] at z
      rw [rg_cn_t (by unfold rg_out; rw [rg_mp_t.mpr z, ho']; rfl), hc]
  refine pk_le (t + l) (t + i) (fun z => absurd z (by omega)) (fun _ => ?_) (hx := nI_add t l)
  refine pk_lt (t + i) s (fun z => tl (Or.inl z)) (fun z => ?_)
  refine pk_lt (t + i) (s + l) (fun y => br_t rfl (nm_r (nI_1 (t + i)) (hw c ?_))) (fun y => tl (Or.inr y)) (hy := nI_add s l)
  rw [rg_cn_f (by unfold rg_out; rw [decide_eq_false (by omega), decide_eq_false (by omega)]; rfl)]
  exact hc
theorem rx_co {post : Int32 → Prop} {j : Nat} {a b : Nat → Int32} (hj : j < 256) (h1 : rg_co a b j = true → post 1) (h0 : rg_co a b j = false → post 0) : wpX_continuesPrevious post (a, b) (nI j) := by
  by_cases hz : j = 0
  · subst hz
    exact br_t (by decide) (h0 (decide_eq_false (fun z => absurd z.1 (by omega))))
  have hn : ¬ nI j < 1 := nI_nlt (b := 1) (by omega) (by omega)
  have e1 : nI j - 1 = nI (j - 1) := pk_sub (a := j) (b := 1) (by omega)
  have tl : ¬ a j = -6 → a j = a (j - 1) → ¬ (b (j - 1) = 0 ∧ b j = 0) → wX_continuesPrevious_48 post (b (j - 1)) (b j) a b := by
    intro z k hq
    exact br_c (fun r => ⟨rg_k0, rg_k0, br_c (fun r2 => h1 (decide_eq_true ⟨by omega, z, k, Or.inr ⟨r, r2⟩⟩)) (fun r2 => h0 (decide_eq_false (fun t => t.2.2.2.elim hq (fun y => r2 y.2))))⟩) (fun r => h0 (decide_eq_false (fun t => t.2.2.2.elim hq (fun y => r y.1))))
  unfold wpX_continuesPrevious
  dsimp only
  rw [e1, nI_clamp (show j < 2 ^ 31 by omega), nI_clamp (show j - 1 < 2 ^ 31 by omega)]
  exact br_f hn ⟨pk_in j 256 hj, br_c (fun z => h0 (decide_eq_false (fun t => t.2.1 z))) (fun z => ⟨pk_in j 256 hj, pk_in (j - 1) 256 (by omega), br_c (fun k => ⟨pk_in (j - 1) 256 (by omega), nm_e ⟨pk_in j 256 hj, nm_e (br_c (fun q => br_c (fun q2 => h1 (decide_eq_true ⟨by omega, z, k, Or.inl ⟨q, q2⟩⟩)) (fun q2 => tl z k (fun y => q2 y.2))) (fun q => tl z k (fun y => q y.1)))⟩⟩) (fun k => h0 (decide_eq_false (fun t => k t.2.2.1)))⟩)⟩
theorem rx_st {post : Int32 → Prop} {j : Nat} {a b : Nat → Int32} (hj : j < 256) (h1 : rg_st a b j = true → post 1) (h0 : rg_st a b j = false → post 0) : wpX_startsRegion post (a, b) (nI j) := by
  unfold wpX_startsRegion
  dsimp only
  rw [nI_clamp (show j < 2 ^ 31 by omega)]
  refine ⟨pk_in j 256 hj, br_c (fun z => h0 ?_) (fun z => rx_co hj (fun k => br_f rg_10 (h0 ?_)) (fun k => br_t rfl (h1 ?_)))⟩
  · unfold rg_st; rw [rg_mp_f.mpr z]; rfl
  · unfold rg_st; rw [k]; exact Bool.and_false _
  · unfold rg_st; rw [rg_mp_t.mpr z, k]; rfl
theorem rx_ctA {post : Int32 → Prop} {P : Nat} {f : Int32} {a b d e : Nat → Int32} (hP : P ≤ 256) (h : post (nI (rg_cn (rg_st a b) 0 P))) : wpX_countRegions post (nI P, f, a, b, d, e) :=
  pk_loop (fun n i c => wX_countRegions_5 post (nI P) f a b d e n (nI c) (nI i)) (fun i c => c = rg_cn (rg_st a b) 0 i) P 0 0 (Nat.zero_le _) rfl
    (fun n c hc => pk_le P P (fun _ => by rw [hc]; exact h) (fun z => absurd z (by omega)))
    (fun n i c hi hc hw => pk_le P i (fun z => absurd z (by omega)) (fun _ => rx_st (by omega)
      (fun k => br_f rg_10 (nm_r (nI_1 c) (nm_r (nI_1 i) (hw (c + 1) (by rw [rg_cn_t (by rw [Nat.zero_add]; exact k), hc])))))
      (fun k => br_t rfl (nm_r (nI_1 i) (hw c (by rw [rg_cn_f (by rw [Nat.zero_add]; exact k)]; exact hc))))))
theorem rx_ctD {post : Int32 → Prop} {P : Nat} {f : Int32} {a b d e : Nat → Int32} (hP : P ≤ 256) (h : post (nI (rg_cn (rg_st d e) 0 P))) : wpX_countRegions_2 post (nI P, f, a, b, d, e) :=
  pk_loop (fun n i c => wX_countRegions_2_5 post (nI P) f a b d e n (nI c) (nI i)) (fun i c => c = rg_cn (rg_st d e) 0 i) P 0 0 (Nat.zero_le _) rfl
    (fun n c hc => pk_le P P (fun _ => by rw [hc]; exact h) (fun z => absurd z (by omega)))
    (fun n i c hi hc hw => pk_le P i (fun z => absurd z (by omega)) (fun _ => rx_st (by omega)
      (fun k => br_f rg_10 (nm_r (nI_1 c) (nm_r (nI_1 i) (hw (c + 1) (by rw [rg_cn_t (by rw [Nat.zero_add]; exact k), hc])))))
      (fun k => br_t rfl (nm_r (nI_1 i) (hw c (by rw [rg_cn_f (by rw [Nat.zero_add]; exact k)]; exact hc))))))
theorem rx_rs {post : Int32 → Prop} {P : Nat} {f k : Int32} {a b d e : Nat → Int32} (hP : P ≤ 256) (h : ∀ r, rg_RS (rg_st a b) P k r → post r) : wpX_regionStart post (nI P, f, a, b, d, e) k :=
  pk_loop (fun n i c => wX_regionStart_4 post k (nI P) f a b d e n (nI c) (nI i)) (fun i c => c = rg_cn (rg_st a b) 0 i ∧ rg_IS (rg_st a b) i k) P 0 0 (Nat.zero_le _) ⟨rfl, rg_IS_0 _ _⟩
    (fun n c hc => pk_le P P (fun _ => h _ (rg_IS_x hc.2)) (fun z => absurd z (by omega)))
    (fun n i c hi hc hw => pk_le P i (fun z => absurd z (by omega)) (fun _ => rx_st (by omega)
      (fun y => br_f rg_10 (br_c (fun q => h _ (rg_IS_r hc.2 hi y (by rw [← hc.1]; exact q)))
        (fun q => nm_r (nI_1 c) (nm_r (nI_1 i) (hw (c + 1) ⟨by rw [rg_cn_t (by rw [Nat.zero_add]; exact y), hc.1], rg_IS_n hc.2 (by rw [← hc.1]; exact q)⟩)))))
      (fun y => br_t rfl (nm_r (nI_1 i) (hw c ⟨by rw [rg_cn_f (by rw [Nat.zero_add]; exact y)]; exact hc.1, rg_IS_m hc.2 y⟩)))))
theorem rg_0le {n : Nat} (h : n < 2 ^ 31) : (0 : Int32) ≤ nI n := nI_pos' h
theorem rx_rl {post : Int32 → Prop} {P : Nat} {f k : Int32} {a b d e : Nat → Int32} (hP : P ≤ 256) (h0 : rg_RS (rg_st a b) P k (-1) → post (-1)) (h1 : ∀ t l, t < P → rg_RS (rg_st a b) P k (nI t) → rg_RL (rg_co a b) P t l → post (nI l)) : wpX_regionLength post (nI P, f, a, b, d, e) k := by
  unfold wpX_regionLength
  dsimp only
  refine rx_rs hP (fun r hr => ?_)
  rcases hr with ⟨t, g1, g2, g3, g4, rfl⟩ | ⟨g1, rfl⟩
  · have hr : rg_RS (rg_st a b) P k (nI t) := Or.inl ⟨t, g1, g2, g3, g4, rfl⟩
    refine br_t (rg_0le (by omega)) (nm_r (nI_1 t) ?_)
    have e1 : ∀ i, nI (t + 1 + i) - nI t = nI (1 + i) := fun i => by rw [pk_sub (by omega)]; exact congrArg nI (by omega)
    refine pk_loop (σ := Unit) (fun n i _ => wX_regionLength_16 post (nI t) (nI P) f a b d e n (nI (t + 1 + i))) (fun i _ => ∀ q, 1 ≤ q → q < 1 + i → rg_co a b (t + q) = true) (P - t - 1) 0 () (Nat.zero_le _) (fun q q1 q2 => by omega) (fun n _ hI => ?_) (fun n i _ hi hI hw => ?_)
    · refine pk_le P (t + 1 + (P - t - 1)) (fun _ => ?_) (fun z => absurd z (by omega))
      rw [e1]
      exact h1 t _ g1 hr ⟨by omega, by omega, hI, Or.inl (by omega)⟩
    · refine pk_le P (t + 1 + i) (fun z => absurd z (by omega)) (fun _ => rx_co (by omega) (fun y => br_f rg_10 (nm_r (nI_1 (t + 1 + i)) (hw () ?_))) (fun y => br_t rfl ?_))
      · intro q q1 q2
        by_cases e : q = 1 + i
        · rw [e, show t + (1 + i) = t + 1 + i from by omega]; exact y
        · exact hI q q1 (by omega)
      · rw [e1]
        exact h1 t _ g1 hr ⟨by omega, by omega, hI, Or.inr (by rw [show t + (1 + i) = t + 1 + i from by omega]; exact y)⟩
  · exact br_f (by decide) (h0 (Or.inr ⟨g1, rfl⟩))
theorem rx_fl {post : Int32 → Prop} {P : Nat} {f s l : Int32} {a b d e : Nat → Int32} (hP : P ≤ 256) (h0 : ¬ (rg_PG P s ∧ rg_LN P l) → post (-1)) (h1 : ∀ x y r, s = nI x → l = nI y → x < P → 1 ≤ y → y ≤ P → rg_FL a P x y r → post r) : wpX_findLow post (nI P, f, a, b, d, e) s l := by
  unfold wpX_findLow
  dsimp only
  refine rx_isPage hP s (fun g => br_f rg_10 (rx_isLength hP l (fun k => br_f rg_10 ?_) (fun k => br_t rfl (h0 (fun z => k z.2))))) (fun g => br_t rfl (h0 (fun z => g z.1)))
  obtain ⟨x, rfl, hx⟩ := rg_PG_n g
  obtain ⟨y, rfl, hy1, hy2⟩ := rg_LN_n k
  refine Exists.elim (pk_loop (fun n i r => wX_findLow_23 post (nI y) (nI P) f a b d e n (nI r) (nI i)) (fun i r => x ≤ i ∧ rg_IL a x y i r) P x 0 (by omega) ⟨Nat.le_refl _, rg_IL_0 a hy1⟩ (fun n r hr => ?_) (fun n i r hi hr hw => ?_)) (fun n hn => ⟨n, hn⟩)
  · exact pk_le P P (fun _ => h1 x y _ rfl rfl hx hy1 hy2 (rg_IL_x hr.2)) (fun z => absurd z (by omega))
  · have hle := hr.2.1.1
    refine pk_le P i (fun z => absurd z (by omega)) (fun _ => ⟨pk_in i 256 (by omega), br_c (fun z => ?_) (fun z => ?_)⟩)
    · rw [nI_clamp (show i < 2 ^ 31 by omega)] at z
      rw [nI_1]
      refine pk_eq (r + 1) y (fun q => ?_) (fun q => nm_r (nI_1 i) (hw (r + 1) ⟨by omega, rg_IL_f hr.2 z q⟩))
      obtain ⟨w1, w2⟩ := rg_IL_r hr.2 z q hi
      have e1 : nI i - nI y + 1 = nI (i + 1 - y) := by
        have : nI i - nI y + 1 = nI i + 1 - nI y := by grind
        rw [this, nI_1, pk_sub w1]
      rw [e1]
      exact h1 x y _ rfl rfl hx hy1 hy2 w2
    · rw [nI_clamp (show i < 2 ^ 31 by omega)] at z
      refine pk_eq 0 y (fun q => absurd q (by omega)) (fun q => nm_r (nI_1 i) (hw 0 ⟨by omega, rg_IL_m hr.2 z hy1⟩))
theorem rx_fh {post : Int32 → Prop} {P : Nat} {f s l : Int32} {a b d e : Nat → Int32} (hP : P ≤ 256) (h0 : ¬ (rg_LN P s ∧ rg_LN P l) → post (-1)) (h1 : ∀ x y r, s = nI x → l = nI y → 1 ≤ x → x ≤ P → 1 ≤ y → y ≤ P → rg_FH a x y r → post r) : wpX_findHigh post (nI P, f, a, b, d, e) s l := by
  unfold wpX_findHigh
  dsimp only
  refine rx_isLength hP s (fun g => br_f rg_10 (rx_isLength hP l (fun k => br_f rg_10 ?_) (fun k => br_t rfl (h0 (fun z => k z.2))))) (fun g => br_t rfl (h0 (fun z => g z.1)))
  obtain ⟨x, rfl, hx1, hx2⟩ := rg_LN_n g
  obtain ⟨y, rfl, hy1, hy2⟩ := rg_LN_n k
  refine nm_e ?_
  have key := pk_loopD (fun n i r => wX_findHigh_25 post (nI y) (nI P) f a b d e n (nI r) (nI i - 1)) (fun i r => i ≤ x ∧ rg_IH a x y i r) (fun n r hr => ?_) (fun n i r hr hw => ?_) x 0 ⟨Nat.le_refl _, rg_IH_0 a hy1⟩
  · exact ⟨_, key⟩
  · exact br_t (by decide) (h1 x y _ rfl rfl hx1 hx2 hy1 hy2 (rg_IH_x hr.2))
  · have e0 : nI (i + 1) - 1 = nI i := nI_pred i
    have e2 : nI i + (-1) = nI i - 1 := by grind
    show wX_findHigh_25 post (nI y) (nI P) f a b d e (n + 1) (nI r) (nI (i + 1) - 1)
    rw [e0]
    refine br_f (nI_pos (by omega)) ⟨pk_in i 256 (by omega), br_c (fun z => ?_) (fun z => ?_)⟩
    · rw [nI_clamp (show i < 2 ^ 31 by omega)] at z
      rw [nI_1]
      have hle := hr.2.1.1
      exact pk_eq (r + 1) y (fun q => h1 x y _ rfl rfl hx1 hx2 hy1 hy2 (rg_IH_r hr.2 z q)) (fun q => nm_r e2 (hw (r + 1) ⟨by omega, rg_IH_f hr.2 z q⟩))
    · rw [nI_clamp (show i < 2 ^ 31 by omega)] at z
      exact pk_eq 0 y (fun q => absurd q (by omega)) (fun q => nm_r e2 (hw 0 ⟨by omega, rg_IH_m hr.2 z hy1⟩))
end
section
/-! the changing calls, purely: each says what its continuation Q (answer, new protections, new backings) is asked at -/
def rg_gate (P R : Nat) (a b a' b' : Nat → Int32) (r : Int32) (Q : Int32 → (Nat → Int32) → (Nat → Int32) → Prop) : Prop := (rg_ok P R a' b' → Q r a' b') ∧ (¬ rg_ok P R a' b' → Q (-5) a b)
def sp_fill (P R s l : Nat) (p c r : Int32) (a b : Nat → Int32) (Q : Int32 → (Nat → Int32) → (Nat → Int32) → Prop) : Prop := rg_gate P R a b (rg_on s l (fun _ => p) a) (rg_on s l (rg_bk s c) b) r Q
/-- the moved map -/
def rg_mv (s l t : Nat) (a : Nat → Int32) : Nat → Int32 := rg_on t l (fun j => a (s + (j - t))) (rg_on s l (fun _ => -6) a)
def sp_mv (P R s l t : Nat) (r : Int32) (a b : Nat → Int32) (Q : Int32 → (Nat → Int32) → (Nat → Int32) → Prop) : Prop := rg_gate P R a b (rg_mv s l t a) (rg_mv s l t b) r Q
def sp_mapNew (P R : Nat) (a b : Nat → Int32) (v1 v2 v3 v4 : Int32) (Q : Int32 → (Nat → Int32) → (Nat → Int32) → Prop) : Prop :=
  (rg_PR P v1 v2 ∧ rg_PA v2 v3 v4 → (rg_cn (rg_mp a) v1.toNatClampNeg v2.toNatClampNeg = 0 → sp_fill P R v1.toNatClampNeg v2.toNatClampNeg v3 v4 0 a b Q) ∧ (¬ rg_cn (rg_mp a) v1.toNatClampNeg v2.toNatClampNeg = 0 → Q (-3) a b)) ∧ (¬ (rg_PR P v1 v2 ∧ rg_PA v2 v3 v4) → Q (-1) a b)
def sp_mapOver (P R : Nat) (a b : Nat → Int32) (v1 v2 v3 v4 : Int32) (Q : Int32 → (Nat → Int32) → (Nat → Int32) → Prop) : Prop :=
  (rg_PR P v1 v2 ∧ rg_PA v2 v3 v4 → sp_fill P R v1.toNatClampNeg v2.toNatClampNeg v3 v4 (nI (rg_cn (rg_mp a) v1.toNatClampNeg v2.toNatClampNeg)) a b Q) ∧ (¬ (rg_PR P v1 v2 ∧ rg_PA v2 v3 v4) → Q (-1) a b)
def sp_at (P R l : Nat) (p c : Int32) (a b : Nat → Int32) (F : Int32 → Prop) (Q : Int32 → (Nat → Int32) → (Nat → Int32) → Prop) : Prop :=
  ∀ r, F r → (0 ≤ r → sp_fill P R r.toNatClampNeg l p c r a b Q) ∧ (¬ 0 ≤ r → Q (-4) a b)
def sp_mapLow (P R : Nat) (a b : Nat → Int32) (v1 v2 v3 v4 : Int32) (Q : Int32 → (Nat → Int32) → (Nat → Int32) → Prop) : Prop :=
  ((rg_PG P v1 ∧ rg_LN P v2) ∧ rg_PA v2 v3 v4 → sp_at P R v2.toNatClampNeg v3 v4 a b (rg_FL a P v1.toNatClampNeg v2.toNatClampNeg) Q) ∧ (¬ ((rg_PG P v1 ∧ rg_LN P v2) ∧ rg_PA v2 v3 v4) → Q (-1) a b)
def sp_mapHigh (P R : Nat) (a b : Nat → Int32) (v1 v2 v3 v4 : Int32) (Q : Int32 → (Nat → Int32) → (Nat → Int32) → Prop) : Prop :=
  ((rg_LN P v1 ∧ rg_LN P v2) ∧ rg_PA v2 v3 v4 → sp_at P R v2.toNatClampNeg v3 v4 a b (rg_FH a v1.toNatClampNeg v2.toNatClampNeg) Q) ∧ (¬ ((rg_LN P v1 ∧ rg_LN P v2) ∧ rg_PA v2 v3 v4) → Q (-1) a b)
def sp_unmap (P R : Nat) (a b : Nat → Int32) (v1 v2 : Int32) (Q : Int32 → (Nat → Int32) → (Nat → Int32) → Prop) : Prop :=
  (rg_PR P v1 v2 → rg_gate P R a b (rg_on v1.toNatClampNeg v2.toNatClampNeg (fun _ => -6) a) (rg_on v1.toNatClampNeg v2.toNatClampNeg (fun _ => -6) b) (nI (rg_cn (rg_mp a) v1.toNatClampNeg v2.toNatClampNeg)) Q) ∧ (¬ rg_PR P v1 v2 → Q (-1) a b)
def sp_protect (P R : Nat) (a b : Nat → Int32) (v1 v2 v3 : Int32) (Q : Int32 → (Nat → Int32) → (Nat → Int32) → Prop) : Prop :=
  (rg_PR P v1 v2 ∧ rg_PT v3 → (rg_cn (rg_mp a) v1.toNatClampNeg v2.toNatClampNeg < v2.toNatClampNeg → Q (-2) a b) ∧ (¬ rg_cn (rg_mp a) v1.toNatClampNeg v2.toNatClampNeg < v2.toNatClampNeg → rg_gate P R a b (rg_on v1.toNatClampNeg v2.toNatClampNeg (fun _ => v3) a) b (nI (rg_cn (fun j => decide (¬ a j = v3)) v1.toNatClampNeg v2.toNatClampNeg)) Q)) ∧ (¬ (rg_PR P v1 v2 ∧ rg_PT v3) → Q (-1) a b)
def sp_move (P R : Nat) (a b : Nat → Int32) (v1 v2 v3 : Int32) (Q : Int32 → (Nat → Int32) → (Nat → Int32) → Prop) : Prop :=
  (rg_PR P v1 v2 ∧ rg_PR P v3 v2 → (rg_cn (rg_mp a) v1.toNatClampNeg v2.toNatClampNeg < v2.toNatClampNeg → Q (-2) a b) ∧ (¬ rg_cn (rg_mp a) v1.toNatClampNeg v2.toNatClampNeg < v2.toNatClampNeg → sp_mv P R v1.toNatClampNeg v2.toNatClampNeg v3.toNatClampNeg (nI (rg_cn (rg_out a v1.toNatClampNeg v2.toNatClampNeg) v3.toNatClampNeg v2.toNatClampNeg)) a b Q)) ∧ (¬ (rg_PR P v1 v2 ∧ rg_PR P v3 v2) → Q (-1) a b)
def sp_moveFree (P R : Nat) (a b : Nat → Int32) (v1 v2 v3 : Int32) (Q : Int32 → (Nat → Int32) → (Nat → Int32) → Prop) : Prop :=
  (rg_PR P v1 v2 ∧ rg_PG P v3 → (rg_cn (rg_mp a) v1.toNatClampNeg v2.toNatClampNeg < v2.toNatClampNeg → Q (-2) a b) ∧ (¬ rg_cn (rg_mp a) v1.toNatClampNeg v2.toNatClampNeg < v2.toNatClampNeg → ∀ r, rg_FL a P v3.toNatClampNeg v2.toNatClampNeg r → (0 ≤ r → sp_mv P R v1.toNatClampNeg v2.toNatClampNeg r.toNatClampNeg r a b Q) ∧ (¬ 0 ≤ r → Q (-4) a b))) ∧ (¬ (rg_PR P v1 v2 ∧ rg_PG P v3) → Q (-1) a b)
/-- a spec asks its continuation at one place -/
def rg_Det (S : (Int32 → (Nat → Int32) → (Nat → Int32) → Prop) → Prop) : Prop := ∃ (r : Int32) (a' b' : Nat → Int32), ∀ Q, S Q ↔ Q r a' b'
theorem rg_Det_q (r : Int32) (a b : Nat → Int32) : rg_Det (fun Q => Q r a b) := ⟨r, a, b, fun _ => Iff.rfl⟩
theorem rg_Det_c {c : Prop} {S T : (Int32 → (Nat → Int32) → (Nat → Int32) → Prop) → Prop} (hs : c → rg_Det S) (ht : ¬ c → rg_Det T) : rg_Det (fun Q => (c → S Q) ∧ (¬ c → T Q)) := by
  by_cases h : c
  · obtain ⟨r, a, b, H⟩ := hs h
    exact ⟨r, a, b, fun Q => ⟨fun z => (H Q).mp (z.1 h), fun q => ⟨fun _ => (H Q).mpr q, fun z => absurd h z⟩⟩⟩
  · obtain ⟨r, a, b, H⟩ := ht h
    exact ⟨r, a, b, fun Q => ⟨fun z => (H Q).mp (z.2 h), fun q => ⟨fun z => absurd z h, fun _ => (H Q).mpr q⟩⟩⟩
theorem rg_Det_f {F : Int32 → Prop} {S : Int32 → (Int32 → (Nat → Int32) → (Nat → Int32) → Prop) → Prop} (he : ∃ r, F r) (hu : ∀ r r', F r → F r' → r' = r) (hs : ∀ r, F r → rg_Det (S r)) : rg_Det (fun Q => ∀ r, F r → S r Q) := by
  obtain ⟨r0, h0⟩ := he
  obtain ⟨r, a, b, H⟩ := hs r0 h0
  exact ⟨r, a, b, fun Q => ⟨fun z => (H Q).mp (z r0 h0), fun q r' h' => by rw [hu r0 r' h0 h']; exact (H Q).mpr q⟩⟩
theorem rg_Det_g (P R : Nat) (a b a' b' : Nat → Int32) (r : Int32) : rg_Det (rg_gate P R a b a' b' r) := rg_Det_c (fun _ => rg_Det_q _ _ _) (fun _ => rg_Det_q _ _ _)
theorem rg_least (p : Nat → Prop) (h : ∃ k, p k) : ∃ k, p k ∧ ∀ j, j < k → ¬ p j := by
  obtain ⟨k, hk⟩ := h
  induction k using Nat.strongRecOn with
  | ind k ih =>
    by_cases hj : ∃ j, j < k ∧ p j
    · obtain ⟨j, hj1, hj2⟩ := hj
      exact ih j hj1 hj2
    · exact ⟨k, hk, fun j h1 h2 => hj ⟨j, h1, h2⟩⟩
theorem rg_FL_e (a : Nat → Int32) (P f l : Nat) : ∃ r, rg_FL a P f l r := by
  by_cases h : ∃ t, f ≤ t ∧ t + l ≤ P ∧ rg_fr a t l
  · obtain ⟨t, ⟨h1, h2, h3⟩, h4⟩ := rg_least _ h
    exact ⟨nI t, Or.inl ⟨t, h1, h2, h3, fun t' g1 g2 g3 => h4 t' g2 ⟨g1, by omega, g3⟩, rfl⟩⟩
  · exact ⟨-4, Or.inr ⟨fun t' g1 g2 g3 => h ⟨t', g1, g2, g3⟩, rfl⟩⟩
theorem rg_FH_e (a : Nat → Int32) (to l : Nat) : ∃ r, rg_FH a to l r := by
  by_cases h : ∃ k, k ≤ to ∧ to - k + l ≤ to ∧ rg_fr a (to - k) l
  · obtain ⟨k, ⟨h1, h2, h3⟩, h4⟩ := rg_least _ h
    refine ⟨nI (to - k), Or.inl ⟨to - k, h2, h3, fun t' g1 g2 g3 => h4 (to - t') (by omega) ⟨by omega, ?_, ?_⟩, rfl⟩⟩
    · rw [show to - (to - t') = t' from by omega]; exact g2
    · rw [show to - (to - t') = t' from by omega]; exact g3
  · exact ⟨-4, Or.inr ⟨fun t' g2 g3 => h ⟨to - t', by omega, by rw [show to - (to - t') = t' from by omega]; exact g2, by rw [show to - (to - t') = t' from by omega]; exact g3⟩, rfl⟩⟩
theorem sd_fill (P R s l : Nat) (p c r : Int32) (a b : Nat → Int32) : rg_Det (sp_fill P R s l p c r a b) := rg_Det_g _ _ _ _ _ _ _
theorem sd_mv (P R s l t : Nat) (r : Int32) (a b : Nat → Int32) : rg_Det (sp_mv P R s l t r a b) := rg_Det_g _ _ _ _ _ _ _
theorem sd_mapNew (P R : Nat) (a b : Nat → Int32) (v1 v2 v3 v4 : Int32) : rg_Det (sp_mapNew P R a b v1 v2 v3 v4) := rg_Det_c (fun _ => rg_Det_c (fun _ => sd_fill _ _ _ _ _ _ _ _ _) (fun _ => rg_Det_q _ _ _)) (fun _ => rg_Det_q _ _ _)
theorem sd_mapOver (P R : Nat) (a b : Nat → Int32) (v1 v2 v3 v4 : Int32) : rg_Det (sp_mapOver P R a b v1 v2 v3 v4) := rg_Det_c (fun _ => sd_fill _ _ _ _ _ _ _ _ _) (fun _ => rg_Det_q _ _ _)
theorem sd_mapLow (P R : Nat) (a b : Nat → Int32) (v1 v2 v3 v4 : Int32) : rg_Det (sp_mapLow P R a b v1 v2 v3 v4) := rg_Det_c (fun _ => rg_Det_f (rg_FL_e _ _ _ _) (fun _ _ h h' => rg_FL_u h h') (fun r _ => rg_Det_c (fun _ => sd_fill _ _ _ _ _ _ _ _ _) (fun _ => rg_Det_q _ _ _))) (fun _ => rg_Det_q _ _ _)
theorem sd_mapHigh (P R : Nat) (a b : Nat → Int32) (v1 v2 v3 v4 : Int32) : rg_Det (sp_mapHigh P R a b v1 v2 v3 v4) := rg_Det_c (fun _ => rg_Det_f (rg_FH_e _ _ _) (fun _ _ h h' => rg_FH_u h h') (fun r _ => rg_Det_c (fun _ => sd_fill _ _ _ _ _ _ _ _ _) (fun _ => rg_Det_q _ _ _))) (fun _ => rg_Det_q _ _ _)
theorem sd_unmap (P R : Nat) (a b : Nat → Int32) (v1 v2 : Int32) : rg_Det (sp_unmap P R a b v1 v2) := rg_Det_c (fun _ => rg_Det_g _ _ _ _ _ _ _) (fun _ => rg_Det_q _ _ _)
theorem sd_protect (P R : Nat) (a b : Nat → Int32) (v1 v2 v3 : Int32) : rg_Det (sp_protect P R a b v1 v2 v3) := rg_Det_c (fun _ => rg_Det_c (fun _ => rg_Det_q _ _ _) (fun _ => rg_Det_g _ _ _ _ _ _ _)) (fun _ => rg_Det_q _ _ _)
theorem sd_move (P R : Nat) (a b : Nat → Int32) (v1 v2 v3 : Int32) : rg_Det (sp_move P R a b v1 v2 v3) := rg_Det_c (fun _ => rg_Det_c (fun _ => rg_Det_q _ _ _) (fun _ => sd_mv _ _ _ _ _ _ _ _)) (fun _ => rg_Det_q _ _ _)
theorem sd_moveFree (P R : Nat) (a b : Nat → Int32) (v1 v2 v3 : Int32) : rg_Det (sp_moveFree P R a b v1 v2 v3) := rg_Det_c (fun _ => rg_Det_c (fun _ => rg_Det_q _ _ _) (fun _ => rg_Det_f (rg_FL_e _ _ _ _) (fun _ _ h h' => rg_FL_u h h') (fun r _ => rg_Det_c (fun _ => sd_mv _ _ _ _ _ _ _ _) (fun _ => rg_Det_q _ _ _)))) (fun _ => rg_Det_q _ _ _)
end
section
/-! the class, changing -/
theorem rx_start {post : St2 → Prop} {P : Nat} {f : Int32} {a b d e : Nat → Int32} (hP : P ≤ 256) (h : ∀ D E, rg_eq P D a → rg_eq P E b → post (nI P, f, a, b, D, E)) : wpX_startDraft post (nI P, f, a, b, d, e) :=
  pk_loop (fun n i (t : (Nat → Int32) × (Nat → Int32)) => wX_startDraft_2 post (nI P) f n (nI i) a b t.1 t.2) (fun i t => rg_F 0 i a d t.1 ∧ rg_F 0 i b e t.2) P 0 (d, e) (Nat.zero_le _) ⟨rg_F_0 _ _ _, rg_F_0 _ _ _⟩
    (fun n t ht => pk_le P P (fun _ => h _ _ (rg_F_eq ht.1) (rg_F_eq ht.2)) (fun z => absurd z (by omega)))
    (fun n i t hi ht hw => pk_le P i (fun z => absurd z (by omega)) (fun _ => ⟨pk_in i 256 (by omega), pk_in i 256 (by omega), nm_e ⟨pk_in i 256 (by omega), pk_in i 256 (by omega), nm_e (nm_r (nI_1 i) (hw (_, _) ⟨rg_F_s ht.1 (Nat.zero_le _) (nI_clamp (by omega)) (by rw [nI_clamp (by omega)]), rg_F_s ht.2 (Nat.zero_le _) (nI_clamp (by omega)) (by rw [nI_clamp (by omega)])⟩))⟩⟩))
theorem rx_free {post : St2 → Prop} {P s l : Nat} {f : Int32} {a b d e : Nat → Int32} (hP : P ≤ 256) (hs : s + l ≤ P) (h : ∀ D E, rg_F s (s + l) (fun _ => -6) d D → rg_F s (s + l) (fun _ => -6) e E → post (nI P, f, a, b, D, E)) : wpX_freeInDraft post (nI P, f, a, b, d, e) (nI s) (nI l) :=
  pk_loop (fun n i (t : (Nat → Int32) × (Nat → Int32)) => wX_freeInDraft_2 post (nI s) (nI l) (nI P) f n (nI (s + i)) a b t.1 t.2) (fun i t => rg_F s (s + i) (fun _ => -6) d t.1 ∧ rg_F s (s + i) (fun _ => -6) e t.2) l 0 (d, e) (Nat.zero_le _) ⟨rg_F_0 _ _ _, rg_F_0 _ _ _⟩
    (fun n t ht => pk_le (s + l) (s + l) (fun _ => h _ _ ht.1 ht.2) (fun z => absurd z (by omega)) (hx := nI_add s l))
    (fun n i t hi ht hw => pk_le (s + l) (s + i) (fun z => absurd z (by omega)) (fun _ => ⟨pk_in (s + i) 256 (by omega), nm_e ⟨pk_in (s + i) 256 (by omega), nm_e (nm_r (nI_1 (s + i)) (hw (_, _) ⟨rg_F_s ht.1 (Nat.le_add_right _ _) (nI_clamp (by omega)) rfl, rg_F_s ht.2 (Nat.le_add_right _ _) (nI_clamp (by omega)) rfl⟩))⟩⟩) (hx := nI_add s l))
/-- the same from P on -/
def rg_up (P : Nat) (a' a : Nat → Int32) : Prop := ∀ j, ¬ j < P → a' j = a j
theorem rg_up_on {P s l : Nat} {g a a0 : Nat → Int32} (hs : s + l ≤ P) (h : rg_up P a a0) : rg_up P (rg_on s l g a) a0 := fun j hj => by
  rw [rg_on_f (by omega)]
  exact h j hj
theorem rg_F_ex {P : Nat} {d a a' n : Nat → Int32} (h : rg_F 0 P d a n) (hd : rg_eq P d a') (hu : rg_up P a' a) : n = a' := by
  funext j
  by_cases e : j < P
  · rw [h.1 j (Nat.zero_le _) e]; exact hd j e
  · rw [h.2 j (fun z => e z.2), hu j e]
theorem rx_keep {post : Int32 → St2 → Prop} {P R : Nat} {a b d e a' b' : Nat → Int32} (hP : P ≤ 256) (hR : R ≤ 32) (hd : rg_eq P d a') (he : rg_eq P e b') (ua : rg_up P a' a) (ub : rg_up P b' b) (h1 : rg_ok P R a' b' → post 1 (nI P, nI R, a', b', d, e)) (h0 : ¬ rg_ok P R a' b' → post 0 (nI P, nI R, a, b, d, e)) : wpX_keepDraft post (nI P, nI R, a, b, d, e) := by
  unfold wpX_keepDraft
  dsimp only
  refine rx_ctD hP ?_
  rw [rg_ct_cg hd he]
  have hle := rg_cn_le (rg_st a' b') 0 P
  refine pk_le (rg_cn (rg_st a' b') 0 P) R (fun z => ?_) (fun z => h0 (fun y => by unfold rg_ok at y; omega))
  exact pk_loop (fun n i (t : (Nat → Int32) × (Nat → Int32)) => wX_keepDraft_23 post (nI P) (nI R) n (nI i) t.1 t.2 d e) (fun i t => rg_F 0 i d a t.1 ∧ rg_F 0 i e b t.2) P 0 (a, b) (Nat.zero_le _) ⟨rg_F_0 _ _ _, rg_F_0 _ _ _⟩
    (fun n t ht => pk_le P P (fun _ => by rw [rg_F_ex ht.1 hd ua, rg_F_ex ht.2 he ub]; exact h1 z) (fun z => absurd z (by omega)))
    (fun n i t hi ht hw => pk_le P i (fun z => absurd z (by omega)) (fun _ => ⟨pk_in i 256 (by omega), pk_in i 256 (by omega), nm_e ⟨pk_in i 256 (by omega), pk_in i 256 (by omega), nm_e (nm_r (nI_1 i) (hw (_, _) ⟨rg_F_s ht.1 (Nat.zero_le _) (nI_clamp (by omega)) (by rw [nI_clamp (by omega)]), rg_F_s ht.2 (Nat.zero_le _) (nI_clamp (by omega)) (by rw [nI_clamp (by omega)])⟩))⟩⟩))
theorem rg_bk_0 {s i : Nat} {c : Int32} (z : c = 0) : (0 : Int32) = rg_bk s c (s + i) := by
  unfold rg_bk
  rw [if_pos z]
theorem rg_bk_1 {s i : Nat} {c : Int32} (z : ¬ c = 0) : c + nI i = rg_bk s c (s + i) := by
  unfold rg_bk
  rw [if_neg z, Nat.add_sub_cancel_left]
theorem rx_fill {post : Int32 → St2 → Prop} {P R s l : Nat} {p c : Int32} {a b d e : Nat → Int32} (hP : P ≤ 256) (hR : R ≤ 32) (hs : s + l ≤ P)
    (h1 : rg_ok P R (rg_on s l (fun _ => p) a) (rg_on s l (rg_bk s c) b) → ∀ D E, post 1 (nI P, nI R, rg_on s l (fun _ => p) a, rg_on s l (rg_bk s c) b, D, E))
    (h0 : ¬ rg_ok P R (rg_on s l (fun _ => p) a) (rg_on s l (rg_bk s c) b) → ∀ D E, post 0 (nI P, nI R, a, b, D, E)) : wpX_tryFill post (nI P, nI R, a, b, d, e) (nI s) (nI l) p c := by
  unfold wpX_tryFill
  dsimp only
  refine rx_start hP (fun D E hD hE => ?_)
  dsimp only
  exact pk_loop (fun n i (t : (Nat → Int32) × (Nat → Int32)) => wX_tryFill_7 post (nI s) (nI l) p c (nI P) (nI R) n (nI i) a b t.1 t.2) (fun i t => rg_F s (s + i) (fun _ => p) D t.1 ∧ rg_F s (s + i) (rg_bk s c) E t.2) l 0 (D, E) (Nat.zero_le _) ⟨rg_F_0 _ _ _, rg_F_0 _ _ _⟩
    (fun n t ht => pk_le l l (fun _ => rx_keep hP hR (rg_F_on ht.1 hD) (rg_F_on ht.2 hE) (rg_up_on hs (fun _ _ => rfl)) (rg_up_on hs (fun _ _ => rfl)) (fun k => ⟨rfl, h1 k _ _⟩) (fun k => ⟨rfl, h0 k _ _⟩)) (fun z => absurd z (by omega)))
    (fun n i t hi ht hw => pk_le l i (fun z => absurd z (by omega)) (fun _ => ⟨pk_in (s + i) 256 (by omega) (hx := nI_add s i), nm_e (br_c
      (fun z => ⟨pk_in (s + i) 256 (by omega) (hx := nI_add s i), nm_e (nm_r (nI_1 i) (hw (_, _) ⟨rg_F_s ht.1 (Nat.le_add_right _ _) (pk_cl (s + i) (nI_add s i)) rfl, rg_F_s ht.2 (Nat.le_add_right _ _) (pk_cl (s + i) (nI_add s i)) (rg_bk_0 z)⟩))⟩)
      (fun z => ⟨pk_in (s + i) 256 (by omega) (hx := nI_add s i), nm_e (nm_r (nI_1 i) (hw (_, _) ⟨rg_F_s ht.1 (Nat.le_add_right _ _) (pk_cl (s + i) (nI_add s i)) rfl, rg_F_s ht.2 (Nat.le_add_right _ _) (pk_cl (s + i) (nI_add s i)) (rg_bk_1 z)⟩))⟩))⟩))
theorem rx_mv {post : Int32 → St2 → Prop} {P R s l t : Nat} {a b d e : Nat → Int32} (hP : P ≤ 256) (hR : R ≤ 32) (hs : s + l ≤ P) (ht : t + l ≤ P)
    (h1 : rg_ok P R (rg_mv s l t a) (rg_mv s l t b) → ∀ D E, post 1 (nI P, nI R, rg_mv s l t a, rg_mv s l t b, D, E))
    (h0 : ¬ rg_ok P R (rg_mv s l t a) (rg_mv s l t b) → ∀ D E, post 0 (nI P, nI R, a, b, D, E)) : wpX_tryMove post (nI P, nI R, a, b, d, e) (nI s) (nI l) (nI t) := by
  unfold wpX_tryMove
  dsimp only
  refine rx_start hP (fun D E hD hE => ?_)
  dsimp only
  refine rx_free hP hs (fun D' E' hD' hE' => ?_)
  dsimp only
  have kk : ∀ i, i < l → (nI s + nI i).toNatClampNeg = s + (t + i - t) := fun i hi => (pk_cl (s + i) (nI_add s i)).trans (by omega)
  exact pk_loop (fun n i (w : (Nat → Int32) × (Nat → Int32)) => wX_tryMove_13 post (nI s) (nI l) (nI t) (nI P) (nI R) n (nI i) a b w.1 w.2) (fun i w => rg_F t (t + i) (fun j => a (s + (j - t))) D' w.1 ∧ rg_F t (t + i) (fun j => b (s + (j - t))) E' w.2) l 0 (D', E') (Nat.zero_le _) ⟨rg_F_0 _ _ _, rg_F_0 _ _ _⟩
    (fun n w hw => pk_le l l (fun _ => rx_keep hP hR (rg_F_on hw.1 (rg_F_on hD' hD)) (rg_F_on hw.2 (rg_F_on hE' hE)) (rg_up_on ht (rg_up_on hs (fun _ _ => rfl))) (rg_up_on ht (rg_up_on hs (fun _ _ => rfl))) (fun k => ⟨rfl, h1 k _ _⟩) (fun k => ⟨rfl, h0 k _ _⟩)) (fun z => absurd z (by omega)))
    (fun n i w hi hw hn => pk_le l i (fun z => absurd z (by omega)) (fun _ => ⟨pk_in (s + i) 256 (by omega) (hx := nI_add s i), pk_in (t + i) 256 (by omega) (hx := nI_add t i), nm_e ⟨pk_in (s + i) 256 (by omega) (hx := nI_add s i), pk_in (t + i) 256 (by omega) (hx := nI_add t i), nm_e (nm_r (nI_1 i) (hn (_, _)
      ⟨rg_F_s hw.1 (Nat.le_add_right _ _) (pk_cl (t + i) (nI_add t i)) (congrArg a (kk i hi)), rg_F_s hw.2 (Nat.le_add_right _ _) (pk_cl (t + i) (nI_add t i)) (congrArg b (kk i hi))⟩))⟩⟩))
end
section
/-! the class, its public calls against the pure specs -/
theorem rg_PR_i {P x y : Nat} (hP : P ≤ 256) (h1 : 1 ≤ y) (h2 : x + y ≤ P) : rg_PR P (nI x) (nI y) := by
  unfold rg_PR
  rw [nI_toInt (by omega), nI_toInt (by omega)]
  omega
theorem rg_LN_i {P y : Nat} (hP : P ≤ 256) (h1 : 1 ≤ y) (h2 : y ≤ P) : rg_LN P (nI y) := by
  unfold rg_LN
  rw [nI_toInt (by omega)]
  omega
theorem rg_PG_i {P x : Nat} (hP : P ≤ 256) (h1 : x < P) : rg_PG P (nI x) := by
  unfold rg_PG
  rw [nI_toInt (by omega)]
  omega
def rg_QX (P R : Nat) (post : Int32 → St2 → Prop) : Int32 → (Nat → Int32) → (Nat → Int32) → Prop := fun r a' b' => ∀ D E, post r (nI P, nI R, a', b', D, E)
theorem rg_QX_s {P R : Nat} {post : Int32 → St2 → Prop} {r : Int32} {a b d e : Nat → Int32} (h : rg_QX P R post r a b) : post r (nI P, nI R, a, b, d, e) := h d e
theorem rx_mapNew {post : Int32 → St2 → Prop} {P R : Nat} {a b d e : Nat → Int32} {v1 v2 v3 v4 : Int32} (hP : P ≤ 256) (hR : R ≤ 32) (h : sp_mapNew P R a b v1 v2 v3 v4 (rg_QX P R post)) : wpX_mapNew post (nI P, nI R, a, b, d, e) v1 v2 v3 v4 := by
  unfold wpX_mapNew
  dsimp only
  refine rx_range hP v1 v2 (fun g => br_f rg_10 (rx_attr v2 v3 v4 (fun k => br_f rg_10 ?_) (fun k => br_t rfl (rg_QX_s (h.2 (fun z => k z.2)))))) (fun g => br_t rfl (rg_QX_s (h.2 (fun z => g z.1))))
  have h := h.1 ⟨g, k⟩
  obtain ⟨s, l, rfl, rfl, hl, hs⟩ := rg_PR_n g
  rw [nI_clamp (show s < 2 ^ 31 by omega), nI_clamp (show l < 2 ^ 31 by omega)] at h
  have hc := rg_cn_le (rg_mp a) s l
  refine rx_cnt hP hs (pk_le (rg_cn (rg_mp a) s l) 0 (fun z => ?_) (fun z => rg_QX_s (h.2 (by omega))))
  have h := h.1 (by omega)
  exact rx_fill hP hR hs (fun k D E => br_f rg_10 (h.1 k D E)) (fun k D E => br_t rfl (rg_QX_s (h.2 k)))
theorem rx_mapOver {post : Int32 → St2 → Prop} {P R : Nat} {a b d e : Nat → Int32} {v1 v2 v3 v4 : Int32} (hP : P ≤ 256) (hR : R ≤ 32) (h : sp_mapOver P R a b v1 v2 v3 v4 (rg_QX P R post)) : wpX_mapOver post (nI P, nI R, a, b, d, e) v1 v2 v3 v4 := by
  unfold wpX_mapOver
  dsimp only
  refine rx_range hP v1 v2 (fun g => br_f rg_10 (rx_attr v2 v3 v4 (fun k => br_f rg_10 ?_) (fun k => br_t rfl (rg_QX_s (h.2 (fun z => k z.2)))))) (fun g => br_t rfl (rg_QX_s (h.2 (fun z => g z.1))))
  have h := h.1 ⟨g, k⟩
  obtain ⟨s, l, rfl, rfl, hl, hs⟩ := rg_PR_n g
  rw [nI_clamp (show s < 2 ^ 31 by omega), nI_clamp (show l < 2 ^ 31 by omega)] at h
  refine rx_cnt hP hs ?_
  exact rx_fill hP hR hs (fun k D E => br_f rg_10 (h.1 k D E)) (fun k D E => br_t rfl (rg_QX_s (h.2 k)))
theorem rx_mapLow {post : Int32 → St2 → Prop} {P R : Nat} {a b d e : Nat → Int32} {v1 v2 v3 v4 : Int32} (hP : P ≤ 256) (hR : R ≤ 32) (h : sp_mapLow P R a b v1 v2 v3 v4 (rg_QX P R post)) : wpX_mapLow post (nI P, nI R, a, b, d, e) v1 v2 v3 v4 := by
  unfold wpX_mapLow
  dsimp only
  refine rx_attr v2 v3 v4 (fun k => br_f rg_10 (rx_fl hP (fun g => br_f (by decide) (rg_QX_s (h.2 (fun z => g z.1)))) (fun x y r ex ey hx hy1 hy2 hr => ?_))) (fun k => br_t rfl (rg_QX_s (h.2 (fun z => k z.2))))
  subst ex ey
  have h := h.1 ⟨⟨rg_PG_i hP hx, rg_LN_i hP hy1 hy2⟩, k⟩
  rw [nI_clamp (show x < 2 ^ 31 by omega), nI_clamp (show y < 2 ^ 31 by omega)] at h
  have h := h r hr
  rcases hr with ⟨t, g1, g2, g3, g4, rfl⟩ | ⟨g1, rfl⟩
  · have h := h.1 (rg_0le (by omega))
    rw [nI_clamp (show t < 2 ^ 31 by omega)] at h
    exact br_t (rg_0le (by omega)) (rx_fill hP hR g2 (fun k D E => br_f rg_10 (h.1 k D E)) (fun k D E => br_t rfl (rg_QX_s (h.2 k))))
  · exact br_f (by decide) (rg_QX_s (h.2 (by decide)))
theorem rx_mapHigh {post : Int32 → St2 → Prop} {P R : Nat} {a b d e : Nat → Int32} {v1 v2 v3 v4 : Int32} (hP : P ≤ 256) (hR : R ≤ 32) (h : sp_mapHigh P R a b v1 v2 v3 v4 (rg_QX P R post)) : wpX_mapHigh post (nI P, nI R, a, b, d, e) v1 v2 v3 v4 := by
  unfold wpX_mapHigh
  dsimp only
  refine rx_attr v2 v3 v4 (fun k => br_f rg_10 (rx_fh hP (fun g => br_f (by decide) (rg_QX_s (h.2 (fun z => g z.1)))) (fun x y r ex ey hx1 hx2 hy1 hy2 hr => ?_))) (fun k => br_t rfl (rg_QX_s (h.2 (fun z => k z.2))))
  subst ex ey
  have h := h.1 ⟨⟨rg_LN_i hP hx1 hx2, rg_LN_i hP hy1 hy2⟩, k⟩
  rw [nI_clamp (show x < 2 ^ 31 by omega), nI_clamp (show y < 2 ^ 31 by omega)] at h
  have h := h r hr
  rcases hr with ⟨t, g2, g3, g4, rfl⟩ | ⟨g1, rfl⟩
  · have h := h.1 (rg_0le (by omega))
    rw [nI_clamp (show t < 2 ^ 31 by omega)] at h
    exact br_t (rg_0le (by omega)) (rx_fill hP hR (by omega) (fun k D E => br_f rg_10 (h.1 k D E)) (fun k D E => br_t rfl (rg_QX_s (h.2 k))))
  · exact br_f (by decide) (rg_QX_s (h.2 (by decide)))
theorem rx_unmap {post : Int32 → St2 → Prop} {P R : Nat} {a b d e : Nat → Int32} {v1 v2 : Int32} (hP : P ≤ 256) (hR : R ≤ 32) (h : sp_unmap P R a b v1 v2 (rg_QX P R post)) : wpX_unmap post (nI P, nI R, a, b, d, e) v1 v2 := by
  unfold wpX_unmap
  dsimp only
  refine rx_range hP v1 v2 (fun g => br_f rg_10 ?_) (fun g => br_t rfl (rg_QX_s (h.2 g)))
  have h := h.1 g
  obtain ⟨s, l, rfl, rfl, hl, hs⟩ := rg_PR_n g
  rw [nI_clamp (show s < 2 ^ 31 by omega), nI_clamp (show l < 2 ^ 31 by omega)] at h
  refine rx_cnt hP hs ?_
  refine rx_start hP (fun D E hD hE => ?_)
  dsimp only
  refine rx_free hP hs (fun D' E' hD' hE' => ?_)
  dsimp only
  exact rx_keep hP hR (rg_F_on hD' hD) (rg_F_on hE' hE) (rg_up_on hs (fun _ _ => rfl)) (rg_up_on hs (fun _ _ => rfl)) (fun k => br_f rg_10 (h.1 k _ _)) (fun k => br_t rfl (rg_QX_s (h.2 k)))
theorem rx_protect {post : Int32 → St2 → Prop} {P R : Nat} {a b d e : Nat → Int32} {v1 v2 v3 : Int32} (hP : P ≤ 256) (hR : R ≤ 32) (h : sp_protect P R a b v1 v2 v3 (rg_QX P R post)) : wpX_protect post (nI P, nI R, a, b, d, e) v1 v2 v3 := by
  unfold wpX_protect
  dsimp only
  refine rx_range hP v1 v2 (fun g => br_f rg_10 (rx_prot v3 (fun k => br_f rg_10 ?_) (fun k => br_t rfl (rg_QX_s (h.2 (fun z => k z.2)))))) (fun g => br_t rfl (rg_QX_s (h.2 (fun z => g z.1))))
  have h := h.1 ⟨g, k⟩
  obtain ⟨s, l, rfl, rfl, hl, hs⟩ := rg_PR_n g
  rw [nI_clamp (show s < 2 ^ 31 by omega), nI_clamp (show l < 2 ^ 31 by omega)] at h
  have hc := rg_cn_le (rg_mp a) s l
  refine rx_cnt hP hs (pk_le l (rg_cn (rg_mp a) s l) (fun z => ?_) (fun z => rg_QX_s (h.1 z)))
  have h := h.2 (by omega)
  refine rx_start hP (fun D E hD hE => ?_)
  dsimp only
  refine pk_loop (fun n i (t : Nat × (Nat → Int32)) => wX_protect_41 post (nI s) (nI l) v3 (nI P) (nI R) n (nI t.1) (nI (s + i)) a b t.2 E) (fun i t => t.1 = rg_cn (fun j => decide (¬ a j = v3)) s i ∧ rg_F s (s + i) (fun _ => v3) D t.2) l 0 (0, D) (Nat.zero_le _) ⟨rfl, rg_F_0 _ _ _⟩
    (fun n t ht => pk_le (s + l) (s + l) (fun _ => ?_) (fun z => absurd z (by omega)) (hx := nI_add s l))
    (fun n i t hi ht hw => pk_le (s + l) (s + i) (fun z => absurd z (by omega)) (fun _ => ⟨pk_in (s + i) 256 (by omega), br_c (fun z => ?_) (fun z => ?_)⟩) (hx := nI_add s l))
  · rw [ht.1]
    exact rx_keep hP hR (rg_F_on ht.2 hD) hE (rg_up_on hs (fun _ _ => rfl)) (fun _ _ => rfl) (fun k => br_f rg_10 (h.1 k _ _)) (fun k => br_t rfl (rg_QX_s (h.2 k)))
  · rw [nI_clamp (show s + i < 2 ^ 31 by omega)] at z
    refine nm_r (nI_1 (s + i)) (hw (t.1, t.2) ⟨?_, rg_F_k ht.2 (Nat.le_add_right _ _) ?_⟩)
    · rw [rg_cn_f (decide_eq_false (fun y => y z))]; exact ht.1
    · exact ((ht.2.2 (s + i) (by omega)).trans (hD (s + i) (by omega))).trans z
  · rw [nI_clamp (show s + i < 2 ^ 31 by omega)] at z
    refine ⟨pk_in (s + i) 256 (by omega), nm_e (nm_r (nI_1 t.1) (nm_r (nI_1 (s + i)) (hw (t.1 + 1, _) ⟨?_, rg_F_s ht.2 (Nat.le_add_right _ _) (nI_clamp (by omega)) rfl⟩)))⟩
    rw [rg_cn_t (decide_eq_true z), ht.1]
theorem rx_move {post : Int32 → St2 → Prop} {P R : Nat} {a b d e : Nat → Int32} {v1 v2 v3 : Int32} (hP : P ≤ 256) (hR : R ≤ 32) (h : sp_move P R a b v1 v2 v3 (rg_QX P R post)) : wpX_move post (nI P, nI R, a, b, d, e) v1 v2 v3 := by
  unfold wpX_move
  dsimp only
  refine rx_range hP v1 v2 (fun g => br_f rg_10 (rx_range hP v3 v2 (fun k => br_f rg_10 ?_) (fun k => br_t rfl (rg_QX_s (h.2 (fun z => k z.2)))))) (fun g => br_t rfl (rg_QX_s (h.2 (fun z => g z.1))))
  have h := h.1 ⟨g, k⟩
  obtain ⟨s, l, rfl, rfl, hl, hs⟩ := rg_PR_n g
  obtain ⟨t, l', rfl, el, hl', ht⟩ := rg_PR_n k
  have el : l = l' := (nI_eq (by omega) (by omega)).mp el
  subst el
  rw [nI_clamp (show s < 2 ^ 31 by omega), nI_clamp (show l < 2 ^ 31 by omega), nI_clamp (show t < 2 ^ 31 by omega)] at h
  have hc := rg_cn_le (rg_mp a) s l
  refine rx_cnt hP hs (pk_le l (rg_cn (rg_mp a) s l) (fun z => ?_) (fun z => rg_QX_s (h.1 z)))
  have h := h.2 (by omega)
  refine rx_out hP hs ht ?_
  exact rx_mv hP hR hs ht (fun k D E => br_f rg_10 (h.1 k D E)) (fun k D E => br_t rfl (rg_QX_s (h.2 k)))
theorem rx_moveFree {post : Int32 → St2 → Prop} {P R : Nat} {a b d e : Nat → Int32} {v1 v2 v3 : Int32} (hP : P ≤ 256) (hR : R ≤ 32) (h : sp_moveFree P R a b v1 v2 v3 (rg_QX P R post)) : wpX_moveFree post (nI P, nI R, a, b, d, e) v1 v2 v3 := by
  unfold wpX_moveFree
  dsimp only
  refine rx_range hP v1 v2 (fun g => br_f rg_10 (rx_isPage hP v3 (fun k => br_f rg_10 ?_) (fun k => br_t rfl (rg_QX_s (h.2 (fun z => k z.2)))))) (fun g => br_t rfl (rg_QX_s (h.2 (fun z => g z.1))))
  have h := h.1 ⟨g, k⟩
  obtain ⟨s, l, rfl, rfl, hl, hs⟩ := rg_PR_n g
  rw [nI_clamp (show s < 2 ^ 31 by omega), nI_clamp (show l < 2 ^ 31 by omega)] at h
  have hc := rg_cn_le (rg_mp a) s l
  refine rx_cnt hP hs (pk_le l (rg_cn (rg_mp a) s l) (fun z => ?_) (fun z => rg_QX_s (h.1 z)))
  have h := h.2 (by omega)
  refine rx_fl hP (fun g => absurd ⟨k, rg_LN_i hP hl (by omega)⟩ g) (fun x y r ex ey hx hy1 hy2 hr => ?_)
  have ey : l = y := (nI_eq (by omega) (by omega)).mp ey
  subst ex ey
  rw [nI_clamp (show x < 2 ^ 31 by omega)] at h
  have h := h r hr
  rcases hr with ⟨t, g1, g2, g3, g4, rfl⟩ | ⟨g1, rfl⟩
  · have h := h.1 (rg_0le (by omega))
    rw [nI_clamp (show t < 2 ^ 31 by omega)] at h
    exact br_t (rg_0le (by omega)) (rx_mv hP hR hs g2 (fun k D E => br_f rg_10 (h.1 k D E)) (fun k D E => br_t rfl (rg_QX_s (h.2 k))))
  · exact br_f (by decide) (rg_QX_s (h.2 (by decide)))
theorem rx_protOf {post : Int32 → Prop} {P : Nat} {f v : Int32} {a b d e : Nat → Int32} (hP : P ≤ 256) (h1 : ∀ x, v = nI x → x < P → post (a x)) (h0 : ¬ rg_PG P v → post (-1)) : wpX_protOf post (nI P, f, a, b, d, e) v := by
  unfold wpX_protOf
  dsimp only
  refine rx_isPage hP v (fun g => br_f rg_10 ?_) (fun g => br_t rfl (h0 g))
  obtain ⟨x, rfl, hx⟩ := rg_PG_n g
  refine ⟨pk_in x 256 (by omega), ?_⟩
  rw [nI_clamp (show x < 2 ^ 31 by omega)]
  exact h1 x rfl hx
theorem rx_backingOf {post : Int32 → Prop} {P : Nat} {f v : Int32} {a b d e : Nat → Int32} (hP : P ≤ 256) (h1 : ∀ x, v = nI x → x < P → post (b x)) (h0 : ¬ rg_PG P v → post (-1)) : wpX_backingOf post (nI P, f, a, b, d, e) v := by
  unfold wpX_backingOf
  dsimp only
  refine rx_isPage hP v (fun g => br_f rg_10 ?_) (fun g => br_t rfl (h0 g))
  obtain ⟨x, rfl, hx⟩ := rg_PG_n g
  refine ⟨pk_in x 256 (by omega), ?_⟩
  rw [nI_clamp (show x < 2 ^ 31 by omega)]
  exact h1 x rfl hx
theorem rx_rc {post : Int32 → Prop} {P : Nat} {f : Int32} {a b d e : Nat → Int32} (hP : P ≤ 256) (h : post (nI (rg_cn (rg_st a b) 0 P))) : wpX_regionCount post (nI P, f, a, b, d, e) := by
  unfold wpX_regionCount
  dsimp only
  exact rx_ctA hP h
end
section
/-! the law's picture: valid maps, what a call leaves, the law's own places -/
def lq_V (P : Nat) (a b : Nat → Int32) : Prop := ∀ j, j < P → (a j = -6 ∧ b j = -6) ∨ (rg_PT (a j) ∧ rg_BK (b j))
theorem rg_bk_ok {s j l : Nat} {q v : Int32} (h : rg_PA (nI l) q v) (hl : l ≤ 256) (h1 : s ≤ j) (h2 : j < s + l) : rg_BK (rg_bk s v j) := by
  unfold rg_bk
  by_cases z : v = 0
  · rw [if_pos z]; exact Or.inl rfl
  · rw [if_neg z]
    rcases h.2 with h | ⟨h3, h4, h5⟩
    · exact absurd h z
    · obtain ⟨n, hn, rfl, fn⟩ := rg_nat (x := v) (by omega)
      have hl' : (nI l).toInt = l := nI_toInt (by omega)
      right
      rw [nI_add, nI_toInt (by omega)]
      omega
theorem rg_all {a : Nat → Int32} {s l : Nat} (h : ¬ rg_cn (rg_mp a) s l < l) {j : Nat} (h1 : s ≤ j) (h2 : j < s + l) : ¬ a j = -6 := by
  have := rg_cn_all h (j - s) (by omega)
  rw [show s + (j - s) = j from by omega] at this
  exact rg_mp_t.mp this
theorem lq_V_fill {P s l : Nat} {q v : Int32} {a b : Nat → Int32} (hP : P ≤ 256) (hs : s + l ≤ P) (hV : lq_V P a b) (hA : rg_PA (nI l) q v) : lq_V P (rg_on s l (fun _ => q) a) (rg_on s l (rg_bk s v) b) := by
  intro j hj
  by_cases e : s ≤ j ∧ j < s + l
  · rw [rg_on_t e, rg_on_t e]
    exact Or.inr ⟨hA.1, rg_bk_ok hA (by omega) e.1 e.2⟩
  · rw [rg_on_f e, rg_on_f e]
    exact hV j hj
theorem lq_V_free {P s l : Nat} {a b : Nat → Int32} (hV : lq_V P a b) : lq_V P (rg_on s l (fun _ => -6) a) (rg_on s l (fun _ => -6) b) := by
  intro j hj
  by_cases e : s ≤ j ∧ j < s + l
  · rw [rg_on_t e, rg_on_t e]
    exact Or.inl ⟨rfl, rfl⟩
  · rw [rg_on_f e, rg_on_f e]
    exact hV j hj
theorem lq_V_prot {P s l : Nat} {q : Int32} {a b : Nat → Int32} (hV : lq_V P a b) (hq : rg_PT q) (hA : ¬ rg_cn (rg_mp a) s l < l) : lq_V P (rg_on s l (fun _ => q) a) b := by
  intro j hj
  by_cases e : s ≤ j ∧ j < s + l
  · rw [rg_on_t e]
    rcases hV j hj with ⟨e1, _⟩ | ⟨_, e2⟩
    · exact absurd e1 (rg_all hA e.1 e.2)
    · exact Or.inr ⟨hq, e2⟩
  · rw [rg_on_f e]
    exact hV j hj
theorem lq_V_mv {P s l t : Nat} {a b : Nat → Int32} (hs : s + l ≤ P) (hV : lq_V P a b) (hA : ¬ rg_cn (rg_mp a) s l < l) : lq_V P (rg_mv s l t a) (rg_mv s l t b) := by
  intro j hj
  unfold rg_mv
  by_cases e : t ≤ j ∧ j < t + l
  · rw [rg_on_t e, rg_on_t e]
    exact hV (s + (j - t)) (by omega)
  · rw [rg_on_f e, rg_on_f e]
    exact lq_V_free hV j hj
/-- what a call leaves: a valid map within the limit; refused: nothing changed; done: E -/
def lq_F (P R : Nat) (a b : Nat → Int32) (E : (Nat → Int32) → (Nat → Int32) → Prop) : Int32 → (Nat → Int32) → (Nat → Int32) → Prop := fun r a' b' => lq_V P a' b' ∧ rg_ok P R a' b' ∧ ((r < 0 ∧ a' = a ∧ b' = b) ∨ (¬ r < 0 ∧ E a' b'))
theorem lq_neg {P R : Nat} {a b : Nat → Int32} {E : (Nat → Int32) → (Nat → Int32) → Prop} {r : Int32} (hV : lq_V P a b) (hok : rg_ok P R a b) (hr : r < 0) : lq_F P R a b E r a b := ⟨hV, hok, Or.inl ⟨hr, rfl, rfl⟩⟩
theorem lq_gate {P R : Nat} {a b a' b' : Nat → Int32} {E : (Nat → Int32) → (Nat → Int32) → Prop} {r : Int32} (hV : lq_V P a b) (hok : rg_ok P R a b) (hV' : lq_V P a' b') (hr : ¬ r < 0) (hE : E a' b') : rg_gate P R a b a' b' r (lq_F P R a b E) :=
  ⟨fun k => ⟨hV', k, Or.inr ⟨hr, hE⟩⟩, fun _ => lq_neg hV hok (by decide)⟩
def lq_Ef (P : Nat) (a b : Nat → Int32) (x19 x21 x23 x27 : Int32) : (Nat → Int32) → (Nat → Int32) → Prop := fun a' b' => ∃ t l, x21 = nI t ∧ x19 = nI l ∧ t + l ≤ P ∧ a' = rg_on t l (fun _ => x23) a ∧ b' = rg_on t l (rg_bk t x27) b
def lq_Eu (P : Nat) (a b : Nat → Int32) (x15 x19 : Int32) : (Nat → Int32) → (Nat → Int32) → Prop := fun a' b' => ∃ s l, x15 = nI s ∧ x19 = nI l ∧ s + l ≤ P ∧ a' = rg_on s l (fun _ => -6) a ∧ b' = rg_on s l (fun _ => -6) b
def lq_Ep (P : Nat) (a b : Nat → Int32) (x15 x19 x23 : Int32) : (Nat → Int32) → (Nat → Int32) → Prop := fun a' b' => ∃ s l, x15 = nI s ∧ x19 = nI l ∧ s + l ≤ P ∧ a' = rg_on s l (fun _ => x23) a ∧ b' = b
def lq_Em (P : Nat) (a b : Nat → Int32) (x15 x19 x21 : Int32) : (Nat → Int32) → (Nat → Int32) → Prop := fun a' b' => ∃ s l t, x15 = nI s ∧ x19 = nI l ∧ x21 = nI t ∧ s + l ≤ P ∧ t + l ≤ P ∧ a' = rg_mv s l t a ∧ b' = rg_mv s l t b
/-- the law's own lowest place, highest place -/
def rg_AT (a : Nat → Int32) (P f l : Nat) (v : Int32) : Prop :=
  (∃ t, f ≤ t ∧ t + l ≤ P ∧ rg_fr a t l ∧ (∀ t', f ≤ t' → t' < t → ¬ rg_fr a t' l) ∧ v = nI t) ∨ ((∀ t', f ≤ t' → t' + l ≤ P → ¬ rg_fr a t' l) ∧ v = -1)
def rg_AH (a : Nat → Int32) (to l : Nat) (v : Int32) : Prop :=
  (∃ t, t + l ≤ to ∧ rg_fr a t l ∧ (∀ t', t < t' → t' + l ≤ to → ¬ rg_fr a t' l) ∧ v = nI t) ∨ ((∀ t', t' + l ≤ to → ¬ rg_fr a t' l) ∧ v = -1)
theorem rg_AT_u {a : Nat → Int32} {P f l t : Nat} {v : Int32} (h : rg_AT a P f l v) (h1 : f ≤ t) (h2 : t + l ≤ P) (h3 : rg_fr a t l) (h4 : ∀ t', f ≤ t' → t' < t → ¬ rg_fr a t' l) : v = nI t := by
  rcases h with ⟨t', g1, g2, g3, g4, rfl⟩ | ⟨g1, rfl⟩
  · rcases Nat.lt_trichotomy t t' with e | e | e
    · exact absurd h3 (g4 t h1 e)
    · rw [e]
    · exact absurd g3 (h4 t' g1 e)
  · exact absurd h3 (g1 t h1 h2)
theorem rg_AH_u {a : Nat → Int32} {to l t : Nat} {v : Int32} (h : rg_AH a to l v) (h2 : t + l ≤ to) (h3 : rg_fr a t l) (h4 : ∀ t', t < t' → t' + l ≤ to → ¬ rg_fr a t' l) : v = nI t := by
  rcases h with ⟨t', g2, g3, g4, rfl⟩ | ⟨g1, rfl⟩
  · rcases Nat.lt_trichotomy t t' with e | e | e
    · exact absurd g3 (h4 t' e g2)
    · rw [e]
    · exact absurd h3 (g4 t e h2)
  · exact absurd h3 (g1 t h2)
theorem lq_0 {n : Nat} (h : n < 2 ^ 31) : ¬ nI n < 0 := nI_pos h
theorem lq_mapNew {P R : Nat} {a b : Nat → Int32} {v1 v2 v3 v4 : Int32} (hP : P ≤ 256) (hV : lq_V P a b) (hok : rg_ok P R a b) : sp_mapNew P R a b v1 v2 v3 v4 (lq_F P R a b (lq_Ef P a b v2 v1 v3 v4)) := by
  refine ⟨fun g => ⟨fun _ => ?_, fun _ => lq_neg hV hok (by decide)⟩, fun _ => lq_neg hV hok (by decide)⟩
  obtain ⟨s, l, rfl, rfl, hl, hs⟩ := rg_PR_n g.1
  rw [nI_clamp (show s < 2 ^ 31 by omega), nI_clamp (show l < 2 ^ 31 by omega)]
  exact lq_gate hV hok (lq_V_fill hP hs hV g.2) (by decide) ⟨s, l, rfl, rfl, hs, rfl, rfl⟩
theorem lq_mapOver {P R : Nat} {a b : Nat → Int32} {v1 v2 v3 v4 : Int32} (hP : P ≤ 256) (hV : lq_V P a b) (hok : rg_ok P R a b) : sp_mapOver P R a b v1 v2 v3 v4 (lq_F P R a b (lq_Ef P a b v2 v1 v3 v4)) := by
  refine ⟨fun g => ?_, fun _ => lq_neg hV hok (by decide)⟩
  obtain ⟨s, l, rfl, rfl, hl, hs⟩ := rg_PR_n g.1
  rw [nI_clamp (show s < 2 ^ 31 by omega), nI_clamp (show l < 2 ^ 31 by omega)]
  have hle := rg_cn_le (rg_mp a) s l
  exact lq_gate hV hok (lq_V_fill hP hs hV g.2) (lq_0 (by omega)) ⟨s, l, rfl, rfl, hs, rfl, rfl⟩
theorem lq_mapLow {P R : Nat} {a b : Nat → Int32} {v1 v2 v3 v4 at_ : Int32} (hP : P ≤ 256) (hV : lq_V P a b) (hok : rg_ok P R a b) (ha : ∀ x y, v1 = nI x → v2 = nI y → x < P → 1 ≤ y → y ≤ P → rg_AT a P x y at_) : sp_mapLow P R a b v1 v2 v3 v4 (lq_F P R a b (lq_Ef P a b v2 at_ v3 v4)) := by
  refine ⟨fun g => ?_, fun _ => lq_neg hV hok (by decide)⟩
  obtain ⟨⟨g1, g2⟩, g3⟩ := g
  obtain ⟨x, rfl, hx⟩ := rg_PG_n g1
  obtain ⟨y, rfl, hy1, hy2⟩ := rg_LN_n g2
  rw [nI_clamp (show x < 2 ^ 31 by omega), nI_clamp (show y < 2 ^ 31 by omega)]
  intro r hF
  refine ⟨fun h0 => ?_, fun _ => lq_neg hV hok (by decide)⟩
  rcases hF with ⟨t, f1, f2, f3, f4, rfl⟩ | ⟨f1, rfl⟩
  · rw [nI_clamp (show t < 2 ^ 31 by omega)]
    exact lq_gate hV hok (lq_V_fill hP f2 hV g3) (lq_0 (by omega)) ⟨t, y, rg_AT_u (ha x y rfl rfl hx hy1 hy2) f1 f2 f3 f4, rfl, f2, rfl, rfl⟩
  · exact absurd h0 (by decide)
theorem lq_mapHigh {P R : Nat} {a b : Nat → Int32} {v1 v2 v3 v4 at_ : Int32} (hP : P ≤ 256) (hV : lq_V P a b) (hok : rg_ok P R a b) (ha : ∀ x y, v1 = nI x → v2 = nI y → 1 ≤ x → x ≤ P → 1 ≤ y → y ≤ P → rg_AH a x y at_) : sp_mapHigh P R a b v1 v2 v3 v4 (lq_F P R a b (lq_Ef P a b v2 at_ v3 v4)) := by
  refine ⟨fun g => ?_, fun _ => lq_neg hV hok (by decide)⟩
  obtain ⟨⟨g1, g2⟩, g3⟩ := g
  obtain ⟨x, rfl, hx1, hx2⟩ := rg_LN_n g1
  obtain ⟨y, rfl, hy1, hy2⟩ := rg_LN_n g2
  rw [nI_clamp (show x < 2 ^ 31 by omega), nI_clamp (show y < 2 ^ 31 by omega)]
  intro r hF
  refine ⟨fun h0 => ?_, fun _ => lq_neg hV hok (by decide)⟩
  rcases hF with ⟨t, f2, f3, f4, rfl⟩ | ⟨f1, rfl⟩
  · rw [nI_clamp (show t < 2 ^ 31 by omega)]
    exact lq_gate hV hok (lq_V_fill hP (by omega) hV g3) (lq_0 (by omega)) ⟨t, y, rg_AH_u (ha x y rfl rfl hx1 hx2 hy1 hy2) f2 f3 f4, rfl, by omega, rfl, rfl⟩
  · exact absurd h0 (by decide)
theorem lq_unmap {P R : Nat} {a b : Nat → Int32} {v1 v2 : Int32} (hP : P ≤ 256) (hV : lq_V P a b) (hok : rg_ok P R a b) : sp_unmap P R a b v1 v2 (lq_F P R a b (lq_Eu P a b v1 v2)) := by
  refine ⟨fun g => ?_, fun _ => lq_neg hV hok (by decide)⟩
  obtain ⟨s, l, rfl, rfl, hl, hs⟩ := rg_PR_n g
  rw [nI_clamp (show s < 2 ^ 31 by omega), nI_clamp (show l < 2 ^ 31 by omega)]
  have hle := rg_cn_le (rg_mp a) s l
  exact lq_gate hV hok (lq_V_free hV) (lq_0 (by omega)) ⟨s, l, rfl, rfl, hs, rfl, rfl⟩
theorem lq_protect {P R : Nat} {a b : Nat → Int32} {v1 v2 v3 : Int32} (hP : P ≤ 256) (hV : lq_V P a b) (hok : rg_ok P R a b) : sp_protect P R a b v1 v2 v3 (lq_F P R a b (lq_Ep P a b v1 v2 v3)) := by
  refine ⟨fun g => ?_, fun _ => lq_neg hV hok (by decide)⟩
  obtain ⟨g1, g2⟩ := g
  obtain ⟨s, l, rfl, rfl, hl, hs⟩ := rg_PR_n g1
  rw [nI_clamp (show s < 2 ^ 31 by omega), nI_clamp (show l < 2 ^ 31 by omega)]
  refine ⟨fun _ => lq_neg hV hok (by decide), fun hA => ?_⟩
  have hle := rg_cn_le (fun j => decide (¬ a j = v3)) s l
  exact lq_gate hV hok (lq_V_prot hV g2 hA) (lq_0 (by omega)) ⟨s, l, rfl, rfl, hs, rfl, rfl⟩
theorem lq_move {P R : Nat} {a b : Nat → Int32} {v1 v2 v3 : Int32} (hP : P ≤ 256) (hV : lq_V P a b) (hok : rg_ok P R a b) : sp_move P R a b v1 v2 v3 (lq_F P R a b (lq_Em P a b v1 v2 v3)) := by
  refine ⟨fun g => ?_, fun _ => lq_neg hV hok (by decide)⟩
  obtain ⟨g1, g2⟩ := g
  obtain ⟨s, l, rfl, rfl, hl, hs⟩ := rg_PR_n g1
  obtain ⟨t, l', rfl, el, hl', ht⟩ := rg_PR_n g2
  have el : l = l' := (nI_eq (by omega) (by omega)).mp el
  subst el
  rw [nI_clamp (show s < 2 ^ 31 by omega), nI_clamp (show l < 2 ^ 31 by omega), nI_clamp (show t < 2 ^ 31 by omega)]
  refine ⟨fun _ => lq_neg hV hok (by decide), fun hA => ?_⟩
  have hle := rg_cn_le (rg_out a s l) t l
  exact lq_gate hV hok (lq_V_mv hs hV hA) (lq_0 (by omega)) ⟨s, l, t, rfl, rfl, rfl, hs, ht, rfl, rfl⟩
theorem lq_moveFree {P R : Nat} {a b : Nat → Int32} {v1 v2 v3 at_ : Int32} (hP : P ≤ 256) (hV : lq_V P a b) (hok : rg_ok P R a b) (ha : ∀ x y, v3 = nI x → v2 = nI y → x < P → 1 ≤ y → y ≤ P → rg_AT a P x y at_) : sp_moveFree P R a b v1 v2 v3 (lq_F P R a b (lq_Em P a b v1 v2 at_)) := by
  refine ⟨fun g => ?_, fun _ => lq_neg hV hok (by decide)⟩
  obtain ⟨g1, g2⟩ := g
  obtain ⟨s, l, rfl, rfl, hl, hs⟩ := rg_PR_n g1
  obtain ⟨x, rfl, hx⟩ := rg_PG_n g2
  rw [nI_clamp (show s < 2 ^ 31 by omega), nI_clamp (show l < 2 ^ 31 by omega), nI_clamp (show x < 2 ^ 31 by omega)]
  refine ⟨fun _ => lq_neg hV hok (by decide), fun hA => ?_⟩
  intro r hF
  refine ⟨fun h0 => ?_, fun _ => lq_neg hV hok (by decide)⟩
  rcases hF with ⟨t, f1, f2, f3, f4, rfl⟩ | ⟨f1, rfl⟩
  · rw [nI_clamp (show t < 2 ^ 31 by omega)]
    exact lq_gate hV hok (lq_V_mv hs hV hA) (lq_0 (by omega)) ⟨s, l, t, rfl, rfl, rg_AT_u (ha x l rfl rfl hx hl (by omega)) f1 f2 f3 f4, hs, f2, rfl, rfl⟩
  · exact absurd h0 (by decide)
end
section
/-! regions: the law's last two loops -/
theorem rg_cn_mono {p : Nat → Bool} {s m n : Nat} (h : m ≤ n) : rg_cn p s m ≤ rg_cn p s n := by
  induction n with
  | zero => rw [Nat.le_zero.mp h]; exact Nat.le_refl _
  | succ n ih =>
    by_cases e : m = n + 1
    · rw [e]; exact Nat.le_refl _
    · have := ih (by omega)
      rw [show rg_cn p s (n + 1) = rg_cn p s n + (if p (s + n) = true then 1 else 0) from rfl]
      omega
theorem rg_cn_st {p : Nat → Bool} {t : Nat} (h : p t = true) : rg_cn p 0 (t + 1) = rg_cn p 0 t + 1 := rg_cn_t (by rw [Nat.zero_add]; exact h)
theorem rg_cn_sf {p : Nat → Bool} {t : Nat} (h : p t = false) : rg_cn p 0 (t + 1) = rg_cn p 0 t := rg_cn_f (by rw [Nat.zero_add]; exact h)
theorem rg_nth {p : Nat → Bool} {P k : Nat} (h : k < rg_cn p 0 P) : ∃ t, t < P ∧ p t = true ∧ rg_cn p 0 t = k := by
  induction P with
  | zero => rw [rg_cn_0] at h; omega
  | succ P ih =>
    by_cases hk : k < rg_cn p 0 P
    · obtain ⟨t, h1, h2, h3⟩ := ih hk
      exact ⟨t, by omega, h2, h3⟩
    · by_cases hp : p P = true
      · rw [rg_cn_st hp] at h
        exact ⟨P, by omega, hp, by omega⟩
      · rw [rg_cn_sf (Bool.eq_false_iff.mpr hp)] at h
        omega
theorem rg_st_u {p : Nat → Bool} {t t' : Nat} (h1 : p t = true) (h2 : p t' = true) (e : rg_cn p 0 t = rg_cn p 0 t') : t = t' := by
  rcases Nat.lt_trichotomy t t' with g | g | g
  · have := rg_cn_mono (p := p) (s := 0) (show t + 1 ≤ t' by omega)
    rw [rg_cn_st h1] at this
    omega
  · exact g
  · have := rg_cn_mono (p := p) (s := 0) (show t' + 1 ≤ t by omega)
    rw [rg_cn_st h2] at this
    omega
theorem rg_RS_k {p : Nat → Bool} {P k : Nat} {r : Int32} (hP : P ≤ 256) (h : rg_RS p P (nI k) r) (hk : k < rg_cn p 0 P) : ∃ t, t < P ∧ p t = true ∧ rg_cn p 0 t = k ∧ r = nI t := by
  have hle := rg_cn_le p 0 P
  rcases h with ⟨t, h1, h2, h3, h4, rfl⟩ | ⟨h1, rfl⟩
  · have := rg_cn_le p 0 t
    exact ⟨t, h1, h2, (nI_eq (by omega) (by omega)).mp h3, rfl⟩
  · obtain ⟨t, g1, g2, g3⟩ := rg_nth hk
    exact absurd (by rw [g3]) (h1 t g1 g2)
/-- region k: first page t, l pages -/
def lq_G (P : Nat) (a b : Nat → Int32) (k t l : Nat) : Prop := t < P ∧ rg_st a b t = true ∧ rg_cn (rg_st a b) 0 t = k ∧ rg_RL (rg_co a b) P t l
theorem lr_m1 {t P : Nat} (hP : P ≤ 256) (ht : t < P) : ¬ (-1 : Int32) = nI t := fun z => by
  have h := congrArg Int32.toInt z
  rw [nI_toInt (by omega), show (-1 : Int32).toInt = -1 from by decide] at h
  omega
theorem rx_rs1 {post : Int32 → Prop} {P k : Nat} {f1 : Int32} {a b d e : Nat → Int32} (hP : P ≤ 256) (hk : k < rg_cn (rg_st a b) 0 P) (h : ∀ t, t < P → rg_st a b t = true → rg_cn (rg_st a b) 0 t = k → post (nI t)) : wpX_regionStart post (nI P, f1, a, b, d, e) (nI k) :=
  rx_rs hP (fun r hr => by
    obtain ⟨t, h1, h2, h3, rfl⟩ := rg_RS_k hP hr hk
    exact h t h1 h2 h3)
theorem rx_reg {post : Int32 → Int32 → Prop} {P k : Nat} {f1 : Int32} {a b d e : Nat → Int32} (hP : P ≤ 256) (hk : k < rg_cn (rg_st a b) 0 P) (h : ∀ t l, lq_G P a b k t l → post (nI t) (nI l)) : wpX_regionStart (fun r => wpX_regionLength (fun r2 => post r r2) (nI P, f1, a, b, d, e) (nI k)) (nI P, f1, a, b, d, e) (nI k) :=
  rx_rs1 hP hk (fun t h1 h2 h3 => rx_rl hP
    (fun h0 => by
      obtain ⟨t', g1, g2, g3, g4⟩ := rg_RS_k hP h0 hk
      exact absurd g4 (lr_m1 hP g1))
    (fun t' l ht' g1 g2 => by
      obtain ⟨t'', k1, k2, k3, k4⟩ := rg_RS_k hP g1 hk
      have e1 : t' = t'' := (nI_eq (by omega) (by omega)).mp k4
      have e2 : t = t'' := rg_st_u h2 k2 (by rw [h3, k3])
      have e3 : t' = t := by rw [e1, e2]
      rw [e3] at g2
      exact h t l ⟨h1, h2, h3, g2⟩))
theorem lq_co_st {a b : Nat → Int32} {j : Nat} (h : rg_co a b j = true) : rg_st a b j = false := by
  unfold rg_st; rw [h]; exact Bool.and_false _
theorem lq_co_x {a b : Nat → Int32} {j : Nat} (h : rg_co a b j = true) : 1 ≤ j ∧ ¬ a j = -6 ∧ ¬ a (j - 1) = -6 := by
  have h := of_decide_eq_true h
  exact ⟨h.1, h.2.1, by rw [← h.2.2.1]; exact h.2.1⟩
theorem lq_st_m {a b : Nat → Int32} {j : Nat} (h : rg_st a b j = true) : ¬ a j = -6 := by
  intro z
  unfold rg_st at h
  rw [rg_mp_f.mpr z] at h
  exact absurd h Bool.false_ne_true
theorem lq_st_c {a b : Nat → Int32} {j : Nat} (h : ¬ a j = -6) (hc : rg_co a b j = false) : rg_st a b j = true := by
  unfold rg_st; rw [rg_mp_t.mpr h, hc]; rfl
theorem lq_st_f {a b : Nat → Int32} {j : Nat} (h : a j = -6) : rg_st a b j = false := by
  unfold rg_st; rw [rg_mp_f.mpr h]; rfl
theorem lq_last {a b : Nat → Int32} {p : Nat} (h : ¬ a p = -6) : ∃ t, t ≤ p ∧ rg_st a b t = true ∧ rg_cn (rg_st a b) 0 t + 1 = rg_cn (rg_st a b) 0 (p + 1) ∧ ∀ q, t < q → q ≤ p → rg_co a b q = true := by
  induction p with
  | zero =>
    have hc : rg_co a b 0 = false := decide_eq_false (fun z => absurd z.1 (by omega))
    have hs := lq_st_c h hc
    exact ⟨0, Nat.le_refl _, hs, by rw [rg_cn_st hs], fun q h1 h2 => by omega⟩
  | succ p ih =>
    by_cases hc : rg_co a b (p + 1) = true
    · obtain ⟨t, h1, h2, h3, h4⟩ := ih (lq_co_x hc).2.2
      refine ⟨t, by omega, h2, by rw [rg_cn_sf (lq_co_st hc)]; exact h3, fun q g1 g2 => ?_⟩
      by_cases e : q = p + 1
      · rw [e]; exact hc
      · exact h4 q g1 (by omega)
    · have hs := lq_st_c h (Bool.eq_false_iff.mpr hc)
      exact ⟨p + 1, Nat.le_refl _, hs, by rw [rg_cn_st hs], fun q h1 h2 => by omega⟩
theorem lq_next {P : Nat} {a b : Nat → Int32} {k t l t2 : Nat} (h : lq_G P a b k t l) (h2 : rg_st a b t2 = true) (h3 : rg_cn (rg_st a b) 0 t2 = k + 1) : t + l ≤ t2 := by
  obtain ⟨g1, g2, g3, g4, g5, g6, g7⟩ := h
  have ht : t < t2 := by
    by_cases e : t < t2
    · exact e
    · have := rg_cn_mono (p := rg_st a b) (s := 0) (show t2 ≤ t by omega)
      omega
  by_cases e : t + l ≤ t2
  · exact e
  · have := g6 (t2 - t) (by omega) (by omega)
    rw [show t + (t2 - t) = t2 from by omega] at this
    rw [lq_co_st this] at h2
    exact absurd h2 Bool.false_ne_true
theorem lr_pO {post : Int32 → Prop} {P p : Nat} {f1 : Int32} {a b d e : Nat → Int32} (hP : P ≤ 256) (hp : p < P) (h : post (a p)) : wpX_protOf post (nI P, f1, a, b, d, e) (nI p) :=
  rx_protOf hP (fun x ex hx => by
    have ex : p = x := (nI_eq (by omega) (by omega)).mp ex
    subst ex; exact h) (fun g => absurd (rg_PG_i hP hp) g)
theorem lr_bO {post : Int32 → Prop} {P p : Nat} {f1 : Int32} {a b d e : Nat → Int32} (hP : P ≤ 256) (hp : p < P) (h : post (b p)) : wpX_backingOf post (nI P, f1, a, b, d, e) (nI p) :=
  rx_backingOf hP (fun x ex hx => by
    have ex : p = x := (nI_eq (by omega) (by omega)).mp ex
    subst ex; exact h) (fun g => absurd (rg_PG_i hP hp) g)
theorem lr_cont {post : Int32 → Prop} {P p : Nat} {a b : Nat → Int32} {pp pb : Int32} (hV : lq_V P a b) (hp : p < P) (hm : ¬ a p = -6) (hprev : (p = 0 ∧ pp = -1) ∨ (1 ≤ p ∧ pp = a (p - 1) ∧ pb = b (p - 1))) (h1 : rg_co a b p = true → post 1) (h0 : rg_co a b p = false → post 0) : wpL_continues post () pp pb (a p) (b p) := by
  rcases hprev with ⟨rfl, rfl⟩ | ⟨h, rfl, rfl⟩
  · exact br_t (by decide) (h0 (decide_eq_false (fun z => absurd z.1 (by omega))))
  · have vb : rg_BK (b p) := by
      rcases hV p hp with z | z
      · exact absurd z.1 hm
      · exact z.2
    refine br_c (fun z => h0 ?_) (fun z => br_c (fun k => ?_) (fun k => h0 (decide_eq_false (fun t => k t.2.2.1.symm))))
    · refine decide_eq_false (fun t => ?_)
      rcases hV (p - 1) (by omega) with ⟨w, _⟩ | ⟨w, _⟩
      · exact t.2.1 (t.2.2.1.trans w)
      · rw [Int32.lt_iff_toInt_lt, rg_i0] at z
        have := w.1
        omega
    · have hm1 : ¬ a (p - 1) = -6 := by rw [k]; exact hm
      have vb1 : rg_BK (b (p - 1)) := by
        rcases hV (p - 1) (by omega) with z | z
        · exact absurd z.1 hm1
        · exact z.2
      have tl : ¬ (b (p - 1) = 0 ∧ b p = 0) → wL_continues_17 post (b (p - 1)) (b p) := by
        intro hq
        refine br_c (fun r => h0 (decide_eq_false (fun t => t.2.2.2.elim hq (fun y => ?_)))) (fun r => br_c (fun r2 => ⟨rg_k0, rg_k0, br_c (fun r3 => h1 (decide_eq_true ⟨h, hm, k.symm, Or.inr ⟨r2, r3⟩⟩)) (fun r3 => h0 (decide_eq_false (fun t => t.2.2.2.elim hq (fun y => r3 y.2))))⟩) (fun r2 => h0 (decide_eq_false (fun t => t.2.2.2.elim hq (fun y => r2 y.1)))))
        rw [Int32.lt_iff_toInt_lt, rg_i1024] at r
        rcases vb1 with w | w
        · rw [w] at y
          rcases vb with v | v
          · exact hq ⟨w, v⟩
          · rw [y.1] at v
            exact absurd v.1 (by decide)
        · omega
      exact br_c (fun q => br_c (fun q2 => h1 (decide_eq_true ⟨h, hm, k.symm, Or.inl ⟨q, q2⟩⟩)) (fun q2 => tl (fun y => q2 y.2))) (fun q => tl (fun y => q y.1))
theorem lr_out {post : Int32 → Prop} {L : Nat} {xs : Nat → Int32} {J : Int32 → Int32 → Int32 → Nat → Nat → Int32 → Int32 → (Nat → Int32) → (Nat → Int32) → (Nat → Int32) → (Nat → Int32) → Int32 → Int32 → (Nat → Int32) → (Nat → Int32) → (Nat → Int32) → (Nat → Int32) → Prop} {kc ks P : Nat} {f1 g0 g1 : Int32} {a b d e a2 b2 d2 e2 : Nat → Int32} {K : Int32 → Int32 → Int32 → Int32 → Prop} {x4 x7 x28 x29 x30 x31 : Int32} {p : Nat} (hP : P ≤ 256) (hp : p < P) (hf : a p = -6 ∧ b p = -6) (hK : K x29 (a p) (b p) (nI (p + 1))) : wL_law_1503 post L xs J K (nI P) x4 x7 x28 x29 x30 x31 (nI p) 0 kc ks (nI P) f1 a b d e g0 g1 a2 b2 d2 e2 := by
  unfold wL_law_1503
  refine lr_pO hP hp (lr_bO hP hp ?_)
  rw [hf.1, hf.2] at hK ⊢
  exact br_t (by decide) (br_t rfl (br_t (by decide) (br_t rfl (br_t rfl (nm_r (nI_1 p) hK)))))
theorem lr_in {post : Int32 → Prop} {L : Nat} {xs : Nat → Int32} {J : Int32 → Int32 → Int32 → Nat → Nat → Int32 → Int32 → (Nat → Int32) → (Nat → Int32) → (Nat → Int32) → (Nat → Int32) → Int32 → Int32 → (Nat → Int32) → (Nat → Int32) → (Nat → Int32) → (Nat → Int32) → Prop} {kc ks P : Nat} {f1 g0 g1 : Int32} {a b d e a2 b2 d2 e2 : Nat → Int32} {K : Int32 → Int32 → Int32 → Int32 → Prop} {x4 x7 x28 x30 x31 : Int32} {p k : Nat} (hP : P ≤ 256) (hV : lq_V P a b) (hp : p < P) (hm : ¬ a p = -6) (hprev : (p = 0 ∧ x30 = -1) ∨ (1 ≤ p ∧ x30 = a (p - 1) ∧ x31 = b (p - 1))) (hk : k < rg_cn (rg_st a b) 0 P) (hc : rg_co a b p = false → k = rg_cn (rg_st a b) 0 p) (hK : K (nI k) (a p) (b p) (nI (p + 1))) : wL_law_1503 post L xs J K (nI P) x4 x7 x28 (nI k) x30 x31 (nI p) 1 kc ks (nI P) f1 a b d e g0 g1 a2 b2 d2 e2 := by
  unfold wL_law_1503
  have v : rg_PT (a p) ∧ rg_BK (b p) := by
    rcases hV p hp with z | z
    · exact absurd z.1 hm
    · exact z
  have va : ¬ a p < 0 := by
    rw [Int32.lt_iff_toInt_lt, rg_i0]
    have := v.1.1
    omega
  have vb : ¬ b p < 0 := by
    rw [Int32.lt_iff_toInt_lt, rg_i0]
    rcases v.2 with w | w
    · rw [w, rg_i0]; omega
    · omega
  refine lr_pO hP hp (lr_bO hP hp (br_f va (br_t rfl (br_f vb (br_t rfl (br_f rg_10 ?_))))))
  refine lr_cont hV hp hm hprev (fun co => rx_rs1 hP hk (fun t h1 h2 h3 => pk_eq p t (fun z => ?_) (fun z => br_f rg_10 (nm_r (nI_1 p) hK)))) (fun co => rx_rs1 hP hk (fun t h1 h2 h3 => pk_eq p t (fun z => br_f (by decide) (nm_r (nI_1 p) hK)) (fun z => ?_)))
  · rw [← z, lq_co_st co] at h2
    exact absurd h2 Bool.false_ne_true
  · exact absurd (rg_st_u (lq_st_c hm co) h2 (by rw [h3, hc co])) z
theorem lr_1479 {post : Int32 → Prop} {L : Nat} {xs : Nat → Int32} {J : Int32 → Int32 → Int32 → Nat → Nat → Int32 → Int32 → (Nat → Int32) → (Nat → Int32) → (Nat → Int32) → (Nat → Int32) → Int32 → Int32 → (Nat → Int32) → (Nat → Int32) → (Nat → Int32) → (Nat → Int32) → Prop} {kc ks P : Nat} {f1 g0 g1 : Int32} {a b d e a2 b2 d2 e2 : Nat → Int32} {K : Int32 → Int32 → Int32 → Int32 → Prop} {x4 x7 x30 x31 : Int32} {p : Nat} (hP : P ≤ 256) (hV : lq_V P a b) (hp : p < P) (hprev : (p = 0 ∧ x30 = -1) ∨ (1 ≤ p ∧ x30 = a (p - 1) ∧ x31 = b (p - 1))) (hco : rg_co a b p = false) (hK : K (nI (rg_cn (rg_st a b) 0 p)) (a p) (b p) (nI (p + 1))) : wL_law_1479 post L xs J K (nI P) x4 x7 (nI (rg_cn (rg_st a b) 0 P)) (nI (rg_cn (rg_st a b) 0 p)) x30 x31 (nI p) kc ks (nI P) f1 a b d e g0 g1 a2 b2 d2 e2 := by
  have hle := rg_cn_le (rg_st a b) 0 P
  have hlp := rg_cn_le (rg_st a b) 0 p
  have hfree : a p = -6 → a p = -6 ∧ b p = -6 := fun z => by
    rcases hV p hp with w | w
    · exact w
    · exact absurd z (rg_PT_6 w.1)
  refine pk_le (rg_cn (rg_st a b) 0 P) (rg_cn (rg_st a b) 0 p) (fun z => ?_) (fun z => rx_rs1 hP z (fun t h1 h2 h3 => ?_))
  · by_cases hm : a p = -6
    · exact lr_out hP hp (hfree hm) hK
    · have := rg_cn_mono (p := rg_st a b) (s := 0) (show p + 1 ≤ P by omega)
      rw [rg_cn_st (lq_st_c hm hco)] at this
      omega
  · refine pk_lt p t (fun y => ?_) (fun y => ?_)
    · by_cases hm : a p = -6
      · exact lr_out hP hp (hfree hm) hK
      · exact absurd (rg_st_u (lq_st_c hm hco) h2 h3.symm) (by omega)
    · have et : t = p := by
        by_cases e : t = p
        · exact e
        · have := rg_cn_mono (p := rg_st a b) (s := 0) (show t + 1 ≤ p by omega)
          rw [rg_cn_st h2] at this
          omega
      rw [et] at h2
      exact lr_in hP hV hp (lq_st_m h2) hprev z (fun _ => rfl) hK
/-- the last loop's state at page p -/
def lr_I (a b : Nat → Int32) (p : Nat) (s : Nat × Int32 × Int32) : Prop := (p = 0 ∧ s.1 = 0 ∧ s.2.1 = -1 ∧ s.2.2 = -1) ∨ (1 ≤ p ∧ s.2.1 = a (p - 1) ∧ s.2.2 = b (p - 1) ∧ ((a (p - 1) = -6 ∧ s.1 = rg_cn (rg_st a b) 0 p) ∨ (¬ a (p - 1) = -6 ∧ s.1 + 1 = rg_cn (rg_st a b) 0 p)))
theorem lr_I_s {P : Nat} {a b : Nat → Int32} {p k : Nat} (hc : rg_co a b p = false) (hk : k = rg_cn (rg_st a b) 0 p) : lr_I a b (p + 1) (k, a p, b p) := by
  refine Or.inr ⟨by omega, rfl, rfl, ?_⟩
  by_cases hm : a p = -6
  · exact Or.inl ⟨hm, by rw [rg_cn_sf (lq_st_f hm)]; exact hk⟩
  · exact Or.inr ⟨hm, by rw [rg_cn_st (lq_st_c hm hc), ← hk]⟩
theorem lr_1443 {post : Int32 → Prop} {L : Nat} {xs : Nat → Int32} {J : Int32 → Int32 → Int32 → Nat → Nat → Int32 → Int32 → (Nat → Int32) → (Nat → Int32) → (Nat → Int32) → (Nat → Int32) → Int32 → Int32 → (Nat → Int32) → (Nat → Int32) → (Nat → Int32) → (Nat → Int32) → Prop} {kc ks P : Nat} {f1 g0 g1 : Int32} {a b d e a2 b2 d2 e2 : Nat → Int32} {x4 x7 : Int32} (hP : P ≤ 256) (hV : lq_V P a b) (h0 : x7 = 0 → J (nI P) x4 2 kc ks (nI P) f1 a b d e g0 g1 a2 b2 d2 e2) (h1 : ¬ x7 = 0 → J (nI P) x4 (x7 + 5) kc ks (nI P) f1 a b d e g0 g1 a2 b2 d2 e2) : ∃ n, wL_law_1443 post L xs J (nI P) x4 x7 (nI (rg_cn (rg_st a b) 0 P)) kc ks (nI P) f1 a b d e g0 g1 a2 b2 d2 e2 n 0 (-1) (-1) 0 := by
  have hle := rg_cn_le (rg_st a b) 0 P
  refine pk_loop (fun n p (s : Nat × Int32 × Int32) => wL_law_1443 post L xs J (nI P) x4 x7 (nI (rg_cn (rg_st a b) 0 P)) kc ks (nI P) f1 a b d e g0 g1 a2 b2 d2 e2 n (nI s.1) s.2.1 s.2.2 (nI p)) (fun p s => lr_I a b p s) P 0 (0, -1, -1) (Nat.zero_le _) (Or.inl ⟨rfl, rfl, rfl, rfl⟩) (fun n s hs => ?_) (fun n p s hp hs hw => ?_)
  · exact pk_le P P (fun _ => br_c h0 (fun z => nm_e (h1 z))) (fun z => absurd z (by omega))
  · obtain ⟨k, pp, pb⟩ := s
    have hprev : (p = 0 ∧ pp = -1) ∨ (1 ≤ p ∧ pp = a (p - 1) ∧ pb = b (p - 1)) := by
      rcases hs with ⟨z1, z2, z3, z4⟩ | ⟨z1, z2, z3, z4⟩
      · exact Or.inl ⟨z1, z3⟩
      · exact Or.inr ⟨z1, z2, z3⟩
    have hlp := rg_cn_le (rg_st a b) 0 p
    have hmo := rg_cn_mono (p := rg_st a b) (s := 0) (show p ≤ P by omega)
    refine pk_le P p (fun z => absurd z (by omega)) (fun _ => ?_)
    by_cases hM : 1 ≤ p ∧ ¬ a (p - 1) = -6
    · have ek : k + 1 = rg_cn (rg_st a b) 0 p := by
        rcases hs with ⟨z1, z2, z3, z4⟩ | ⟨z1, z2, z3, z4 | z4⟩
        · omega
        · exact absurd z4.1 hM.2
        · exact z4.2
      obtain ⟨t0, t1, t2, t3, t4⟩ := lq_last (b := b) hM.2
      rw [show p - 1 + 1 = p from by omega] at t3
      refine pk_le (rg_cn (rg_st a b) 0 P) k (fun z => absurd z (by omega)) (fun hk => rx_reg hP hk (fun t l hG => ?_))
      have et : t = t0 := rg_st_u hG.2.1 t2 (by rw [hG.2.2.1]; omega)
      subst et
      obtain ⟨g1, g2, g3, g4, g5, g6, g7⟩ := hG
      have hpe : p ≤ t + l := by
        by_cases e : p ≤ t + l
        · exact e
        · rcases g7 with g7 | g7
          · omega
          · rw [t4 (t + l) (by omega) (by omega)] at g7
            exact absurd g7.symm Bool.false_ne_true
      refine pk_lt p (t + l) (fun z => ?_) (fun z => nm_r (nI_1 k) ?_) (hy := nI_add t l)
      · have co : rg_co a b p = true := by
          have := g6 (p - t) (by omega) (by omega)
          rw [show t + (p - t) = p from by omega] at this
          exact this
        refine pk_le (rg_cn (rg_st a b) 0 P) k (fun z => absurd z (by omega)) (fun _ => rx_rs1 hP hk (fun t' h1 h2 h3 => ?_))
        have et : t' = t := rg_st_u h2 t2 (by rw [h3]; omega)
        refine pk_lt p t' (fun z => absurd z (by omega)) (fun _ => lr_in hP hV hp (lq_co_x co).2.1 hprev hk (fun z => by rw [co] at z; exact absurd z.symm Bool.false_ne_true) (hw (k, a p, b p) ?_))
        exact Or.inr ⟨by omega, rfl, rfl, Or.inr ⟨(lq_co_x co).2.1, by rw [rg_cn_sf (lq_co_st co)]; exact ek⟩⟩
      · have co : rg_co a b p = false := by
          rcases g7 with g7 | g7
          · omega
          · rw [show t + l = p from by omega] at g7
            exact g7
        rw [ek]
        exact lr_1479 hP hV hp hprev co (hw (_, a p, b p) (lr_I_s (P := P) co rfl))
    · have ek : k = rg_cn (rg_st a b) 0 p := by
        rcases hs with ⟨z1, z2, z3, z4⟩ | ⟨z1, z2, z3, z4 | z4⟩
        · rw [z1]; exact z2
        · exact z4.2
        · exact absurd ⟨z1, z4.1⟩ hM
      have co : rg_co a b p = false := by
        by_cases c : rg_co a b p = true
        · exact absurd ⟨(lq_co_x c).1, (lq_co_x c).2.2⟩ hM
        · exact Bool.eq_false_iff.mpr c
      subst ek
      have fin := lr_1479 (post := post) (L := L) (xs := xs) (J := J) (kc := kc) (ks := ks) (f1 := f1) (g0 := g0) (g1 := g1) (d := d) (e := e) (a2 := a2) (b2 := b2) (d2 := d2) (e2 := e2) (x4 := x4) (x7 := x7) hP hV hp hprev co (hw (_, a p, b p) (lr_I_s (P := P) co rfl))
      refine pk_le (rg_cn (rg_st a b) 0 P) (rg_cn (rg_st a b) 0 p) (fun z => fin) (fun hk => rx_reg hP hk (fun t l hG => ?_))
      obtain ⟨g1, g2, g3, g4, g5, g6, g7⟩ := hG
      refine pk_lt p (t + l) (fun z => fin) (fun z => ?_) (hy := nI_add t l)
      have := rg_cn_mono (p := rg_st a b) (s := 0) (show t + 1 ≤ p by omega)
      rw [rg_cn_st g2] at this
      omega
theorem lr_64 {t l P : Nat} (h : t + l ≤ P) (hP : P ≤ 256) : (nI t).toInt64 + (nI l).toInt64 ≤ (nI P).toInt64 := by
  rw [nI_l (by omega), nI_l (by omega), nI_l (by omega), lN_add, lN_le (by omega) (by omega)]
  exact h
theorem lr_1346 {post : Int32 → Prop} {L : Nat} {xs : Nat → Int32} {J : Int32 → Int32 → Int32 → Nat → Nat → Int32 → Int32 → (Nat → Int32) → (Nat → Int32) → (Nat → Int32) → (Nat → Int32) → Int32 → Int32 → (Nat → Int32) → (Nat → Int32) → (Nat → Int32) → (Nat → Int32) → Prop} {kc ks P : Nat} {f1 g0 g1 : Int32} {a b d e a2 b2 d2 e2 : Nat → Int32} {x4 x7 : Int32} (hP : P ≤ 256) (hV : lq_V P a b) (h0 : x7 = 0 → J (nI P) x4 2 kc ks (nI P) f1 a b d e g0 g1 a2 b2 d2 e2) (h1 : ¬ x7 = 0 → J (nI P) x4 (x7 + 5) kc ks (nI P) f1 a b d e g0 g1 a2 b2 d2 e2) : ∃ n, wL_law_1346 post L xs J (nI P) x4 x7 (nI (rg_cn (rg_st a b) 0 P)) kc ks (nI P) f1 a b d e g0 g1 a2 b2 d2 e2 n 0 := by
  have hle := rg_cn_le (rg_st a b) 0 P
  refine pk_loop (σ := Unit) (fun n k _ => wL_law_1346 post L xs J (nI P) x4 x7 (nI (rg_cn (rg_st a b) 0 P)) kc ks (nI P) f1 a b d e g0 g1 a2 b2 d2 e2 n (nI k)) (fun _ _ => True) (rg_cn (rg_st a b) 0 P) 0 () (Nat.zero_le _) trivial (fun n _ _ => ?_) (fun n k _ hk _ hw => ?_)
  · exact pk_le (rg_cn (rg_st a b) 0 P) (rg_cn (rg_st a b) 0 P) (fun _ => lr_1443 hP hV h0 h1) (fun z => absurd z (by omega))
  · refine pk_le (rg_cn (rg_st a b) 0 P) k (fun z => absurd z (by omega)) (fun _ => rx_reg hP hk (fun t l hG => ?_))
    have hG' := hG
    obtain ⟨g1, g2, g3, g4, g5, g6, g7⟩ := hG
    refine br_f (nI_pos (by omega)) (br_f (nI_nlt (b := 1) (by omega) (by omega)) (br_t (lr_64 g5 hP) ?_))
    rw [nI_1]
    refine pk_le (rg_cn (rg_st a b) 0 P) (k + 1) (fun z => nm_e (hw () trivial)) (fun z => rx_rs1 hP z (fun t2 h1 h2 h3 => ?_))
    have hn := lq_next hG' h2 h3
    exact pk_le (t + l) t2 (fun _ => nm_e (hw () trivial)) (fun y => absurd y (by omega)) (hx := nI_add t l)
end
section
/-! the two turns: the call, and every page compared -/
abbrev lc_T : Type := Int32 × Int32 × Int32 × Int32 × Int32 × Int32 × Int32 × Int32 × Int32 × Int32 × Int32 × Int32 × Int32 × Nat × Nat × Int32 × Int32 × (Nat → Int32) × (Nat → Int32) × (Nat → Int32) × (Nat → Int32) × Int32 × Int32 × (Nat → Int32) × (Nat → Int32) × (Nat → Int32) × (Nat → Int32)
theorem lc_within {post : Int32 → Prop} {p t l : Nat} (hp : p < 1000) (ht : t < 1000) (hl : l < 1000) (h1 : t ≤ p ∧ p < t + l → post 1) (h0 : ¬ (t ≤ p ∧ p < t + l) → post 0) : wpL_within post () (nI p) (nI t) (nI l) := by
  refine pk_lt p t (fun z => h0 (by omega)) (fun z => br_c (fun k => h0 ?_) (fun k => h1 ?_))
  · rw [nI_l (by omega), nI_l (by omega), nI_l (by omega), lN_add, lN_le (by omega) (by omega)] at k
    omega
  · rw [nI_l (by omega), nI_l (by omega), nI_l (by omega), lN_add, lN_le (by omega) (by omega)] at k
    omega
theorem lc_1284 {post : Int32 → Prop} {L : Nat} {xs : Nat → Int32} {J : Int32 → Int32 → Int32 → Nat → Nat → Int32 → Int32 → (Nat → Int32) → (Nat → Int32) → (Nat → Int32) → (Nat → Int32) → Int32 → Int32 → (Nat → Int32) → (Nat → Int32) → (Nat → Int32) → (Nat → Int32) → Prop} {kc ks P : Nat} {f1 g1 : Int32} {a b d e a2 b2 d2 e2 : Nat → Int32} {J8 : Int32 → Int32 → Int32 → Int32 → Int32 → Int32 → Int32 → Int32 → Int32 → Int32 → Int32 → Nat → Nat → Int32 → Int32 → (Nat → Int32) → (Nat → Int32) → (Nat → Int32) → (Nat → Int32) → Int32 → Int32 → (Nat → Int32) → (Nat → Int32) → (Nat → Int32) → (Nat → Int32) → Prop} {x3 x4 x7 x13 x15 x19 x20 x21 x23 x27 x28 x31 : Int32} {K : (lc_T ⊕ lc_T ⊕ lc_T ⊕ lc_T) → Prop} {x34 x35 : Int32} {p : Nat} (hP : P ≤ 256) (hp : p < P) (q1 : a2 p = x34) (q2 : b2 p = x35) (hK : K (.inl (x3, x4, x7, x13, x15, x19, x20, x21, x23, x27, x28, x31, nI (p + 1), kc, ks, nI P, f1, a, b, d, e, nI P, g1, a2, b2, d2, e2))) : wL_law_1284 post L xs J J8 K x3 x4 x7 x13 x15 x19 x20 x21 x23 x27 x28 x31 (nI p) x34 x35 kc ks (nI P) f1 a b d e (nI P) g1 a2 b2 d2 e2 := by
  unfold wL_law_1284
  exact lr_pO hP hp (br_t q1 (lr_bO hP hp (br_t q2 (nm_r (nI_1 p) hK))))
theorem lc_1284_4 {post : Int32 → Prop} {L : Nat} {xs : Nat → Int32} {J : Int32 → Int32 → Int32 → Nat → Nat → Int32 → Int32 → (Nat → Int32) → (Nat → Int32) → (Nat → Int32) → (Nat → Int32) → Int32 → Int32 → (Nat → Int32) → (Nat → Int32) → (Nat → Int32) → (Nat → Int32) → Prop} {kc ks P : Nat} {f1 g1 : Int32} {a b d e a2 b2 d2 e2 : Nat → Int32} {J8 : Int32 → Int32 → Int32 → Int32 → Int32 → Int32 → Int32 → Int32 → Int32 → Int32 → Int32 → Nat → Nat → Int32 → Int32 → (Nat → Int32) → (Nat → Int32) → (Nat → Int32) → (Nat → Int32) → Int32 → Int32 → (Nat → Int32) → (Nat → Int32) → (Nat → Int32) → (Nat → Int32) → Prop} {x3 x4 x7 x13 x15 x19 x20 x21 x23 x27 x28 x31 : Int32} {K : (lc_T ⊕ lc_T ⊕ lc_T ⊕ lc_T) → Prop} {x34 x35 : Int32} {p : Nat} (hP : P ≤ 256) (hp : p < P) (q1 : a p = x34) (q2 : b p = x35) (hK : K (.inr (.inr (.inr (x3, x4, x7, x13, x15, x19, x20, x21, x23, x27, x28, x31, nI (p + 1), kc, ks, nI P, f1, a, b, d, e, nI P, g1, a2, b2, d2, e2))))) : wL_law_1284_4 post L xs J J8 K x3 x4 x7 x13 x15 x19 x20 x21 x23 x27 x28 x31 (nI p) x34 x35 kc ks (nI P) f1 a b d e (nI P) g1 a2 b2 d2 e2 := by
  unfold wL_law_1284_4
  exact lr_pO hP hp (br_t q1 (lr_bO hP hp (br_t q2 (nm_r (nI_1 p) hK))))
theorem lc_turn1 {post : Int32 → Prop} {L : Nat} {xs : Nat → Int32} {J : Int32 → Int32 → Int32 → Nat → Nat → Int32 → Int32 → (Nat → Int32) → (Nat → Int32) → (Nat → Int32) → (Nat → Int32) → Int32 → Int32 → (Nat → Int32) → (Nat → Int32) → (Nat → Int32) → (Nat → Int32) → Prop} {kc ks P : Nat} {f1 g1 : Int32} {a b d e a2 b2 d2 e2 : Nat → Int32} {J8 : Int32 → Int32 → Int32 → Int32 → Int32 → Int32 → Int32 → Int32 → Int32 → Int32 → Int32 → Nat → Nat → Int32 → Int32 → (Nat → Int32) → (Nat → Int32) → (Nat → Int32) → (Nat → Int32) → Int32 → Int32 → (Nat → Int32) → (Nat → Int32) → (Nat → Int32) → (Nat → Int32) → Prop} {x4 x7 x13 x15 x19 x20 x21 x23 x27 x31 : Int32} (hP : P ≤ 256) (ea : a2 = a) (eb : b2 = b) (hJ : J8 (nI P) x4 x7 x13 x15 x19 x20 x21 x23 x27 2 kc ks (nI P) f1 a b d e (nI P) g1 a2 b2 d2 e2) : ∃ n, wL_law_1067 post L xs J J8 n (.inl (nI P, x4, x7, x13, x15, x19, x20, x21, x23, x27, 1, x31, 0, kc, ks, nI P, f1, a, b, d, e, nI P, g1, a2, b2, d2, e2)) := by
  refine pk_loop (σ := Unit) (fun n p _ => wL_law_1067 post L xs J J8 n (.inl (nI P, x4, x7, x13, x15, x19, x20, x21, x23, x27, 1, x31, nI p, kc, ks, nI P, f1, a, b, d, e, nI P, g1, a2, b2, d2, e2))) (fun _ _ => True) P 0 () (Nat.zero_le _) trivial (fun n _ _ => ?_) (fun n p _ hp _ hw => ?_)
  · exact pk_le P P (fun _ => nm_r (show (1 : Int32) + 1 = 2 by decide) hJ) (fun z => absurd z (by omega))
  · have st : wL_law_1089 post L xs J J8 (wL_law_1067 post L xs J J8 n) (nI P) x4 x7 x13 x15 x19 x20 x21 x23 x27 1 x31 (nI p) kc ks (nI P) f1 a b d e (nI P) g1 a2 b2 d2 e2 := by
      unfold wL_law_1089 wL_law_1090
      refine br_t rfl (lr_pO hP hp ?_)
      unfold wL_law_1109
      refine br_t rfl (lr_bO hP hp ?_)
      exact br_f rg_10 (lc_1284 hP hp (by rw [ea]) (by rw [eb]) (hw () trivial))
    exact pk_le P p (fun z => absurd z (by omega)) (fun _ => br_c (fun _ => br_f rg_10 st) (fun _ => st))
theorem lc_turn0 {post : Int32 → Prop} {L : Nat} {xs : Nat → Int32} {J : Int32 → Int32 → Int32 → Nat → Nat → Int32 → Int32 → (Nat → Int32) → (Nat → Int32) → (Nat → Int32) → (Nat → Int32) → Int32 → Int32 → (Nat → Int32) → (Nat → Int32) → (Nat → Int32) → (Nat → Int32) → Prop} {kc ks P : Nat} {f1 g1 : Int32} {a b d e a2 b2 d2 e2 : Nat → Int32} {J8 : Int32 → Int32 → Int32 → Int32 → Int32 → Int32 → Int32 → Int32 → Int32 → Int32 → Int32 → Nat → Nat → Int32 → Int32 → (Nat → Int32) → (Nat → Int32) → (Nat → Int32) → (Nat → Int32) → Int32 → Int32 → (Nat → Int32) → (Nat → Int32) → (Nat → Int32) → (Nat → Int32) → Prop} {x4 x7 x13 x15 x19 x20 x21 x23 x27 x31 : Int32} (hP : P ≤ 256) (h8 : ¬ x13 = 8) (hJ : J8 (nI P) x4 x7 x13 x15 x19 x20 x21 x23 x27 1 kc ks (nI P) f1 a b d e (nI P) g1 a2 b2 d2 e2)
    (hs : ∀ (K : (lc_T ⊕ lc_T ⊕ lc_T ⊕ lc_T) → Prop) (p : Nat), p < P → K (.inr (.inr (.inr (nI P, x4, x7, x13, x15, x19, x20, x21, x23, x27, 0, x31, nI (p + 1), kc, ks, nI P, f1, a, b, d, e, nI P, g1, a2, b2, d2, e2)))) → wL_law_1128_4 post L xs J J8 K (nI P) x4 x7 x13 x15 x19 x20 x21 x23 x27 0 x31 (nI p) (a2 p) (b2 p) kc ks (nI P) f1 a b d e (nI P) g1 a2 b2 d2 e2) : ∃ n, wL_law_1067 post L xs J J8 n (.inr (.inr (.inr (nI P, x4, x7, x13, x15, x19, x20, x21, x23, x27, 0, x31, 0, kc, ks, nI P, f1, a, b, d, e, nI P, g1, a2, b2, d2, e2)))) := by
  refine pk_loop (σ := Unit) (fun n p _ => wL_law_1067 post L xs J J8 n (.inr (.inr (.inr (nI P, x4, x7, x13, x15, x19, x20, x21, x23, x27, 0, x31, nI p, kc, ks, nI P, f1, a, b, d, e, nI P, g1, a2, b2, d2, e2))))) (fun _ _ => True) P 0 () (Nat.zero_le _) trivial (fun n _ _ => ?_) (fun n p _ hp _ hw => ?_)
  · exact pk_le P P (fun _ => nm_r (show (0 : Int32) + 1 = 1 by decide) hJ) (fun z => absurd z (by omega))
  · refine pk_le P p (fun z => absurd z (by omega)) (fun _ => br_f h8 ?_)
    unfold wL_law_1089_4 wL_law_1090_4
    refine br_t rfl (lr_pO hP hp ?_)
    unfold wL_law_1109_4
    exact br_t rfl (lr_bO hP hp (hs _ p hp (hw () trivial)))
theorem lc_fresh {post : Int32 → Prop} {L : Nat} {xs : Nat → Int32} {J : Int32 → Int32 → Int32 → Nat → Nat → Int32 → Int32 → (Nat → Int32) → (Nat → Int32) → (Nat → Int32) → (Nat → Int32) → Int32 → Int32 → (Nat → Int32) → (Nat → Int32) → (Nat → Int32) → (Nat → Int32) → Prop} {kc ks P : Nat} {f1 g1 : Int32} {a b d e a2 b2 d2 e2 : Nat → Int32} {J8 : Int32 → Int32 → Int32 → Int32 → Int32 → Int32 → Int32 → Int32 → Int32 → Int32 → Int32 → Nat → Nat → Int32 → Int32 → (Nat → Int32) → (Nat → Int32) → (Nat → Int32) → (Nat → Int32) → Int32 → Int32 → (Nat → Int32) → (Nat → Int32) → (Nat → Int32) → (Nat → Int32) → Prop} {x4 x7 x13 x15 x19 x20 x21 x23 x27 x31 : Int32} (hP : P ≤ 256) (hf : ∀ j, j < P → a j = -6 ∧ b j = -6) (hJ : J8 (nI P) x4 x7 8 x15 x19 x20 x21 x23 x27 1 kc ks (nI P) f1 a b d e (nI P) g1 a2 b2 d2 e2) : ∃ n, wL_law_1067 post L xs J J8 n (.inr (.inr (.inr (nI P, x4, x7, 8, x15, x19, x20, x21, x23, x27, 0, -1, 0, kc, ks, nI P, f1, a, b, d, e, nI P, g1, a2, b2, d2, e2)))) := by
  refine pk_loop (σ := Unit) (fun n p _ => wL_law_1067 post L xs J J8 n (.inr (.inr (.inr (nI P, x4, x7, 8, x15, x19, x20, x21, x23, x27, 0, -1, nI p, kc, ks, nI P, f1, a, b, d, e, nI P, g1, a2, b2, d2, e2))))) (fun _ _ => True) P 0 () (Nat.zero_le _) trivial (fun n _ _ => ?_) (fun n p _ hp _ hw => ?_)
  · exact pk_le P P (fun _ => nm_r (show (0 : Int32) + 1 = 1 by decide) hJ) (fun z => absurd z (by omega))
  · refine pk_le P p (fun z => absurd z (by omega)) (fun _ => br_t rfl (br_t rfl ?_))
    unfold wL_law_1090_4
    refine br_f rg_10 ?_
    unfold wL_law_1109_4
    refine br_f rg_10 ?_
    exact br_t rfl (br_t (by decide) (lc_1284_4 hP hp (hf p hp).1 (hf p hp).2 (hw () trivial)))
theorem lc_neg {post : Int32 → Prop} {L : Nat} {xs : Nat → Int32} {J : Int32 → Int32 → Int32 → Nat → Nat → Int32 → Int32 → (Nat → Int32) → (Nat → Int32) → (Nat → Int32) → (Nat → Int32) → Int32 → Int32 → (Nat → Int32) → (Nat → Int32) → (Nat → Int32) → (Nat → Int32) → Prop} {kc ks P : Nat} {f1 g1 : Int32} {a b d e a2 b2 d2 e2 : Nat → Int32} {J8 : Int32 → Int32 → Int32 → Int32 → Int32 → Int32 → Int32 → Int32 → Int32 → Int32 → Int32 → Nat → Nat → Int32 → Int32 → (Nat → Int32) → (Nat → Int32) → (Nat → Int32) → (Nat → Int32) → Int32 → Int32 → (Nat → Int32) → (Nat → Int32) → (Nat → Int32) → (Nat → Int32) → Prop} {K : (lc_T ⊕ lc_T ⊕ lc_T ⊕ lc_T) → Prop} {x4 x7 x13 x15 x19 x20 x21 x23 x27 x31 : Int32} {p : Nat} (hP : P ≤ 256) (hn : x31 < 0) (ea : a = a2) (eb : b = b2) (hp : p < P) (hK : K (.inr (.inr (.inr (nI P, x4, x7, x13, x15, x19, x20, x21, x23, x27, 0, x31, nI (p + 1), kc, ks, nI P, f1, a, b, d, e, nI P, g1, a2, b2, d2, e2))))) : wL_law_1128_4 post L xs J J8 K (nI P) x4 x7 x13 x15 x19 x20 x21 x23 x27 0 x31 (nI p) (a2 p) (b2 p) kc ks (nI P) f1 a b d e (nI P) g1 a2 b2 d2 e2 := by
  unfold wL_law_1128_4
  exact br_t rfl (br_t hn (lc_1284_4 hP hp (by rw [ea]) (by rw [eb]) hK))
theorem lc_sub {t p : Nat} (h : t ≤ p) (x : Int32) : x + nI p - nI t = x + nI (p - t) := by
  have e : nI p = nI t + nI (p - t) := by rw [nI_add]; exact congrArg nI (by omega)
  rw [e]
  grind
theorem lc_fill {post : Int32 → Prop} {L : Nat} {xs : Nat → Int32} {J : Int32 → Int32 → Int32 → Nat → Nat → Int32 → Int32 → (Nat → Int32) → (Nat → Int32) → (Nat → Int32) → (Nat → Int32) → Int32 → Int32 → (Nat → Int32) → (Nat → Int32) → (Nat → Int32) → (Nat → Int32) → Prop} {kc ks P : Nat} {f1 g1 : Int32} {a b d e a2 b2 d2 e2 : Nat → Int32} {J8 : Int32 → Int32 → Int32 → Int32 → Int32 → Int32 → Int32 → Int32 → Int32 → Int32 → Int32 → Nat → Nat → Int32 → Int32 → (Nat → Int32) → (Nat → Int32) → (Nat → Int32) → (Nat → Int32) → Int32 → Int32 → (Nat → Int32) → (Nat → Int32) → (Nat → Int32) → (Nat → Int32) → Prop} {K : (lc_T ⊕ lc_T ⊕ lc_T ⊕ lc_T) → Prop} {x4 x7 x13 x15 x19 x20 x21 x23 x27 x31 : Int32} {p : Nat} {o : Nat} (hP : P ≤ 256) (ho : o ≤ 3) (h13 : x13 = nI o) (hn : ¬ x31 < 0) (hE : lq_Ef P a2 b2 x19 x21 x23 x27 a b) (hp : p < P) (hK : K (.inr (.inr (.inr (nI P, x4, x7, x13, x15, x19, x20, x21, x23, x27, 0, x31, nI (p + 1), kc, ks, nI P, f1, a, b, d, e, nI P, g1, a2, b2, d2, e2))))) : wL_law_1128_4 post L xs J J8 K (nI P) x4 x7 x13 x15 x19 x20 x21 x23 x27 0 x31 (nI p) (a2 p) (b2 p) kc ks (nI P) f1 a b d e (nI P) g1 a2 b2 d2 e2 := by
  obtain ⟨t, l, rfl, rfl, hl, ea, eb⟩ := hE
  subst h13
  have c3 : ¬ (3 : Int32) < nI o := nI_nlt (a := 3) ho (by omega)
  have c5 : ¬ nI o = 5 := fun z => absurd ((nI_eq (a := o) (b := 5) (by omega) (by omega)).mp z) (by omega)
  have c4 : ¬ nI o = 4 := fun z => absurd ((nI_eq (a := o) (b := 4) (by omega) (by omega)).mp z) (by omega)
  have c6 : nI o < 6 := nI_lt (b := 6) (by omega) (by omega)
  unfold wL_law_1128_4
  refine br_t rfl (br_f hn (lc_within (by omega) (by omega) (by omega) (fun h => br_f c3 (br_f rg_10 ?_)) (fun h => br_f c3 (br_t rfl ?_))))
  · refine br_c (fun z => ?_) (fun z => ?_)
    · unfold wL_law_1183_4
      exact lc_1284_4 hP hp (by rw [ea, rg_on_t h]) (by rw [eb, rg_on_t h]; unfold rg_bk; rw [if_pos z]) hK
    · unfold wL_law_1183_4
      exact lc_1284_4 hP hp (by rw [ea, rg_on_t h]) (by rw [eb, rg_on_t h, lc_sub h.1]; unfold rg_bk; rw [if_neg z]) hK
  · unfold wL_law_1188_4
    refine br_f c5 ?_
    unfold wL_law_1206_4
    refine br_t c6 ?_
    unfold wL_law_1251_4
    exact br_f c4 (br_t c6 (lc_1284_4 hP hp (by rw [ea, rg_on_f h]) (by rw [eb, rg_on_f h]) hK))
theorem lc_unmap {post : Int32 → Prop} {L : Nat} {xs : Nat → Int32} {J : Int32 → Int32 → Int32 → Nat → Nat → Int32 → Int32 → (Nat → Int32) → (Nat → Int32) → (Nat → Int32) → (Nat → Int32) → Int32 → Int32 → (Nat → Int32) → (Nat → Int32) → (Nat → Int32) → (Nat → Int32) → Prop} {kc ks P : Nat} {f1 g1 : Int32} {a b d e a2 b2 d2 e2 : Nat → Int32} {J8 : Int32 → Int32 → Int32 → Int32 → Int32 → Int32 → Int32 → Int32 → Int32 → Int32 → Int32 → Nat → Nat → Int32 → Int32 → (Nat → Int32) → (Nat → Int32) → (Nat → Int32) → (Nat → Int32) → Int32 → Int32 → (Nat → Int32) → (Nat → Int32) → (Nat → Int32) → (Nat → Int32) → Prop} {K : (lc_T ⊕ lc_T ⊕ lc_T ⊕ lc_T) → Prop} {x4 x7 x13 x15 x19 x20 x21 x23 x27 x31 : Int32} {p : Nat} (hP : P ≤ 256) (h13 : x13 = 4) (e21 : x21 = x15) (hn : ¬ x31 < 0) (hE : lq_Eu P a2 b2 x15 x19 a b) (hp : p < P) (hK : K (.inr (.inr (.inr (nI P, x4, x7, x13, x15, x19, x20, x21, x23, x27, 0, x31, nI (p + 1), kc, ks, nI P, f1, a, b, d, e, nI P, g1, a2, b2, d2, e2))))) : wL_law_1128_4 post L xs J J8 K (nI P) x4 x7 x13 x15 x19 x20 x21 x23 x27 0 x31 (nI p) (a2 p) (b2 p) kc ks (nI P) f1 a b d e (nI P) g1 a2 b2 d2 e2 := by
  obtain ⟨s, l, rfl, rfl, hl, ea, eb⟩ := hE
  subst h13 e21
  have st : ∀ x36 : Int32, wL_law_1188_4 post L xs J J8 K (nI P) x4 x7 4 (nI s) (nI l) x20 (nI s) x23 x27 0 x31 (nI p) (a2 p) (b2 p) x36 kc ks (nI P) f1 a b d e (nI P) g1 a2 b2 d2 e2 := by
    intro x36
    unfold wL_law_1188_4
    refine br_f (by decide) ?_
    unfold wL_law_1206_4
    refine br_t (by decide) ?_
    unfold wL_law_1251_4
    refine br_t rfl ?_
    unfold wL_law_1264_4
    exact lc_within (by omega) (by omega) (by omega) (fun h => br_f rg_10 (lc_1284_4 hP hp (by rw [ea, rg_on_t h]) (by rw [eb, rg_on_t h]) hK)) (fun h => br_t rfl (lc_1284_4 hP hp (by rw [ea, rg_on_f h]) (by rw [eb, rg_on_f h]) hK))
  unfold wL_law_1128_4
  exact br_t rfl (br_f hn (lc_within (by omega) (by omega) (by omega) (fun h => br_t (by decide) (st _)) (fun h => br_t (by decide) (st _))))
theorem lc_prot {post : Int32 → Prop} {L : Nat} {xs : Nat → Int32} {J : Int32 → Int32 → Int32 → Nat → Nat → Int32 → Int32 → (Nat → Int32) → (Nat → Int32) → (Nat → Int32) → (Nat → Int32) → Int32 → Int32 → (Nat → Int32) → (Nat → Int32) → (Nat → Int32) → (Nat → Int32) → Prop} {kc ks P : Nat} {f1 g1 : Int32} {a b d e a2 b2 d2 e2 : Nat → Int32} {J8 : Int32 → Int32 → Int32 → Int32 → Int32 → Int32 → Int32 → Int32 → Int32 → Int32 → Int32 → Nat → Nat → Int32 → Int32 → (Nat → Int32) → (Nat → Int32) → (Nat → Int32) → (Nat → Int32) → Int32 → Int32 → (Nat → Int32) → (Nat → Int32) → (Nat → Int32) → (Nat → Int32) → Prop} {K : (lc_T ⊕ lc_T ⊕ lc_T ⊕ lc_T) → Prop} {x4 x7 x13 x15 x19 x20 x21 x23 x27 x31 : Int32} {p : Nat} (hP : P ≤ 256) (h13 : x13 = 5) (e21 : x21 = x15) (hn : ¬ x31 < 0) (hE : lq_Ep P a2 b2 x15 x19 x23 a b) (hp : p < P) (hK : K (.inr (.inr (.inr (nI P, x4, x7, x13, x15, x19, x20, x21, x23, x27, 0, x31, nI (p + 1), kc, ks, nI P, f1, a, b, d, e, nI P, g1, a2, b2, d2, e2))))) : wL_law_1128_4 post L xs J J8 K (nI P) x4 x7 x13 x15 x19 x20 x21 x23 x27 0 x31 (nI p) (a2 p) (b2 p) kc ks (nI P) f1 a b d e (nI P) g1 a2 b2 d2 e2 := by
  obtain ⟨s, l, rfl, rfl, hl, ea, eb⟩ := hE
  subst h13 e21
  unfold wL_law_1128_4
  refine br_t rfl (br_f hn (lc_within (by omega) (by omega) (by omega) (fun h => br_t (by decide) ?_) (fun h => br_t (by decide) ?_)))
  · unfold wL_law_1188_4
    exact br_t rfl (br_f rg_10 (lc_1284_4 hP hp (by rw [ea, rg_on_t h]) (by rw [eb]) hK))
  · unfold wL_law_1188_4
    refine br_t rfl (br_t rfl ?_)
    unfold wL_law_1206_4
    refine br_t (by decide) ?_
    unfold wL_law_1251_4
    exact br_f (by decide) (br_t (by decide) (lc_1284_4 hP hp (by rw [ea, rg_on_f h]) (by rw [eb]) hK))
theorem lc_move {post : Int32 → Prop} {L : Nat} {xs : Nat → Int32} {J : Int32 → Int32 → Int32 → Nat → Nat → Int32 → Int32 → (Nat → Int32) → (Nat → Int32) → (Nat → Int32) → (Nat → Int32) → Int32 → Int32 → (Nat → Int32) → (Nat → Int32) → (Nat → Int32) → (Nat → Int32) → Prop} {kc ks P : Nat} {f1 g1 : Int32} {a b d e a2 b2 d2 e2 : Nat → Int32} {J8 : Int32 → Int32 → Int32 → Int32 → Int32 → Int32 → Int32 → Int32 → Int32 → Int32 → Int32 → Nat → Nat → Int32 → Int32 → (Nat → Int32) → (Nat → Int32) → (Nat → Int32) → (Nat → Int32) → Int32 → Int32 → (Nat → Int32) → (Nat → Int32) → (Nat → Int32) → (Nat → Int32) → Prop} {K : (lc_T ⊕ lc_T ⊕ lc_T ⊕ lc_T) → Prop} {x4 x7 x13 x15 x19 x20 x21 x23 x27 x31 : Int32} {p : Nat} (hP : P ≤ 256) (h13 : x13 = 6 ∨ x13 = 7) (hn : ¬ x31 < 0) (hE : lq_Em P a2 b2 x15 x19 x21 a b) (hp : p < P) (hK : K (.inr (.inr (.inr (nI P, x4, x7, x13, x15, x19, x20, x21, x23, x27, 0, x31, nI (p + 1), kc, ks, nI P, f1, a, b, d, e, nI P, g1, a2, b2, d2, e2))))) : wL_law_1128_4 post L xs J J8 K (nI P) x4 x7 x13 x15 x19 x20 x21 x23 x27 0 x31 (nI p) (a2 p) (b2 p) kc ks (nI P) f1 a b d e (nI P) g1 a2 b2 d2 e2 := by
  obtain ⟨s, l, t, rfl, rfl, rfl, hl, ht, ea, eb⟩ := hE
  have c3 : (3 : Int32) < x13 := by rcases h13 with rfl | rfl <;> decide
  have c5 : ¬ x13 = 5 := by rcases h13 with rfl | rfl <;> decide
  have c4 : ¬ x13 = 4 := by rcases h13 with rfl | rfl <;> decide
  have c6 : ¬ x13 < 6 := by rcases h13 with rfl | rfl <;> decide
  unfold wL_law_1128_4
  refine br_t rfl (br_f hn (lc_within (by omega) (by omega) (by omega) (fun h => br_t c3 ?_) (fun h => br_t c3 ?_)))
  · unfold wL_law_1188_4
    refine br_f c5 ?_
    unfold wL_law_1206_4
    have e1 : nI s + nI p - nI t = nI (s + (p - t)) := by rw [lc_sub h.1, nI_add]
    rw [e1]
    exact br_f c6 (br_f rg_10 (lr_pO hP (by omega) (lr_bO hP (by omega) (lc_1284_4 hP hp (by rw [ea]; unfold rg_mv; rw [rg_on_t h]) (by rw [eb]; unfold rg_mv; rw [rg_on_t h]) hK))))
  · unfold wL_law_1188_4
    refine br_f c5 ?_
    unfold wL_law_1206_4
    refine br_f c6 (br_t rfl ?_)
    unfold wL_law_1251_4
    refine br_f c4 (br_f c6 ?_)
    unfold wL_law_1264_4
    exact lc_within (by omega) (by omega) (by omega) (fun h2 => br_f rg_10 (lc_1284_4 hP hp (by rw [ea]; unfold rg_mv; rw [rg_on_f h, rg_on_t h2]) (by rw [eb]; unfold rg_mv; rw [rg_on_f h, rg_on_t h2]) hK)) (fun h2 => br_t rfl (lc_1284_4 hP hp (by rw [ea]; unfold rg_mv; rw [rg_on_f h, rg_on_f h2]) (by rw [eb]; unfold rg_mv; rw [rg_on_f h, rg_on_f h2]) hK))
end
section
/-! a step's two turns and its end, one theorem a call -/
theorem lu_end {post : Int32 → Prop} {L : Nat} {xs : Nat → Int32} {J : Int32 → Int32 → Int32 → Nat → Nat → Int32 → Int32 → (Nat → Int32) → (Nat → Int32) → (Nat → Int32) → (Nat → Int32) → Int32 → Int32 → (Nat → Int32) → (Nat → Int32) → (Nat → Int32) → (Nat → Int32) → Prop} {kc ks P R : Nat} {a b d e d2 e2 : Nat → Int32} {x7 x13 x15 x19 x20 x21 x23 x27 : Int32} (hP : P ≤ 256) (hR : R ≤ 32) (hV : lq_V P a b) (hok : rg_ok P R a b) (HJ0 : x7 = 0 → ∀ a' b' D E D2 E2, lq_V P a' b' → rg_ok P R a' b' → J (nI P) (nI R) 2 kc ks (nI P) (nI R) a' b' D E (nI P) (nI R) a' b' D2 E2) (HJ1 : ¬ x7 = 0 → ∀ a' b' D E D2 E2, lq_V P a' b' → rg_ok P R a' b' → J (nI P) (nI R) (x7 + 5) kc ks (nI P) (nI R) a' b' D E (nI P) (nI R) a' b' D2 E2) : wL_law_833 post L xs J 1 (nI P) (nI R) x7 x13 x15 x19 x20 x21 x23 x27 2 kc ks (nI P) (nI R) a b d e (nI P) (nI R) a b d2 e2 := by
  have hle := rg_cn_le (rg_st a b) 0 P
  exact br_t (by decide) (rx_rc hP (br_f (nI_pos (by omega)) (br_t (nI_le hok (by omega)) (lr_1346 hP hV (fun z => HJ0 z _ _ _ _ _ _ hV hok) (fun z => HJ1 z _ _ _ _ _ _ hV hok)))))
theorem lu_0 {post : Int32 → Prop} {L : Nat} {xs : Nat → Int32} {J : Int32 → Int32 → Int32 → Nat → Nat → Int32 → Int32 → (Nat → Int32) → (Nat → Int32) → (Nat → Int32) → (Nat → Int32) → Int32 → Int32 → (Nat → Int32) → (Nat → Int32) → (Nat → Int32) → (Nat → Int32) → Prop} {kc ks P R : Nat} {a b d e d2 e2 : Nat → Int32} {x7 x15 x19 x20 x21 x23 x27 : Int32} (hP : P ≤ 256) (hR : R ≤ 32) (hV : lq_V P a b) (hok : rg_ok P R a b) (HJ0 : x7 = 0 → ∀ a' b' D E D2 E2, lq_V P a' b' → rg_ok P R a' b' → J (nI P) (nI R) 2 kc ks (nI P) (nI R) a' b' D E (nI P) (nI R) a' b' D2 E2) (HJ1 : ¬ x7 = 0 → ∀ a' b' D E D2 E2, lq_V P a' b' → rg_ok P R a' b' → J (nI P) (nI R) (x7 + 5) kc ks (nI P) (nI R) a' b' D E (nI P) (nI R) a' b' D2 E2) (e21 : x21 = x15) : wL_law_833 post L xs J 3 (nI P) (nI R) x7 0 x15 x19 x20 x21 x23 x27 0 kc ks (nI P) (nI R) a b d e (nI P) (nI R) a b d2 e2 := by
  subst x21
  obtain ⟨r, a', b', H⟩ := sd_mapNew P R a b x15 x19 x23 x27
  obtain ⟨hV', hok', hF⟩ := (H _).mp (lq_mapNew hP hV hok)
  have at0 : lq_Ef P a b x19 x15 x23 x27 a' b' → (0 : Int32) ≤ x15 := by
    intro hE
    obtain ⟨t, l, e21, _, hl, _⟩ := hE
    rw [e21]
    exact rg_0le (by omega)
  have T1 : ∀ D E, wL_law_833 post L xs J 2 (nI P) (nI R) x7 0 x15 x19 x20 x15 x23 x27 1 kc ks (nI P) (nI R) a' b' D E (nI P) (nI R) a b d2 e2 := by
    intro D E
    refine br_f (by decide) (br_f rg_10 ?_)
    unfold wL_law_851
    refine br_f rg_10 ?_
    unfold wL_law_865
    refine br_t rfl (rx_mapNew hP hR ((H _).mpr (fun D2 E2 => ?_)))
    have fin := lc_turn1 (post := post) (L := L) (xs := xs) (J := J) (J8 := wL_law_833 post L xs J 1) (kc := kc) (ks := ks) (f1 := nI R) (g1 := nI R) (d := D) (e := E) (d2 := D2) (e2 := E2) (x4 := nI R) (x7 := x7) (x13 := 0) (x15 := x15) (x19 := x19) (x20 := x20) (x21 := x15) (x23 := x23) (x27 := x27) (x31 := r) hP (rfl : a' = a') (rfl : b' = b') (lu_end hP hR hV' hok' HJ0 HJ1)
    rcases hF with ⟨hn, _⟩ | ⟨hn, hE⟩
    · exact br_t hn fin
    · exact br_f hn (br_t (at0 hE) fin)
  refine br_f (by decide) (br_t rfl ?_)
  unfold wL_law_851_2
  refine br_t rfl ?_
  unfold wL_law_865_4
  refine br_t rfl (rx_mapNew hP hR ((H _).mpr (fun D E => ?_)))
  rcases hF with ⟨hn, ea, eb⟩ | ⟨hn, hE⟩
  · exact br_t hn (lc_turn0 hP (by decide) (T1 D E) (fun K p hp hK => lc_neg hP hn ea eb hp hK))
  · exact br_f hn (br_t (at0 hE) (lc_turn0 hP (by decide) (T1 D E) (fun K p hp hK => lc_fill (o := 0) hP (by omega) rfl hn hE hp hK)))
theorem lu_1 {post : Int32 → Prop} {L : Nat} {xs : Nat → Int32} {J : Int32 → Int32 → Int32 → Nat → Nat → Int32 → Int32 → (Nat → Int32) → (Nat → Int32) → (Nat → Int32) → (Nat → Int32) → Int32 → Int32 → (Nat → Int32) → (Nat → Int32) → (Nat → Int32) → (Nat → Int32) → Prop} {kc ks P R : Nat} {a b d e d2 e2 : Nat → Int32} {x7 x15 x19 x20 x21 x23 x27 : Int32} (hP : P ≤ 256) (hR : R ≤ 32) (hV : lq_V P a b) (hok : rg_ok P R a b) (HJ0 : x7 = 0 → ∀ a' b' D E D2 E2, lq_V P a' b' → rg_ok P R a' b' → J (nI P) (nI R) 2 kc ks (nI P) (nI R) a' b' D E (nI P) (nI R) a' b' D2 E2) (HJ1 : ¬ x7 = 0 → ∀ a' b' D E D2 E2, lq_V P a' b' → rg_ok P R a' b' → J (nI P) (nI R) (x7 + 5) kc ks (nI P) (nI R) a' b' D E (nI P) (nI R) a' b' D2 E2) (e21 : x21 = x15) : wL_law_833 post L xs J 3 (nI P) (nI R) x7 1 x15 x19 x20 x21 x23 x27 0 kc ks (nI P) (nI R) a b d e (nI P) (nI R) a b d2 e2 := by
  subst x21
  obtain ⟨r, a', b', H⟩ := sd_mapOver P R a b x15 x19 x23 x27
  obtain ⟨hV', hok', hF⟩ := (H _).mp (lq_mapOver hP hV hok)
  have at0 : lq_Ef P a b x19 x15 x23 x27 a' b' → (0 : Int32) ≤ x15 := by
    intro hE
    obtain ⟨t, l, e21, _, hl, _⟩ := hE
    rw [e21]
    exact rg_0le (by omega)
  have T1 : ∀ D E, wL_law_833 post L xs J 2 (nI P) (nI R) x7 1 x15 x19 x20 x15 x23 x27 1 kc ks (nI P) (nI R) a' b' D E (nI P) (nI R) a b d2 e2 := by
    intro D E
    refine br_f (by decide) (br_f rg_10 ?_)
    unfold wL_law_851
    refine br_f rg_10 ?_
    unfold wL_law_865
    refine br_f (by decide) (br_t rfl (rx_mapOver hP hR ((H _).mpr (fun D2 E2 => ?_))))
    have fin := lc_turn1 (post := post) (L := L) (xs := xs) (J := J) (J8 := wL_law_833 post L xs J 1) (kc := kc) (ks := ks) (f1 := nI R) (g1 := nI R) (d := D) (e := E) (d2 := D2) (e2 := E2) (x4 := nI R) (x7 := x7) (x13 := 1) (x15 := x15) (x19 := x19) (x20 := x20) (x21 := x15) (x23 := x23) (x27 := x27) (x31 := r) hP (rfl : a' = a') (rfl : b' = b') (lu_end hP hR hV' hok' HJ0 HJ1)
    rcases hF with ⟨hn, _⟩ | ⟨hn, hE⟩
    · exact br_t hn fin
    · exact br_f hn (br_t (at0 hE) fin)
  refine br_f (by decide) (br_t rfl ?_)
  unfold wL_law_851_2
  refine br_t rfl ?_
  unfold wL_law_865_4
  refine br_f (by decide) (br_t rfl (rx_mapOver hP hR ((H _).mpr (fun D E => ?_))))
  rcases hF with ⟨hn, ea, eb⟩ | ⟨hn, hE⟩
  · exact br_t hn (lc_turn0 hP (by decide) (T1 D E) (fun K p hp hK => lc_neg hP hn ea eb hp hK))
  · exact br_f hn (br_t (at0 hE) (lc_turn0 hP (by decide) (T1 D E) (fun K p hp hK => lc_fill (o := 1) hP (by omega) rfl hn hE hp hK)))
theorem lu_2 {post : Int32 → Prop} {L : Nat} {xs : Nat → Int32} {J : Int32 → Int32 → Int32 → Nat → Nat → Int32 → Int32 → (Nat → Int32) → (Nat → Int32) → (Nat → Int32) → (Nat → Int32) → Int32 → Int32 → (Nat → Int32) → (Nat → Int32) → (Nat → Int32) → (Nat → Int32) → Prop} {kc ks P R : Nat} {a b d e d2 e2 : Nat → Int32} {x7 x15 x19 x20 x21 x23 x27 : Int32} (hP : P ≤ 256) (hR : R ≤ 32) (hV : lq_V P a b) (hok : rg_ok P R a b) (HJ0 : x7 = 0 → ∀ a' b' D E D2 E2, lq_V P a' b' → rg_ok P R a' b' → J (nI P) (nI R) 2 kc ks (nI P) (nI R) a' b' D E (nI P) (nI R) a' b' D2 E2) (HJ1 : ¬ x7 = 0 → ∀ a' b' D E D2 E2, lq_V P a' b' → rg_ok P R a' b' → J (nI P) (nI R) (x7 + 5) kc ks (nI P) (nI R) a' b' D E (nI P) (nI R) a' b' D2 E2) (ha : ∀ x y, x15 = nI x → x19 = nI y → x < P → 1 ≤ y → y ≤ P → rg_AT a P x y x21) : wL_law_833 post L xs J 3 (nI P) (nI R) x7 2 x15 x19 x20 x21 x23 x27 0 kc ks (nI P) (nI R) a b d e (nI P) (nI R) a b d2 e2 := by
  obtain ⟨r, a', b', H⟩ := sd_mapLow P R a b x15 x19 x23 x27
  obtain ⟨hV', hok', hF⟩ := (H _).mp (lq_mapLow hP hV hok ha)
  have at0 : lq_Ef P a b x19 x21 x23 x27 a' b' → (0 : Int32) ≤ x21 := by
    intro hE
    obtain ⟨t, l, e21, _, hl, _⟩ := hE
    rw [e21]
    exact rg_0le (by omega)
  have T1 : ∀ D E, wL_law_833 post L xs J 2 (nI P) (nI R) x7 2 x15 x19 x20 x21 x23 x27 1 kc ks (nI P) (nI R) a' b' D E (nI P) (nI R) a b d2 e2 := by
    intro D E
    refine br_f (by decide) (br_f rg_10 ?_)
    unfold wL_law_851
    refine br_f rg_10 ?_
    unfold wL_law_865
    refine br_f (by decide) (br_f (by decide) (br_t rfl (rx_mapLow hP hR ((H _).mpr (fun D2 E2 => ?_)))))
    have fin := lc_turn1 (post := post) (L := L) (xs := xs) (J := J) (J8 := wL_law_833 post L xs J 1) (kc := kc) (ks := ks) (f1 := nI R) (g1 := nI R) (d := D) (e := E) (d2 := D2) (e2 := E2) (x4 := nI R) (x7 := x7) (x13 := 2) (x15 := x15) (x19 := x19) (x20 := x20) (x21 := x21) (x23 := x23) (x27 := x27) (x31 := r) hP (rfl : a' = a') (rfl : b' = b') (lu_end hP hR hV' hok' HJ0 HJ1)
    rcases hF with ⟨hn, _⟩ | ⟨hn, hE⟩
    · exact br_t hn fin
    · exact br_f hn (br_t (at0 hE) fin)
  refine br_f (by decide) (br_t rfl ?_)
  unfold wL_law_851_2
  refine br_t rfl ?_
  unfold wL_law_865_4
  refine br_f (by decide) (br_f (by decide) (br_t rfl (rx_mapLow hP hR ((H _).mpr (fun D E => ?_)))))
  rcases hF with ⟨hn, ea, eb⟩ | ⟨hn, hE⟩
  · exact br_t hn (lc_turn0 hP (by decide) (T1 D E) (fun K p hp hK => lc_neg hP hn ea eb hp hK))
  · exact br_f hn (br_t (at0 hE) (lc_turn0 hP (by decide) (T1 D E) (fun K p hp hK => lc_fill (o := 2) hP (by omega) rfl hn hE hp hK)))
theorem lu_3 {post : Int32 → Prop} {L : Nat} {xs : Nat → Int32} {J : Int32 → Int32 → Int32 → Nat → Nat → Int32 → Int32 → (Nat → Int32) → (Nat → Int32) → (Nat → Int32) → (Nat → Int32) → Int32 → Int32 → (Nat → Int32) → (Nat → Int32) → (Nat → Int32) → (Nat → Int32) → Prop} {kc ks P R : Nat} {a b d e d2 e2 : Nat → Int32} {x7 x15 x19 x20 x21 x23 x27 : Int32} (hP : P ≤ 256) (hR : R ≤ 32) (hV : lq_V P a b) (hok : rg_ok P R a b) (HJ0 : x7 = 0 → ∀ a' b' D E D2 E2, lq_V P a' b' → rg_ok P R a' b' → J (nI P) (nI R) 2 kc ks (nI P) (nI R) a' b' D E (nI P) (nI R) a' b' D2 E2) (HJ1 : ¬ x7 = 0 → ∀ a' b' D E D2 E2, lq_V P a' b' → rg_ok P R a' b' → J (nI P) (nI R) (x7 + 5) kc ks (nI P) (nI R) a' b' D E (nI P) (nI R) a' b' D2 E2) (ha : ∀ x y, nI P - x15 = nI x → x19 = nI y → 1 ≤ x → x ≤ P → 1 ≤ y → y ≤ P → rg_AH a x y x21) : wL_law_833 post L xs J 3 (nI P) (nI R) x7 3 x15 x19 x20 x21 x23 x27 0 kc ks (nI P) (nI R) a b d e (nI P) (nI R) a b d2 e2 := by
  obtain ⟨r, a', b', H⟩ := sd_mapHigh P R a b (nI P - x15) x19 x23 x27
  obtain ⟨hV', hok', hF⟩ := (H _).mp (lq_mapHigh hP hV hok ha)
  have at0 : lq_Ef P a b x19 x21 x23 x27 a' b' → (0 : Int32) ≤ x21 := by
    intro hE
    obtain ⟨t, l, e21, _, hl, _⟩ := hE
    rw [e21]
    exact rg_0le (by omega)
  have T1 : ∀ D E, wL_law_833 post L xs J 2 (nI P) (nI R) x7 3 x15 x19 x20 x21 x23 x27 1 kc ks (nI P) (nI R) a' b' D E (nI P) (nI R) a b d2 e2 := by
    intro D E
    refine br_f (by decide) (br_f rg_10 ?_)
    unfold wL_law_851
    refine br_f rg_10 ?_
    unfold wL_law_865
    refine br_f (by decide) (br_f (by decide) (br_f (by decide) (br_t rfl (rx_mapHigh hP hR ((H _).mpr (fun D2 E2 => ?_))))))
    have fin := lc_turn1 (post := post) (L := L) (xs := xs) (J := J) (J8 := wL_law_833 post L xs J 1) (kc := kc) (ks := ks) (f1 := nI R) (g1 := nI R) (d := D) (e := E) (d2 := D2) (e2 := E2) (x4 := nI R) (x7 := x7) (x13 := 3) (x15 := x15) (x19 := x19) (x20 := x20) (x21 := x21) (x23 := x23) (x27 := x27) (x31 := r) hP (rfl : a' = a') (rfl : b' = b') (lu_end hP hR hV' hok' HJ0 HJ1)
    rcases hF with ⟨hn, _⟩ | ⟨hn, hE⟩
    · exact br_t hn fin
    · exact br_f hn (br_t (at0 hE) fin)
  refine br_f (by decide) (br_t rfl ?_)
  unfold wL_law_851_2
  refine br_t rfl ?_
  unfold wL_law_865_4
  refine br_f (by decide) (br_f (by decide) (br_f (by decide) (br_t rfl (rx_mapHigh hP hR ((H _).mpr (fun D E => ?_))))))
  rcases hF with ⟨hn, ea, eb⟩ | ⟨hn, hE⟩
  · exact br_t hn (lc_turn0 hP (by decide) (T1 D E) (fun K p hp hK => lc_neg hP hn ea eb hp hK))
  · exact br_f hn (br_t (at0 hE) (lc_turn0 hP (by decide) (T1 D E) (fun K p hp hK => lc_fill (o := 3) hP (by omega) rfl hn hE hp hK)))
theorem lu_4 {post : Int32 → Prop} {L : Nat} {xs : Nat → Int32} {J : Int32 → Int32 → Int32 → Nat → Nat → Int32 → Int32 → (Nat → Int32) → (Nat → Int32) → (Nat → Int32) → (Nat → Int32) → Int32 → Int32 → (Nat → Int32) → (Nat → Int32) → (Nat → Int32) → (Nat → Int32) → Prop} {kc ks P R : Nat} {a b d e d2 e2 : Nat → Int32} {x7 x15 x19 x20 x21 x23 x27 : Int32} (hP : P ≤ 256) (hR : R ≤ 32) (hV : lq_V P a b) (hok : rg_ok P R a b) (HJ0 : x7 = 0 → ∀ a' b' D E D2 E2, lq_V P a' b' → rg_ok P R a' b' → J (nI P) (nI R) 2 kc ks (nI P) (nI R) a' b' D E (nI P) (nI R) a' b' D2 E2) (HJ1 : ¬ x7 = 0 → ∀ a' b' D E D2 E2, lq_V P a' b' → rg_ok P R a' b' → J (nI P) (nI R) (x7 + 5) kc ks (nI P) (nI R) a' b' D E (nI P) (nI R) a' b' D2 E2) (e21 : x21 = x15) : wL_law_833 post L xs J 3 (nI P) (nI R) x7 4 x15 x19 x20 x21 x23 x27 0 kc ks (nI P) (nI R) a b d e (nI P) (nI R) a b d2 e2 := by
  subst x21
  obtain ⟨r, a', b', H⟩ := sd_unmap P R a b x15 x19
  obtain ⟨hV', hok', hF⟩ := (H _).mp (lq_unmap hP hV hok)
  have at0 : lq_Eu P a b x15 x19 a' b' → (0 : Int32) ≤ x15 := by
    intro hE
    obtain ⟨t, l, e21, _, hl, _⟩ := hE
    rw [e21]
    exact rg_0le (by omega)
  have T1 : ∀ D E, wL_law_833 post L xs J 2 (nI P) (nI R) x7 4 x15 x19 x20 x15 x23 x27 1 kc ks (nI P) (nI R) a' b' D E (nI P) (nI R) a b d2 e2 := by
    intro D E
    refine br_f (by decide) (br_f rg_10 ?_)
    unfold wL_law_851
    refine br_f rg_10 ?_
    unfold wL_law_865
    refine br_f (by decide) (br_f (by decide) (br_f (by decide) (br_f (by decide) (br_t rfl (rx_unmap hP hR ((H _).mpr (fun D2 E2 => ?_)))))))
    have fin := lc_turn1 (post := post) (L := L) (xs := xs) (J := J) (J8 := wL_law_833 post L xs J 1) (kc := kc) (ks := ks) (f1 := nI R) (g1 := nI R) (d := D) (e := E) (d2 := D2) (e2 := E2) (x4 := nI R) (x7 := x7) (x13 := 4) (x15 := x15) (x19 := x19) (x20 := x20) (x21 := x15) (x23 := x23) (x27 := x27) (x31 := r) hP (rfl : a' = a') (rfl : b' = b') (lu_end hP hR hV' hok' HJ0 HJ1)
    rcases hF with ⟨hn, _⟩ | ⟨hn, hE⟩
    · exact br_t hn fin
    · exact br_f hn (br_t (at0 hE) fin)
  refine br_f (by decide) (br_t rfl ?_)
  unfold wL_law_851_2
  refine br_t rfl ?_
  unfold wL_law_865_4
  refine br_f (by decide) (br_f (by decide) (br_f (by decide) (br_f (by decide) (br_t rfl (rx_unmap hP hR ((H _).mpr (fun D E => ?_)))))))
  rcases hF with ⟨hn, ea, eb⟩ | ⟨hn, hE⟩
  · exact br_t hn (lc_turn0 hP (by decide) (T1 D E) (fun K p hp hK => lc_neg hP hn ea eb hp hK))
  · exact br_f hn (br_t (at0 hE) (lc_turn0 hP (by decide) (T1 D E) (fun K p hp hK => lc_unmap hP rfl rfl hn hE hp hK)))
theorem lu_5 {post : Int32 → Prop} {L : Nat} {xs : Nat → Int32} {J : Int32 → Int32 → Int32 → Nat → Nat → Int32 → Int32 → (Nat → Int32) → (Nat → Int32) → (Nat → Int32) → (Nat → Int32) → Int32 → Int32 → (Nat → Int32) → (Nat → Int32) → (Nat → Int32) → (Nat → Int32) → Prop} {kc ks P R : Nat} {a b d e d2 e2 : Nat → Int32} {x7 x15 x19 x20 x21 x23 x27 : Int32} (hP : P ≤ 256) (hR : R ≤ 32) (hV : lq_V P a b) (hok : rg_ok P R a b) (HJ0 : x7 = 0 → ∀ a' b' D E D2 E2, lq_V P a' b' → rg_ok P R a' b' → J (nI P) (nI R) 2 kc ks (nI P) (nI R) a' b' D E (nI P) (nI R) a' b' D2 E2) (HJ1 : ¬ x7 = 0 → ∀ a' b' D E D2 E2, lq_V P a' b' → rg_ok P R a' b' → J (nI P) (nI R) (x7 + 5) kc ks (nI P) (nI R) a' b' D E (nI P) (nI R) a' b' D2 E2) (e21 : x21 = x15) : wL_law_833 post L xs J 3 (nI P) (nI R) x7 5 x15 x19 x20 x21 x23 x27 0 kc ks (nI P) (nI R) a b d e (nI P) (nI R) a b d2 e2 := by
  subst x21
  obtain ⟨r, a', b', H⟩ := sd_protect P R a b x15 x19 x23
  obtain ⟨hV', hok', hF⟩ := (H _).mp (lq_protect hP hV hok)
  have at0 : lq_Ep P a b x15 x19 x23 a' b' → (0 : Int32) ≤ x15 := by
    intro hE
    obtain ⟨t, l, e21, _, hl, _⟩ := hE
    rw [e21]
    exact rg_0le (by omega)
  have T1 : ∀ D E, wL_law_833 post L xs J 2 (nI P) (nI R) x7 5 x15 x19 x20 x15 x23 x27 1 kc ks (nI P) (nI R) a' b' D E (nI P) (nI R) a b d2 e2 := by
    intro D E
    refine br_f (by decide) (br_f rg_10 ?_)
    unfold wL_law_851
    refine br_f rg_10 ?_
    unfold wL_law_865
    refine br_f (by decide) (br_f (by decide) (br_f (by decide) (br_f (by decide) (br_f (by decide) (br_t rfl (rx_protect hP hR ((H _).mpr (fun D2 E2 => ?_))))))))
    have fin := lc_turn1 (post := post) (L := L) (xs := xs) (J := J) (J8 := wL_law_833 post L xs J 1) (kc := kc) (ks := ks) (f1 := nI R) (g1 := nI R) (d := D) (e := E) (d2 := D2) (e2 := E2) (x4 := nI R) (x7 := x7) (x13 := 5) (x15 := x15) (x19 := x19) (x20 := x20) (x21 := x15) (x23 := x23) (x27 := x27) (x31 := r) hP (rfl : a' = a') (rfl : b' = b') (lu_end hP hR hV' hok' HJ0 HJ1)
    rcases hF with ⟨hn, _⟩ | ⟨hn, hE⟩
    · exact br_t hn fin
    · exact br_f hn (br_t (at0 hE) fin)
  refine br_f (by decide) (br_t rfl ?_)
  unfold wL_law_851_2
  refine br_t rfl ?_
  unfold wL_law_865_4
  refine br_f (by decide) (br_f (by decide) (br_f (by decide) (br_f (by decide) (br_f (by decide) (br_t rfl (rx_protect hP hR ((H _).mpr (fun D E => ?_))))))))
  rcases hF with ⟨hn, ea, eb⟩ | ⟨hn, hE⟩
  · exact br_t hn (lc_turn0 hP (by decide) (T1 D E) (fun K p hp hK => lc_neg hP hn ea eb hp hK))
  · exact br_f hn (br_t (at0 hE) (lc_turn0 hP (by decide) (T1 D E) (fun K p hp hK => lc_prot hP rfl rfl hn hE hp hK)))
theorem lu_6 {post : Int32 → Prop} {L : Nat} {xs : Nat → Int32} {J : Int32 → Int32 → Int32 → Nat → Nat → Int32 → Int32 → (Nat → Int32) → (Nat → Int32) → (Nat → Int32) → (Nat → Int32) → Int32 → Int32 → (Nat → Int32) → (Nat → Int32) → (Nat → Int32) → (Nat → Int32) → Prop} {kc ks P R : Nat} {a b d e d2 e2 : Nat → Int32} {x7 x15 x19 x20 x21 x23 x27 : Int32} (hP : P ≤ 256) (hR : R ≤ 32) (hV : lq_V P a b) (hok : rg_ok P R a b) (HJ0 : x7 = 0 → ∀ a' b' D E D2 E2, lq_V P a' b' → rg_ok P R a' b' → J (nI P) (nI R) 2 kc ks (nI P) (nI R) a' b' D E (nI P) (nI R) a' b' D2 E2) (HJ1 : ¬ x7 = 0 → ∀ a' b' D E D2 E2, lq_V P a' b' → rg_ok P R a' b' → J (nI P) (nI R) (x7 + 5) kc ks (nI P) (nI R) a' b' D E (nI P) (nI R) a' b' D2 E2)  : wL_law_833 post L xs J 3 (nI P) (nI R) x7 6 x15 x19 x20 x21 x23 x27 0 kc ks (nI P) (nI R) a b d e (nI P) (nI R) a b d2 e2 := by
  obtain ⟨r, a', b', H⟩ := sd_move P R a b x15 x19 x21
  obtain ⟨hV', hok', hF⟩ := (H _).mp (lq_move hP hV hok)
  have at0 : lq_Em P a b x15 x19 x21 a' b' → (0 : Int32) ≤ x21 := by
    intro hE
    obtain ⟨s, l, t, _, _, e21, hl, ht, _⟩ := hE
    rw [e21]
    exact rg_0le (by omega)
  have T1 : ∀ D E, wL_law_833 post L xs J 2 (nI P) (nI R) x7 6 x15 x19 x20 x21 x23 x27 1 kc ks (nI P) (nI R) a' b' D E (nI P) (nI R) a b d2 e2 := by
    intro D E
    refine br_f (by decide) (br_f rg_10 ?_)
    unfold wL_law_851
    refine br_f rg_10 ?_
    unfold wL_law_865
    refine br_f (by decide) (br_f (by decide) (br_f (by decide) (br_f (by decide) (br_f (by decide) (br_f (by decide) (br_t rfl (rx_move hP hR ((H _).mpr (fun D2 E2 => ?_)))))))))
    have fin := lc_turn1 (post := post) (L := L) (xs := xs) (J := J) (J8 := wL_law_833 post L xs J 1) (kc := kc) (ks := ks) (f1 := nI R) (g1 := nI R) (d := D) (e := E) (d2 := D2) (e2 := E2) (x4 := nI R) (x7 := x7) (x13 := 6) (x15 := x15) (x19 := x19) (x20 := x20) (x21 := x21) (x23 := x23) (x27 := x27) (x31 := r) hP (rfl : a' = a') (rfl : b' = b') (lu_end hP hR hV' hok' HJ0 HJ1)
    rcases hF with ⟨hn, _⟩ | ⟨hn, hE⟩
    · exact br_t hn fin
    · exact br_f hn (br_t (at0 hE) fin)
  refine br_f (by decide) (br_t rfl ?_)
  unfold wL_law_851_2
  refine br_t rfl ?_
  unfold wL_law_865_4
  refine br_f (by decide) (br_f (by decide) (br_f (by decide) (br_f (by decide) (br_f (by decide) (br_f (by decide) (br_t rfl (rx_move hP hR ((H _).mpr (fun D E => ?_)))))))))
  rcases hF with ⟨hn, ea, eb⟩ | ⟨hn, hE⟩
  · exact br_t hn (lc_turn0 hP (by decide) (T1 D E) (fun K p hp hK => lc_neg hP hn ea eb hp hK))
  · exact br_f hn (br_t (at0 hE) (lc_turn0 hP (by decide) (T1 D E) (fun K p hp hK => lc_move hP (Or.inl rfl) hn hE hp hK)))
theorem lu_7 {post : Int32 → Prop} {L : Nat} {xs : Nat → Int32} {J : Int32 → Int32 → Int32 → Nat → Nat → Int32 → Int32 → (Nat → Int32) → (Nat → Int32) → (Nat → Int32) → (Nat → Int32) → Int32 → Int32 → (Nat → Int32) → (Nat → Int32) → (Nat → Int32) → (Nat → Int32) → Prop} {kc ks P R : Nat} {a b d e d2 e2 : Nat → Int32} {x7 x15 x19 x20 x21 x23 x27 : Int32} (hP : P ≤ 256) (hR : R ≤ 32) (hV : lq_V P a b) (hok : rg_ok P R a b) (HJ0 : x7 = 0 → ∀ a' b' D E D2 E2, lq_V P a' b' → rg_ok P R a' b' → J (nI P) (nI R) 2 kc ks (nI P) (nI R) a' b' D E (nI P) (nI R) a' b' D2 E2) (HJ1 : ¬ x7 = 0 → ∀ a' b' D E D2 E2, lq_V P a' b' → rg_ok P R a' b' → J (nI P) (nI R) (x7 + 5) kc ks (nI P) (nI R) a' b' D E (nI P) (nI R) a' b' D2 E2) (ha : ∀ x y, x20 = nI x → x19 = nI y → x < P → 1 ≤ y → y ≤ P → rg_AT a P x y x21) : wL_law_833 post L xs J 3 (nI P) (nI R) x7 7 x15 x19 x20 x21 x23 x27 0 kc ks (nI P) (nI R) a b d e (nI P) (nI R) a b d2 e2 := by
  obtain ⟨r, a', b', H⟩ := sd_moveFree P R a b x15 x19 x20
  obtain ⟨hV', hok', hF⟩ := (H _).mp (lq_moveFree hP hV hok ha)
  have at0 : lq_Em P a b x15 x19 x21 a' b' → (0 : Int32) ≤ x21 := by
    intro hE
    obtain ⟨s, l, t, _, _, e21, hl, ht, _⟩ := hE
    rw [e21]
    exact rg_0le (by omega)
  have T1 : ∀ D E, wL_law_833 post L xs J 2 (nI P) (nI R) x7 7 x15 x19 x20 x21 x23 x27 1 kc ks (nI P) (nI R) a' b' D E (nI P) (nI R) a b d2 e2 := by
    intro D E
    refine br_f (by decide) (br_f rg_10 ?_)
    unfold wL_law_851
    refine br_f rg_10 ?_
    unfold wL_law_865
    refine br_f (by decide) (br_f (by decide) (br_f (by decide) (br_f (by decide) (br_f (by decide) (br_f (by decide) (br_f (by decide) (br_t rfl (rx_moveFree hP hR ((H _).mpr (fun D2 E2 => ?_))))))))))
    have fin := lc_turn1 (post := post) (L := L) (xs := xs) (J := J) (J8 := wL_law_833 post L xs J 1) (kc := kc) (ks := ks) (f1 := nI R) (g1 := nI R) (d := D) (e := E) (d2 := D2) (e2 := E2) (x4 := nI R) (x7 := x7) (x13 := 7) (x15 := x15) (x19 := x19) (x20 := x20) (x21 := x21) (x23 := x23) (x27 := x27) (x31 := r) hP (rfl : a' = a') (rfl : b' = b') (lu_end hP hR hV' hok' HJ0 HJ1)
    rcases hF with ⟨hn, _⟩ | ⟨hn, hE⟩
    · exact br_t hn fin
    · exact br_f hn (br_t (at0 hE) fin)
  refine br_f (by decide) (br_t rfl ?_)
  unfold wL_law_851_2
  refine br_t rfl ?_
  unfold wL_law_865_4
  refine br_f (by decide) (br_f (by decide) (br_f (by decide) (br_f (by decide) (br_f (by decide) (br_f (by decide) (br_f (by decide) (br_t rfl (rx_moveFree hP hR ((H _).mpr (fun D E => ?_))))))))))
  rcases hF with ⟨hn, ea, eb⟩ | ⟨hn, hE⟩
  · exact br_t hn (lc_turn0 hP (by decide) (T1 D E) (fun K p hp hK => lc_neg hP hn ea eb hp hK))
  · exact br_f hn (br_t (at0 hE) (lc_turn0 hP (by decide) (T1 D E) (fun K p hp hK => lc_move hP (Or.inr rfl) hn hE hp hK)))
theorem lu_8 {post : Int32 → Prop} {L : Nat} {xs : Nat → Int32} {J : Int32 → Int32 → Int32 → Nat → Nat → Int32 → Int32 → (Nat → Int32) → (Nat → Int32) → (Nat → Int32) → (Nat → Int32) → Int32 → Int32 → (Nat → Int32) → (Nat → Int32) → (Nat → Int32) → (Nat → Int32) → Prop} {kc ks P R : Nat} {a b d e d2 e2 : Nat → Int32} {x7 x15 x19 x20 x21 x23 x27 : Int32} (hP : P ≤ 256) (hR : R ≤ 32) (hV : lq_V P a b) (hok : rg_ok P R a b) (HJ0 : x7 = 0 → ∀ a' b' D E D2 E2, lq_V P a' b' → rg_ok P R a' b' → J (nI P) (nI R) 2 kc ks (nI P) (nI R) a' b' D E (nI P) (nI R) a' b' D2 E2) (HJ1 : ¬ x7 = 0 → ∀ a' b' D E D2 E2, lq_V P a' b' → rg_ok P R a' b' → J (nI P) (nI R) (x7 + 5) kc ks (nI P) (nI R) a' b' D E (nI P) (nI R) a' b' D2 E2) (hf : ∀ j, j < P → a j = -6 ∧ b j = -6) : wL_law_833 post L xs J 3 (nI P) (nI R) x7 8 x15 x19 x20 x21 x23 x27 0 kc ks (nI P) (nI R) a b d e (nI P) (nI R) a b d2 e2 := by
  have T1 : wL_law_833 post L xs J 2 (nI P) (nI R) x7 8 x15 x19 x20 x21 x23 x27 1 kc ks (nI P) (nI R) a b d e (nI P) (nI R) a b d2 e2 := by
    refine br_f (by decide) (br_f rg_10 ?_)
    unfold wL_law_851
    refine br_f rg_10 ?_
    unfold wL_law_865
    refine br_f (by decide) (br_f (by decide) (br_f (by decide) (br_f (by decide) (br_f (by decide) (br_f (by decide) (br_f (by decide) (br_f (by decide) (?_))))))))
    exact br_t (by decide) (lc_turn1 hP rfl rfl (lu_end hP hR hV hok HJ0 HJ1))
  refine br_f (by decide) (br_t rfl ?_)
  unfold wL_law_851_2
  refine br_t rfl ?_
  unfold wL_law_865_4
  refine br_f (by decide) (br_f (by decide) (br_f (by decide) (br_f (by decide) (br_f (by decide) (br_f (by decide) (br_f (by decide) (br_f (by decide) (?_))))))))
  exact br_t (by decide) (lc_fresh (x13 := 0) (x31 := 0) hP hf T1)
/-- what the law's own place is, a call -/
def lq_A (P o : Nat) (a b : Nat → Int32) (x15 x19 x20 x21 : Int32) : Prop :=
  o ≤ 8 ∧ (o = 0 ∨ o = 1 ∨ o = 4 ∨ o = 5 → x21 = x15) ∧ (o = 2 → ∀ x y, x15 = nI x → x19 = nI y → x < P → 1 ≤ y → y ≤ P → rg_AT a P x y x21) ∧ (o = 3 → ∀ x y, nI P - x15 = nI x → x19 = nI y → 1 ≤ x → x ≤ P → 1 ≤ y → y ≤ P → rg_AH a x y x21) ∧ (o = 7 → ∀ x y, x20 = nI x → x19 = nI y → x < P → 1 ≤ y → y ≤ P → rg_AT a P x y x21) ∧ (o = 8 → ∀ j, j < P → a j = -6 ∧ b j = -6)
theorem lu_833 {post : Int32 → Prop} {L : Nat} {xs : Nat → Int32} {J : Int32 → Int32 → Int32 → Nat → Nat → Int32 → Int32 → (Nat → Int32) → (Nat → Int32) → (Nat → Int32) → (Nat → Int32) → Int32 → Int32 → (Nat → Int32) → (Nat → Int32) → (Nat → Int32) → (Nat → Int32) → Prop} {kc ks P R : Nat} {a b d e d2 e2 : Nat → Int32} {x7 x15 x19 x20 x21 x23 x27 : Int32} {o : Nat} (hP : P ≤ 256) (hR : R ≤ 32) (hV : lq_V P a b) (hok : rg_ok P R a b) (HJ0 : x7 = 0 → ∀ a' b' D E D2 E2, lq_V P a' b' → rg_ok P R a' b' → J (nI P) (nI R) 2 kc ks (nI P) (nI R) a' b' D E (nI P) (nI R) a' b' D2 E2) (HJ1 : ¬ x7 = 0 → ∀ a' b' D E D2 E2, lq_V P a' b' → rg_ok P R a' b' → J (nI P) (nI R) (x7 + 5) kc ks (nI P) (nI R) a' b' D E (nI P) (nI R) a' b' D2 E2) (hA : lq_A P o a b x15 x19 x20 x21) : ∃ n, wL_law_833 post L xs J n (nI P) (nI R) x7 (nI o) x15 x19 x20 x21 x23 x27 0 kc ks (nI P) (nI R) a b d e (nI P) (nI R) a b d2 e2 := by
  obtain ⟨ho, h1, h2, h3, h7, h8⟩ := hA
  refine ⟨3, ?_⟩
  have ho : o = 0 ∨ o = 1 ∨ o = 2 ∨ o = 3 ∨ o = 4 ∨ o = 5 ∨ o = 6 ∨ o = 7 ∨ o = 8 := by omega
  rcases ho with rfl | rfl | rfl | rfl | rfl | rfl | rfl | rfl | rfl
  · exact lu_0 hP hR hV hok HJ0 HJ1 (h1 (by omega))
  · exact lu_1 hP hR hV hok HJ0 HJ1 (h1 (by omega))
  · exact lu_2 hP hR hV hok HJ0 HJ1 (h2 rfl)
  · exact lu_3 hP hR hV hok HJ0 HJ1 (h3 rfl)
  · exact lu_4 hP hR hV hok HJ0 HJ1 (h1 (by omega))
  · exact lu_5 hP hR hV hok HJ0 HJ1 (h1 (by omega))
  · exact lu_6 hP hR hV hok HJ0 HJ1
  · exact lu_7 hP hR hV hok HJ0 HJ1 (h7 rfl)
  · exact lu_8 hP hR hV hok HJ0 HJ1 (h8 rfl)
end
section
/-! the law's preparation of a step: start, length, place, attributes; nothing of it refuses -/
theorem rg_IL_t {a : Nat → Int32} {f l q run P : Nat} (h : rg_IL a f l q run) (hq : a q = -6) (e : run + 1 = l) (hP : q < P) : l ≤ q + 1 ∧ f ≤ q + 1 - l ∧ q + 1 - l + l ≤ P ∧ rg_fr a (q + 1 - l) l ∧ ∀ t', f ≤ t' → t' < q + 1 - l → ¬ rg_fr a t' l := by
  obtain ⟨h1, h2, h3⟩ := h
  have g := rg_run_f h1 hq
  rw [e] at g
  have hle := g.1
  exact ⟨by omega, by omega, by omega, rg_run_fr g, fun t' a1 a2 => h3 t' a1 (by omega)⟩
theorem rg_IH_t {a : Nat → Int32} {to l q run : Nat} (h : rg_IH a to l (q + 1) run) (hq : a q = -6) (e : run + 1 = l) : q + l ≤ to ∧ rg_fr a q l ∧ ∀ t', q < t' → t' + l ≤ to → ¬ rg_fr a t' l := by
  obtain ⟨h1, h2, h3⟩ := h
  have g := rg_rud_f h1 hq
  rw [e] at g
  exact ⟨g.1, g.2.1, fun t' a1 a2 => h3 t' (by omega) a2⟩
theorem lv_p {post : Int32 → Prop} {P : Nat} {f v : Int32} {a b d e : Nat → Int32} (hP : P ≤ 256) (h : ∀ r, post r) : wpX_protOf post (nI P, f, a, b, d, e) v := rx_protOf hP (fun _ _ _ => h _) (fun _ => h _)
theorem lv_b {post : Int32 → Prop} {P : Nat} {f v : Int32} {a b d e : Nat → Int32} (hP : P ≤ 256) (h : ∀ r, post r) : wpX_backingOf post (nI P, f, a, b, d, e) v := rx_backingOf hP (fun _ _ _ => h _) (fun _ => h _)
theorem lv_mod {post : Int32 → Prop} {x : Int32} {M : Nat} (h1 : 1 ≤ M) (h2 : M < 2 ^ 31) (h : ∀ k, k < M → post (nI k)) : wpL_mod post () x (nI M) := by
  refine ⟨nI_ne0 (by omega) h2, ?_⟩
  obtain ⟨k, hk, e⟩ := pk_andE x (m := 2147483647) 31 (by decide)
  rw [e, pk_rem hk (by omega) h2]
  exact h _ (Nat.mod_lt _ (by omega))
theorem lv_819 {post : Int32 → Prop} {L : Nat} {xs : Nat → Int32} {J : Int32 → Int32 → Int32 → Nat → Nat → Int32 → Int32 → (Nat → Int32) → (Nat → Int32) → (Nat → Int32) → (Nat → Int32) → Int32 → Int32 → (Nat → Int32) → (Nat → Int32) → (Nat → Int32) → (Nat → Int32) → Prop} {kc ks P R : Nat} {a b d e d2 e2 : Nat → Int32} {o : Nat} {x7 : Int32} {x14 x15 x19 x20 x21 x23 x27 : Int32} (H : ∀ x23 x27, ∃ n, wL_law_833 post L xs J n (nI P) (nI R) x7 (nI o) x15 x19 x20 x21 x23 x27 0 kc ks (nI P) (nI R) a b d e (nI P) (nI R) a b d2 e2) : wL_law_819 post L xs J (nI P) (nI R) x7 (nI o) x14 x15 x19 x20 x21 x23 x27 kc ks (nI P) (nI R) a b d e (nI P) (nI R) a b d2 e2 :=
  br_c (fun _ => H 8 x27) (fun _ => H x23 x27)
theorem lv_751 {post : Int32 → Prop} {L : Nat} {xs : Nat → Int32} {J : Int32 → Int32 → Int32 → Nat → Nat → Int32 → Int32 → (Nat → Int32) → (Nat → Int32) → (Nat → Int32) → (Nat → Int32) → Int32 → Int32 → (Nat → Int32) → (Nat → Int32) → (Nat → Int32) → (Nat → Int32) → Prop} {kc ks P R : Nat} {a b d e d2 e2 : Nat → Int32} {o : Nat} {x7 : Int32} {x14 x15 x19 x20 x21 x23 x26 x28 z0 : Int32} (hP : P ≤ 256) (H : ∀ x23 x27, ∃ n, wL_law_833 post L xs J n (nI P) (nI R) x7 (nI o) x15 x19 x20 x21 x23 x27 0 kc ks (nI P) (nI R) a b d e (nI P) (nI R) a b d2 e2) : wL_law_751 post L xs J (nI P) (nI R) x7 (nI o) x14 x15 x19 x20 x21 x23 x26 x28 z0 kc ks (nI P) (nI R) a b d e (nI P) (nI R) a b d2 e2 :=
  br_c (fun _ => lv_819 H) (fun _ => lv_p hP (fun r => lv_819 H))
theorem lv_719 {post : Int32 → Prop} {L : Nat} {xs : Nat → Int32} {J : Int32 → Int32 → Int32 → Nat → Nat → Int32 → Int32 → (Nat → Int32) → (Nat → Int32) → (Nat → Int32) → (Nat → Int32) → Int32 → Int32 → (Nat → Int32) → (Nat → Int32) → (Nat → Int32) → (Nat → Int32) → Prop} {kc ks P R : Nat} {a b d e d2 e2 : Nat → Int32} {o : Nat} {x7 : Int32} {x14 x15 x19 x20 x21 x23 x25 x26 z0 : Int32} (hP : P ≤ 256) (H : ∀ x23 x27, ∃ n, wL_law_833 post L xs J n (nI P) (nI R) x7 (nI o) x15 x19 x20 x21 x23 x27 0 kc ks (nI P) (nI R) a b d e (nI P) (nI R) a b d2 e2) : wL_law_719 post L xs J (nI P) (nI R) x7 (nI o) x14 x15 x19 x20 x21 x23 x25 x26 z0 kc ks (nI P) (nI R) a b d e (nI P) (nI R) a b d2 e2 :=
  br_c (fun _ => br_c (fun _ => lv_751 hP H) (fun _ => lv_751 hP H)) (fun _ => lv_751 hP H)
theorem lv_661 {post : Int32 → Prop} {L : Nat} {xs : Nat → Int32} {J : Int32 → Int32 → Int32 → Nat → Nat → Int32 → Int32 → (Nat → Int32) → (Nat → Int32) → (Nat → Int32) → (Nat → Int32) → Int32 → Int32 → (Nat → Int32) → (Nat → Int32) → (Nat → Int32) → (Nat → Int32) → Prop} {kc ks P R : Nat} {a b d e d2 e2 : Nat → Int32} {o : Nat} {x7 : Int32} {x11 x12 x14 x15 x19 x20 x21 x23 x24 x25 z0 : Int32} (hP : P ≤ 256) (H : ∀ x23 x27, ∃ n, wL_law_833 post L xs J n (nI P) (nI R) x7 (nI o) x15 x19 x20 x21 x23 x27 0 kc ks (nI P) (nI R) a b d e (nI P) (nI R) a b d2 e2) : wL_law_661 post L xs J (nI P) (nI R) x7 x11 x12 (nI o) x14 x15 x19 x20 x21 x23 x24 x25 z0 kc ks (nI P) (nI R) a b d e (nI P) (nI R) a b d2 e2 :=
  br_c (fun _ => nm_e (lv_819 H)) (fun _ => br_c (fun _ => br_c (fun _ => lv_719 hP H) (fun _ => lv_b hP (fun r => lv_719 hP H))) (fun _ => br_c (fun _ => br_c (fun _ => lv_819 H) (fun _ => ⟨by decide, lv_819 H⟩)) (fun _ => lv_819 H)))
theorem lv_603 {post : Int32 → Prop} {L : Nat} {xs : Nat → Int32} {J : Int32 → Int32 → Int32 → Nat → Nat → Int32 → Int32 → (Nat → Int32) → (Nat → Int32) → (Nat → Int32) → (Nat → Int32) → Int32 → Int32 → (Nat → Int32) → (Nat → Int32) → (Nat → Int32) → (Nat → Int32) → Prop} {kc ks P R : Nat} {a b d e d2 e2 : Nat → Int32} {o : Nat} {x7 : Int32} {x11 x12 x14 x15 x19 x20 x21 : Int32} (hP : P ≤ 256) (H : ∀ x23 x27, ∃ n, wL_law_833 post L xs J n (nI P) (nI R) x7 (nI o) x15 x19 x20 x21 x23 x27 0 kc ks (nI P) (nI R) a b d e (nI P) (nI R) a b d2 e2) : wL_law_603 post L xs J (nI P) (nI R) x7 x11 x12 (nI o) x14 x15 x19 x20 x21 kc ks (nI P) (nI R) a b d e (nI P) (nI R) a b d2 e2 := by
  have h : ∀ z, wL_law_629 post L xs J (nI P) (nI R) x7 x11 x12 (nI o) x14 x15 x19 x20 x21 z kc ks (nI P) (nI R) a b d e (nI P) (nI R) a b d2 e2 := fun z =>
    nm_e ⟨by decide, nm_e (br_c (fun _ => lv_661 hP H) (fun _ => lv_661 hP H))⟩
  exact nm_e (br_c (fun _ => h _) (fun _ => h _))
theorem lv_421t {post : Int32 → Prop} {L : Nat} {xs : Nat → Int32} {J : Int32 → Int32 → Int32 → Nat → Nat → Int32 → Int32 → (Nat → Int32) → (Nat → Int32) → (Nat → Int32) → (Nat → Int32) → Int32 → Int32 → (Nat → Int32) → (Nat → Int32) → (Nat → Int32) → (Nat → Int32) → Prop} {kc ks P R : Nat} {a b d e d2 e2 : Nat → Int32} {o : Nat} {x7 : Int32} {x11 x12 x14 x15 x19 x20 : Int32} (hP : P ≤ 256) (H : ∀ v, wL_law_603 post L xs J (nI P) (nI R) x7 x11 x12 (nI o) x14 x15 x19 x20 v kc ks (nI P) (nI R) a b d e (nI P) (nI R) a b d2 e2) : ∀ (i : Nat) (s : Int32 × Int32), i ≤ P → wL_law_421 post L xs J (nI P) (nI R) x7 x11 x12 (nI o) x14 x15 x19 x20 kc ks (nI P) (nI R) a b d e (nI P) (nI R) a b d2 e2 (P + 1) s.1 s.2 (nI i) := by
  intro i s hi
  refine loop_i (fun n i (s : Int32 × Int32) => wL_law_421 post L xs J (nI P) (nI R) x7 x11 x12 (nI o) x14 x15 x19 x20 kc ks (nI P) (nI R) a b d e (nI P) (nI R) a b d2 e2 n s.1 s.2 (nI i)) (fun _ _ => True) P (fun n s _ => ?_) (fun n i s hi _ hw => ?_) (P + 1) i s hi (by omega) trivial
  · exact pk_le P P (fun _ => H _) (fun z => absurd z (by omega))
  · refine pk_le P i (fun z => absurd z (by omega)) (fun _ => br_c (fun _ => H _) (fun _ => lv_p hP (fun r => ?_)))
    have st : ∀ z, wL_law_452 post L xs J (wL_law_421 post L xs J (nI P) (nI R) x7 x11 x12 (nI o) x14 x15 x19 x20 kc ks (nI P) (nI R) a b d e (nI P) (nI R) a b d2 e2 n) (nI P) (nI R) x7 x11 x12 (nI o) x14 x15 x19 x20 s.1 (nI i) z kc ks (nI P) (nI R) a b d e (nI P) (nI R) a b d2 e2 := fun z =>
      br_c (fun _ => nm_r (nI_1 i) (hw (s.1, z) trivial)) (fun _ => nm_e (nm_r (nI_1 i) (hw (_, z) trivial)))
    exact br_c (fun _ => st _) (fun _ => st _)
theorem lv_421 {post : Int32 → Prop} {L : Nat} {xs : Nat → Int32} {J : Int32 → Int32 → Int32 → Nat → Nat → Int32 → Int32 → (Nat → Int32) → (Nat → Int32) → (Nat → Int32) → (Nat → Int32) → Int32 → Int32 → (Nat → Int32) → (Nat → Int32) → (Nat → Int32) → (Nat → Int32) → Prop} {kc ks P R : Nat} {a b d e d2 e2 : Nat → Int32} {o : Nat} {x7 : Int32} {x11 x12 x14 x15 x19 x20 : Int32} (hP : P ≤ 256) (hz : (∃ x, x < P ∧ x20 = nI x) ∨ x20 = -1) (H : ∀ v, (∀ x y, x20 = nI x → x19 = nI y → x < P → 1 ≤ y → y ≤ P → rg_AT a P x y v) → wL_law_603 post L xs J (nI P) (nI R) x7 x11 x12 (nI o) x14 x15 x19 x20 v kc ks (nI P) (nI R) a b d e (nI P) (nI R) a b d2 e2) : ∃ n, wL_law_421 post L xs J (nI P) (nI R) x7 x11 x12 (nI o) x14 x15 x19 x20 kc ks (nI P) (nI R) a b d e (nI P) (nI R) a b d2 e2 n (-1) 0 x20 := by
  rcases hz with ⟨x, hx, rfl⟩ | rfl
  · by_cases hy : ∃ y : Nat, 1 ≤ y ∧ y ≤ P ∧ x19 = nI y
    · obtain ⟨y, hy1, hy2, rfl⟩ := hy
      have H' : ∀ v, rg_AT a P x y v → wL_law_603 post L xs J (nI P) (nI R) x7 x11 x12 (nI o) x14 x15 (nI y) (nI x) v kc ks (nI P) (nI R) a b d e (nI P) (nI R) a b d2 e2 := fun v hv => H v (fun x' y' ex ey hx' _ hy' => by
        have e1 : x = x' := (nI_eq (by omega) (by omega)).mp ex
        have e2 : y = y' := (nI_eq (by omega) (by omega)).mp ey
        subst e1 e2
        exact hv)
      refine ⟨P + 1, loop_i (fun n i (s : Int32 × Int32) => wL_law_421 post L xs J (nI P) (nI R) x7 x11 x12 (nI o) x14 x15 (nI y) (nI x) kc ks (nI P) (nI R) a b d e (nI P) (nI R) a b d2 e2 n s.1 s.2 (nI i)) (fun i s => (∃ run, s = (-1, nI run) ∧ rg_IL a x y i run) ∨ (∃ t, s.1 = nI t ∧ x ≤ t ∧ t + y ≤ P ∧ rg_fr a t y ∧ ∀ t', x ≤ t' → t' < t → ¬ rg_fr a t' y)) P (fun n s hs => ?_) (fun n i s hi hs hw => ?_) (P + 1) x (-1, 0) (by omega) (by omega) (Or.inl ⟨0, rfl, rg_IL_0 a hy1⟩)⟩
      · refine pk_le P P (fun _ => H' _ ?_) (fun z => absurd z (by omega))
        rcases hs with ⟨run, rfl, h⟩ | ⟨t, e, h1, h2, h3, h4⟩
        · exact Or.inr ⟨h.2.2, rfl⟩
        · exact Or.inl ⟨t, h1, h2, h3, h4, e⟩
      · refine pk_le P i (fun z => absurd z (by omega)) (fun _ => ?_)
        rcases hs with ⟨run, rfl, h⟩ | ⟨t, e, h1, h2, h3, h4⟩
        · have hle := h.1.1
          refine br_f (show ¬ (0 : Int32) ≤ -1 by decide) (lr_pO hP hi (br_c (fun z => ?_) (fun z => ?_)))
          · show wL_law_452 post L xs J (wL_law_421 post L xs J (nI P) (nI R) x7 x11 x12 (nI o) x14 x15 (nI y) (nI x) kc ks (nI P) (nI R) a b d e (nI P) (nI R) a b d2 e2 n) (nI P) (nI R) x7 x11 x12 (nI o) x14 x15 (nI y) (nI x) (-1) (nI i) (nI run + 1) kc ks (nI P) (nI R) a b d e (nI P) (nI R) a b d2 e2
            rw [nI_1]
            refine pk_lt (run + 1) y (fun q => nm_r (nI_1 i) (hw (-1, nI (run + 1)) (Or.inl ⟨run + 1, rfl, rg_IL_f h z (by omega)⟩))) (fun q => ?_)
            have hl := h.2.1
            obtain ⟨w0, w1, w2, w3, w4⟩ := rg_IL_t h z (by omega) hi
            have e1 : nI i - nI y + 1 = nI (i + 1 - y) := by
              have : nI i - nI y + 1 = nI i + 1 - nI y := by grind
              rw [this, nI_1, pk_sub w0]
            exact nm_r e1 (nm_r (nI_1 i) (hw (nI (i + 1 - y), nI (run + 1)) (Or.inr ⟨i + 1 - y, rfl, w1, w2, w3, w4⟩)))
          · exact pk_lt 0 y (fun q => nm_r (nI_1 i) (hw (-1, nI 0) (Or.inl ⟨0, rfl, rg_IL_m h z hy1⟩))) (fun q => absurd q (by omega))
        · exact br_t (by rw [e]; exact rg_0le (by omega)) (H' _ (Or.inl ⟨t, h1, h2, h3, h4, e⟩))
    · exact ⟨_, lv_421t hP (fun v => H v (fun x' y' ex ey hx' hy1 hy2 => absurd ⟨y', hy1, hy2, ey⟩ hy)) x (-1, 0) (by omega)⟩
  · have H' : ∀ v, wL_law_603 post L xs J (nI P) (nI R) x7 x11 x12 (nI o) x14 x15 x19 (-1) v kc ks (nI P) (nI R) a b d e (nI P) (nI R) a b d2 e2 := fun v => H v (fun x' y' ex ey hx' hy1 hy2 => absurd ex (lr_m1 hP hx'))
    refine ⟨P + 1 + 1, br_f ?_ (br_f (by decide) (lv_p hP (fun r => ?_)))⟩
    · rw [Int32.le_iff_toInt_le, nI_toInt (by omega), show (-1 : Int32).toInt = -1 from by decide]
      omega
    · have st : ∀ z, wL_law_452 post L xs J (wL_law_421 post L xs J (nI P) (nI R) x7 x11 x12 (nI o) x14 x15 x19 (-1) kc ks (nI P) (nI R) a b d e (nI P) (nI R) a b d2 e2 (P + 1)) (nI P) (nI R) x7 x11 x12 (nI o) x14 x15 x19 (-1) (-1) (-1) z kc ks (nI P) (nI R) a b d e (nI P) (nI R) a b d2 e2 := fun z =>
        br_c (fun _ => nm_r (show (-1 : Int32) + 1 = nI 0 by decide) (lv_421t hP H' 0 (-1, z) (by omega))) (fun _ => nm_e (nm_r (show (-1 : Int32) + 1 = nI 0 by decide) (lv_421t hP H' 0 (_, z) (by omega))))
      exact br_c (fun _ => st _) (fun _ => st _)
theorem lv_499t {post : Int32 → Prop} {L : Nat} {xs : Nat → Int32} {J : Int32 → Int32 → Int32 → Nat → Nat → Int32 → Int32 → (Nat → Int32) → (Nat → Int32) → (Nat → Int32) → (Nat → Int32) → Int32 → Int32 → (Nat → Int32) → (Nat → Int32) → (Nat → Int32) → (Nat → Int32) → Prop} {kc ks P R : Nat} {a b d e d2 e2 : Nat → Int32} {o : Nat} {x7 : Int32} {x11 x12 x14 x15 x19 x20 : Int32} (hP : P ≤ 256) (H : ∀ v, wL_law_603 post L xs J (nI P) (nI R) x7 x11 x12 (nI o) x14 x15 x19 x20 v kc ks (nI P) (nI R) a b d e (nI P) (nI R) a b d2 e2) : ∀ (i : Nat) (s : Int32 × Int32), i ≤ 1000 → wL_law_499 post L xs J (nI P) (nI R) x7 x11 x12 (nI o) x14 x15 x19 x20 kc ks (nI P) (nI R) a b d e (nI P) (nI R) a b d2 e2 (i + 1) s.1 s.2 (nI i - 1) := by
  intro i s hi
  refine pk_loopD (fun n i (s : Int32 × Int32) => wL_law_499 post L xs J (nI P) (nI R) x7 x11 x12 (nI o) x14 x15 x19 x20 kc ks (nI P) (nI R) a b d e (nI P) (nI R) a b d2 e2 n s.1 s.2 (nI i - 1)) (fun i _ => i ≤ 1000) (fun n s _ => ?_) (fun n i s hi hw => ?_) i s hi
  · exact br_t (by decide) (H _)
  · show wL_law_499 post L xs J (nI P) (nI R) x7 x11 x12 (nI o) x14 x15 x19 x20 kc ks (nI P) (nI R) a b d e (nI P) (nI R) a b d2 e2 (n + 1) s.1 s.2 (nI (i + 1) - 1)
    rw [nI_pred]
    have em : nI i + (-1) = nI i - 1 := by grind
    refine br_f (nI_pos (by omega)) (br_c (fun _ => H _) (fun _ => lv_p hP (fun r => ?_)))
    have st : ∀ z, wL_law_529 post L xs J (wL_law_499 post L xs J (nI P) (nI R) x7 x11 x12 (nI o) x14 x15 x19 x20 kc ks (nI P) (nI R) a b d e (nI P) (nI R) a b d2 e2 n) (nI P) (nI R) x7 x11 x12 (nI o) x14 x15 x19 x20 s.1 (nI i) z kc ks (nI P) (nI R) a b d e (nI P) (nI R) a b d2 e2 := fun z =>
      br_c (fun _ => nm_r em (hw (s.1, z) (by omega))) (fun _ => nm_r em (hw (_, z) (by omega)))
    exact br_c (fun _ => st _) (fun _ => st _)
theorem lv_499 {post : Int32 → Prop} {L : Nat} {xs : Nat → Int32} {J : Int32 → Int32 → Int32 → Nat → Nat → Int32 → Int32 → (Nat → Int32) → (Nat → Int32) → (Nat → Int32) → (Nat → Int32) → Int32 → Int32 → (Nat → Int32) → (Nat → Int32) → (Nat → Int32) → (Nat → Int32) → Prop} {kc ks P R : Nat} {a b d e d2 e2 : Nat → Int32} {o : Nat} {x7 : Int32} {x11 x12 x14 x15 x19 x20 : Int32} (hP : P ≤ 256) (hz : (∃ x, x < P ∧ x15 = nI x) ∨ x15 = -1) (H : ∀ v, (∀ x y, nI P - x15 = nI x → x19 = nI y → 1 ≤ x → x ≤ P → 1 ≤ y → y ≤ P → rg_AH a x y v) → wL_law_603 post L xs J (nI P) (nI R) x7 x11 x12 (nI o) x14 x15 x19 x20 v kc ks (nI P) (nI R) a b d e (nI P) (nI R) a b d2 e2) : ∃ n, wL_law_499 post L xs J (nI P) (nI R) x7 x11 x12 (nI o) x14 x15 x19 x20 kc ks (nI P) (nI R) a b d e (nI P) (nI R) a b d2 e2 n (-1) 0 (nI P - x15 - 1) := by
  rcases hz with ⟨x, hx, rfl⟩ | rfl
  · have e0 : nI P - nI x = nI (P - x) := pk_sub (by omega)
    rw [e0] at H ⊢
    by_cases hy : ∃ y : Nat, 1 ≤ y ∧ y ≤ P ∧ x19 = nI y
    · obtain ⟨y, hy1, hy2, rfl⟩ := hy
      have H' : ∀ v, rg_AH a (P - x) y v → wL_law_603 post L xs J (nI P) (nI R) x7 x11 x12 (nI o) x14 (nI x) (nI y) x20 v kc ks (nI P) (nI R) a b d e (nI P) (nI R) a b d2 e2 := fun v hv => H v (fun x' y' ex ey _ hx' _ hy' => by
        have e1 : P - x = x' := (nI_eq (by omega) (by omega)).mp ex
        have e2 : y = y' := (nI_eq (by omega) (by omega)).mp ey
        subst e1 e2
        exact hv)
      refine ⟨P - x + 1, pk_loopD (fun n i (s : Int32 × Int32) => wL_law_499 post L xs J (nI P) (nI R) x7 x11 x12 (nI o) x14 (nI x) (nI y) x20 kc ks (nI P) (nI R) a b d e (nI P) (nI R) a b d2 e2 n s.1 s.2 (nI i - 1)) (fun i s => i ≤ P - x ∧ ((∃ run, s = (-1, nI run) ∧ rg_IH a (P - x) y i run) ∨ (∃ t, s.1 = nI t ∧ t + y ≤ P - x ∧ rg_fr a t y ∧ ∀ t', t < t' → t' + y ≤ P - x → ¬ rg_fr a t' y))) (fun n s hs => ?_) (fun n i s hs hw => ?_) (P - x) (-1, 0) ⟨Nat.le_refl _, Or.inl ⟨0, rfl, rg_IH_0 a hy1⟩⟩⟩
      · refine br_t (by decide) (H' _ ?_)
        rcases hs.2 with ⟨run, rfl, h⟩ | ⟨t, e, h2, h3, h4⟩
        · exact Or.inr ⟨fun t' e => h.2.2 t' (Nat.zero_le _) e, rfl⟩
        · exact Or.inl ⟨t, h2, h3, h4, e⟩
      · show wL_law_499 post L xs J (nI P) (nI R) x7 x11 x12 (nI o) x14 (nI x) (nI y) x20 kc ks (nI P) (nI R) a b d e (nI P) (nI R) a b d2 e2 (n + 1) s.1 s.2 (nI (i + 1) - 1)
        rw [nI_pred]
        have em : nI i + (-1) = nI i - 1 := by grind
        have hiP := hs.1
        refine br_f (nI_pos (by omega)) ?_
        rcases hs.2 with ⟨run, rfl, h⟩ | ⟨t, e, h2, h3, h4⟩
        · have hle := h.1.1
          refine br_f (show ¬ (0 : Int32) ≤ -1 by decide) (lr_pO hP (by omega) (br_c (fun z => ?_) (fun z => ?_)))
          · show wL_law_529 post L xs J (wL_law_499 post L xs J (nI P) (nI R) x7 x11 x12 (nI o) x14 (nI x) (nI y) x20 kc ks (nI P) (nI R) a b d e (nI P) (nI R) a b d2 e2 n) (nI P) (nI R) x7 x11 x12 (nI o) x14 (nI x) (nI y) x20 (-1) (nI i) (nI run + 1) kc ks (nI P) (nI R) a b d e (nI P) (nI R) a b d2 e2
            rw [nI_1]
            refine pk_lt (run + 1) y (fun q => nm_r em (hw (-1, nI (run + 1)) ⟨by omega, Or.inl ⟨run + 1, rfl, rg_IH_f h z (by omega)⟩⟩)) (fun q => ?_)
            have hl := h.2.1
            obtain ⟨w2, w3, w4⟩ := rg_IH_t h z (by omega)
            exact nm_r em (hw (nI i, nI (run + 1)) ⟨by omega, Or.inr ⟨i, rfl, w2, w3, w4⟩⟩)
          · exact pk_lt 0 y (fun q => nm_r em (hw (-1, nI 0) ⟨by omega, Or.inl ⟨0, rfl, rg_IH_m h z hy1⟩⟩)) (fun q => absurd q (by omega))
        · exact br_t (by rw [e]; exact rg_0le (by omega)) (H' _ (Or.inl ⟨t, h2, h3, h4, e⟩))
    · exact ⟨_, lv_499t hP (fun v => H v (fun x' y' ex ey _ hx' hy1 hy2 => absurd ⟨y', hy1, hy2, ey⟩ hy)) (P - x) (-1, 0) (by omega)⟩
  · have e0 : nI P - (-1) = nI (P + 1) := by
      have : nI P - (-1) = nI P + 1 := by grind
      rw [this, nI_1]
    rw [e0] at H ⊢
    exact ⟨_, lv_499t hP (fun v => H v (fun x' y' ex ey _ hx' hy1 hy2 => absurd ((nI_eq (by omega) (by omega)).mp ex) (by omega))) (P + 1) (-1, 0) (by omega)⟩
end
section
/-! the law's step from its head, its loop, the whole law -/
theorem lz_392 {post : Int32 → Prop} {L : Nat} {xs : Nat → Int32} {J : Int32 → Int32 → Int32 → Nat → Nat → Int32 → Int32 → (Nat → Int32) → (Nat → Int32) → (Nat → Int32) → (Nat → Int32) → Int32 → Int32 → (Nat → Int32) → (Nat → Int32) → (Nat → Int32) → (Nat → Int32) → Prop} {kc ks P R : Nat} {a b d e d2 e2 : Nat → Int32} {o : Nat} {x7 : Int32} {x11 x12 x14 x15 x19 x20 : Int32} (hP : P ≤ 256) (h1 : 1 ≤ P) (ho : o ≤ 8) (hf : o = 8 → ∀ j, j < P → a j = -6 ∧ b j = -6) (hz : (∃ x, x < P ∧ x15 = nI x) ∨ x15 = -1) (h7 : (o = 7 ∧ ∃ x, x < P ∧ x20 = nI x) ∨ (¬ o = 7 ∧ x20 = x15)) (H : ∀ x15 x19 x20 x21 x23 x27, lq_A P o a b x15 x19 x20 x21 → ∃ n, wL_law_833 post L xs J n (nI P) (nI R) x7 (nI o) x15 x19 x20 x21 x23 x27 0 kc ks (nI P) (nI R) a b d e (nI P) (nI R) a b d2 e2) : wL_law_392 post L xs J (nI P) (nI R) x7 x11 x12 (nI o) x14 x15 x19 x20 kc ks (nI P) (nI R) a b d e (nI P) (nI R) a b d2 e2 := by
  have K : ∀ v, lq_A P o a b x15 x19 x20 v → wL_law_603 post L xs J (nI P) (nI R) x7 x11 x12 (nI o) x14 x15 x19 x20 v kc ks (nI P) (nI R) a b d e (nI P) (nI R) a b d2 e2 := fun v hv => lv_603 hP (fun x23 x27 => H x15 x19 x20 v x23 x27 hv)
  have h20 : (∃ x, x < P ∧ x20 = nI x) ∨ x20 = -1 := by
    rcases h7 with ⟨_, h⟩ | ⟨_, rfl⟩
    · exact Or.inl h
    · exact hz
  refine pk_eq o 2 (fun y2 => ?_) (fun n2 => pk_eq o 7 (fun y7 => ?_) (fun n7 => pk_eq o 3 (fun y3 => ?_) (fun n3 => pk_eq o 6 (fun y6 => ?_) (fun n6 => ?_))))
  · refine lv_421 hP h20 (fun v hv => K v ⟨ho, fun z => by omega, fun _ => ?_, fun z => by omega, fun z => by omega, hf⟩)
    rcases h7 with ⟨h, _⟩ | ⟨_, rfl⟩
    · omega
    · exact hv
  · exact lv_421 hP h20 (fun v hv => K v ⟨ho, fun z => by omega, fun z => by omega, fun z => by omega, fun _ => hv, hf⟩)
  · exact nm_e (lv_499 hP hz (fun v hv => K v ⟨ho, fun z => by omega, fun z => by omega, fun _ => hv, fun z => by omega, hf⟩))
  · have K6 : ∀ v, wL_law_603 post L xs J (nI P) (nI R) x7 x11 x12 (nI o) x14 x15 x19 x20 v kc ks (nI P) (nI R) a b d e (nI P) (nI R) a b d2 e2 := fun v => K v ⟨ho, fun z => by omega, fun z => by omega, fun z => by omega, fun z => by omega, hf⟩
    refine br_c (fun _ => ⟨by decide, K6 _⟩) (fun _ => br_c (fun k => ⟨nI_ne0 (by omega) (by omega), K6 _⟩) (fun k => ⟨fun z => ?_, K6 _⟩))
    have ex : x19 = nI P + 1 := by grind
    rw [ex, nI_1, Int32.lt_iff_toInt_lt, nI_toInt (by omega), nI_toInt (by omega)] at k
    omega
  · exact K x15 ⟨ho, fun _ => rfl, fun z => by omega, fun z => by omega, fun z => by omega, hf⟩
theorem lz_374 {post : Int32 → Prop} {L : Nat} {xs : Nat → Int32} {J : Int32 → Int32 → Int32 → Nat → Nat → Int32 → Int32 → (Nat → Int32) → (Nat → Int32) → (Nat → Int32) → (Nat → Int32) → Int32 → Int32 → (Nat → Int32) → (Nat → Int32) → (Nat → Int32) → (Nat → Int32) → Prop} {kc ks P R : Nat} {a b d e d2 e2 : Nat → Int32} {o : Nat} {x7 : Int32} {x11 x12 x14 x15 x19 : Int32} (hP : P ≤ 256) (h1 : 1 ≤ P) (ho : o ≤ 8) (hf : o = 8 → ∀ j, j < P → a j = -6 ∧ b j = -6) (hz : (∃ x, x < P ∧ x15 = nI x) ∨ x15 = -1) (H : ∀ x15 x19 x20 x21 x23 x27, lq_A P o a b x15 x19 x20 x21 → ∃ n, wL_law_833 post L xs J n (nI P) (nI R) x7 (nI o) x15 x19 x20 x21 x23 x27 0 kc ks (nI P) (nI R) a b d e (nI P) (nI R) a b d2 e2) : wL_law_374 post L xs J (nI P) (nI R) x7 x11 x12 (nI o) x14 x15 x19 kc ks (nI P) (nI R) a b d e (nI P) (nI R) a b d2 e2 :=
  pk_eq o 7 (fun e => lv_mod h1 (by omega) (fun k hk => lz_392 hP h1 ho hf hz (Or.inl ⟨e, k, hk, rfl⟩) H)) (fun e => lz_392 hP h1 ho hf hz (Or.inr ⟨e, rfl⟩) H)
theorem lz_353 {post : Int32 → Prop} {L : Nat} {xs : Nat → Int32} {J : Int32 → Int32 → Int32 → Nat → Nat → Int32 → Int32 → (Nat → Int32) → (Nat → Int32) → (Nat → Int32) → (Nat → Int32) → Int32 → Int32 → (Nat → Int32) → (Nat → Int32) → (Nat → Int32) → (Nat → Int32) → Prop} {kc ks P R : Nat} {a b d e d2 e2 : Nat → Int32} {o : Nat} {x7 : Int32} {x11 x12 x14 x15 x19 : Int32} (hP : P ≤ 256) (h1 : 1 ≤ P) (ho : o ≤ 8) (hf : o = 8 → ∀ j, j < P → a j = -6 ∧ b j = -6) (hz : (∃ x, x < P ∧ x15 = nI x) ∨ x15 = -1) (H : ∀ x15 x19 x20 x21 x23 x27, lq_A P o a b x15 x19 x20 x21 → ∃ n, wL_law_833 post L xs J n (nI P) (nI R) x7 (nI o) x15 x19 x20 x21 x23 x27 0 kc ks (nI P) (nI R) a b d e (nI P) (nI R) a b d2 e2) : wL_law_353 post L xs J (nI P) (nI R) x7 x11 x12 (nI o) x14 x15 x19 kc ks (nI P) (nI R) a b d e (nI P) (nI R) a b d2 e2 := by
  have h : ∀ y, ((∃ x, x < P ∧ y = nI x) ∨ y = -1) → wL_law_363 post L xs J (nI P) (nI R) x7 x11 x12 (nI o) x14 y x19 kc ks (nI P) (nI R) a b d e (nI P) (nI R) a b d2 e2 := fun y hy =>
    br_c (fun _ => lz_374 hP h1 ho hf hy H) (fun _ => lz_374 hP h1 ho hf hy H)
  exact br_c (fun _ => h _ (Or.inr rfl)) (fun _ => h _ hz)
theorem lz_334 {post : Int32 → Prop} {L : Nat} {xs : Nat → Int32} {J : Int32 → Int32 → Int32 → Nat → Nat → Int32 → Int32 → (Nat → Int32) → (Nat → Int32) → (Nat → Int32) → (Nat → Int32) → Int32 → Int32 → (Nat → Int32) → (Nat → Int32) → (Nat → Int32) → (Nat → Int32) → Prop} {kc ks P R : Nat} {a b d e d2 e2 : Nat → Int32} {o : Nat} {x7 : Int32} {x11 x12 x14 x15 z0 z1 z2 : Int32} (hP : P ≤ 256) (h1 : 1 ≤ P) (ho : o ≤ 8) (hf : o = 8 → ∀ j, j < P → a j = -6 ∧ b j = -6) (hz : (∃ x, x < P ∧ x15 = nI x) ∨ x15 = -1) (h0 : ¬ z0 = 0) (H : ∀ x15 x19 x20 x21 x23 x27, lq_A P o a b x15 x19 x20 x21 → ∃ n, wL_law_833 post L xs J n (nI P) (nI R) x7 (nI o) x15 x19 x20 x21 x23 x27 0 kc ks (nI P) (nI R) a b d e (nI P) (nI R) a b d2 e2) : wL_law_334 post L xs J (nI P) (nI R) x7 x11 x12 (nI o) x14 x15 z0 z1 z2 kc ks (nI P) (nI R) a b d e (nI P) (nI R) a b d2 e2 :=
  ⟨h0, nm_e (br_c (fun _ => nm_e (lz_353 hP h1 ho hf hz H)) (fun _ => lz_353 hP h1 ho hf hz H))⟩
theorem lz_294 {post : Int32 → Prop} {L : Nat} {xs : Nat → Int32} {J : Int32 → Int32 → Int32 → Nat → Nat → Int32 → Int32 → (Nat → Int32) → (Nat → Int32) → (Nat → Int32) → (Nat → Int32) → Int32 → Int32 → (Nat → Int32) → (Nat → Int32) → (Nat → Int32) → (Nat → Int32) → Prop} {kc ks P R : Nat} {a b d e d2 e2 : Nat → Int32} {o : Nat} {x7 : Int32} {x10 x11 x12 x14 x15 x16 : Int32} (hP : P ≤ 256) (h1 : 1 ≤ P) (ho : o ≤ 8) (hf : o = 8 → ∀ j, j < P → a j = -6 ∧ b j = -6) (hz : ∃ x, x < P ∧ x15 = nI x) (h16 : ∃ w, 1 ≤ w ∧ w ≤ 1000 ∧ x16 = nI w) (H : ∀ x15 x19 x20 x21 x23 x27, lq_A P o a b x15 x19 x20 x21 → ∃ n, wL_law_833 post L xs J n (nI P) (nI R) x7 (nI o) x15 x19 x20 x21 x23 x27 0 kc ks (nI P) (nI R) a b d e (nI P) (nI R) a b d2 e2) : wL_law_294 post L xs J (nI P) (nI R) x7 x10 x11 x12 (nI o) x14 x15 x16 kc ks (nI P) (nI R) a b d e (nI P) (nI R) a b d2 e2 := by
  obtain ⟨w, hw1, hw2, rfl⟩ := h16
  have h : ∀ z0, ¬ z0 = 0 → wL_law_315 post L xs J (nI P) (nI R) x7 x10 x11 x12 (nI o) x14 x15 (nI w) z0 kc ks (nI P) (nI R) a b d e (nI P) (nI R) a b d2 e2 := fun z0 hz0 =>
    br_c (fun _ => lz_334 hP h1 ho hf (Or.inl hz) hz0 H) (fun _ => lz_334 hP h1 ho hf (Or.inl hz) (nI_ne0 (by omega) (by omega)) H)
  have hPz : ¬ nI P = 0 := nI_ne0 (by omega) (by omega)
  refine br_c (fun _ => h _ hPz) (fun _ => br_c (fun _ => h _ hPz) (fun _ => ⟨by decide, h _ ?_⟩))
  have e : (1 : Int32) + nI P / 4 = nI (1 + P / 4) := by
    have e4 : nI P / 4 = nI (P / 4) := pk_div (a := P) (d := 4) (by omega) (by omega) (by omega)
    rw [e4]
    exact nI_add 1 (P / 4)
  rw [e]
  exact nI_ne0 (by omega) (by omega)
theorem lz_256 {post : Int32 → Prop} {L : Nat} {xs : Nat → Int32} {J : Int32 → Int32 → Int32 → Nat → Nat → Int32 → Int32 → (Nat → Int32) → (Nat → Int32) → (Nat → Int32) → (Nat → Int32) → Int32 → Int32 → (Nat → Int32) → (Nat → Int32) → (Nat → Int32) → (Nat → Int32) → Prop} {kc ks P R : Nat} {a b d e d2 e2 : Nat → Int32} {o : Nat} {x7 : Int32} {x10 x11 x12 x14 x15 x17 : Int32} (hP : P ≤ 256) (h1 : 1 ≤ P) (ho : o ≤ 8) (hf : o = 8 → ∀ j, j < P → a j = -6 ∧ b j = -6) (hz : ∃ x, x < P ∧ x15 = nI x) (H : ∀ x15 x19 x20 x21 x23 x27, lq_A P o a b x15 x19 x20 x21 → ∃ n, wL_law_833 post L xs J n (nI P) (nI R) x7 (nI o) x15 x19 x20 x21 x23 x27 0 kc ks (nI P) (nI R) a b d e (nI P) (nI R) a b d2 e2) : ∃ n, wL_law_256 post L xs J (nI P) (nI R) x7 x10 x11 x12 (nI o) x14 x15 x17 kc ks (nI P) (nI R) a b d e (nI P) (nI R) a b d2 e2 n 1 := by
  obtain ⟨x, hx, rfl⟩ := hz
  refine pk_loop (σ := Unit) (fun n w _ => wL_law_256 post L xs J (nI P) (nI R) x7 x10 x11 x12 (nI o) x14 (nI x) x17 kc ks (nI P) (nI R) a b d e (nI P) (nI R) a b d2 e2 n (nI w)) (fun w _ => 1 ≤ w) (P - x) 1 () (by omega) (Nat.le_refl _) (fun n _ hw => ?_) (fun n w _ hi hw hn => ?_)
  · exact pk_le P (x + (P - x)) (fun _ => lz_294 hP h1 ho hf ⟨x, hx, rfl⟩ ⟨P - x, hw, by omega, rfl⟩ H) (fun z => absurd z (by omega)) (hy := nI_add x (P - x))
  · refine pk_le P (x + w) (fun z => absurd z (by omega)) (fun _ => lv_p hP (fun r => ?_)) (hy := nI_add x w)
    have st : ∀ z, wL_law_283 post L xs J (wL_law_256 post L xs J (nI P) (nI R) x7 x10 x11 x12 (nI o) x14 (nI x) x17 kc ks (nI P) (nI R) a b d e (nI P) (nI R) a b d2 e2 n) (nI P) (nI R) x7 x10 x11 x12 (nI o) x14 (nI x) (nI w) x17 z kc ks (nI P) (nI R) a b d e (nI P) (nI R) a b d2 e2 := fun z =>
      br_c (fun _ => nm_r (nI_1 w) (hn () (by omega))) (fun _ => lz_294 hP h1 ho hf ⟨x, hx, rfl⟩ ⟨w, hw, by omega, rfl⟩ H)
    exact br_c (fun _ => st _) (fun _ => st _)
theorem lz_213 {post : Int32 → Prop} {L : Nat} {xs : Nat → Int32} {J : Int32 → Int32 → Int32 → Nat → Nat → Int32 → Int32 → (Nat → Int32) → (Nat → Int32) → (Nat → Int32) → (Nat → Int32) → Int32 → Int32 → (Nat → Int32) → (Nat → Int32) → (Nat → Int32) → (Nat → Int32) → Prop} {kc ks P R : Nat} {a b d e d2 e2 : Nat → Int32} {o : Nat} {x7 : Int32} {x10 x11 x12 x14 x15 x17 : Int32} (hP : P ≤ 256) (h1 : 1 ≤ P) (ho : o ≤ 8) (hf : o = 8 → ∀ j, j < P → a j = -6 ∧ b j = -6) (hz : ∃ x, x < P ∧ x15 = nI x) (H : ∀ x15 x19 x20 x21 x23 x27, lq_A P o a b x15 x19 x20 x21 → ∃ n, wL_law_833 post L xs J n (nI P) (nI R) x7 (nI o) x15 x19 x20 x21 x23 x27 0 kc ks (nI P) (nI R) a b d e (nI P) (nI R) a b d2 e2) : ∃ n, wL_law_213 post L xs J (nI P) (nI R) x7 x10 x11 x12 (nI o) x14 x17 kc ks (nI P) (nI R) a b d e (nI P) (nI R) a b d2 e2 n x15 0 := by
  obtain ⟨x, hx, rfl⟩ := hz
  refine pk_loop (fun n k (s : Nat) => wL_law_213 post L xs J (nI P) (nI R) x7 x10 x11 x12 (nI o) x14 x17 kc ks (nI P) (nI R) a b d e (nI P) (nI R) a b d2 e2 n (nI s) (nI k)) (fun _ s => s < P) P 0 x (Nat.zero_le _) hx (fun n s hs => ?_) (fun n k s hk hs hn => ?_)
  · exact pk_le P P (fun _ => lz_256 hP h1 ho hf ⟨s, hs, rfl⟩ H) (fun z => absurd z (by omega))
  · refine pk_le P k (fun z => absurd z (by omega)) (fun _ => lv_p hP (fun r => ?_))
    have e1 : nI s + 1 - (nI s + 1) / nI P * nI P = nI ((s + 1) % P) := by
      rw [nI_1]
      exact pk_rem (by omega) (by omega) (by omega)
    have st : ∀ z, wL_law_234 post L xs J (wL_law_213 post L xs J (nI P) (nI R) x7 x10 x11 x12 (nI o) x14 x17 kc ks (nI P) (nI R) a b d e (nI P) (nI R) a b d2 e2 n) (nI P) (nI R) x7 x10 x11 x12 (nI o) x14 (nI s) x17 (nI k) z kc ks (nI P) (nI R) a b d e (nI P) (nI R) a b d2 e2 := fun z =>
      br_c (fun _ => lz_256 hP h1 ho hf ⟨s, hs, rfl⟩ H) (fun _ => ⟨nI_ne0 (by omega) (by omega), nm_r e1 (nm_r (nI_1 k) (hn _ (Nat.mod_lt _ (by omega))))⟩)
    exact br_c (fun _ => st _) (fun _ => st _)
theorem lz_147 {post : Int32 → Prop} {L : Nat} {xs : Nat → Int32} {J : Int32 → Int32 → Int32 → Nat → Nat → Int32 → Int32 → (Nat → Int32) → (Nat → Int32) → (Nat → Int32) → (Nat → Int32) → Int32 → Int32 → (Nat → Int32) → (Nat → Int32) → (Nat → Int32) → (Nat → Int32) → Prop} {kc ks P R : Nat} {a b d e d2 e2 : Nat → Int32} {o : Nat} {x7 : Int32} {x8 x9 x10 x11 x12 : Int32} (hP : P ≤ 256) (h1 : 1 ≤ P) (ho : o ≤ 8) (hf : o = 8 → ∀ j, j < P → a j = -6 ∧ b j = -6) (H : ∀ x15 x19 x20 x21 x23 x27, lq_A P o a b x15 x19 x20 x21 → ∃ n, wL_law_833 post L xs J n (nI P) (nI R) x7 (nI o) x15 x19 x20 x21 x23 x27 0 kc ks (nI P) (nI R) a b d e (nI P) (nI R) a b d2 e2) : wL_law_147 post L xs J (nI P) (nI R) x7 x8 x9 x10 x11 x12 (nI o) kc ks (nI P) (nI R) a b d e (nI P) (nI R) a b d2 e2 := by
  refine nm_e (lv_mod h1 (by omega) (fun k hk => nm_r (pk_sub (by omega)) ?_))
  have a294 : ∀ x14, wL_law_294 post L xs J (nI P) (nI R) x7 x10 x11 x12 (nI o) x14 (nI k) (nI (P - k)) kc ks (nI P) (nI R) a b d e (nI P) (nI R) a b d2 e2 := fun x14 => lz_294 hP h1 ho hf ⟨k, hk, rfl⟩ ⟨P - k, by omega, by omega, rfl⟩ H
  have a203 : ∀ x14 x17, wL_law_203 post L xs J (nI P) (nI R) x7 x10 x11 x12 (nI o) x14 (nI k) (nI (P - k)) x17 kc ks (nI P) (nI R) a b d e (nI P) (nI R) a b d2 e2 := fun x14 x17 => br_c (fun _ => a294 _) (fun _ => lz_213 hP h1 ho hf ⟨k, hk, rfl⟩ H)
  have a183 : ∀ x14 z, wL_law_183 post L xs J (nI P) (nI R) x7 x10 x11 x12 (nI o) x14 (nI k) (nI (P - k)) z kc ks (nI P) (nI R) a b d e (nI P) (nI R) a b d2 e2 := fun x14 z => br_c (fun _ => a203 _ _) (fun _ => br_c (fun _ => a294 _) (fun _ => br_c (fun _ => a294 _) (fun _ => a203 _ _)))
  exact br_c (fun _ => a183 _ _) (fun _ => a183 _ _)
theorem lz_cell {post : Int32 → Prop} {L : Nat} {xs : Nat → Int32} {x : Int32} (k : Nat) (hL : L ≤ 260) (hk : k < 100000) (hx : x = nI k) (h : ∀ r, post r) : wpL_cell post L xs () x := by
  subst hx
  exact pk_le L k (fun _ => h 0) (fun z => ⟨vp_in_nI z (by omega), h _⟩)
theorem lz_84 {post : Int32 → Prop} {L : Nat} {xs : Nat → Int32} {J : Int32 → Int32 → Int32 → Nat → Nat → Int32 → Int32 → (Nat → Int32) → (Nat → Int32) → (Nat → Int32) → (Nat → Int32) → Int32 → Int32 → (Nat → Int32) → (Nat → Int32) → (Nat → Int32) → (Nat → Int32) → Prop} {kc ks P R i : Nat} {a b d e d2 e2 : Nat → Int32} (hL : L ≤ 260) (hi : i ≤ 1000) (hP : P ≤ 256) (h1 : 1 ≤ P) (hR : R ≤ 32) (hV : lq_V P a b) (hok : rg_ok P R a b) (hf : i = 0 → ∀ j, j < P → a j = -6 ∧ b j = -6)
    (HJ0 : nI i = 0 → ∀ a' b' D E D2 E2, lq_V P a' b' → rg_ok P R a' b' → J (nI P) (nI R) 2 kc ks (nI P) (nI R) a' b' D E (nI P) (nI R) a' b' D2 E2) (HJ1 : ¬ nI i = 0 → ∀ a' b' D E D2 E2, lq_V P a' b' → rg_ok P R a' b' → J (nI P) (nI R) (nI i + 5) kc ks (nI P) (nI R) a' b' D E (nI P) (nI R) a' b' D2 E2) : wL_law_84 post L xs J (nI P) (nI R) (nI i) kc ks (nI P) (nI R) a b d e (nI P) (nI R) a b d2 e2 := by
  have M : ∀ o, o ≤ 8 → (o = 8 → i = 0) → ∀ x8 x9 x10 x11 x12, wL_law_147 post L xs J (nI P) (nI R) (nI i) x8 x9 x10 x11 x12 (nI o) kc ks (nI P) (nI R) a b d e (nI P) (nI R) a b d2 e2 := fun o ho h8 x8 x9 x10 x11 x12 =>
    lz_147 hP h1 ho (fun z => hf (h8 z)) (fun x15 x19 x20 x21 x23 x27 hA => lu_833 hP hR hV hok HJ0 HJ1 hA)
  unfold wL_law_84
  refine lz_cell i hL (by omega) rfl (fun c0 => lz_cell (i + 1) hL (by omega) (nI_add i 1) (fun c1 => lz_cell (i + 2) hL (by omega) (nI_add i 2) (fun c2 => lz_cell (i + 3) hL (by omega) (nI_add i 3) (fun c3 => lz_cell (i + 4) hL (by omega) (nI_add i 4) (fun c4 => ?_)))))
  refine pk_eq i 0 (fun z => M 8 (Nat.le_refl _) (fun _ => z) _ _ _ _ _) (fun z => ?_)
  obtain ⟨o, ho, eo⟩ := pk_andE c0 (m := 7) 3 (by decide)
  rw [eo]
  exact M o (by omega) (fun y => by omega) _ _ _ _ _
theorem lz_72 {post : Int32 → Prop} {L : Nat} {xs : Nat → Int32} {kc ks P R : Nat} (hp : post 1) (hL : L ≤ 260) (hP : P ≤ 256) (h1 : 1 ≤ P) (hR : R ≤ 32) : ∀ (n i : Nat), 1 ≤ i → i ≤ 500 → L < i + n → 1 ≤ n → ∀ a b d e d2 e2, lq_V P a b → rg_ok P R a b → wL_law_72 post L xs n (nI P) (nI R) (nI i) kc ks (nI P) (nI R) a b d e (nI P) (nI R) a b d2 e2 := by
  intro n
  induction n with
  | zero => intro i _ _ _ h; omega
  | succ n ih =>
    intro i hi1 hi2 hn _ a b d e d2 e2 hV hok
    refine br_f (nI_ne0 (by omega) (by omega)) (pk_le L i (fun _ => hp) (fun z => ?_))
    refine lz_84 hL (by omega) hP h1 hR hV hok (fun z => by omega) (fun z => absurd z (nI_ne0 (by omega) (by omega))) (fun _ a' b' D E D2 E2 hV' hok' => ?_)
    rw [show nI i + 5 = nI (i + 5) from nI_add i 5]
    exact ih (i + 5) (by omega) (by omega) (by omega) (by omega) a' b' D E D2 E2 hV' hok'
/-- a new object's arrays -/
def lz_0 : Nat → Int32 := rg_on 0 256 (fun _ => -6) (fun _ => 0)
theorem lz_0f {P : Nat} (hP : P ≤ 256) : ∀ j, j < P → lz_0 j = -6 ∧ lz_0 j = -6 := fun j hj => by
  have h : lz_0 j = -6 := rg_on_t ⟨Nat.zero_le _, by omega⟩
  exact ⟨h, h⟩
theorem lz_0ok {P R : Nat} (hP : P ≤ 256) : rg_ok P R lz_0 lz_0 := by
  unfold rg_ok
  rw [rg_cn_z.mpr (fun i hi => lq_st_f (lz_0f hP (0 + i) (by omega)).1)]
  exact Nat.zero_le _
theorem lz_i66 {post : St2 → Prop} {mc ms kc ks P R : Nat} (h : ∀ D E, post (nI P, nI R, lz_0, lz_0, D, E)) : ∃ n, wX_init_66 post mc ms kc ks (nI P) (nI R) n 0 (fun _ => 0) (fun _ => 0) (fun _ => 0) (fun _ => 0) := by
  refine pk_loop (fun n i (t : (Nat → Int32) × (Nat → Int32)) => wX_init_66 post mc ms kc ks (nI P) (nI R) n (nI i) t.1 t.2 (fun _ => 0) (fun _ => 0)) (fun i t => rg_F 0 i (fun _ => -6) (fun _ => 0) t.1 ∧ rg_F 0 i (fun _ => -6) (fun _ => 0) t.2) 256 0 (fun _ => 0, fun _ => 0) (Nat.zero_le _) ⟨rg_F_0 _ _ _, rg_F_0 _ _ _⟩
    (fun n t ht => pk_le 256 256 (fun _ => ?_) (fun z => absurd z (by omega)))
    (fun n i t hi ht hw => pk_le 256 i (fun z => absurd z (by omega)) (fun _ => ⟨pk_in i 256 hi, nm_e ⟨pk_in i 256 hi, nm_e (nm_r (nI_1 i) (hw (_, _) ⟨rg_F_s ht.1 (Nat.zero_le _) (nI_clamp (by omega)) rfl, rg_F_s ht.2 (Nat.zero_le _) (nI_clamp (by omega)) rfl⟩))⟩⟩))
  have ex : ∀ n : Nat → Int32, rg_F 0 256 (fun _ => -6) (fun _ => 0) n → n = lz_0 := fun n hn => by
    funext j
    by_cases e : 0 ≤ j ∧ j < 0 + 256
    · exact (hn.1 j e.1 (by omega)).trans (rg_on_t (g := fun _ => -6) (a := fun _ => 0) e).symm
    · exact (hn.2 j (by omega)).trans (rg_on_f (g := fun _ => -6) (a := fun _ => 0) e).symm
  rw [ex _ ht.1, ex _ ht.2]
  exact h _ _
theorem lz_16 : (16 : Int32) = nI 16 := by decide
theorem lz_2 : (2 : Int32) = nI 2 := by decide
theorem lz_32 : (32 : Int32) = nI 32 := by decide
theorem lz_cl {x lo hi : Int32} {l h : Nat} (el : lo = nI l) (eh : hi = nI h) (hl : l ≤ h) (hh : h < 2 ^ 31) (h1 : lo ≤ x) (h2 : x ≤ hi) : ∃ n : Nat, l ≤ n ∧ n ≤ h ∧ x = nI n := by
  subst el eh
  rw [Int32.le_iff_toInt_le, nI_toInt (by omega)] at h1 h2
  obtain ⟨n, hn, rfl, fn⟩ := rg_nat (x := x) (by omega)
  exact ⟨n, by omega, by omega, rfl⟩
theorem lz_clamp (x : Int32) {lo hi : Int32} {l h : Nat} (el : lo = nI l) (eh : hi = nI h) (hl : l ≤ h) (hh : h < 2 ^ 31) : ∃ n : Nat, l ≤ n ∧ n ≤ h ∧ (∀ post : Int32 → Prop, post (nI n) → wpL_clamp post () x lo hi) ∧ (∀ post : Int32 → Prop, post (nI n) → wpX_clamp post () x lo hi) := by
  by_cases h1 : lo ≤ x
  · by_cases h2 : x ≤ hi
    · obtain ⟨n, hn1, hn2, rfl⟩ := lz_cl el eh hl hh h1 h2
      exact ⟨n, hn1, hn2, fun post hp => br_t h1 (br_t h2 hp), fun post hp => br_t h1 (br_t h2 hp)⟩
    · subst eh
      exact ⟨h, hl, Nat.le_refl _, fun post hp => br_t h1 (br_f h2 hp), fun post hp => br_t h1 (br_f h2 hp)⟩
  · subst el
    exact ⟨l, Nat.le_refl _, hl, fun post hp => br_f h1 hp, fun post hp => br_f h1 hp⟩
theorem lz_init {post : St2 → Prop} {P R : Nat} {x1 x2 : Int32} (hx : ∀ post : Int32 → Prop, post (nI P) → wpX_clamp post () x1 16 256) (hr : ∀ post : Int32 → Prop, post (nI R) → wpX_clamp post () x2 2 32) (h : ∀ D E, post (nI P, nI R, lz_0, lz_0, D, E)) : wpX_init post 4 1024 (0, 0) x1 x2 := by
  unfold wpX_init
  exact ⟨by omega, by omega, by omega, by omega, by omega, by omega, by omega, by omega, hx _ (hr _ (lz_i66 h))⟩
theorem i_vc (xs : Nat → Int32) (L : Nat) (hL : L ≤ 260) : wpL_law (fun r => r = 1) L xs := by
  unfold wpL_law
  refine lz_cell 0 hL (by omega) rfl (fun r1 => ⟨by decide, nm_e (lz_cell 1 hL (by omega) rfl (fun r4 => ⟨by decide, nm_e ?_⟩))⟩)
  obtain ⟨P, hP1, hP, hPl, hPx⟩ := lz_clamp ((r1 &&& 2147483647) - (r1 &&& 2147483647) / 300 * 300 - 10) lz_16 rg_n256 (by omega) (by omega)
  obtain ⟨R, hR1, hR, hRl, hRx⟩ := lz_clamp ((r4 &&& 2147483647) - (r4 &&& 2147483647) / 40 * 40 - 2) lz_2 lz_32 (by omega) (by omega)
  refine hPl _ (hRl _ ⟨4, 1024, by omega, by omega, lz_init hPx hRx (fun D E => ⟨by omega, by omega, 4, 1024, by omega, by omega, lz_init hPx hRx (fun D2 E2 => ?_)⟩)⟩)
  refine ⟨L + 2, br_t rfl ?_⟩
  refine lz_84 (i := 0) hL (by omega) hP (by omega) hR (fun j hj => Or.inl (lz_0f hP j hj)) (lz_0ok hP) (fun _ => lz_0f hP) (fun _ a' b' D' E' D2' E2' hV' hok' => ?_) (fun z => absurd rfl z)
  exact lz_72 (post := fun r => r = 1) rfl hL hP (by omega) hR (L + 1) 2 (by omega) (by omega) (by omega) (by omega) a' b' D' E' D2' E2' hV' hok'
end
