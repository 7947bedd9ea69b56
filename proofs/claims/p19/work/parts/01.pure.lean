/-! the pure picture: a page's protection a j (-6: free) and backing b j; counts; runs of free pages -/
def rg_mp (a : Nat → Int32) (j : Nat) : Bool := decide (¬ a j = -6)
def rg_co (a b : Nat → Int32) (j : Nat) : Bool := decide (1 ≤ j ∧ ¬ a j = -6 ∧ a j = a (j - 1) ∧ ((b (j - 1) = 0 ∧ b j = 0) ∨ (b j = b (j - 1) + 1 ∧ b j / 1024 = b (j - 1) / 1024)))
def rg_st (a b : Nat → Int32) (j : Nat) : Bool := rg_mp a j && !rg_co a b j
def rg_cn (p : Nat → Bool) (s : Nat) : Nat → Nat
  | 0 => 0
  | n + 1 => rg_cn p s n + (if p (s + n) = true then 1 else 0)
theorem rg_cn_0 (p : Nat → Bool) (s : Nat) : rg_cn p s 0 = 0 := rfl
theorem rg_cn_t {p : Nat → Bool} {s n : Nat} (h : p (s + n) = true) : rg_cn p s (n + 1) = rg_cn p s n + 1 := by
  rw [rg_cn, if_pos h]
theorem rg_cn_f {p : Nat → Bool} {s n : Nat} (h : p (s + n) = false) : rg_cn p s (n + 1) = rg_cn p s n := by
  rw [rg_cn, if_neg (by rw [h]; exact Bool.false_ne_true), Nat.add_zero]
theorem rg_cn_le (p : Nat → Bool) (s n : Nat) : rg_cn p s n ≤ n := by
  induction n with
  | zero => exact Nat.le_refl 0
  | succ n ih =>
    rw [rg_cn]
    split <;> omega
theorem rg_cn_all {p : Nat → Bool} {s n : Nat} (h : ¬ rg_cn p s n < n) : ∀ i, i < n → p (s + i) = true := by
  induction n with
  | zero => intro i hi; omega
  | succ n ih =>
    have hle := rg_cn_le p s n
    intro i hi
    rw [rg_cn] at h
    by_cases hp : p (s + n) = true
    · rw [if_pos hp] at h
      by_cases e : i = n
      · rw [e]; exact hp
      · exact ih (by omega) i (by omega)
    · rw [if_neg hp] at h; omega
theorem rg_cn_z {p : Nat → Bool} {s n : Nat} : rg_cn p s n = 0 ↔ ∀ i, i < n → p (s + i) = false := by
  induction n with
  | zero => exact ⟨fun _ i hi => by omega, fun _ => rfl⟩
  | succ n ih =>
    rw [rg_cn]
    constructor
    · intro h i hi
      have h1 : ¬ p (s + n) = true := by intro hp; rw [if_pos hp] at h; omega
      rw [if_neg h1] at h
      by_cases e : i = n
      · rw [e]; exact Bool.eq_false_iff.mpr h1
      · exact ih.mp (by omega) i (by omega)
    · intro h
      have h1 : ¬ p (s + n) = true := by rw [h n (by omega)]; exact Bool.false_ne_true
      rw [if_neg h1, ih.mpr (fun i hi => h i (by omega))]
theorem rg_mp_t {a : Nat → Int32} {j : Nat} : rg_mp a j = true ↔ ¬ a j = -6 := decide_eq_true_iff
theorem rg_mp_f {a : Nat → Int32} {j : Nat} : rg_mp a j = false ↔ a j = -6 := by
  rw [rg_mp, decide_eq_false_iff_not, Decidable.not_not]
/-- pages t .. t+l-1 are free -/
def rg_fr (a : Nat → Int32) (t l : Nat) : Prop := ∀ i, i < l → a (t + i) = -6
theorem rg_fr_cn {a : Nat → Int32} {t l : Nat} : rg_cn (rg_mp a) t l = 0 ↔ rg_fr a t l := by
  rw [rg_cn_z]
  exact ⟨fun h i hi => rg_mp_f.mp (h i hi), fun h i hi => rg_mp_f.mpr (h i hi)⟩
/-- findLow's answer -/
def rg_FL (a : Nat → Int32) (P f l : Nat) (r : Int32) : Prop :=
  (∃ t, f ≤ t ∧ t + l ≤ P ∧ rg_fr a t l ∧ (∀ t', f ≤ t' → t' < t → ¬ rg_fr a t' l) ∧ r = nI t) ∨ ((∀ t', f ≤ t' → t' + l ≤ P → ¬ rg_fr a t' l) ∧ r = -4)
theorem rg_FL_u {a : Nat → Int32} {P f l : Nat} {r r' : Int32} (h : rg_FL a P f l r) (h' : rg_FL a P f l r') : r' = r := by
  rcases h with ⟨t, h1, h2, h3, h4, rfl⟩ | ⟨h1, rfl⟩ <;> rcases h' with ⟨t', g1, g2, g3, g4, rfl⟩ | ⟨g1, rfl⟩
  · rcases Nat.lt_trichotomy t t' with e | e | e
    · exact absurd h3 (g4 t h1 e)
    · rw [e]
    · exact absurd g3 (h4 t' g1 e)
  · exact absurd h3 (g1 t h1 h2)
  · exact absurd g3 (h1 t' g1 g2)
  · rfl
/-- findHigh's answer -/
def rg_FH (a : Nat → Int32) (to l : Nat) (r : Int32) : Prop :=
  (∃ t, t + l ≤ to ∧ rg_fr a t l ∧ (∀ t', t < t' → t' + l ≤ to → ¬ rg_fr a t' l) ∧ r = nI t) ∨ ((∀ t', t' + l ≤ to → ¬ rg_fr a t' l) ∧ r = -4)
theorem rg_FH_u {a : Nat → Int32} {to l : Nat} {r r' : Int32} (h : rg_FH a to l r) (h' : rg_FH a to l r') : r' = r := by
  rcases h with ⟨t, h2, h3, h4, rfl⟩ | ⟨h1, rfl⟩ <;> rcases h' with ⟨t', g2, g3, g4, rfl⟩ | ⟨g1, rfl⟩
  · rcases Nat.lt_trichotomy t t' with e | e | e
    · exact absurd g3 (h4 t' e g2)
    · rw [e]
    · exact absurd h3 (g4 t e h2)
  · exact absurd h3 (g1 t h2)
  · exact absurd g3 (h1 t' g2)
  · rfl
/-- longestGap's answer below P -/
def rg_LG (a : Nat → Int32) (P L : Nat) : Prop := (∃ t, t + L ≤ P ∧ rg_fr a t L) ∧ ∀ t l, t + l ≤ P → rg_fr a t l → l ≤ L
theorem rg_LG_u {a : Nat → Int32} {P L L' : Nat} (h : rg_LG a P L) (h' : rg_LG a P L') : L' = L := by
  obtain ⟨⟨t, h1, h2⟩, h3⟩ := h
  obtain ⟨⟨t', g1, g2⟩, g3⟩ := h'
  have := h3 t' L' g1 g2
  have := g3 t L h1 h2
  omega
/-- the run of free pages that ends at q, not below f -/
def rg_run (a : Nat → Int32) (f q run : Nat) : Prop := f + run ≤ q ∧ (∀ i, q - run ≤ i → i < q → a i = -6) ∧ (q - run = f ∨ ¬ a (q - run - 1) = -6)
theorem rg_run_0 (a : Nat → Int32) (f : Nat) : rg_run a f f 0 := ⟨Nat.le_refl _, fun i h1 h2 => by omega, Or.inl rfl⟩
theorem rg_run_f {a : Nat → Int32} {f q run : Nat} (h : rg_run a f q run) (hq : a q = -6) : rg_run a f (q + 1) (run + 1) := by
  obtain ⟨h1, h2, h3⟩ := h
  refine ⟨by omega, fun i g1 g2 => ?_, ?_⟩
  · by_cases e : i = q
    · rw [e]; exact hq
    · exact h2 i (by omega) (by omega)
  · rw [show q + 1 - (run + 1) = q - run from by omega]; exact h3
theorem rg_run_m {a : Nat → Int32} {f q run : Nat} (h : rg_run a f q run) (hq : ¬ a q = -6) : rg_run a f (q + 1) 0 := by
  obtain ⟨h1, h2, h3⟩ := h
  exact ⟨by omega, fun i g1 g2 => by omega, Or.inr (by rw [show q + 1 - 0 - 1 = q from by omega]; exact hq)⟩
theorem rg_run_x {a : Nat → Int32} {f q run t l : Nat} (h : rg_run a f q run) (ht : f ≤ t) (e : t + l = q) (hf : rg_fr a t l) : l ≤ run := by
  obtain ⟨h1, h2, h3⟩ := h
  by_cases hl : l ≤ run
  · exact hl
  · rcases h3 with h3 | h3
    · omega
    · have := hf (q - run - 1 - t) (by omega)
      rw [show t + (q - run - 1 - t) = q - run - 1 from by omega] at this
      exact absurd this h3
theorem rg_run_fr {a : Nat → Int32} {f q run : Nat} (h : rg_run a f q run) : rg_fr a (q - run) run := by
  obtain ⟨h1, h2, h3⟩ := h
  exact fun i hi => h2 (q - run + i) (by omega) (by omega)
/-- findLow's loop at page q -/
def rg_IL (a : Nat → Int32) (f l q run : Nat) : Prop := rg_run a f q run ∧ run < l ∧ ∀ t, f ≤ t → t + l ≤ q → ¬ rg_fr a t l
theorem rg_IL_0 (a : Nat → Int32) {f l : Nat} (hl : 1 ≤ l) : rg_IL a f l f 0 := ⟨rg_run_0 a f, by omega, fun t h1 h2 _ => by omega⟩
theorem rg_IL_x {a : Nat → Int32} {f l q run : Nat} (h : rg_IL a f l q run) : rg_FL a q f l (-4) := Or.inr ⟨h.2.2, rfl⟩
theorem rg_IL_r {a : Nat → Int32} {f l q run P : Nat} (h : rg_IL a f l q run) (hq : a q = -6) (e : run + 1 = l) (hP : q < P) : l ≤ q + 1 ∧ rg_FL a P f l (nI (q + 1 - l)) := by
  obtain ⟨h1, h2, h3⟩ := h
  have g := rg_run_f h1 hq
  rw [e] at g
  have hle := g.1
  refine ⟨by omega, Or.inl ⟨q + 1 - l, by omega, by omega, rg_run_fr g, fun t' a1 a2 => h3 t' a1 (by omega), rfl⟩⟩
theorem rg_IL_f {a : Nat → Int32} {f l q run : Nat} (h : rg_IL a f l q run) (hq : a q = -6) (e : ¬ run + 1 = l) : rg_IL a f l (q + 1) (run + 1) := by
  obtain ⟨h1, h2, h3⟩ := h
  have g := rg_run_f h1 hq
  refine ⟨g, by omega, fun t a1 a2 a3 => ?_⟩
  by_cases e2 : t + l ≤ q
  · exact h3 t a1 e2 a3
  · have := rg_run_x g a1 (by omega) a3
    omega
theorem rg_IL_m {a : Nat → Int32} {f l q run : Nat} (h : rg_IL a f l q run) (hq : ¬ a q = -6) (hl : 1 ≤ l) : rg_IL a f l (q + 1) 0 := by
  obtain ⟨h1, h2, h3⟩ := h
  have g := rg_run_m h1 hq
  refine ⟨g, by omega, fun t a1 a2 a3 => ?_⟩
  by_cases e2 : t + l ≤ q
  · exact h3 t a1 e2 a3
  · have := rg_run_x g a1 (by omega) a3
    omega
/-- the run of free pages that begins at q, below to -/
def rg_rud (a : Nat → Int32) (to q run : Nat) : Prop := q + run ≤ to ∧ rg_fr a q run ∧ (q + run = to ∨ ¬ a (q + run) = -6)
theorem rg_rud_0 (a : Nat → Int32) (to : Nat) : rg_rud a to to 0 := ⟨Nat.le_refl _, fun i h => by omega, Or.inl rfl⟩
theorem rg_rud_f {a : Nat → Int32} {to q run : Nat} (h : rg_rud a to (q + 1) run) (hq : a q = -6) : rg_rud a to q (run + 1) := by
  obtain ⟨h1, h2, h3⟩ := h
  refine ⟨by omega, fun i g1 => ?_, ?_⟩
  · by_cases e : i = 0
    · rw [e]; exact hq
    · have := h2 (i - 1) (by omega)
      rw [show q + 1 + (i - 1) = q + i from by omega] at this
      exact this
  · rw [show q + (run + 1) = q + 1 + run from by omega]; exact h3
theorem rg_rud_m {a : Nat → Int32} {to q : Nat} (h : q + 1 ≤ to) (hq : ¬ a q = -6) : rg_rud a to q 0 :=
  ⟨by omega, fun i g1 => by omega, Or.inr hq⟩
theorem rg_rud_x {a : Nat → Int32} {to q run l : Nat} (h : rg_rud a to q run) (e : q + l ≤ to) (hf : rg_fr a q l) : l ≤ run := by
  obtain ⟨h1, h2, h3⟩ := h
  by_cases hl : l ≤ run
  · exact hl
  · rcases h3 with h3 | h3
    · omega
    · exact absurd (hf run (by omega)) h3
/-- findHigh's loop with q pages left -/
def rg_IH (a : Nat → Int32) (to l q run : Nat) : Prop := rg_rud a to q run ∧ run < l ∧ ∀ t, q ≤ t → t + l ≤ to → ¬ rg_fr a t l
theorem rg_IH_0 (a : Nat → Int32) {to l : Nat} (hl : 1 ≤ l) : rg_IH a to l to 0 := ⟨rg_rud_0 a to, by omega, fun t h1 h2 _ => by omega⟩
theorem rg_IH_x {a : Nat → Int32} {to l run : Nat} (h : rg_IH a to l 0 run) : rg_FH a to l (-4) := Or.inr ⟨fun t' e => h.2.2 t' (Nat.zero_le _) e, rfl⟩
theorem rg_IH_r {a : Nat → Int32} {to l q run : Nat} (h : rg_IH a to l (q + 1) run) (hq : a q = -6) (e : run + 1 = l) : rg_FH a to l (nI q) := by
  obtain ⟨h1, h2, h3⟩ := h
  have g := rg_rud_f h1 hq
  rw [e] at g
  exact Or.inl ⟨q, g.1, g.2.1, fun t' a1 a2 => h3 t' (by omega) a2, rfl⟩
theorem rg_IH_f {a : Nat → Int32} {to l q run : Nat} (h : rg_IH a to l (q + 1) run) (hq : a q = -6) (e : ¬ run + 1 = l) : rg_IH a to l q (run + 1) := by
  obtain ⟨h1, h2, h3⟩ := h
  have g := rg_rud_f h1 hq
  refine ⟨g, by omega, fun t a1 a2 a3 => ?_⟩
  by_cases e2 : q + 1 ≤ t
  · exact h3 t e2 a2 a3
  · have e3 : t = q := by omega
    rw [e3] at a2 a3
    have := rg_rud_x g a2 a3
    omega
theorem rg_IH_m {a : Nat → Int32} {to l q run : Nat} (h : rg_IH a to l (q + 1) run) (hq : ¬ a q = -6) (hl : 1 ≤ l) : rg_IH a to l q 0 := by
  obtain ⟨h1, h2, h3⟩ := h
  have g : rg_rud a to q 0 := rg_rud_m (by have := h1.1; omega) hq
  refine ⟨g, by omega, fun t a1 a2 a3 => ?_⟩
  by_cases e2 : q + 1 ≤ t
  · exact h3 t e2 a2 a3
  · have e3 : t = q := by omega
    rw [e3] at a2 a3
    have := rg_rud_x g a2 a3
    omega
/-- longestGap, the class: at page q, longest L, run -/
def rg_IG (a : Nat → Int32) (q L run : Nat) : Prop := rg_run a 0 q run ∧ rg_LG a q L
theorem rg_IG_0 (a : Nat → Int32) : rg_IG a 0 0 0 := ⟨rg_run_0 a 0, ⟨0, Nat.le_refl _, fun i h => by omega⟩, fun t l h _ => by omega⟩
theorem rg_IG_s {a : Nat → Int32} {q L run : Nat} (hL : rg_LG a q L) (g : rg_run a 0 (q + 1) run) (h : run ≤ L) : rg_IG a (q + 1) L run := by
  obtain ⟨⟨t, h1, h2⟩, h3⟩ := hL
  refine ⟨g, ⟨t, by omega, h2⟩, fun t' l e1 e2 => ?_⟩
  by_cases e : t' + l ≤ q
  · exact h3 t' l e e2
  · have := rg_run_x g (Nat.zero_le t') (by omega) e2
    omega
theorem rg_IG_g {a : Nat → Int32} {q L run : Nat} (hL : rg_LG a q L) (g : rg_run a 0 (q + 1) run) (h : L < run) : rg_IG a (q + 1) run run := by
  obtain ⟨⟨t, h1, h2⟩, h3⟩ := hL
  have hle := g.1
  refine ⟨g, ⟨q + 1 - run, by omega, rg_run_fr g⟩, fun t' l e1 e2 => ?_⟩
  by_cases e : t' + l ≤ q
  · have := h3 t' l e e2
    omega
  · exact rg_run_x g (Nat.zero_le t') (by omega) e2
/-- longestGap, the reference: before the turn of first page f -/
def rg_JG (a : Nat → Int32) (P f L : Nat) : Prop := (∃ t, t + L ≤ P ∧ rg_fr a t L) ∧ ∀ t l, t < f → t + l ≤ P → rg_fr a t l → l ≤ L
theorem rg_JG_0 (a : Nat → Int32) (P : Nat) : rg_JG a P 0 0 := ⟨⟨0, by omega, fun i h => by omega⟩, fun t l h => by omega⟩
theorem rg_JG_x {a : Nat → Int32} {P L : Nat} (h : rg_JG a P P L) : rg_LG a P L :=
  ⟨h.1, fun t l e1 e2 => by
    by_cases e : t < P
    · exact h.2 t l e e1 e2
    · omega⟩
theorem rg_JG_s {a : Nat → Int32} {P f L l : Nat} (h : rg_JG a P f L) (g : rg_rud a P f l) (e : l ≤ L) : rg_JG a P (f + 1) L :=
  ⟨h.1, fun t l' e0 e1 e2 => by
    by_cases e3 : t < f
    · exact h.2 t l' e3 e1 e2
    · have e4 : t = f := by omega
      rw [e4] at e1 e2
      have := rg_rud_x g e1 e2
      omega⟩
theorem rg_JG_g {a : Nat → Int32} {P f L l : Nat} (h : rg_JG a P f L) (g : rg_rud a P f l) (e : L < l) : rg_JG a P (f + 1) l :=
  ⟨⟨f, g.1, g.2.1⟩, fun t l' e0 e1 e2 => by
    by_cases e3 : t < f
    · have := h.2 t l' e3 e1 e2
      omega
    · have e4 : t = f := by omega
      rw [e4] at e1 e2
      exact rg_rud_x g e1 e2⟩
theorem rg_LG_le {a : Nat → Int32} {P L : Nat} (h : rg_LG a P L) : L ≤ P := by
  obtain ⟨⟨t, h1, _⟩, _⟩ := h
  omega
/-- regionStart's answer: the first page that p marks with k marked pages before it -/
def rg_RS (p : Nat → Bool) (P : Nat) (k r : Int32) : Prop :=
  (∃ t, t < P ∧ p t = true ∧ nI (rg_cn p 0 t) = k ∧ (∀ t', t' < t → p t' = true → ¬ nI (rg_cn p 0 t') = k) ∧ r = nI t) ∨ ((∀ t', t' < P → p t' = true → ¬ nI (rg_cn p 0 t') = k) ∧ r = -1)
theorem rg_RS_u {p : Nat → Bool} {P : Nat} {k r r' : Int32} (h : rg_RS p P k r) (h' : rg_RS p P k r') : r' = r := by
  rcases h with ⟨t, h1, h2, h3, h4, rfl⟩ | ⟨h1, rfl⟩ <;> rcases h' with ⟨t', g1, g2, g3, g4, rfl⟩ | ⟨g1, rfl⟩
  · rcases Nat.lt_trichotomy t t' with e | e | e
    · exact absurd h3 (g4 t e h2)
    · rw [e]
    · exact absurd g3 (h4 t' e g2)
  · exact absurd h3 (g1 t h1 h2)
  · exact absurd g3 (h1 t' g1 g2)
  · rfl
/-- regionStart's loop at page q -/
def rg_IS (p : Nat → Bool) (q : Nat) (k : Int32) : Prop := ∀ t', t' < q → p t' = true → ¬ nI (rg_cn p 0 t') = k
theorem rg_IS_0 (p : Nat → Bool) (k : Int32) : rg_IS p 0 k := fun t h => by omega
theorem rg_IS_x {p : Nat → Bool} {q : Nat} {k : Int32} (h : rg_IS p q k) : rg_RS p q k (-1) := Or.inr ⟨h, rfl⟩
theorem rg_IS_r {p : Nat → Bool} {q P : Nat} {k : Int32} (h : rg_IS p q k) (hq : q < P) (hp : p q = true) (e : nI (rg_cn p 0 q) = k) : rg_RS p P k (nI q) := Or.inl ⟨q, hq, hp, e, h, rfl⟩
theorem rg_IS_n {p : Nat → Bool} {q : Nat} {k : Int32} (h : rg_IS p q k) (e : ¬ nI (rg_cn p 0 q) = k) : rg_IS p (q + 1) k := by
  intro t ht hp
  by_cases e2 : t = q
  · rw [e2]; exact e
  · exact h t (by omega) hp
theorem rg_IS_m {p : Nat → Bool} {q : Nat} {k : Int32} (h : rg_IS p q k) (e : p q = false) : rg_IS p (q + 1) k := by
  intro t ht hp
  by_cases e2 : t = q
  · rw [e2, e] at hp; exact absurd hp Bool.false_ne_true
  · exact h t (by omega) hp
/-- regionLength's answer from first page t -/
def rg_RL (c : Nat → Bool) (P t l : Nat) : Prop := 1 ≤ l ∧ t + l ≤ P ∧ (∀ i, 1 ≤ i → i < l → c (t + i) = true) ∧ (t + l = P ∨ c (t + l) = false)
theorem rg_RL_u {c : Nat → Bool} {P t l l' : Nat} (h : rg_RL c P t l) (h' : rg_RL c P t l') : l' = l := by
  obtain ⟨h1, h2, h3, h4⟩ := h
  obtain ⟨g1, g2, g3, g4⟩ := h'
  rcases Nat.lt_trichotomy l l' with e | e | e
  · rcases h4 with h4 | h4
    · omega
    · rw [g3 l h1 e] at h4; exact absurd h4.symm Bool.false_ne_true
  · exact e.symm
  · rcases g4 with g4 | g4
    · omega
    · rw [h3 l' g1 e] at g4; exact absurd g4.symm Bool.false_ne_true
