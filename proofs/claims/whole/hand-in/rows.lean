section
/-! rows pasted from kit/rows/PURE-ROWS -/
theorem pk_us {f : Nat → Int32} {k : Nat} {x : Int32} : upd f k x k = x := if_pos rfl
theorem pk_un {f : Nat → Int32} {k j : Nat} {x : Int32} (h : j ≠ k) : upd f k x j = f j := if_neg h
theorem pk_sub {a b : Nat} (h : b ≤ a) : nI a - nI b = nI (a - b) := by
  obtain ⟨c, rfl⟩ : ∃ c, a = c + b := ⟨a - b, by omega⟩
  rw [← nI_add, Int32.add_sub_cancel, Nat.add_sub_cancel]
theorem pk_m1 (n : Nat) : nI (n + 1) + (-1) = nI n := by
  rw [← nI_1, Int32.add_assoc, show (1 : Int32) + (-1) = 0 from rfl, Int32.add_zero]
theorem pk_mul (a b : Nat) : nI a * nI b = nI (a * b) := (Int32.ofNat_mul a b).symm
theorem pk_div {a d : Nat} (ha : a < 2 ^ 31) (h0 : 0 < d) (hd : d < 2 ^ 31) : nI a / nI d = nI (a / d) := by
  apply Int32.toInt_inj.mp
  rw [lg_idiv_nonneg (by rw [nI_toInt ha]; omega) (by rw [nI_toInt hd]; omega), nI_toInt ha, nI_toInt hd, nI_toInt (Nat.lt_of_le_of_lt (Nat.div_le_self a d) ha)]
  first | rfl | exact (Int.natCast_ediv _ _).symm
theorem pk_rem {a d : Nat} (ha : a < 2 ^ 31) (h0 : 0 < d) (hd : d < 2 ^ 31) : nI a - nI a / nI d * nI d = nI (a % d) := by
  rw [pk_div ha h0 hd, pk_mul, pk_sub (Nat.div_mul_le_self a d)]
  exact congrArg nI (by have := Nat.div_add_mod' a d; omega)
theorem pk_sub_toInt {a b : Nat} (ha : a < 2 ^ 30) (hb : b < 2 ^ 30) : (nI a - nI b).toInt = (a : Int) - b := by
  rw [Int32.toInt_sub, nI_toInt (by omega), nI_toInt (by omega)]
  exact Int.bmod_eq_of_le (by omega) (by omega)
theorem pk_sneg {a b : Nat} (hb : b < 2 ^ 30) (h : a < b) : nI a - nI b < 0 := by
  rw [Int32.lt_iff_toInt_lt, pk_sub_toInt (by omega) hb, show (0 : Int32).toInt = 0 from by decide]
  omega
theorem pk_ix (x : Int32) {n : Nat} (hn : n < 2 ^ 31) : x < 0 ∨ nI n ≤ x ∨ ∃ j : Nat, j < n ∧ x = nI j := by
  by_cases h : x < 0
  · exact Or.inl h
  · obtain ⟨j, hj, rfl⟩ := nI_of h
    by_cases h2 : j < n
    · exact Or.inr (Or.inr ⟨j, h2, rfl⟩)
    · exact Or.inr (Or.inl (nI_le (by omega) hj))
theorem pk_le {x y : Int32} {A B : Prop} (a b : Nat) (f : a ≤ b → A) (g : b < a → B) (hx : x = nI a := by rfl) (hy : y = nI b := by rfl) (ha : a < 2 ^ 31 := by omega) (hb : b < 2 ^ 31 := by omega) : (x ≤ y → A) ∧ (¬ x ≤ y → B) := by
  subst hx hy
  rw [nI_leI ha hb]
  exact ⟨f, fun z => g (by omega)⟩
theorem pk_lt {x y : Int32} {A B : Prop} (a b : Nat) (f : a < b → A) (g : b ≤ a → B) (hx : x = nI a := by rfl) (hy : y = nI b := by rfl) (ha : a < 2 ^ 31 := by omega) (hb : b < 2 ^ 31 := by omega) : (x < y → A) ∧ (¬ x < y → B) := by
  subst hx hy
  rw [nI_ltI ha hb]
  exact ⟨f, fun z => g (by omega)⟩
theorem pk_eq {x y : Int32} {A B : Prop} (a b : Nat) (f : a = b → A) (g : a ≠ b → B) (hx : x = nI a := by rfl) (hy : y = nI b := by rfl) (ha : a < 2 ^ 31 := by omega) (hb : b < 2 ^ 31 := by omega) : (x = y → A) ∧ (¬ x = y → B) := by
  subst hx hy
  rw [nI_eq ha hb]
  exact ⟨f, g⟩
theorem pk_in {x : Int32} (n N : Nat) (h : n < N) (hx : x = nI n := by rfl) (hN : N < 2 ^ 31 := by omega) : vp_in x N := by
  subst hx
  exact vp_in_nI h hN
theorem pk_cl {x : Int32} (n : Nat) (hx : x = nI n := by rfl) (h : n < 2 ^ 31 := by omega) : x.toNatClampNeg = n := by
  subst hx
  exact nI_clamp h
theorem pk_loop {σ : Type} (W : Nat → Nat → σ → Prop) (I : Nat → σ → Prop) (e i0 : Nat) (s : σ) (hi : i0 ≤ e) (h0 : I i0 s) (hx : ∀ n s, I e s → W (n + 1) e s)
    (hs : ∀ n i s, i < e → I i s → (∀ s', I (i + 1) s' → W n (i + 1) s') → W (n + 1) i s) : ∃ n, W n i0 s :=
  ⟨e + 1, loop_i W I e hx hs (e + 1) i0 s hi (by omega) h0⟩
theorem pk_loopD {σ : Type} (W : Nat → Nat → σ → Prop) (I : Nat → σ → Prop) (hx : ∀ n s, I 0 s → W (n + 1) 0 s)
    (hs : ∀ n i s, I (i + 1) s → (∀ s', I i s' → W n i s') → W (n + 1) (i + 1) s) : ∀ (e : Nat) (s : σ), I e s → W (e + 1) e s := by
  intro e
  induction e with
  | zero => exact fun s h => hx 0 s h
  | succ e ih => exact fun s h => hs (e + 1) e s h (fun s' h' => ih s' h')
/-! the pure picture: a page's protection a j (-6: free) and backing b j; counts; runs of free pages -/
def rg_mp (a : Nat → Int32) (j : Nat) : Bool := decide (¬ a j = -6)
def rg_co (a b : Nat → Int32) (j : Nat) : Bool := decide (1 ≤ j ∧ ¬ a j = -6 ∧ a j = a (j - 1) ∧ ((b (j - 1) = 0 ∧ b j = 0) ∨ (b j = b (j - 1) + 1 ∧ b j / 1024 = b (j - 1) / 1024)))
def rg_st (a b : Nat → Int32) (j : Nat) : Bool := rg_mp a j && !rg_co a b j
def rg_cn (p : Nat → Bool) (s : Nat) : Nat → Nat
  | 0 => 0
  | n + 1 => rg_cn p s n + (if p (s + n) = true then 1 else 0)
theorem rg_cn_0 (p : Nat → Bool) (s : Nat) : rg_cn p s 0 = 0 := rfl
theorem rg_cn_t {p : Nat → Bool} {s n : Nat} (h : p (s + n) = true) : rg_cn p s (n + 1) = rg_cn p s n + 1 := by
  rw [rg_cn, if_pos h]
theorem rg_cn_f {p : Nat → Bool} {s n : Nat} (h : p (s + n) = false) : rg_cn p s (n + 1) = rg_cn p s n := by
  rw [rg_cn, if_neg (by rw [h]; exact Bool.false_ne_true), Nat.add_zero]
theorem rg_cn_le (p : Nat → Bool) (s n : Nat) : rg_cn p s n ≤ n := by
  induction n with
  | zero => exact Nat.le_refl 0
  | succ n ih =>
    rw [rg_cn]
    split <;> omega
theorem rg_cn_all {p : Nat → Bool} {s n : Nat} (h : ¬ rg_cn p s n < n) : ∀ i, i < n → p (s + i) = true := by
  induction n with
  | zero => intro i hi; omega
  | succ n ih =>
    have hle := rg_cn_le p s n
    intro i hi
    rw [rg_cn] at h
    by_cases hp : p (s + n) = true
    · rw [if_pos hp] at h
      by_cases e : i = n
      · rw [e]; exact hp
      · exact ih (by omega) i (by omega)
    · rw [if_neg hp] at h; omega
theorem rg_cn_z {p : Nat → Bool} {s n : Nat} : rg_cn p s n = 0 ↔ ∀ i, i < n → p (s + i) = false := by
  induction n with
  | zero => exact ⟨fun _ i hi => by omega, fun _ => rfl⟩
  | succ n ih =>
    rw [rg_cn]
    constructor
    · intro h i hi
      have h1 : ¬ p (s + n) = true := by intro hp; rw [if_pos hp] at h; omega
      rw [if_neg h1] at h
      by_cases e : i = n
      · rw [e]; exact Bool.eq_false_iff.mpr h1
      · exact ih.mp (by omega) i (by omega)
    · intro h
      have h1 : ¬ p (s + n) = true := by rw [h n (by omega)]; exact Bool.false_ne_true
      rw [if_neg h1, ih.mpr (fun i hi => h i (by omega))]
theorem rg_mp_t {a : Nat → Int32} {j : Nat} : rg_mp a j = true ↔ ¬ a j = -6 := decide_eq_true_iff
theorem rg_mp_f {a : Nat → Int32} {j : Nat} : rg_mp a j = false ↔ a j = -6 := by
  rw [rg_mp, decide_eq_false_iff_not, Decidable.not_not]
/-- pages t .. t+l-1 are free -/
def rg_fr (a : Nat → Int32) (t l : Nat) : Prop := ∀ i, i < l → a (t + i) = -6
theorem rg_fr_cn {a : Nat → Int32} {t l : Nat} : rg_cn (rg_mp a) t l = 0 ↔ rg_fr a t l := by
  rw [rg_cn_z]
  exact ⟨fun h i hi => rg_mp_f.mp (h i hi), fun h i hi => rg_mp_f.mpr (h i hi)⟩
/-- findLow's answer -/
def rg_FL (a : Nat → Int32) (P f l : Nat) (r : Int32) : Prop :=
  (∃ t, f ≤ t ∧ t + l ≤ P ∧ rg_fr a t l ∧ (∀ t', f ≤ t' → t' < t → ¬ rg_fr a t' l) ∧ r = nI t) ∨ ((∀ t', f ≤ t' → t' + l ≤ P → ¬ rg_fr a t' l) ∧ r = -4)
theorem rg_FL_u {a : Nat → Int32} {P f l : Nat} {r r' : Int32} (h : rg_FL a P f l r) (h' : rg_FL a P f l r') : r' = r := by
  rcases h with ⟨t, h1, h2, h3, h4, rfl⟩ | ⟨h1, rfl⟩ <;> rcases h' with ⟨t', g1, g2, g3, g4, rfl⟩ | ⟨g1, rfl⟩
  · rcases Nat.lt_trichotomy t t' with e | e | e
    · exact absurd h3 (g4 t h1 e)
    · rw [e]
    · exact absurd g3 (h4 t' g1 e)
  · exact absurd h3 (g1 t h1 h2)
  · exact absurd g3 (h1 t' g1 g2)
  · rfl
/-- findHigh's answer -/
def rg_FH (a : Nat → Int32) (to l : Nat) (r : Int32) : Prop :=
  (∃ t, t + l ≤ to ∧ rg_fr a t l ∧ (∀ t', t < t' → t' + l ≤ to → ¬ rg_fr a t' l) ∧ r = nI t) ∨ ((∀ t', t' + l ≤ to → ¬ rg_fr a t' l) ∧ r = -4)
theorem rg_FH_u {a : Nat → Int32} {to l : Nat} {r r' : Int32} (h : rg_FH a to l r) (h' : rg_FH a to l r') : r' = r := by
  rcases h with ⟨t, h2, h3, h4, rfl⟩ | ⟨h1, rfl⟩ <;> rcases h' with ⟨t', g2, g3, g4, rfl⟩ | ⟨g1, rfl⟩
  · rcases Nat.lt_trichotomy t t' with e | e | e
    · exact absurd g3 (h4 t' e g2)
    · rw [e]
    · exact absurd h3 (g4 t e h2)
  · exact absurd h3 (g1 t h2)
  · exact absurd g3 (h1 t' g2)
  · rfl
/-- longestGap's answer below P -/
def rg_LG (a : Nat → Int32) (P L : Nat) : Prop := (∃ t, t + L ≤ P ∧ rg_fr a t L) ∧ ∀ t l, t + l ≤ P → rg_fr a t l → l ≤ L
theorem rg_LG_u {a : Nat → Int32} {P L L' : Nat} (h : rg_LG a P L) (h' : rg_LG a P L') : L' = L := by
  obtain ⟨⟨t, h1, h2⟩, h3⟩ := h
  obtain ⟨⟨t', g1, g2⟩, g3⟩ := h'
  have := h3 t' L' g1 g2
  have := g3 t L h1 h2
  omega
/-- the run of free pages that ends at q, not below f -/
def rg_run (a : Nat → Int32) (f q run : Nat) : Prop := f + run ≤ q ∧ (∀ i, q - run ≤ i → i < q → a i = -6) ∧ (q - run = f ∨ ¬ a (q - run - 1) = -6)
theorem rg_run_0 (a : Nat → Int32) (f : Nat) : rg_run a f f 0 := ⟨Nat.le_refl _, fun i h1 h2 => by omega, Or.inl rfl⟩
theorem rg_run_f {a : Nat → Int32} {f q run : Nat} (h : rg_run a f q run) (hq : a q = -6) : rg_run a f (q + 1) (run + 1) := by
  obtain ⟨h1, h2, h3⟩ := h
  refine ⟨by omega, fun i g1 g2 => ?_, ?_⟩
  · by_cases e : i = q
    · rw [e]; exact hq
    · exact h2 i (by omega) (by omega)
  · rw [show q + 1 - (run + 1) = q - run from by omega]; exact h3
theorem rg_run_m {a : Nat → Int32} {f q run : Nat} (h : rg_run a f q run) (hq : ¬ a q = -6) : rg_run a f (q + 1) 0 := by
  obtain ⟨h1, h2, h3⟩ := h
  exact ⟨by omega, fun i g1 g2 => by omega, Or.inr (by rw [show q + 1 - 0 - 1 = q from by omega]; exact hq)⟩
theorem rg_run_x {a : Nat → Int32} {f q run t l : Nat} (h : rg_run a f q run) (ht : f ≤ t) (e : t + l = q) (hf : rg_fr a t l) : l ≤ run := by
  obtain ⟨h1, h2, h3⟩ := h
  by_cases hl : l ≤ run
  · exact hl
  · rcases h3 with h3 | h3
    · omega
    · have := hf (q - run - 1 - t) (by omega)
      rw [show t + (q - run - 1 - t) = q - run - 1 from by omega] at this
      exact absurd this h3
theorem rg_run_fr {a : Nat → Int32} {f q run : Nat} (h : rg_run a f q run) : rg_fr a (q - run) run := by
  obtain ⟨h1, h2, h3⟩ := h
  exact fun i hi => h2 (q - run + i) (by omega) (by omega)
/-- findLow's loop at page q -/
def rg_IL (a : Nat → Int32) (f l q run : Nat) : Prop := rg_run a f q run ∧ run < l ∧ ∀ t, f ≤ t → t + l ≤ q → ¬ rg_fr a t l
theorem rg_IL_0 (a : Nat → Int32) {f l : Nat} (hl : 1 ≤ l) : rg_IL a f l f 0 := ⟨rg_run_0 a f, by omega, fun t h1 h2 _ => by omega⟩
theorem rg_IL_x {a : Nat → Int32} {f l q run : Nat} (h : rg_IL a f l q run) : rg_FL a q f l (-4) := Or.inr ⟨h.2.2, rfl⟩
theorem rg_IL_r {a : Nat → Int32} {f l q run P : Nat} (h : rg_IL a f l q run) (hq : a q = -6) (e : run + 1 = l) (hP : q < P) : l ≤ q + 1 ∧ rg_FL a P f l (nI (q + 1 - l)) := by
  obtain ⟨h1, h2, h3⟩ := h
  have g := rg_run_f h1 hq
  rw [e] at g
  have hle := g.1
  refine ⟨by omega, Or.inl ⟨q + 1 - l, by omega, by omega, rg_run_fr g, fun t' a1 a2 => h3 t' a1 (by omega), rfl⟩⟩
theorem rg_IL_f {a : Nat → Int32} {f l q run : Nat} (h : rg_IL a f l q run) (hq : a q = -6) (e : ¬ run + 1 = l) : rg_IL a f l (q + 1) (run + 1) := by
  obtain ⟨h1, h2, h3⟩ := h
  have g := rg_run_f h1 hq
  refine ⟨g, by omega, fun t a1 a2 a3 => ?_⟩
  by_cases e2 : t + l ≤ q
  · exact h3 t a1 e2 a3
  · have := rg_run_x g a1 (by omega) a3
    omega
theorem rg_IL_m {a : Nat → Int32} {f l q run : Nat} (h : rg_IL a f l q run) (hq : ¬ a q = -6) (hl : 1 ≤ l) : rg_IL a f l (q + 1) 0 := by
  obtain ⟨h1, h2, h3⟩ := h
  have g := rg_run_m h1 hq
  refine ⟨g, by omega, fun t a1 a2 a3 => ?_⟩
  by_cases e2 : t + l ≤ q
  · exact h3 t a1 e2 a3
  · have := rg_run_x g a1 (by omega) a3
    omega
/-- the run of free pages that begins at q, below to -/
def rg_rud (a : Nat → Int32) (to q run : Nat) : Prop := q + run ≤ to ∧ rg_fr a q run ∧ (q + run = to ∨ ¬ a (q + run) = -6)
theorem rg_rud_0 (a : Nat → Int32) (to : Nat) : rg_rud a to to 0 := ⟨Nat.le_refl _, fun i h => by omega, Or.inl rfl⟩
theorem rg_rud_f {a : Nat → Int32} {to q run : Nat} (h : rg_rud a to (q + 1) run) (hq : a q = -6) : rg_rud a to q (run + 1) := by
  obtain ⟨h1, h2, h3⟩ := h
  refine ⟨by omega, fun i g1 => ?_, ?_⟩
  · by_cases e : i = 0
    · rw [e]; exact hq
    · have := h2 (i - 1) (by omega)
      rw [show q + 1 + (i - 1) = q + i from by omega] at this
      exact this
  · rw [show q + (run + 1) = q + 1 + run from by omega]; exact h3
theorem rg_rud_m {a : Nat → Int32} {to q : Nat} (h : q + 1 ≤ to) (hq : ¬ a q = -6) : rg_rud a to q 0 :=
  ⟨by omega, fun i g1 => by omega, Or.inr hq⟩
theorem rg_rud_x {a : Nat → Int32} {to q run l : Nat} (h : rg_rud a to q run) (e : q + l ≤ to) (hf : rg_fr a q l) : l ≤ run := by
  obtain ⟨h1, h2, h3⟩ := h
  by_cases hl : l ≤ run
  · exact hl
  · rcases h3 with h3 | h3
    · omega
    · exact absurd (hf run (by omega)) h3
/-- findHigh's loop with q pages left -/
def rg_IH (a : Nat → Int32) (to l q run : Nat) : Prop := rg_rud a to q run ∧ run < l ∧ ∀ t, q ≤ t → t + l ≤ to → ¬ rg_fr a t l
theorem rg_IH_0 (a : Nat → Int32) {to l : Nat} (hl : 1 ≤ l) : rg_IH a to l to 0 := ⟨rg_rud_0 a to, by omega, fun t h1 h2 _ => by omega⟩
theorem rg_IH_x {a : Nat → Int32} {to l run : Nat} (h : rg_IH a to l 0 run) : rg_FH a to l (-4) := Or.inr ⟨fun t' e => h.2.2 t' (Nat.zero_le _) e, rfl⟩
theorem rg_IH_r {a : Nat → Int32} {to l q run : Nat} (h : rg_IH a to l (q + 1) run) (hq : a q = -6) (e : run + 1 = l) : rg_FH a to l (nI q) := by
  obtain ⟨h1, h2, h3⟩ := h
  have g := rg_rud_f h1 hq
  rw [e] at g
  exact Or.inl ⟨q, g.1, g.2.1, fun t' a1 a2 => h3 t' (by omega) a2, rfl⟩
theorem rg_IH_f {a : Nat → Int32} {to l q run : Nat} (h : rg_IH a to l (q + 1) run) (hq : a q = -6) (e : ¬ run + 1 = l) : rg_IH a to l q (run + 1) := by
  obtain ⟨h1, h2, h3⟩ := h
  have g := rg_rud_f h1 hq
  refine ⟨g, by omega, fun t a1 a2 a3 => ?_⟩
  by_cases e2 : q + 1 ≤ t
  · exact h3 t e2 a2 a3
  · have e3 : t = q := by omega
    rw [e3] at a2 a3
    have := rg_rud_x g a2 a3
    omega
theorem rg_IH_m {a : Nat → Int32} {to l q run : Nat} (h : rg_IH a to l (q + 1) run) (hq : ¬ a q = -6) (hl : 1 ≤ l) : rg_IH a to l q 0 := by
  obtain ⟨h1, h2, h3⟩ := h
  have g : rg_rud a to q 0 := rg_rud_m (by have := h1.1; omega) hq
  refine ⟨g, by omega, fun t a1 a2 a3 => ?_⟩
  by_cases e2 : q + 1 ≤ t
  · exact h3 t e2 a2 a3
  · have e3 : t = q := by omega
    rw [e3] at a2 a3
    have := rg_rud_x g a2 a3
    omega
/-- longestGap, the class: at page q, longest L, run -/
def rg_IG (a : Nat → Int32) (q L run : Nat) : Prop := rg_run a 0 q run ∧ rg_LG a q L
theorem rg_IG_0 (a : Nat → Int32) : rg_IG a 0 0 0 := ⟨rg_run_0 a 0, ⟨0, Nat.le_refl _, fun i h => by omega⟩, fun t l h _ => by omega⟩
theorem rg_IG_s {a : Nat → Int32} {q L run : Nat} (hL : rg_LG a q L) (g : rg_run a 0 (q + 1) run) (h : run ≤ L) : rg_IG a (q + 1) L run := by
  obtain ⟨⟨t, h1, h2⟩, h3⟩ := hL
  refine ⟨g, ⟨t, by omega, h2⟩, fun t' l e1 e2 => ?_⟩
  by_cases e : t' + l ≤ q
  · exact h3 t' l e e2
  · have := rg_run_x g (Nat.zero_le t') (by omega) e2
    omega
theorem rg_IG_g {a : Nat → Int32} {q L run : Nat} (hL : rg_LG a q L) (g : rg_run a 0 (q + 1) run) (h : L < run) : rg_IG a (q + 1) run run := by
  obtain ⟨⟨t, h1, h2⟩, h3⟩ := hL
  have hle := g.1
  refine ⟨g, ⟨q + 1 - run, by omega, rg_run_fr g⟩, fun t' l e1 e2 => ?_⟩
  by_cases e : t' + l ≤ q
  · have := h3 t' l e e2
    omega
  · exact rg_run_x g (Nat.zero_le t') (by omega) e2
/-- longestGap, the reference: before the turn of first page f -/
def rg_JG (a : Nat → Int32) (P f L : Nat) : Prop := (∃ t, t + L ≤ P ∧ rg_fr a t L) ∧ ∀ t l, t < f → t + l ≤ P → rg_fr a t l → l ≤ L
theorem rg_JG_0 (a : Nat → Int32) (P : Nat) : rg_JG a P 0 0 := ⟨⟨0, by omega, fun i h => by omega⟩, fun t l h => by omega⟩
theorem rg_JG_x {a : Nat → Int32} {P L : Nat} (h : rg_JG a P P L) : rg_LG a P L :=
  ⟨h.1, fun t l e1 e2 => by
    by_cases e : t < P
    · exact h.2 t l e e1 e2
    · omega⟩
theorem rg_JG_s {a : Nat → Int32} {P f L l : Nat} (h : rg_JG a P f L) (g : rg_rud a P f l) (e : l ≤ L) : rg_JG a P (f + 1) L :=
  ⟨h.1, fun t l' e0 e1 e2 => by
    by_cases e3 : t < f
    · exact h.2 t l' e3 e1 e2
    · have e4 : t = f := by omega
      rw [e4] at e1 e2
      have := rg_rud_x g e1 e2
      omega⟩
theorem rg_JG_g {a : Nat → Int32} {P f L l : Nat} (h : rg_JG a P f L) (g : rg_rud a P f l) (e : L < l) : rg_JG a P (f + 1) l :=
  ⟨⟨f, g.1, g.2.1⟩, fun t l' e0 e1 e2 => by
    by_cases e3 : t < f
    · have := h.2 t l' e3 e1 e2
      omega
    · have e4 : t = f := by omega
      rw [e4] at e1 e2
      exact rg_rud_x g e1 e2⟩
theorem rg_LG_le {a : Nat → Int32} {P L : Nat} (h : rg_LG a P L) : L ≤ P := by
  obtain ⟨⟨t, h1, _⟩, _⟩ := h
  omega
/-- regionStart's answer: the first page that p marks with k marked pages before it -/
def rg_RS (p : Nat → Bool) (P : Nat) (k r : Int32) : Prop :=
  (∃ t, t < P ∧ p t = true ∧ nI (rg_cn p 0 t) = k ∧ (∀ t', t' < t → p t' = true → ¬ nI (rg_cn p 0 t') = k) ∧ r = nI t) ∨ ((∀ t', t' < P → p t' = true → ¬ nI (rg_cn p 0 t') = k) ∧ r = -1)
theorem rg_RS_u {p : Nat → Bool} {P : Nat} {k r r' : Int32} (h : rg_RS p P k r) (h' : rg_RS p P k r') : r' = r := by
  rcases h with ⟨t, h1, h2, h3, h4, rfl⟩ | ⟨h1, rfl⟩ <;> rcases h' with ⟨t', g1, g2, g3, g4, rfl⟩ | ⟨g1, rfl⟩
  · rcases Nat.lt_trichotomy t t' with e | e | e
    · exact absurd h3 (g4 t e h2)
    · rw [e]
    · exact absurd g3 (h4 t' e g2)
  · exact absurd h3 (g1 t h1 h2)
  · exact absurd g3 (h1 t' g1 g2)
  · rfl
/-- regionStart's loop at page q -/
def rg_IS (p : Nat → Bool) (q : Nat) (k : Int32) : Prop := ∀ t', t' < q → p t' = true → ¬ nI (rg_cn p 0 t') = k
theorem rg_IS_0 (p : Nat → Bool) (k : Int32) : rg_IS p 0 k := fun t h => by omega
theorem rg_IS_x {p : Nat → Bool} {q : Nat} {k : Int32} (h : rg_IS p q k) : rg_RS p q k (-1) := Or.inr ⟨h, rfl⟩
theorem rg_IS_r {p : Nat → Bool} {q P : Nat} {k : Int32} (h : rg_IS p q k) (hq : q < P) (hp : p q = true) (e : nI (rg_cn p 0 q) = k) : rg_RS p P k (nI q) := Or.inl ⟨q, hq, hp, e, h, rfl⟩
theorem rg_IS_n {p : Nat → Bool} {q : Nat} {k : Int32} (h : rg_IS p q k) (e : ¬ nI (rg_cn p 0 q) = k) : rg_IS p (q + 1) k := by
  intro t ht hp
  by_cases e2 : t = q
  · rw [e2]; exact e
  · exact h t (by omega) hp
theorem rg_IS_m {p : Nat → Bool} {q : Nat} {k : Int32} (h : rg_IS p q k) (e : p q = false) : rg_IS p (q + 1) k := by
  intro t ht hp
  by_cases e2 : t = q
  · rw [e2, e] at hp; exact absurd hp Bool.false_ne_true
  · exact h t (by omega) hp
/-- regionLength's answer from first page t -/
def rg_RL (c : Nat → Bool) (P t l : Nat) : Prop := 1 ≤ l ∧ t + l ≤ P ∧ (∀ i, 1 ≤ i → i < l → c (t + i) = true) ∧ (t + l = P ∨ c (t + l) = false)
theorem rg_RL_u {c : Nat → Bool} {P t l l' : Nat} (h : rg_RL c P t l) (h' : rg_RL c P t l') : l' = l := by
  obtain ⟨h1, h2, h3, h4⟩ := h
  obtain ⟨g1, g2, g3, g4⟩ := h'
  rcases Nat.lt_trichotomy l l' with e | e | e
  · rcases h4 with h4 | h4
    · omega
    · rw [g3 l h1 e] at h4; exact absurd h4.symm Bool.false_ne_true
  · exact e.symm
  · rcases g4 with g4 | g4
    · omega
    · rw [h3 l' g1 e] at g4; exact absurd g4.symm Bool.false_ne_true
end
section
/-! ints: proper ranges and attributes; the relation of the two maps -/
theorem rg_i0 : (0 : Int32).toInt = 0 := by decide
theorem rg_i1 : (1 : Int32).toInt = 1 := by decide
theorem rg_i7 : (7 : Int32).toInt = 7 := by decide
theorem rg_i1024 : (1024 : Int32).toInt = 1024 := by decide
theorem rg_i8191 : (8191 : Int32).toInt = 8191 := by decide
theorem rg_im6 : (-6 : Int32).toInt = -6 := by decide
theorem rg_n1024 : (1024 : Int32) = nI 1024 := by decide
theorem rg_n256 : (256 : Int32) = nI 256 := by decide
theorem rg_nat {x : Int32} (h : 0 ≤ x.toInt) : ∃ n : Nat, n < 2 ^ 31 ∧ x = nI n ∧ x.toInt = n := by
  have h' : ¬ x < 0 := by rw [Int32.lt_iff_toInt_lt, rg_i0]; omega
  obtain ⟨n, hn, rfl⟩ := nI_of h'
  exact ⟨n, hn, rfl, nI_toInt hn⟩
/-- the range (s, l) is proper -/
def rg_PR (P : Nat) (s l : Int32) : Prop := 0 ≤ s.toInt ∧ 1 ≤ l.toInt ∧ s.toInt + l.toInt ≤ P
theorem rg_PR_n {P : Nat} {s l : Int32} (h : rg_PR P s l) : ∃ x y : Nat, s = nI x ∧ l = nI y ∧ 1 ≤ y ∧ x + y ≤ P := by
  obtain ⟨h1, h2, h3⟩ := h
  obtain ⟨x, hx, ex, fx⟩ := rg_nat h1
  obtain ⟨y, hy, ey, fy⟩ := rg_nat (x := l) (by omega)
  exact ⟨x, y, ex, ey, by omega, by omega⟩
/-- a length, a bound -/
def rg_LN (P : Nat) (l : Int32) : Prop := 1 ≤ l.toInt ∧ l.toInt ≤ P
theorem rg_LN_n {P : Nat} {l : Int32} (h : rg_LN P l) : ∃ y : Nat, l = nI y ∧ 1 ≤ y ∧ y ≤ P := by
  obtain ⟨h1, h2⟩ := h
  obtain ⟨y, hy, ey, fy⟩ := rg_nat (x := l) (by omega)
  exact ⟨y, ey, by omega, by omega⟩
/-- a page -/
def rg_PG (P : Nat) (s : Int32) : Prop := 0 ≤ s.toInt ∧ s.toInt < P
theorem rg_PG_n {P : Nat} {s : Int32} (h : rg_PG P s) : ∃ x : Nat, s = nI x ∧ x < P := by
  obtain ⟨h1, h2⟩ := h
  obtain ⟨x, hx, ex, fx⟩ := rg_nat h1
  exact ⟨x, ex, by omega⟩
/-- a protection -/
def rg_PT (p : Int32) : Prop := 0 ≤ p.toInt ∧ p.toInt ≤ 7
theorem rg_PT_6 {p : Int32} (h : rg_PT p) : ¬ p = -6 := by
  intro e
  have h1 := h.1
  rw [e, rg_im6] at h1
  omega
/-- a backing -/
def rg_BK (b : Int32) : Prop := b = 0 ∨ (1024 ≤ b.toInt ∧ b.toInt ≤ 8191)
/-- (l, p, b) are proper attributes -/
def rg_PA (l p b : Int32) : Prop := rg_PT p ∧ (b = 0 ∨ (1024 ≤ b.toInt ∧ b.toInt ≤ 8191 ∧ b.toInt % 1024 + l.toInt ≤ 1024))
theorem rg_sub {P : Nat} (hP : P ≤ 256) {l : Int32} (h : rg_LN P l) : (nI P - l).toInt = P - l.toInt := by
  obtain ⟨y, rfl, h1, h2⟩ := rg_LN_n h
  rw [pk_sub h2, nI_toInt (by omega), nI_toInt (by omega)]
  omega
theorem rg_rem {b : Int32} (h1 : 1024 ≤ b.toInt) (h2 : b.toInt ≤ 8191) : ∃ c : Nat, c < 1024 ∧ b - b / 1024 * 1024 = nI c ∧ b.toInt % 1024 = c := by
  obtain ⟨n, hn, rfl, fn⟩ := rg_nat (x := b) (by omega)
  refine ⟨n % 1024, by omega, ?_, by omega⟩
  rw [rg_n1024]
  exact pk_rem hn (by omega) (by omega)
/-- the two maps below P: a, b the class's; m, p, c the reference's -/
def rg_R (P : Nat) (a b m p c : Nat → Int32) : Prop := ∀ j, j < P → (m j = 0 ∧ a j = -6 ∧ b j = -6) ∨ (m j = 1 ∧ a j = p j ∧ b j = c j ∧ ¬ a j = -6 ∧ rg_BK (b j))
/-- the reference's own continuing -/
def rg_cy (m p c : Nat → Int32) (j : Nat) : Bool := decide (1 ≤ j ∧ ¬ m j = 0 ∧ ¬ m (j - 1) = 0 ∧ p j = p (j - 1) ∧ ((c (j - 1) = 0 ∧ c j = 0) ∨ (1024 ≤ c (j - 1) ∧ 1024 ≤ c j ∧ c (j - 1) / 1024 = c j / 1024 ∧ c j = c (j - 1) + 1)))
theorem rg_cy_co {P : Nat} {a b m p c : Nat → Int32} (h : rg_R P a b m p c) {j : Nat} (hj : j < P) : rg_cy m p c j = rg_co a b j := by
  unfold rg_cy rg_co
  apply decide_eq_decide.mpr
  have h10 : ¬ (1 : Int32) = 0 := by decide
  by_cases h1 : 1 ≤ j
  · rcases h j hj with ⟨e1, e2, e3⟩ | ⟨e1, e2, e3, e4, e5⟩
    · constructor
      · intro z; exact absurd e1 z.2.1
      · intro z; exact absurd e2 z.2.1
    · rcases h (j - 1) (by omega) with ⟨f1, f2, f3⟩ | ⟨f1, f2, f3, f4, f5⟩
      · constructor
        · intro z; exact absurd f1 z.2.2.1
        · intro z; rw [f2] at z; exact absurd z.2.2.1 e4
      · rw [e1, f1, ← e2, ← f2, ← e3, ← f3]
        constructor
        · rintro ⟨_, _, _, z1, z2⟩
          refine ⟨h1, e4, z1, ?_⟩
          rcases z2 with z2 | ⟨_, _, z3, z4⟩
          · exact Or.inl z2
          · exact Or.inr ⟨z4, z3.symm⟩
        · rintro ⟨_, _, z1, z2⟩
          refine ⟨h1, h10, h10, z1, ?_⟩
          rcases z2 with z2 | ⟨z3, z4⟩
          · exact Or.inl z2
          · right
            have k1 : 1024 ≤ (b (j - 1)).toInt := by
              rcases f5 with f5 | f5
              · rw [f5] at z3
                rcases e5 with e5 | e5
                · rw [z3] at e5; exact absurd e5 (by decide)
                · rw [z3] at e5; exact absurd e5.1 (by decide)
              · exact f5.1
            have k2 : 1024 ≤ (b j).toInt := by
              rcases e5 with e5 | e5
              · rw [e5] at z4
                obtain ⟨n, hn, en, fn⟩ := rg_nat (x := b (j - 1)) (by omega)
                rcases f5 with f5 | f5
                · rw [f5] at k1; exact absurd k1 (by decide)
                · rw [en, rg_n1024, pk_div hn (by omega) (by omega), show (0 : Int32) / nI 1024 = nI 0 from by decide, nI_eq (by omega) (by omega)] at z4
                  omega
              · exact e5.1
            refine ⟨?_, ?_, z4.symm, z3⟩
            · rw [Int32.le_iff_toInt_le, rg_i1024]; exact k1
            · rw [Int32.le_iff_toInt_le, rg_i1024]; exact k2
  · constructor
    · intro z; exact absurd z.1 h1
    · intro z; exact absurd z.1 h1
theorem rg_R_mp {P : Nat} {a b m p c : Nat → Int32} (h : rg_R P a b m p c) {j : Nat} (hj : j < P) : (m j = 0 ∧ rg_mp a j = false) ∨ (m j = 1 ∧ rg_mp a j = true) := by
  rcases h j hj with ⟨e1, e2, _⟩ | ⟨e1, _, _, e4, _⟩
  · exact Or.inl ⟨e1, rg_mp_f.mpr e2⟩
  · exact Or.inr ⟨e1, rg_mp_t.mpr e4⟩
end
section
/-! stores over a range; the pure new maps -/
def rg_F (lo hi : Nat) (g o n : Nat → Int32) : Prop := (∀ j, lo ≤ j → j < hi → n j = g j) ∧ (∀ j, ¬ (lo ≤ j ∧ j < hi) → n j = o j)
theorem rg_F_0 (lo : Nat) (g o : Nat → Int32) : rg_F lo lo g o o := ⟨fun j h1 h2 => by omega, fun j _ => rfl⟩
theorem rg_F_s {lo i k : Nat} {g o n : Nat → Int32} {x : Int32} (h : rg_F lo i g o n) (hl : lo ≤ i) (hk : k = i) (hx : x = g i) : rg_F lo (i + 1) g o (upd n k x) := by
  subst hk hx
  refine ⟨fun j h1 h2 => ?_, fun j h1 => ?_⟩
  · by_cases e : j = k
    · rw [e, pk_us]
    · rw [pk_un e]; exact h.1 j h1 (by omega)
  · rw [pk_un (by omega)]; exact h.2 j (by omega)
theorem rg_F_k {lo i : Nat} {g o n : Nat → Int32} (h : rg_F lo i g o n) (hl : lo ≤ i) (hx : n i = g i) : rg_F lo (i + 1) g o n := by
  refine ⟨fun j h1 h2 => ?_, fun j h1 => h.2 j (by omega)⟩
  by_cases e : j = i
  · rw [e]; exact hx
  · exact h.1 j h1 (by omega)
/-- the pages s .. s+l-1 of a get g, the others stay -/
def rg_on (s l : Nat) (g a : Nat → Int32) : Nat → Int32 := fun j => if s ≤ j ∧ j < s + l then g j else a j
theorem rg_on_t {s l j : Nat} {g a : Nat → Int32} (h : s ≤ j ∧ j < s + l) : rg_on s l g a j = g j := if_pos h
theorem rg_on_f {s l j : Nat} {g a : Nat → Int32} (h : ¬ (s ≤ j ∧ j < s + l)) : rg_on s l g a j = a j := if_neg h
/-- agree below P -/
def rg_eq (P : Nat) (a b : Nat → Int32) : Prop := ∀ j, j < P → a j = b j
theorem rg_F_on {P s l : Nat} {g a o n : Nat → Int32} (h : rg_F s (s + l) g o n) (ho : rg_eq P o a) : rg_eq P n (rg_on s l g a) := by
  intro j hj
  by_cases e : s ≤ j ∧ j < s + l
  · rw [rg_on_t e]; exact h.1 j e.1 e.2
  · rw [rg_on_f e, h.2 j e]; exact ho j hj
theorem rg_F_eq {P : Nat} {g o n : Nat → Int32} (h : rg_F 0 P g o n) : rg_eq P n g := fun j hj => h.1 j (Nat.zero_le j) hj
/-- the backing of a filled page -/
def rg_bk (s : Nat) (b : Int32) : Nat → Int32 := fun j => if b = 0 then 0 else b + nI (j - s)
/-- the map's region limit holds -/
def rg_ok (P R : Nat) (a b : Nat → Int32) : Prop := rg_cn (rg_st a b) 0 P ≤ R
theorem rg_cn_cg {p q : Nat → Bool} {s n : Nat} (h : ∀ i, i < n → p (s + i) = q (s + i)) : rg_cn p s n = rg_cn q s n := by
  induction n with
  | zero => rfl
  | succ n ih => rw [rg_cn, rg_cn, ih (fun i hi => h i (by omega)), h n (by omega)]
theorem rg_st_cg {P : Nat} {a b a' b' : Nat → Int32} (ha : rg_eq P a a') (hb : rg_eq P b b') {j : Nat} (hj : j < P) : rg_st a b j = rg_st a' b' j := by
  unfold rg_st rg_mp rg_co
  rw [ha j hj, hb j hj]
  by_cases h : 1 ≤ j
  · rw [ha (j - 1) (by omega), hb (j - 1) (by omega)]
  · simp [h]
theorem rg_ct_cg {P : Nat} {a b a' b' : Nat → Int32} (ha : rg_eq P a a') (hb : rg_eq P b b') : rg_cn (rg_st a b) 0 P = rg_cn (rg_st a' b') 0 P :=
  rg_cn_cg (fun i hi => rg_st_cg ha hb (by omega))
/-- the relation depends on the pages below P alone -/
theorem rg_R_cg {P : Nat} {a b m p c a' b' : Nat → Int32} (h : rg_R P a b m p c) (ha : rg_eq P a' a) (hb : rg_eq P b' b) : rg_R P a' b' m p c := by
  intro j hj
  rw [ha j hj, hb j hj]
  exact h j hj
theorem rg_R_cy {P : Nat} {a b m p c m' p' c' : Nat → Int32} (h : rg_R P a b m p c) (hm : rg_eq P m' m) (hp : rg_eq P p' p) (hc : rg_eq P c' c) : rg_R P a b m' p' c' := by
  intro j hj
  rw [hm j hj, hp j hj, hc j hj]
  exact h j hj
end
section
/-! the class, reading: one lemma a method, general post -/
theorem rg_10 : ¬ (1 : Int32) = 0 := by decide
theorem rg_k0 : ¬ (1024 : Int32) = 0 := by decide
theorem rx_isLength {post : Int32 → Prop} {P : Nat} {f : Int32} {a b d e : Nat → Int32} (hP : P ≤ 256) (l : Int32) (h1 : rg_LN P l → post 1) (h0 : ¬ rg_LN P l → post 0) : wpX_isLength post (nI P, f, a, b, d, e) l := by
  refine br_c (fun h => h0 ?_) (fun h => br_c (fun g => h0 ?_) (fun g => h1 ?_))
  · rw [Int32.lt_iff_toInt_lt, rg_i1] at h
    exact fun z => by have := z.1; omega
  · rw [Int32.lt_iff_toInt_lt, nI_toInt (by omega)] at g
    exact fun z => by have := z.2; omega
  · rw [Int32.lt_iff_toInt_lt, rg_i1] at h
    rw [Int32.lt_iff_toInt_lt, nI_toInt (by omega)] at g
    exact ⟨by omega, by omega⟩
theorem rx_isPage {post : Int32 → Prop} {P : Nat} {f : Int32} {a b d e : Nat → Int32} (hP : P ≤ 256) (l : Int32) (h1 : rg_PG P l → post 1) (h0 : ¬ rg_PG P l → post 0) : wpX_isPage post (nI P, f, a, b, d, e) l := by
  refine br_c (fun h => h0 ?_) (fun h => br_c (fun g => h0 ?_) (fun g => h1 ?_))
  · rw [Int32.lt_iff_toInt_lt, rg_i0] at h
    exact fun z => by have := z.1; omega
  · rw [Int32.le_iff_toInt_le, nI_toInt (by omega)] at g
    exact fun z => by have := z.2; omega
  · rw [Int32.lt_iff_toInt_lt, rg_i0] at h
    rw [Int32.le_iff_toInt_le, nI_toInt (by omega)] at g
    exact ⟨by omega, by omega⟩
theorem rx_range {post : Int32 → Prop} {P : Nat} {f : Int32} {a b d e : Nat → Int32} (hP : P ≤ 256) (s l : Int32) (h1 : rg_PR P s l → post 1) (h0 : ¬ rg_PR P s l → post 0) : wpX_isProperRange post (nI P, f, a, b, d, e) s l := by
  refine br_c (fun h => h0 ?_) (fun h => rx_isLength hP l (fun g => br_f rg_10 (br_c (fun k => h0 ?_) (fun k => h1 ?_))) (fun g => br_t rfl (h0 ?_)))
  · rw [Int32.lt_iff_toInt_lt, rg_i0] at h
    exact fun z => by have := z.1; omega
  · rw [Int32.lt_iff_toInt_lt, rg_sub hP g] at k
    exact fun z => by have := z.2.2; omega
  · rw [Int32.lt_iff_toInt_lt, rg_i0] at h
    rw [Int32.lt_iff_toInt_lt, rg_sub hP g] at k
    exact ⟨by omega, g.1, by omega⟩
  · rw [Int32.lt_iff_toInt_lt, rg_i0] at h
    exact fun z => g ⟨z.2.1, by have := z.2.2; omega⟩
theorem rx_prot {post : Int32 → Prop} (p : Int32) (h1 : rg_PT p → post 1) (h0 : ¬ rg_PT p → post 0) : wpX_isProperProt post p := by
  refine br_c (fun h => h0 ?_) (fun h => br_c (fun g => h0 ?_) (fun g => h1 ?_))
  · rw [Int32.lt_iff_toInt_lt, rg_i0] at h
    exact fun z => by have := z.1; omega
  · rw [Int32.lt_iff_toInt_lt, rg_i7] at g
    exact fun z => by have := z.2; omega
  · rw [Int32.lt_iff_toInt_lt, rg_i0] at h
    rw [Int32.lt_iff_toInt_lt, rg_i7] at g
    exact ⟨by omega, by omega⟩
theorem rx_attr {post : Int32 → Prop} (l p b : Int32) (h1 : rg_PA l p b → post 1) (h0 : ¬ rg_PA l p b → post 0) : wpX_areProperAttributes post l p b := by
  unfold wpX_areProperAttributes
  refine rx_prot p (fun g => br_f rg_10 (br_c (fun z => h1 ⟨g, Or.inl z⟩) (fun z => br_c (fun k => h0 ?_) (fun k => br_c (fun k2 => h0 ?_) (fun k2 => ⟨rg_k0, br_c (fun k3 => h0 ?_) (fun k3 => h1 ?_)⟩))))) (fun g => br_t rfl (h0 (fun z => g z.1)))
  · rw [Int32.lt_iff_toInt_lt, rg_i1024] at k
    rintro ⟨_, z2 | ⟨z3, _, _⟩⟩
    · exact z z2
    · omega
  · rw [Int32.lt_iff_toInt_lt, rg_i8191] at k2
    rintro ⟨_, z2 | ⟨_, z3, _⟩⟩
    · exact z z2
    · omega
  · rw [Int32.lt_iff_toInt_lt, rg_i1024] at k
    rw [Int32.lt_iff_toInt_lt, rg_i8191] at k2
    obtain ⟨c, hc, e1, e2⟩ := rg_rem (b := b) (by omega) (by omega)
    have e3 : (1024 : Int32) - nI c = nI (1024 - c) := by
      rw [rg_n1024]; exact pk_sub (by omega)
    rw [e1, e3, Int32.lt_iff_toInt_lt, nI_toInt (by omega)] at k3
    rintro ⟨_, z2 | ⟨_, _, z3⟩⟩
    · exact z z2
    · omega
  · rw [Int32.lt_iff_toInt_lt, rg_i1024] at k
    rw [Int32.lt_iff_toInt_lt, rg_i8191] at k2
    obtain ⟨c, hc, e1, e2⟩ := rg_rem (b := b) (by omega) (by omega)
    have e3 : (1024 : Int32) - nI c = nI (1024 - c) := by
      rw [rg_n1024]; exact pk_sub (by omega)
    rw [e1, e3, Int32.lt_iff_toInt_lt, nI_toInt (by omega)] at k3
    exact ⟨g, Or.inr ⟨by omega, by omega, by omega⟩⟩
theorem rx_cnt {post : Int32 → Prop} {P s l : Nat} {f : Int32} {a b d e : Nat → Int32} (hP : P ≤ 256) (hs : s + l ≤ P) (h : post (nI (rg_cn (rg_mp a) s l))) : wpX_countMapped post (nI P, f, a, b, d, e) (nI s) (nI l) :=
  pk_loop (fun n i c => wX_countMapped_5 post (nI s) (nI l) (nI P) f a b d e n (nI c) (nI (s + i))) (fun i c => c = rg_cn (rg_mp a) s i) l 0 0 (Nat.zero_le _) rfl
    (fun n c hc => pk_le (s + l) (s + l) (fun _ => by rw [hc]; exact h) (fun z => absurd z (by omega)) (hx := nI_add s l))
    (fun n i c hi hc hw => pk_le (s + l) (s + i) (fun z => absurd z (by omega)) (fun _ => ⟨pk_in (s + i) 256 (by omega), br_c
      (fun z => nm_r (nI_1 (s + i)) (hw c (by rw [nI_clamp (show s + i < 2 ^ 31 by omega)] at z; rw [rg_cn_f (rg_mp_f.mpr z)]; exact hc)))
      (fun z => nm_r (nI_1 c) (nm_r (nI_1 (s + i)) (hw (c + 1) (by rw [nI_clamp (show s + i < 2 ^ 31 by omega)] at z; rw [rg_cn_t (rg_mp_t.mpr z), hc]))))⟩) (hx := nI_add s l))
/-- what countMappedOutside counts -/
def rg_out (a : Nat → Int32) (s l j : Nat) : Bool := (decide (j < s) || decide (s + l ≤ j)) && rg_mp a j
theorem rx_out {post : Int32 → Prop} {P s l t : Nat} {f : Int32} {a b d e : Nat → Int32} (hP : P ≤ 256) (hs : s + l ≤ P) (ht : t + l ≤ P) (h : post (nI (rg_cn (rg_out a s l) t l))) : wpX_countMappedOutside post (nI P, f, a, b, d, e) (nI t) (nI s) (nI l) := by
  refine pk_loop (fun n i c => wX_countMappedOutside_6 post (nI t) (nI s) (nI l) (nI P) f a b d e n (nI c) (nI (t + i))) (fun i c => c = rg_cn (rg_out a s l) t i) l 0 0 (Nat.zero_le _) rfl
    (fun n c hc => pk_le (t + l) (t + l) (fun _ => by rw [hc]; exact h) (fun z => absurd z (by omega)) (hx := nI_add t l))
    (fun n i c hi hc hw => ?_)
  have hk := nI_clamp (show t + i < 2 ^ 31 by omega)
  have tl : (t + i < s ∨ s + l ≤ t + i) → wX_countMappedOutside_33 post (wX_countMappedOutside_6 post (nI t) (nI s) (nI l) (nI P) f a b d e n) (nI t) (nI s) (nI l) (nI c) (nI (t + i)) 1 (nI P) f a b d e := by
    intro ho
    have ho' : (decide (t + i < s) || decide (s + l ≤ t + i)) = true := by
      rcases ho with ho | ho
      · rw [decide_eq_true ho]; rfl
      · rw [decide_eq_true ho]; exact Bool.or_true _
    refine br_f rg_10 ⟨pk_in (t + i) 256 (by omega), br_c (fun z => nm_r (nI_1 (t + i)) (hw c ?_)) (fun z => nm_r (nI_1 c) (nm_r (nI_1 (t + i)) (hw (c + 1) ?_)))⟩
    · rw [hk] at z
      rw [rg_cn_f (by unfold rg_out; rw [rg_mp_f.mpr z]; exact Bool.and_false _)]
      exact hc
    · rw [hk] at z
      rw [rg_cn_t (by unfold rg_out; rw [rg_mp_t.mpr z, ho']; rfl), hc]
  refine pk_le (t + l) (t + i) (fun z => absurd z (by omega)) (fun _ => ?_) (hx := nI_add t l)
  refine pk_lt (t + i) s (fun z => tl (Or.inl z)) (fun z => ?_)
  refine pk_lt (t + i) (s + l) (fun y => br_t rfl (nm_r (nI_1 (t + i)) (hw c ?_))) (fun y => tl (Or.inr y)) (hy := nI_add s l)
  rw [rg_cn_f (by unfold rg_out; rw [decide_eq_false (by omega), decide_eq_false (by omega)]; rfl)]
  exact hc
theorem rx_coA {post : Int32 → Prop} {j : Nat} {f0 f1 : Int32} {a b d e : Nat → Int32} (hj : j < 256) (h1 : rg_co a b j = true → post 1) (h0 : rg_co a b j = false → post 0) : wpX_continuesPrevious__prots_backings post (f0, f1, a, b, d, e) (nI j) := by
  by_cases hz : j = 0
  · subst hz
    exact br_t (by decide) (h0 (decide_eq_false (fun z => absurd z.1 (by omega))))
  have hn : ¬ nI j < 1 := nI_nlt (b := 1) (by omega) (by omega)
  have e1 : nI j - 1 = nI (j - 1) := pk_sub (a := j) (b := 1) (by omega)
  have tl : ¬ a j = -6 → a j = a (j - 1) → ¬ (b (j - 1) = 0 ∧ b j = 0) → wX_continuesPrevious__prots_backings_48 post (b (j - 1)) (b j) f0 f1 a b d e := by
    intro z k hq
    exact br_c (fun r => ⟨rg_k0, rg_k0, br_c (fun r2 => h1 (decide_eq_true ⟨by omega, z, k, Or.inr ⟨r, r2⟩⟩)) (fun r2 => h0 (decide_eq_false (fun t => t.2.2.2.elim hq (fun y => r2 y.2))))⟩) (fun r => h0 (decide_eq_false (fun t => t.2.2.2.elim hq (fun y => r y.1))))
  unfold wpX_continuesPrevious__prots_backings
  dsimp only
  rw [e1, nI_clamp (show j < 2 ^ 31 by omega), nI_clamp (show j - 1 < 2 ^ 31 by omega)]
  exact br_f hn ⟨pk_in j 256 hj, br_c (fun z => h0 (decide_eq_false (fun t => t.2.1 z))) (fun z => ⟨pk_in j 256 hj, pk_in (j - 1) 256 (by omega), br_c (fun k => ⟨pk_in (j - 1) 256 (by omega), nm_e ⟨pk_in j 256 hj, nm_e (br_c (fun q => br_c (fun q2 => h1 (decide_eq_true ⟨by omega, z, k, Or.inl ⟨q, q2⟩⟩)) (fun q2 => tl z k (fun y => q2 y.2))) (fun q => tl z k (fun y => q y.1)))⟩⟩) (fun k => h0 (decide_eq_false (fun t => k t.2.2.1)))⟩)⟩
theorem rx_stA {post : Int32 → Prop} {j : Nat} {f0 f1 : Int32} {a b d e : Nat → Int32} (hj : j < 256) (h1 : rg_st a b j = true → post 1) (h0 : rg_st a b j = false → post 0) : wpX_startsRegion__prots_backings post (f0, f1, a, b, d, e) (nI j) := by
  unfold wpX_startsRegion__prots_backings
  dsimp only
  rw [nI_clamp (show j < 2 ^ 31 by omega)]
  refine ⟨pk_in j 256 hj, br_c (fun z => h0 ?_) (fun z => rx_coA hj (fun k => br_f rg_10 (h0 ?_)) (fun k => br_t rfl (h1 ?_)))⟩
  · unfold rg_st; rw [rg_mp_f.mpr z]; rfl
  · unfold rg_st; rw [k]; exact Bool.and_false _
  · unfold rg_st; rw [rg_mp_t.mpr z, k]; rfl
theorem rx_ctA {post : Int32 → Prop} {P : Nat} {f : Int32} {a b d e : Nat → Int32} (hP : P ≤ 256) (h : post (nI (rg_cn (rg_st a b) 0 P))) : wpX_countRegions__prots_backings post (nI P, f, a, b, d, e) :=
  pk_loop (fun n i c => wX_countRegions__prots_backings_5 post (nI P) f a b d e n (nI c) (nI i)) (fun i c => c = rg_cn (rg_st a b) 0 i) P 0 0 (Nat.zero_le _) rfl
    (fun n c hc => pk_le P P (fun _ => by rw [hc]; exact h) (fun z => absurd z (by omega)))
    (fun n i c hi hc hw => pk_le P i (fun z => absurd z (by omega)) (fun _ => rx_stA (by omega)
      (fun k => br_f rg_10 (nm_r (nI_1 c) (nm_r (nI_1 i) (hw (c + 1) (by rw [rg_cn_t (by rw [Nat.zero_add]; exact k), hc])))))
      (fun k => br_t rfl (nm_r (nI_1 i) (hw c (by rw [rg_cn_f (by rw [Nat.zero_add]; exact k)]; exact hc))))))
theorem rx_coD {post : Int32 → Prop} {j : Nat} {f0 f1 : Int32} {a b d e : Nat → Int32} (hj : j < 256) (h1 : rg_co d e j = true → post 1) (h0 : rg_co d e j = false → post 0) : wpX_continuesPrevious__draftProts_draftBackings post (f0, f1, a, b, d, e) (nI j) := by
  by_cases hz : j = 0
  · subst hz
    exact br_t (by decide) (h0 (decide_eq_false (fun z => absurd z.1 (by omega))))
  have hn : ¬ nI j < 1 := nI_nlt (b := 1) (by omega) (by omega)
  have e1 : nI j - 1 = nI (j - 1) := pk_sub (a := j) (b := 1) (by omega)
  have tl : ¬ d j = -6 → d j = d (j - 1) → ¬ (e (j - 1) = 0 ∧ e j = 0) → wX_continuesPrevious__draftProts_draftBackings_48 post (e (j - 1)) (e j) f0 f1 a b d e := by
    intro z k hq
    exact br_c (fun r => ⟨rg_k0, rg_k0, br_c (fun r2 => h1 (decide_eq_true ⟨by omega, z, k, Or.inr ⟨r, r2⟩⟩)) (fun r2 => h0 (decide_eq_false (fun t => t.2.2.2.elim hq (fun y => r2 y.2))))⟩) (fun r => h0 (decide_eq_false (fun t => t.2.2.2.elim hq (fun y => r y.1))))
  unfold wpX_continuesPrevious__draftProts_draftBackings
  dsimp only
  rw [e1, nI_clamp (show j < 2 ^ 31 by omega), nI_clamp (show j - 1 < 2 ^ 31 by omega)]
  exact br_f hn ⟨pk_in j 256 hj, br_c (fun z => h0 (decide_eq_false (fun t => t.2.1 z))) (fun z => ⟨pk_in j 256 hj, pk_in (j - 1) 256 (by omega), br_c (fun k => ⟨pk_in (j - 1) 256 (by omega), nm_e ⟨pk_in j 256 hj, nm_e (br_c (fun q => br_c (fun q2 => h1 (decide_eq_true ⟨by omega, z, k, Or.inl ⟨q, q2⟩⟩)) (fun q2 => tl z k (fun y => q2 y.2))) (fun q => tl z k (fun y => q y.1)))⟩⟩) (fun k => h0 (decide_eq_false (fun t => k t.2.2.1)))⟩)⟩
theorem rx_stD {post : Int32 → Prop} {j : Nat} {f0 f1 : Int32} {a b d e : Nat → Int32} (hj : j < 256) (h1 : rg_st d e j = true → post 1) (h0 : rg_st d e j = false → post 0) : wpX_startsRegion__draftProts_draftBackings post (f0, f1, a, b, d, e) (nI j) := by
  unfold wpX_startsRegion__draftProts_draftBackings
  dsimp only
  rw [nI_clamp (show j < 2 ^ 31 by omega)]
  refine ⟨pk_in j 256 hj, br_c (fun z => h0 ?_) (fun z => rx_coD hj (fun k => br_f rg_10 (h0 ?_)) (fun k => br_t rfl (h1 ?_)))⟩
  · unfold rg_st; rw [rg_mp_f.mpr z]; rfl
  · unfold rg_st; rw [k]; exact Bool.and_false _
  · unfold rg_st; rw [rg_mp_t.mpr z, k]; rfl
theorem rx_ctD {post : Int32 → Prop} {P : Nat} {f : Int32} {a b d e : Nat → Int32} (hP : P ≤ 256) (h : post (nI (rg_cn (rg_st d e) 0 P))) : wpX_countRegions__draftProts_draftBackings post (nI P, f, a, b, d, e) :=
  pk_loop (fun n i c => wX_countRegions__draftProts_draftBackings_5 post (nI P) f a b d e n (nI c) (nI i)) (fun i c => c = rg_cn (rg_st d e) 0 i) P 0 0 (Nat.zero_le _) rfl
    (fun n c hc => pk_le P P (fun _ => by rw [hc]; exact h) (fun z => absurd z (by omega)))
    (fun n i c hi hc hw => pk_le P i (fun z => absurd z (by omega)) (fun _ => rx_stD (by omega)
      (fun k => br_f rg_10 (nm_r (nI_1 c) (nm_r (nI_1 i) (hw (c + 1) (by rw [rg_cn_t (by rw [Nat.zero_add]; exact k), hc])))))
      (fun k => br_t rfl (nm_r (nI_1 i) (hw c (by rw [rg_cn_f (by rw [Nat.zero_add]; exact k)]; exact hc))))))
theorem rx_rs {post : Int32 → Prop} {P : Nat} {f k : Int32} {a b d e : Nat → Int32} (hP : P ≤ 256) (h : ∀ r, rg_RS (rg_st a b) P k r → post r) : wpX_regionStart post (nI P, f, a, b, d, e) k :=
  pk_loop (fun n i c => wX_regionStart_4 post k (nI P) f a b d e n (nI c) (nI i)) (fun i c => c = rg_cn (rg_st a b) 0 i ∧ rg_IS (rg_st a b) i k) P 0 0 (Nat.zero_le _) ⟨rfl, rg_IS_0 _ _⟩
    (fun n c hc => pk_le P P (fun _ => h _ (rg_IS_x hc.2)) (fun z => absurd z (by omega)))
    (fun n i c hi hc hw => pk_le P i (fun z => absurd z (by omega)) (fun _ => rx_stA (by omega)
      (fun y => br_f rg_10 (br_c (fun q => h _ (rg_IS_r hc.2 hi y (by rw [← hc.1]; exact q)))
        (fun q => nm_r (nI_1 c) (nm_r (nI_1 i) (hw (c + 1) ⟨by rw [rg_cn_t (by rw [Nat.zero_add]; exact y), hc.1], rg_IS_n hc.2 (by rw [← hc.1]; exact q)⟩)))))
      (fun y => br_t rfl (nm_r (nI_1 i) (hw c ⟨by rw [rg_cn_f (by rw [Nat.zero_add]; exact y)]; exact hc.1, rg_IS_m hc.2 y⟩)))))
theorem rg_0le {n : Nat} (h : n < 2 ^ 31) : (0 : Int32) ≤ nI n := nI_pos' h
theorem rx_rl {post : Int32 → Prop} {P : Nat} {f k : Int32} {a b d e : Nat → Int32} (hP : P ≤ 256) (h0 : rg_RS (rg_st a b) P k (-1) → post (-1)) (h1 : ∀ t l, t < P → rg_RS (rg_st a b) P k (nI t) → rg_RL (rg_co a b) P t l → post (nI l)) : wpX_regionLength post (nI P, f, a, b, d, e) k := by
  unfold wpX_regionLength
  dsimp only
  refine rx_rs hP (fun r hr => ?_)
  rcases hr with ⟨t, g1, g2, g3, g4, rfl⟩ | ⟨g1, rfl⟩
  · have hr : rg_RS (rg_st a b) P k (nI t) := Or.inl ⟨t, g1, g2, g3, g4, rfl⟩
    refine br_t (rg_0le (by omega)) (nm_r (nI_1 t) ?_)
    have e1 : ∀ i, nI (t + 1 + i) - nI t = nI (1 + i) := fun i => by rw [pk_sub (by omega)]; exact congrArg nI (by omega)
    refine pk_loop (σ := Unit) (fun n i _ => wX_regionLength_16 post (nI t) (nI P) f a b d e n (nI (t + 1 + i))) (fun i _ => ∀ q, 1 ≤ q → q < 1 + i → rg_co a b (t + q) = true) (P - t - 1) 0 () (Nat.zero_le _) (fun q q1 q2 => by omega) (fun n _ hI => ?_) (fun n i _ hi hI hw => ?_)
    · refine pk_le P (t + 1 + (P - t - 1)) (fun _ => ?_) (fun z => absurd z (by omega))
      rw [e1]
      exact h1 t _ g1 hr ⟨by omega, by omega, hI, Or.inl (by omega)⟩
    · refine pk_le P (t + 1 + i) (fun z => absurd z (by omega)) (fun _ => rx_coA (by omega) (fun y => br_f rg_10 (nm_r (nI_1 (t + 1 + i)) (hw () ?_))) (fun y => br_t rfl ?_))
      · intro q q1 q2
        by_cases e : q = 1 + i
        · rw [e, show t + (1 + i) = t + 1 + i from by omega]; exact y
        · exact hI q q1 (by omega)
      · rw [e1]
        exact h1 t _ g1 hr ⟨by omega, by omega, hI, Or.inr (by rw [show t + (1 + i) = t + 1 + i from by omega]; exact y)⟩
  · exact br_f (by decide) (h0 (Or.inr ⟨g1, rfl⟩))
theorem rx_fl {post : Int32 → Prop} {P : Nat} {f s l : Int32} {a b d e : Nat → Int32} (hP : P ≤ 256) (h0 : ¬ (rg_PG P s ∧ rg_LN P l) → post (-1)) (h1 : ∀ x y r, s = nI x → l = nI y → x < P → 1 ≤ y → y ≤ P → rg_FL a P x y r → post r) : wpX_findLow post (nI P, f, a, b, d, e) s l := by
  unfold wpX_findLow
  dsimp only
  refine rx_isPage hP s (fun g => br_f rg_10 (rx_isLength hP l (fun k => br_f rg_10 ?_) (fun k => br_t rfl (h0 (fun z => k z.2))))) (fun g => br_t rfl (h0 (fun z => g z.1)))
  obtain ⟨x, rfl, hx⟩ := rg_PG_n g
  obtain ⟨y, rfl, hy1, hy2⟩ := rg_LN_n k
  refine Exists.elim (pk_loop (fun n i r => wX_findLow_23 post (nI y) (nI P) f a b d e n (nI r) (nI i)) (fun i r => x ≤ i ∧ rg_IL a x y i r) P x 0 (by omega) ⟨Nat.le_refl _, rg_IL_0 a hy1⟩ (fun n r hr => ?_) (fun n i r hi hr hw => ?_)) (fun n hn => ⟨n, hn⟩)
  · exact pk_le P P (fun _ => h1 x y _ rfl rfl hx hy1 hy2 (rg_IL_x hr.2)) (fun z => absurd z (by omega))
  · have hle := hr.2.1.1
    refine pk_le P i (fun z => absurd z (by omega)) (fun _ => ⟨pk_in i 256 (by omega), br_c (fun z => ?_) (fun z => ?_)⟩)
    · rw [nI_clamp (show i < 2 ^ 31 by omega)] at z
      rw [nI_1]
      refine pk_eq (r + 1) y (fun q => ?_) (fun q => nm_r (nI_1 i) (hw (r + 1) ⟨by omega, rg_IL_f hr.2 z q⟩))
      obtain ⟨w1, w2⟩ := rg_IL_r hr.2 z q hi
      have e1 : nI i - nI y + 1 = nI (i + 1 - y) := by
        have : nI i - nI y + 1 = nI i + 1 - nI y := by grind
        rw [this, nI_1, pk_sub w1]
      rw [e1]
      exact h1 x y _ rfl rfl hx hy1 hy2 w2
    · rw [nI_clamp (show i < 2 ^ 31 by omega)] at z
      refine pk_eq 0 y (fun q => absurd q (by omega)) (fun q => nm_r (nI_1 i) (hw 0 ⟨by omega, rg_IL_m hr.2 z hy1⟩))
theorem rx_fh {post : Int32 → Prop} {P : Nat} {f s l : Int32} {a b d e : Nat → Int32} (hP : P ≤ 256) (h0 : ¬ (rg_LN P s ∧ rg_LN P l) → post (-1)) (h1 : ∀ x y r, s = nI x → l = nI y → 1 ≤ x → x ≤ P → 1 ≤ y → y ≤ P → rg_FH a x y r → post r) : wpX_findHigh post (nI P, f, a, b, d, e) s l := by
  unfold wpX_findHigh
  dsimp only
  refine rx_isLength hP s (fun g => br_f rg_10 (rx_isLength hP l (fun k => br_f rg_10 ?_) (fun k => br_t rfl (h0 (fun z => k z.2))))) (fun g => br_t rfl (h0 (fun z => g z.1)))
  obtain ⟨x, rfl, hx1, hx2⟩ := rg_LN_n g
  obtain ⟨y, rfl, hy1, hy2⟩ := rg_LN_n k
  refine nm_e ?_
  have key := pk_loopD (fun n i r => wX_findHigh_25 post (nI y) (nI P) f a b d e n (nI r) (nI i - 1)) (fun i r => i ≤ x ∧ rg_IH a x y i r) (fun n r hr => ?_) (fun n i r hr hw => ?_) x 0 ⟨Nat.le_refl _, rg_IH_0 a hy1⟩
  · exact ⟨_, key⟩
  · exact br_t (by decide) (h1 x y _ rfl rfl hx1 hx2 hy1 hy2 (rg_IH_x hr.2))
  · have e0 : nI (i + 1) - 1 = nI i := nI_pred i
    have e2 : nI i + (-1) = nI i - 1 := by grind
    show wX_findHigh_25 post (nI y) (nI P) f a b d e (n + 1) (nI r) (nI (i + 1) - 1)
    rw [e0]
    refine br_f (nI_pos (by omega)) ⟨pk_in i 256 (by omega), br_c (fun z => ?_) (fun z => ?_)⟩
    · rw [nI_clamp (show i < 2 ^ 31 by omega)] at z
      rw [nI_1]
      have hle := hr.2.1.1
      exact pk_eq (r + 1) y (fun q => h1 x y _ rfl rfl hx1 hx2 hy1 hy2 (rg_IH_r hr.2 z q)) (fun q => nm_r e2 (hw (r + 1) ⟨by omega, rg_IH_f hr.2 z q⟩))
    · rw [nI_clamp (show i < 2 ^ 31 by omega)] at z
      exact pk_eq 0 y (fun q => absurd q (by omega)) (fun q => nm_r e2 (hw 0 ⟨by omega, rg_IH_m hr.2 z hy1⟩))
theorem rx_lg {post : Int32 → Prop} {P : Nat} {f : Int32} {a b d e : Nat → Int32} (hP : P ≤ 256) (h : ∀ L, rg_LG a P L → post (nI L)) : wpX_longestGap post (nI P, f, a, b, d, e) := by
  refine pk_loop (fun n i (s : Nat × Nat) => wX_longestGap_6 post (nI P) f a b d e n (nI s.1) (nI s.2) (nI i)) (fun i s => rg_IG a i s.1 s.2) P 0 (0, 0) (Nat.zero_le _) (rg_IG_0 a) (fun n s hs => ?_) (fun n i s hi hs hw => ?_)
  · exact pk_le P P (fun _ => h _ hs.2) (fun z => absurd z (by omega))
  · have hle := hs.1.1
    have hLe := rg_LG_le hs.2
    refine pk_le P i (fun z => absurd z (by omega)) (fun _ => ⟨pk_in i 256 (by omega), br_c (fun z => ?_) (fun z => ?_)⟩)
    · rw [nI_clamp (show i < 2 ^ 31 by omega)] at z
      rw [nI_1]
      exact pk_le (s.2 + 1) s.1 (fun q => nm_r (nI_1 i) (hw (s.1, s.2 + 1) (rg_IG_s hs.2 (rg_run_f hs.1 z) q))) (fun q => nm_r (nI_1 i) (hw (s.2 + 1, s.2 + 1) (rg_IG_g hs.2 (rg_run_f hs.1 z) q)))
    · rw [nI_clamp (show i < 2 ^ 31 by omega)] at z
      exact pk_le 0 s.1 (fun q => nm_r (nI_1 i) (hw (s.1, 0) (rg_IG_s hs.2 (rg_run_m hs.1 z) q))) (fun q => absurd q (by omega))
end
section
/-! the changing calls, purely: each says what its continuation Q (answer, new protections, new backings) is asked at -/
def rg_gate (P R : Nat) (a b a' b' : Nat → Int32) (r : Int32) (Q : Int32 → (Nat → Int32) → (Nat → Int32) → Prop) : Prop := (rg_ok P R a' b' → Q r a' b') ∧ (¬ rg_ok P R a' b' → Q (-5) a b)
def sp_fill (P R s l : Nat) (p c r : Int32) (a b : Nat → Int32) (Q : Int32 → (Nat → Int32) → (Nat → Int32) → Prop) : Prop := rg_gate P R a b (rg_on s l (fun _ => p) a) (rg_on s l (rg_bk s c) b) r Q
/-- the moved map -/
def rg_mv (s l t : Nat) (a : Nat → Int32) : Nat → Int32 := rg_on t l (fun j => a (s + (j - t))) (rg_on s l (fun _ => -6) a)
def sp_mv (P R s l t : Nat) (r : Int32) (a b : Nat → Int32) (Q : Int32 → (Nat → Int32) → (Nat → Int32) → Prop) : Prop := rg_gate P R a b (rg_mv s l t a) (rg_mv s l t b) r Q
def sp_mapNew (P R : Nat) (a b : Nat → Int32) (v1 v2 v3 v4 : Int32) (Q : Int32 → (Nat → Int32) → (Nat → Int32) → Prop) : Prop :=
  (rg_PR P v1 v2 ∧ rg_PA v2 v3 v4 → (rg_cn (rg_mp a) v1.toNatClampNeg v2.toNatClampNeg = 0 → sp_fill P R v1.toNatClampNeg v2.toNatClampNeg v3 v4 0 a b Q) ∧ (¬ rg_cn (rg_mp a) v1.toNatClampNeg v2.toNatClampNeg = 0 → Q (-3) a b)) ∧ (¬ (rg_PR P v1 v2 ∧ rg_PA v2 v3 v4) → Q (-1) a b)
def sp_mapOver (P R : Nat) (a b : Nat → Int32) (v1 v2 v3 v4 : Int32) (Q : Int32 → (Nat → Int32) → (Nat → Int32) → Prop) : Prop :=
  (rg_PR P v1 v2 ∧ rg_PA v2 v3 v4 → sp_fill P R v1.toNatClampNeg v2.toNatClampNeg v3 v4 (nI (rg_cn (rg_mp a) v1.toNatClampNeg v2.toNatClampNeg)) a b Q) ∧ (¬ (rg_PR P v1 v2 ∧ rg_PA v2 v3 v4) → Q (-1) a b)
def sp_at (P R l : Nat) (p c : Int32) (a b : Nat → Int32) (F : Int32 → Prop) (Q : Int32 → (Nat → Int32) → (Nat → Int32) → Prop) : Prop :=
  ∀ r, F r → (0 ≤ r → sp_fill P R r.toNatClampNeg l p c r a b Q) ∧ (¬ 0 ≤ r → Q (-4) a b)
def sp_mapLow (P R : Nat) (a b : Nat → Int32) (v1 v2 v3 v4 : Int32) (Q : Int32 → (Nat → Int32) → (Nat → Int32) → Prop) : Prop :=
  ((rg_PG P v1 ∧ rg_LN P v2) ∧ rg_PA v2 v3 v4 → sp_at P R v2.toNatClampNeg v3 v4 a b (rg_FL a P v1.toNatClampNeg v2.toNatClampNeg) Q) ∧ (¬ ((rg_PG P v1 ∧ rg_LN P v2) ∧ rg_PA v2 v3 v4) → Q (-1) a b)
def sp_mapHigh (P R : Nat) (a b : Nat → Int32) (v1 v2 v3 v4 : Int32) (Q : Int32 → (Nat → Int32) → (Nat → Int32) → Prop) : Prop :=
  ((rg_LN P v1 ∧ rg_LN P v2) ∧ rg_PA v2 v3 v4 → sp_at P R v2.toNatClampNeg v3 v4 a b (rg_FH a v1.toNatClampNeg v2.toNatClampNeg) Q) ∧ (¬ ((rg_LN P v1 ∧ rg_LN P v2) ∧ rg_PA v2 v3 v4) → Q (-1) a b)
def sp_unmap (P R : Nat) (a b : Nat → Int32) (v1 v2 : Int32) (Q : Int32 → (Nat → Int32) → (Nat → Int32) → Prop) : Prop :=
  (rg_PR P v1 v2 → rg_gate P R a b (rg_on v1.toNatClampNeg v2.toNatClampNeg (fun _ => -6) a) (rg_on v1.toNatClampNeg v2.toNatClampNeg (fun _ => -6) b) (nI (rg_cn (rg_mp a) v1.toNatClampNeg v2.toNatClampNeg)) Q) ∧ (¬ rg_PR P v1 v2 → Q (-1) a b)
def sp_protect (P R : Nat) (a b : Nat → Int32) (v1 v2 v3 : Int32) (Q : Int32 → (Nat → Int32) → (Nat → Int32) → Prop) : Prop :=
  (rg_PR P v1 v2 ∧ rg_PT v3 → (rg_cn (rg_mp a) v1.toNatClampNeg v2.toNatClampNeg < v2.toNatClampNeg → Q (-2) a b) ∧ (¬ rg_cn (rg_mp a) v1.toNatClampNeg v2.toNatClampNeg < v2.toNatClampNeg → rg_gate P R a b (rg_on v1.toNatClampNeg v2.toNatClampNeg (fun _ => v3) a) b (nI (rg_cn (fun j => decide (¬ a j = v3)) v1.toNatClampNeg v2.toNatClampNeg)) Q)) ∧ (¬ (rg_PR P v1 v2 ∧ rg_PT v3) → Q (-1) a b)
def sp_move (P R : Nat) (a b : Nat → Int32) (v1 v2 v3 : Int32) (Q : Int32 → (Nat → Int32) → (Nat → Int32) → Prop) : Prop :=
  (rg_PR P v1 v2 ∧ rg_PR P v3 v2 → (rg_cn (rg_mp a) v1.toNatClampNeg v2.toNatClampNeg < v2.toNatClampNeg → Q (-2) a b) ∧ (¬ rg_cn (rg_mp a) v1.toNatClampNeg v2.toNatClampNeg < v2.toNatClampNeg → sp_mv P R v1.toNatClampNeg v2.toNatClampNeg v3.toNatClampNeg (nI (rg_cn (rg_out a v1.toNatClampNeg v2.toNatClampNeg) v3.toNatClampNeg v2.toNatClampNeg)) a b Q)) ∧ (¬ (rg_PR P v1 v2 ∧ rg_PR P v3 v2) → Q (-1) a b)
def sp_moveFree (P R : Nat) (a b : Nat → Int32) (v1 v2 v3 : Int32) (Q : Int32 → (Nat → Int32) → (Nat → Int32) → Prop) : Prop :=
  (rg_PR P v1 v2 ∧ rg_PG P v3 → (rg_cn (rg_mp a) v1.toNatClampNeg v2.toNatClampNeg < v2.toNatClampNeg → Q (-2) a b) ∧ (¬ rg_cn (rg_mp a) v1.toNatClampNeg v2.toNatClampNeg < v2.toNatClampNeg → ∀ r, rg_FL a P v3.toNatClampNeg v2.toNatClampNeg r → (0 ≤ r → sp_mv P R v1.toNatClampNeg v2.toNatClampNeg r.toNatClampNeg r a b Q) ∧ (¬ 0 ≤ r → Q (-4) a b))) ∧ (¬ (rg_PR P v1 v2 ∧ rg_PG P v3) → Q (-1) a b)
/-- a spec asks its continuation at one place -/
def rg_Det (S : (Int32 → (Nat → Int32) → (Nat → Int32) → Prop) → Prop) : Prop := ∃ (r : Int32) (a' b' : Nat → Int32), ∀ Q, Q r a' b' → S Q
theorem rg_Det_q (r : Int32) (a b : Nat → Int32) : rg_Det (fun Q => Q r a b) := ⟨r, a, b, fun Q q => q⟩
theorem rg_Det_c {c : Prop} {S T : (Int32 → (Nat → Int32) → (Nat → Int32) → Prop) → Prop} (hs : c → rg_Det S) (ht : ¬ c → rg_Det T) : rg_Det (fun Q => (c → S Q) ∧ (¬ c → T Q)) := by
  by_cases h : c
  · obtain ⟨r, a, b, H⟩ := hs h
    exact ⟨r, a, b, fun Q q => ⟨fun _ => H Q q, fun z => absurd h z⟩⟩
  · obtain ⟨r, a, b, H⟩ := ht h
    exact ⟨r, a, b, fun Q q => ⟨fun z => absurd z h, fun _ => H Q q⟩⟩
theorem rg_Det_f {F : Int32 → Prop} {S : Int32 → (Int32 → (Nat → Int32) → (Nat → Int32) → Prop) → Prop} (he : ∃ r, F r) (hu : ∀ r r', F r → F r' → r' = r) (hs : ∀ r, F r → rg_Det (S r)) : rg_Det (fun Q => ∀ r, F r → S r Q) := by
  obtain ⟨r0, h0⟩ := he
  obtain ⟨r, a, b, H⟩ := hs r0 h0
  exact ⟨r, a, b, fun Q q r' h' => by rw [hu r0 r' h0 h']; exact H Q q⟩
theorem rg_Det_g (P R : Nat) (a b a' b' : Nat → Int32) (r : Int32) : rg_Det (rg_gate P R a b a' b' r) := rg_Det_c (fun _ => rg_Det_q _ _ _) (fun _ => rg_Det_q _ _ _)
theorem rg_least (p : Nat → Prop) (h : ∃ k, p k) : ∃ k, p k ∧ ∀ j, j < k → ¬ p j := by
  obtain ⟨k, hk⟩ := h
  induction k using Nat.strongRecOn with
  | ind k ih =>
    by_cases hj : ∃ j, j < k ∧ p j
    · obtain ⟨j, hj1, hj2⟩ := hj
      exact ih j hj1 hj2
    · exact ⟨k, hk, fun j h1 h2 => hj ⟨j, h1, h2⟩⟩
theorem rg_FL_e (a : Nat → Int32) (P f l : Nat) : ∃ r, rg_FL a P f l r := by
  by_cases h : ∃ t, f ≤ t ∧ t + l ≤ P ∧ rg_fr a t l
  · obtain ⟨t, ⟨h1, h2, h3⟩, h4⟩ := rg_least _ h
    exact ⟨nI t, Or.inl ⟨t, h1, h2, h3, fun t' g1 g2 g3 => h4 t' g2 ⟨g1, by omega, g3⟩, rfl⟩⟩
  · exact ⟨-4, Or.inr ⟨fun t' g1 g2 g3 => h ⟨t', g1, g2, g3⟩, rfl⟩⟩
theorem rg_FH_e (a : Nat → Int32) (to l : Nat) : ∃ r, rg_FH a to l r := by
  by_cases h : ∃ k, k ≤ to ∧ to - k + l ≤ to ∧ rg_fr a (to - k) l
  · obtain ⟨k, ⟨h1, h2, h3⟩, h4⟩ := rg_least _ h
    refine ⟨nI (to - k), Or.inl ⟨to - k, h2, h3, fun t' g1 g2 g3 => h4 (to - t') (by omega) ⟨by omega, ?_, ?_⟩, rfl⟩⟩
    · rw [show to - (to - t') = t' from by omega]; exact g2
    · rw [show to - (to - t') = t' from by omega]; exact g3
  · exact ⟨-4, Or.inr ⟨fun t' g2 g3 => h ⟨to - t', by omega, by rw [show to - (to - t') = t' from by omega]; exact g2, by rw [show to - (to - t') = t' from by omega]; exact g3⟩, rfl⟩⟩
theorem sd_fill (P R s l : Nat) (p c r : Int32) (a b : Nat → Int32) : rg_Det (sp_fill P R s l p c r a b) := rg_Det_g _ _ _ _ _ _ _
theorem sd_mv (P R s l t : Nat) (r : Int32) (a b : Nat → Int32) : rg_Det (sp_mv P R s l t r a b) := rg_Det_g _ _ _ _ _ _ _
theorem sd_mapNew (P R : Nat) (a b : Nat → Int32) (v1 v2 v3 v4 : Int32) : rg_Det (sp_mapNew P R a b v1 v2 v3 v4) := rg_Det_c (fun _ => rg_Det_c (fun _ => sd_fill _ _ _ _ _ _ _ _ _) (fun _ => rg_Det_q _ _ _)) (fun _ => rg_Det_q _ _ _)
theorem sd_mapOver (P R : Nat) (a b : Nat → Int32) (v1 v2 v3 v4 : Int32) : rg_Det (sp_mapOver P R a b v1 v2 v3 v4) := rg_Det_c (fun _ => sd_fill _ _ _ _ _ _ _ _ _) (fun _ => rg_Det_q _ _ _)
theorem sd_mapLow (P R : Nat) (a b : Nat → Int32) (v1 v2 v3 v4 : Int32) : rg_Det (sp_mapLow P R a b v1 v2 v3 v4) := rg_Det_c (fun _ => rg_Det_f (rg_FL_e _ _ _ _) (fun _ _ h h' => rg_FL_u h h') (fun r _ => rg_Det_c (fun _ => sd_fill _ _ _ _ _ _ _ _ _) (fun _ => rg_Det_q _ _ _))) (fun _ => rg_Det_q _ _ _)
theorem sd_mapHigh (P R : Nat) (a b : Nat → Int32) (v1 v2 v3 v4 : Int32) : rg_Det (sp_mapHigh P R a b v1 v2 v3 v4) := rg_Det_c (fun _ => rg_Det_f (rg_FH_e _ _ _) (fun _ _ h h' => rg_FH_u h h') (fun r _ => rg_Det_c (fun _ => sd_fill _ _ _ _ _ _ _ _ _) (fun _ => rg_Det_q _ _ _))) (fun _ => rg_Det_q _ _ _)
theorem sd_unmap (P R : Nat) (a b : Nat → Int32) (v1 v2 : Int32) : rg_Det (sp_unmap P R a b v1 v2) := rg_Det_c (fun _ => rg_Det_g _ _ _ _ _ _ _) (fun _ => rg_Det_q _ _ _)
theorem sd_protect (P R : Nat) (a b : Nat → Int32) (v1 v2 v3 : Int32) : rg_Det (sp_protect P R a b v1 v2 v3) := rg_Det_c (fun _ => rg_Det_c (fun _ => rg_Det_q _ _ _) (fun _ => rg_Det_g _ _ _ _ _ _ _)) (fun _ => rg_Det_q _ _ _)
theorem sd_move (P R : Nat) (a b : Nat → Int32) (v1 v2 v3 : Int32) : rg_Det (sp_move P R a b v1 v2 v3) := rg_Det_c (fun _ => rg_Det_c (fun _ => rg_Det_q _ _ _) (fun _ => sd_mv _ _ _ _ _ _ _ _)) (fun _ => rg_Det_q _ _ _)
theorem sd_moveFree (P R : Nat) (a b : Nat → Int32) (v1 v2 v3 : Int32) : rg_Det (sp_moveFree P R a b v1 v2 v3) := rg_Det_c (fun _ => rg_Det_c (fun _ => rg_Det_q _ _ _) (fun _ => rg_Det_f (rg_FL_e _ _ _ _) (fun _ _ h h' => rg_FL_u h h') (fun r _ => rg_Det_c (fun _ => sd_mv _ _ _ _ _ _ _ _) (fun _ => rg_Det_q _ _ _)))) (fun _ => rg_Det_q _ _ _)
end
section
/-! the class, changing -/
theorem rx_start {post : SX → Prop} {P : Nat} {f : Int32} {a b d e : Nat → Int32} (hP : P ≤ 256) (h : ∀ D E, rg_eq P D a → rg_eq P E b → post (nI P, f, a, b, D, E)) : wpX_startDraft post (nI P, f, a, b, d, e) :=
  pk_loop (fun n i (t : (Nat → Int32) × (Nat → Int32)) => wX_startDraft_2 post (nI P) f n (nI i) a b t.1 t.2) (fun i t => rg_F 0 i a d t.1 ∧ rg_F 0 i b e t.2) P 0 (d, e) (Nat.zero_le _) ⟨rg_F_0 _ _ _, rg_F_0 _ _ _⟩
    (fun n t ht => pk_le P P (fun _ => h _ _ (rg_F_eq ht.1) (rg_F_eq ht.2)) (fun z => absurd z (by omega)))
    (fun n i t hi ht hw => pk_le P i (fun z => absurd z (by omega)) (fun _ => ⟨pk_in i 256 (by omega), pk_in i 256 (by omega), nm_e ⟨pk_in i 256 (by omega), pk_in i 256 (by omega), nm_e (nm_r (nI_1 i) (hw (_, _) ⟨rg_F_s ht.1 (Nat.zero_le _) (nI_clamp (by omega)) (by rw [nI_clamp (by omega)]), rg_F_s ht.2 (Nat.zero_le _) (nI_clamp (by omega)) (by rw [nI_clamp (by omega)])⟩))⟩⟩))
theorem rx_free {post : SX → Prop} {P s l : Nat} {f : Int32} {a b d e : Nat → Int32} (hP : P ≤ 256) (hs : s + l ≤ P) (h : ∀ D E, rg_F s (s + l) (fun _ => -6) d D → rg_F s (s + l) (fun _ => -6) e E → post (nI P, f, a, b, D, E)) : wpX_freeInDraft post (nI P, f, a, b, d, e) (nI s) (nI l) :=
  pk_loop (fun n i (t : (Nat → Int32) × (Nat → Int32)) => wX_freeInDraft_2 post (nI s) (nI l) (nI P) f n (nI (s + i)) a b t.1 t.2) (fun i t => rg_F s (s + i) (fun _ => -6) d t.1 ∧ rg_F s (s + i) (fun _ => -6) e t.2) l 0 (d, e) (Nat.zero_le _) ⟨rg_F_0 _ _ _, rg_F_0 _ _ _⟩
    (fun n t ht => pk_le (s + l) (s + l) (fun _ => h _ _ ht.1 ht.2) (fun z => absurd z (by omega)) (hx := nI_add s l))
    (fun n i t hi ht hw => pk_le (s + l) (s + i) (fun z => absurd z (by omega)) (fun _ => ⟨pk_in (s + i) 256 (by omega), nm_e ⟨pk_in (s + i) 256 (by omega), nm_e (nm_r (nI_1 (s + i)) (hw (_, _) ⟨rg_F_s ht.1 (Nat.le_add_right _ _) (nI_clamp (by omega)) rfl, rg_F_s ht.2 (Nat.le_add_right _ _) (nI_clamp (by omega)) rfl⟩))⟩⟩) (hx := nI_add s l))
theorem rx_keep {post : Int32 → SX → Prop} {P R : Nat} {a b d e a' b' : Nat → Int32} (hP : P ≤ 256) (hR : R ≤ 32) (hd : rg_eq P d a') (he : rg_eq P e b') (h1 : rg_ok P R a' b' → ∀ A B, rg_eq P A a' → rg_eq P B b' → post 1 (nI P, nI R, A, B, d, e)) (h0 : ¬ rg_ok P R a' b' → post 0 (nI P, nI R, a, b, d, e)) : wpX_keepDraft post (nI P, nI R, a, b, d, e) := by
  unfold wpX_keepDraft
  dsimp only
  refine rx_ctD hP ?_
  rw [rg_ct_cg hd he]
  have hle := rg_cn_le (rg_st a' b') 0 P
  refine pk_le (rg_cn (rg_st a' b') 0 P) R (fun z => ?_) (fun z => h0 (fun y => by unfold rg_ok at y; omega))
  exact pk_loop (fun n i (t : (Nat → Int32) × (Nat → Int32)) => wX_keepDraft_23 post (nI P) (nI R) n (nI i) t.1 t.2 d e) (fun i t => rg_F 0 i d a t.1 ∧ rg_F 0 i e b t.2) P 0 (a, b) (Nat.zero_le _) ⟨rg_F_0 _ _ _, rg_F_0 _ _ _⟩
    (fun n t ht => pk_le P P (fun _ => h1 z _ _ (fun j hj => (rg_F_eq ht.1 j hj).trans (hd j hj)) (fun j hj => (rg_F_eq ht.2 j hj).trans (he j hj))) (fun z => absurd z (by omega)))
    (fun n i t hi ht hw => pk_le P i (fun z => absurd z (by omega)) (fun _ => ⟨pk_in i 256 (by omega), pk_in i 256 (by omega), nm_e ⟨pk_in i 256 (by omega), pk_in i 256 (by omega), nm_e (nm_r (nI_1 i) (hw (_, _) ⟨rg_F_s ht.1 (Nat.zero_le _) (nI_clamp (by omega)) (by rw [nI_clamp (by omega)]), rg_F_s ht.2 (Nat.zero_le _) (nI_clamp (by omega)) (by rw [nI_clamp (by omega)])⟩))⟩⟩))
theorem rg_bk_0 {s i : Nat} {c : Int32} (z : c = 0) : (0 : Int32) = rg_bk s c (s + i) := by
  unfold rg_bk
  rw [if_pos z]
theorem rg_bk_1 {s i : Nat} {c : Int32} (z : ¬ c = 0) : c + nI i = rg_bk s c (s + i) := by
  unfold rg_bk
  rw [if_neg z, Nat.add_sub_cancel_left]
theorem rx_fill {post : Int32 → SX → Prop} {P R s l : Nat} {p c : Int32} {a b d e : Nat → Int32} (hP : P ≤ 256) (hR : R ≤ 32) (hs : s + l ≤ P)
    (h1 : rg_ok P R (rg_on s l (fun _ => p) a) (rg_on s l (rg_bk s c) b) → ∀ A B D E, rg_eq P A (rg_on s l (fun _ => p) a) → rg_eq P B (rg_on s l (rg_bk s c) b) → post 1 (nI P, nI R, A, B, D, E))
    (h0 : ¬ rg_ok P R (rg_on s l (fun _ => p) a) (rg_on s l (rg_bk s c) b) → ∀ D E, post 0 (nI P, nI R, a, b, D, E)) : wpX_tryFill post (nI P, nI R, a, b, d, e) (nI s) (nI l) p c := by
  unfold wpX_tryFill
  dsimp only
  refine rx_start hP (fun D E hD hE => ?_)
  dsimp only
  exact pk_loop (fun n i (t : (Nat → Int32) × (Nat → Int32)) => wX_tryFill_7 post (nI s) (nI l) p c (nI P) (nI R) n (nI i) a b t.1 t.2) (fun i t => rg_F s (s + i) (fun _ => p) D t.1 ∧ rg_F s (s + i) (rg_bk s c) E t.2) l 0 (D, E) (Nat.zero_le _) ⟨rg_F_0 _ _ _, rg_F_0 _ _ _⟩
    (fun n t ht => pk_le l l (fun _ => rx_keep hP hR (rg_F_on ht.1 hD) (rg_F_on ht.2 hE) (fun k A B hA hB => ⟨rfl, h1 k A B _ _ hA hB⟩) (fun k => ⟨rfl, h0 k _ _⟩)) (fun z => absurd z (by omega)))
    (fun n i t hi ht hw => pk_le l i (fun z => absurd z (by omega)) (fun _ => ⟨pk_in (s + i) 256 (by omega) (hx := nI_add s i), nm_e (br_c
      (fun z => ⟨pk_in (s + i) 256 (by omega) (hx := nI_add s i), nm_e (nm_r (nI_1 i) (hw (_, _) ⟨rg_F_s ht.1 (Nat.le_add_right _ _) (pk_cl (s + i) (nI_add s i)) rfl, rg_F_s ht.2 (Nat.le_add_right _ _) (pk_cl (s + i) (nI_add s i)) (rg_bk_0 z)⟩))⟩)
      (fun z => ⟨pk_in (s + i) 256 (by omega) (hx := nI_add s i), nm_e (nm_r (nI_1 i) (hw (_, _) ⟨rg_F_s ht.1 (Nat.le_add_right _ _) (pk_cl (s + i) (nI_add s i)) rfl, rg_F_s ht.2 (Nat.le_add_right _ _) (pk_cl (s + i) (nI_add s i)) (rg_bk_1 z)⟩))⟩))⟩))
theorem rx_mv {post : Int32 → SX → Prop} {P R s l t : Nat} {a b d e : Nat → Int32} (hP : P ≤ 256) (hR : R ≤ 32) (hs : s + l ≤ P) (ht : t + l ≤ P)
    (h1 : rg_ok P R (rg_mv s l t a) (rg_mv s l t b) → ∀ A B D E, rg_eq P A (rg_mv s l t a) → rg_eq P B (rg_mv s l t b) → post 1 (nI P, nI R, A, B, D, E))
    (h0 : ¬ rg_ok P R (rg_mv s l t a) (rg_mv s l t b) → ∀ D E, post 0 (nI P, nI R, a, b, D, E)) : wpX_tryMove post (nI P, nI R, a, b, d, e) (nI s) (nI l) (nI t) := by
  unfold wpX_tryMove
  dsimp only
  refine rx_start hP (fun D E hD hE => ?_)
  dsimp only
  refine rx_free hP hs (fun D' E' hD' hE' => ?_)
  dsimp only
  have kk : ∀ i, i < l → (nI s + nI i).toNatClampNeg = s + (t + i - t) := fun i hi => (pk_cl (s + i) (nI_add s i)).trans (by omega)
  exact pk_loop (fun n i (w : (Nat → Int32) × (Nat → Int32)) => wX_tryMove_13 post (nI s) (nI l) (nI t) (nI P) (nI R) n (nI i) a b w.1 w.2) (fun i w => rg_F t (t + i) (fun j => a (s + (j - t))) D' w.1 ∧ rg_F t (t + i) (fun j => b (s + (j - t))) E' w.2) l 0 (D', E') (Nat.zero_le _) ⟨rg_F_0 _ _ _, rg_F_0 _ _ _⟩
    (fun n w hw => pk_le l l (fun _ => rx_keep hP hR (rg_F_on hw.1 (rg_F_on hD' hD)) (rg_F_on hw.2 (rg_F_on hE' hE)) (fun k A B hA hB => ⟨rfl, h1 k A B _ _ hA hB⟩) (fun k => ⟨rfl, h0 k _ _⟩)) (fun z => absurd z (by omega)))
    (fun n i w hi hw hn => pk_le l i (fun z => absurd z (by omega)) (fun _ => ⟨pk_in (s + i) 256 (by omega) (hx := nI_add s i), pk_in (t + i) 256 (by omega) (hx := nI_add t i), nm_e ⟨pk_in (s + i) 256 (by omega) (hx := nI_add s i), pk_in (t + i) 256 (by omega) (hx := nI_add t i), nm_e (nm_r (nI_1 i) (hn (_, _)
      ⟨rg_F_s hw.1 (Nat.le_add_right _ _) (pk_cl (t + i) (nI_add t i)) (congrArg a (kk i hi)), rg_F_s hw.2 (Nat.le_add_right _ _) (pk_cl (t + i) (nI_add t i)) (congrArg b (kk i hi))⟩))⟩⟩))
end
section
/-! the class, its public calls against the pure specs -/
theorem rg_PR_i {P x y : Nat} (hP : P ≤ 256) (h1 : 1 ≤ y) (h2 : x + y ≤ P) : rg_PR P (nI x) (nI y) := by
  unfold rg_PR
  rw [nI_toInt (by omega), nI_toInt (by omega)]
  omega
theorem rg_LN_i {P y : Nat} (hP : P ≤ 256) (h1 : 1 ≤ y) (h2 : y ≤ P) : rg_LN P (nI y) := by
  unfold rg_LN
  rw [nI_toInt (by omega)]
  omega
theorem rg_PG_i {P x : Nat} (hP : P ≤ 256) (h1 : x < P) : rg_PG P (nI x) := by
  unfold rg_PG
  rw [nI_toInt (by omega)]
  omega
def rg_QX (P R : Nat) (post : Int32 → SX → Prop) : Int32 → (Nat → Int32) → (Nat → Int32) → Prop := fun r a' b' => ∀ A B D E, rg_eq P A a' → rg_eq P B b' → post r (nI P, nI R, A, B, D, E)
theorem rg_QX_s {P R : Nat} {post : Int32 → SX → Prop} {r : Int32} {a b d e : Nat → Int32} (h : rg_QX P R post r a b) : post r (nI P, nI R, a, b, d, e) := h a b d e (fun _ _ => rfl) (fun _ _ => rfl)
theorem rx_mapNew {post : Int32 → SX → Prop} {P R : Nat} {a b d e : Nat → Int32} {v1 v2 v3 v4 : Int32} (hP : P ≤ 256) (hR : R ≤ 32) (h : sp_mapNew P R a b v1 v2 v3 v4 (rg_QX P R post)) : wpX_mapNew post (nI P, nI R, a, b, d, e) v1 v2 v3 v4 := by
  unfold wpX_mapNew
  dsimp only
  refine rx_range hP v1 v2 (fun g => br_f rg_10 (rx_attr v2 v3 v4 (fun k => br_f rg_10 ?_) (fun k => br_t rfl (rg_QX_s (h.2 (fun z => k z.2)))))) (fun g => br_t rfl (rg_QX_s (h.2 (fun z => g z.1))))
  have h := h.1 ⟨g, k⟩
  obtain ⟨s, l, rfl, rfl, hl, hs⟩ := rg_PR_n g
  rw [nI_clamp (show s < 2 ^ 31 by omega), nI_clamp (show l < 2 ^ 31 by omega)] at h
  have hc := rg_cn_le (rg_mp a) s l
  refine rx_cnt hP hs (pk_le (rg_cn (rg_mp a) s l) 0 (fun z => ?_) (fun z => rg_QX_s (h.2 (by omega))))
  have h := h.1 (by omega)
  exact rx_fill hP hR hs (fun k A B D E hA hB => br_f rg_10 (h.1 k A B D E hA hB)) (fun k D E => br_t rfl (rg_QX_s (h.2 k)))
theorem rx_mapOver {post : Int32 → SX → Prop} {P R : Nat} {a b d e : Nat → Int32} {v1 v2 v3 v4 : Int32} (hP : P ≤ 256) (hR : R ≤ 32) (h : sp_mapOver P R a b v1 v2 v3 v4 (rg_QX P R post)) : wpX_mapOver post (nI P, nI R, a, b, d, e) v1 v2 v3 v4 := by
  unfold wpX_mapOver
  dsimp only
  refine rx_range hP v1 v2 (fun g => br_f rg_10 (rx_attr v2 v3 v4 (fun k => br_f rg_10 ?_) (fun k => br_t rfl (rg_QX_s (h.2 (fun z => k z.2)))))) (fun g => br_t rfl (rg_QX_s (h.2 (fun z => g z.1))))
  have h := h.1 ⟨g, k⟩
  obtain ⟨s, l, rfl, rfl, hl, hs⟩ := rg_PR_n g
  rw [nI_clamp (show s < 2 ^ 31 by omega), nI_clamp (show l < 2 ^ 31 by omega)] at h
  refine rx_cnt hP hs ?_
  exact rx_fill hP hR hs (fun k A B D E hA hB => br_f rg_10 (h.1 k A B D E hA hB)) (fun k D E => br_t rfl (rg_QX_s (h.2 k)))
theorem rx_mapLow {post : Int32 → SX → Prop} {P R : Nat} {a b d e : Nat → Int32} {v1 v2 v3 v4 : Int32} (hP : P ≤ 256) (hR : R ≤ 32) (h : sp_mapLow P R a b v1 v2 v3 v4 (rg_QX P R post)) : wpX_mapLow post (nI P, nI R, a, b, d, e) v1 v2 v3 v4 := by
  unfold wpX_mapLow
  dsimp only
  refine rx_attr v2 v3 v4 (fun k => br_f rg_10 (rx_fl hP (fun g => br_f (by decide) (rg_QX_s (h.2 (fun z => g z.1)))) (fun x y r ex ey hx hy1 hy2 hr => ?_))) (fun k => br_t rfl (rg_QX_s (h.2 (fun z => k z.2))))
  subst ex ey
  have h := h.1 ⟨⟨rg_PG_i hP hx, rg_LN_i hP hy1 hy2⟩, k⟩
  rw [nI_clamp (show x < 2 ^ 31 by omega), nI_clamp (show y < 2 ^ 31 by omega)] at h
  have h := h r hr
  rcases hr with ⟨t, g1, g2, g3, g4, rfl⟩ | ⟨g1, rfl⟩
  · have h := h.1 (rg_0le (by omega))
    rw [nI_clamp (show t < 2 ^ 31 by omega)] at h
    exact br_t (rg_0le (by omega)) (rx_fill hP hR g2 (fun k A B D E hA hB => br_f rg_10 (h.1 k A B D E hA hB)) (fun k D E => br_t rfl (rg_QX_s (h.2 k))))
  · exact br_f (by decide) (rg_QX_s (h.2 (by decide)))
theorem rx_mapHigh {post : Int32 → SX → Prop} {P R : Nat} {a b d e : Nat → Int32} {v1 v2 v3 v4 : Int32} (hP : P ≤ 256) (hR : R ≤ 32) (h : sp_mapHigh P R a b v1 v2 v3 v4 (rg_QX P R post)) : wpX_mapHigh post (nI P, nI R, a, b, d, e) v1 v2 v3 v4 := by
  unfold wpX_mapHigh
  dsimp only
  refine rx_attr v2 v3 v4 (fun k => br_f rg_10 (rx_fh hP (fun g => br_f (by decide) (rg_QX_s (h.2 (fun z => g z.1)))) (fun x y r ex ey hx1 hx2 hy1 hy2 hr => ?_))) (fun k => br_t rfl (rg_QX_s (h.2 (fun z => k z.2))))
  subst ex ey
  have h := h.1 ⟨⟨rg_LN_i hP hx1 hx2, rg_LN_i hP hy1 hy2⟩, k⟩
  rw [nI_clamp (show x < 2 ^ 31 by omega), nI_clamp (show y < 2 ^ 31 by omega)] at h
  have h := h r hr
  rcases hr with ⟨t, g2, g3, g4, rfl⟩ | ⟨g1, rfl⟩
  · have h := h.1 (rg_0le (by omega))
    rw [nI_clamp (show t < 2 ^ 31 by omega)] at h
    exact br_t (rg_0le (by omega)) (rx_fill hP hR (by omega) (fun k A B D E hA hB => br_f rg_10 (h.1 k A B D E hA hB)) (fun k D E => br_t rfl (rg_QX_s (h.2 k))))
  · exact br_f (by decide) (rg_QX_s (h.2 (by decide)))
theorem rx_unmap {post : Int32 → SX → Prop} {P R : Nat} {a b d e : Nat → Int32} {v1 v2 : Int32} (hP : P ≤ 256) (hR : R ≤ 32) (h : sp_unmap P R a b v1 v2 (rg_QX P R post)) : wpX_unmap post (nI P, nI R, a, b, d, e) v1 v2 := by
  unfold wpX_unmap
  dsimp only
  refine rx_range hP v1 v2 (fun g => br_f rg_10 ?_) (fun g => br_t rfl (rg_QX_s (h.2 g)))
  have h := h.1 g
  obtain ⟨s, l, rfl, rfl, hl, hs⟩ := rg_PR_n g
  rw [nI_clamp (show s < 2 ^ 31 by omega), nI_clamp (show l < 2 ^ 31 by omega)] at h
  refine rx_cnt hP hs ?_
  refine rx_start hP (fun D E hD hE => ?_)
  dsimp only
  refine rx_free hP hs (fun D' E' hD' hE' => ?_)
  dsimp only
  exact rx_keep hP hR (rg_F_on hD' hD) (rg_F_on hE' hE) (fun k A B hA hB => br_f rg_10 (h.1 k A B _ _ hA hB)) (fun k => br_t rfl (rg_QX_s (h.2 k)))
theorem rx_protect {post : Int32 → SX → Prop} {P R : Nat} {a b d e : Nat → Int32} {v1 v2 v3 : Int32} (hP : P ≤ 256) (hR : R ≤ 32) (h : sp_protect P R a b v1 v2 v3 (rg_QX P R post)) : wpX_protect post (nI P, nI R, a, b, d, e) v1 v2 v3 := by
  unfold wpX_protect
  dsimp only
  refine rx_range hP v1 v2 (fun g => br_f rg_10 (rx_prot v3 (fun k => br_f rg_10 ?_) (fun k => br_t rfl (rg_QX_s (h.2 (fun z => k z.2)))))) (fun g => br_t rfl (rg_QX_s (h.2 (fun z => g z.1))))
  have h := h.1 ⟨g, k⟩
  obtain ⟨s, l, rfl, rfl, hl, hs⟩ := rg_PR_n g
  rw [nI_clamp (show s < 2 ^ 31 by omega), nI_clamp (show l < 2 ^ 31 by omega)] at h
  have hc := rg_cn_le (rg_mp a) s l
  refine rx_cnt hP hs (pk_le l (rg_cn (rg_mp a) s l) (fun z => ?_) (fun z => rg_QX_s (h.1 z)))
  have h := h.2 (by omega)
  refine rx_start hP (fun D E hD hE => ?_)
  dsimp only
  refine pk_loop (fun n i (t : Nat × (Nat → Int32)) => wX_protect_41 post (nI s) (nI l) v3 (nI P) (nI R) n (nI t.1) (nI (s + i)) a b t.2 E) (fun i t => t.1 = rg_cn (fun j => decide (¬ a j = v3)) s i ∧ rg_F s (s + i) (fun _ => v3) D t.2) l 0 (0, D) (Nat.zero_le _) ⟨rfl, rg_F_0 _ _ _⟩
    (fun n t ht => pk_le (s + l) (s + l) (fun _ => ?_) (fun z => absurd z (by omega)) (hx := nI_add s l))
    (fun n i t hi ht hw => pk_le (s + l) (s + i) (fun z => absurd z (by omega)) (fun _ => ⟨pk_in (s + i) 256 (by omega), br_c (fun z => ?_) (fun z => ?_)⟩) (hx := nI_add s l))
  · rw [ht.1]
    exact rx_keep hP hR (rg_F_on ht.2 hD) hE (fun k A B hA hB => br_f rg_10 (h.1 k A B _ _ hA hB)) (fun k => br_t rfl (rg_QX_s (h.2 k)))
  · rw [nI_clamp (show s + i < 2 ^ 31 by omega)] at z
    refine nm_r (nI_1 (s + i)) (hw (t.1, t.2) ⟨?_, rg_F_k ht.2 (Nat.le_add_right _ _) ?_⟩)
    · rw [rg_cn_f (decide_eq_false (fun y => y z))]; exact ht.1
    · exact ((ht.2.2 (s + i) (by omega)).trans (hD (s + i) (by omega))).trans z
  · rw [nI_clamp (show s + i < 2 ^ 31 by omega)] at z
    refine ⟨pk_in (s + i) 256 (by omega), nm_e (nm_r (nI_1 t.1) (nm_r (nI_1 (s + i)) (hw (t.1 + 1, _) ⟨?_, rg_F_s ht.2 (Nat.le_add_right _ _) (nI_clamp (by omega)) rfl⟩)))⟩
    rw [rg_cn_t (decide_eq_true z), ht.1]
theorem rx_move {post : Int32 → SX → Prop} {P R : Nat} {a b d e : Nat → Int32} {v1 v2 v3 : Int32} (hP : P ≤ 256) (hR : R ≤ 32) (h : sp_move P R a b v1 v2 v3 (rg_QX P R post)) : wpX_move post (nI P, nI R, a, b, d, e) v1 v2 v3 := by
  unfold wpX_move
  dsimp only
  refine rx_range hP v1 v2 (fun g => br_f rg_10 (rx_range hP v3 v2 (fun k => br_f rg_10 ?_) (fun k => br_t rfl (rg_QX_s (h.2 (fun z => k z.2)))))) (fun g => br_t rfl (rg_QX_s (h.2 (fun z => g z.1))))
  have h := h.1 ⟨g, k⟩
  obtain ⟨s, l, rfl, rfl, hl, hs⟩ := rg_PR_n g
  obtain ⟨t, l', rfl, el, hl', ht⟩ := rg_PR_n k
  have el : l = l' := (nI_eq (by omega) (by omega)).mp el
  subst el
  rw [nI_clamp (show s < 2 ^ 31 by omega), nI_clamp (show l < 2 ^ 31 by omega), nI_clamp (show t < 2 ^ 31 by omega)] at h
  have hc := rg_cn_le (rg_mp a) s l
  refine rx_cnt hP hs (pk_le l (rg_cn (rg_mp a) s l) (fun z => ?_) (fun z => rg_QX_s (h.1 z)))
  have h := h.2 (by omega)
  refine rx_out hP hs ht ?_
  exact rx_mv hP hR hs ht (fun k A B D E hA hB => br_f rg_10 (h.1 k A B D E hA hB)) (fun k D E => br_t rfl (rg_QX_s (h.2 k)))
theorem rx_moveFree {post : Int32 → SX → Prop} {P R : Nat} {a b d e : Nat → Int32} {v1 v2 v3 : Int32} (hP : P ≤ 256) (hR : R ≤ 32) (h : sp_moveFree P R a b v1 v2 v3 (rg_QX P R post)) : wpX_moveFree post (nI P, nI R, a, b, d, e) v1 v2 v3 := by
  unfold wpX_moveFree
  dsimp only
  refine rx_range hP v1 v2 (fun g => br_f rg_10 (rx_isPage hP v3 (fun k => br_f rg_10 ?_) (fun k => br_t rfl (rg_QX_s (h.2 (fun z => k z.2)))))) (fun g => br_t rfl (rg_QX_s (h.2 (fun z => g z.1))))
  have h := h.1 ⟨g, k⟩
  obtain ⟨s, l, rfl, rfl, hl, hs⟩ := rg_PR_n g
  rw [nI_clamp (show s < 2 ^ 31 by omega), nI_clamp (show l < 2 ^ 31 by omega)] at h
  have hc := rg_cn_le (rg_mp a) s l
  refine rx_cnt hP hs (pk_le l (rg_cn (rg_mp a) s l) (fun z => ?_) (fun z => rg_QX_s (h.1 z)))
  have h := h.2 (by omega)
  refine rx_fl hP (fun g => absurd ⟨k, rg_LN_i hP hl (by omega)⟩ g) (fun x y r ex ey hx hy1 hy2 hr => ?_)
  have ey : l = y := (nI_eq (by omega) (by omega)).mp ey
  subst ex ey
  rw [nI_clamp (show x < 2 ^ 31 by omega)] at h
  have h := h r hr
  rcases hr with ⟨t, g1, g2, g3, g4, rfl⟩ | ⟨g1, rfl⟩
  · have h := h.1 (rg_0le (by omega))
    rw [nI_clamp (show t < 2 ^ 31 by omega)] at h
    exact br_t (rg_0le (by omega)) (rx_mv hP hR hs g2 (fun k A B D E hA hB => br_f rg_10 (h.1 k A B D E hA hB)) (fun k D E => br_t rfl (rg_QX_s (h.2 k))))
  · exact br_f (by decide) (rg_QX_s (h.2 (by decide)))
theorem rx_protOf {post : Int32 → Prop} {P : Nat} {f v : Int32} {a b d e : Nat → Int32} (hP : P ≤ 256) (h1 : ∀ x, v = nI x → x < P → post (a x)) (h0 : ¬ rg_PG P v → post (-1)) : wpX_protOf post (nI P, f, a, b, d, e) v := by
  unfold wpX_protOf
  dsimp only
  refine rx_isPage hP v (fun g => br_f rg_10 ?_) (fun g => br_t rfl (h0 g))
  obtain ⟨x, rfl, hx⟩ := rg_PG_n g
  refine ⟨pk_in x 256 (by omega), ?_⟩
  rw [nI_clamp (show x < 2 ^ 31 by omega)]
  exact h1 x rfl hx
theorem rx_backingOf {post : Int32 → Prop} {P : Nat} {f v : Int32} {a b d e : Nat → Int32} (hP : P ≤ 256) (h1 : ∀ x, v = nI x → x < P → post (b x)) (h0 : ¬ rg_PG P v → post (-1)) : wpX_backingOf post (nI P, f, a, b, d, e) v := by
  unfold wpX_backingOf
  dsimp only
  refine rx_isPage hP v (fun g => br_f rg_10 ?_) (fun g => br_t rfl (h0 g))
  obtain ⟨x, rfl, hx⟩ := rg_PG_n g
  refine ⟨pk_in x 256 (by omega), ?_⟩
  rw [nI_clamp (show x < 2 ^ 31 by omega)]
  exact h1 x rfl hx
theorem rx_rc {post : Int32 → Prop} {P : Nat} {f : Int32} {a b d e : Nat → Int32} (hP : P ≤ 256) (h : post (nI (rg_cn (rg_st a b) 0 P))) : wpX_regionCount post (nI P, f, a, b, d, e) := by
  unfold wpX_regionCount
  dsimp only
  exact rx_ctA hP h
end
section
/-! the reference, reading -/
theorem rg_R_01 {P : Nat} {a b m p c : Nat → Int32} (h : rg_R P a b m p c) {j : Nat} (hj : j < P) : m j = 0 ∨ m j = 1 := by
  rcases h j hj with ⟨e, _⟩ | ⟨e, _⟩
  · exact Or.inl e
  · exact Or.inr e
theorem rg_R_0 {P : Nat} {a b m p c : Nat → Int32} (h : rg_R P a b m p c) {j : Nat} (hj : j < P) (z : m j = 0) : a j = -6 := by
  rcases h j hj with ⟨_, e, _⟩ | ⟨e, _⟩
  · exact e
  · rw [e] at z; exact absurd z rg_10
theorem rg_R_1 {P : Nat} {a b m p c : Nat → Int32} (h : rg_R P a b m p c) {j : Nat} (hj : j < P) (z : ¬ m j = 0) : ¬ a j = -6 := by
  rcases h j hj with ⟨e, _⟩ | ⟨_, _, _, e, _⟩
  · exact absurd e z
  · exact e
theorem rg_nb {x : Int32} (h : x = 0 ∨ x = 1) : vp_nar .boolean x = x := by
  rcases h with rfl | rfl <;> rfl
theorem ry_range {post : Int32 → Prop} {P : Nat} {f : Int32} {m p c om op oc : Nat → Int32} (hP : P ≤ 256) (s l : Int32) (h1 : rg_PR P s l → post 1) (h0 : ¬ rg_PR P s l → post 0) : wpY_properRange post (nI P, f, m, p, c, om, op, oc) s l := by
  refine br_c (fun h => h0 ?_) (fun h => br_c (fun g => h0 ?_) (fun g => br_c (fun g2 => h0 ?_) (fun g2 => ?_)))
  · rw [Int32.lt_iff_toInt_lt, rg_i0] at h
    exact fun z => by have := z.1; omega
  · rw [Int32.lt_iff_toInt_lt, rg_i1] at g
    exact fun z => by have := z.2.1; omega
  · rw [Int32.lt_iff_toInt_lt, rg_i0] at h
    rw [Int32.lt_iff_toInt_lt, nI_toInt (by omega)] at g2
    exact fun z => by have := z.2.2; omega
  · rw [Int32.lt_iff_toInt_lt, rg_i0] at h
    rw [Int32.lt_iff_toInt_lt, rg_i1] at g
    rw [Int32.lt_iff_toInt_lt, nI_toInt (by omega)] at g2
    refine br_c (fun k => h0 ?_) (fun k => h1 ?_)
    · rw [Int32.lt_iff_toInt_lt, rg_sub hP ⟨by omega, by omega⟩] at k
      exact fun z => by have := z.2.2; omega
    · rw [Int32.lt_iff_toInt_lt, rg_sub hP ⟨by omega, by omega⟩] at k
      exact ⟨by omega, by omega, by omega⟩
theorem ry_attr {post : Int32 → Prop} {P : Nat} {f : Int32} {m p c om op oc : Nat → Int32} (hP : P ≤ 256) (l q b : Int32) (hl : rg_LN P l) (h1 : rg_PA l q b → post 1) (h0 : ¬ rg_PA l q b → post 0) : wpY_properAttributes post (nI P, f, m, p, c, om, op, oc) l q b := by
  refine br_c (fun h => h0 ?_) (fun h => br_c (fun g => br_c (fun z => h1 ⟨?_, Or.inl z⟩) (fun z => br_c (fun k => h0 ?_) (fun k => br_c (fun k2 => h0 ?_) (fun k2 => ⟨rg_k0, ?_⟩)))) (fun g => h0 ?_))
  · rw [Int32.lt_iff_toInt_lt, rg_i0] at h
    exact fun z => by have := z.1.1; omega
  · rw [Int32.lt_iff_toInt_lt, rg_i0] at h
    rw [Int32.le_iff_toInt_le, rg_i7] at g
    exact ⟨by omega, by omega⟩
  · rw [Int32.lt_iff_toInt_lt, rg_i1024] at k
    rintro ⟨_, z2 | ⟨z3, _, _⟩⟩
    · exact z z2
    · omega
  · rw [Int32.lt_iff_toInt_lt, rg_i8191] at k2
    rintro ⟨_, z2 | ⟨_, z3, _⟩⟩
    · exact z z2
    · omega
  · rw [Int32.lt_iff_toInt_lt, rg_i0] at h
    rw [Int32.le_iff_toInt_le, rg_i7] at g
    rw [Int32.lt_iff_toInt_lt, rg_i1024] at k
    rw [Int32.lt_iff_toInt_lt, rg_i8191] at k2
    obtain ⟨w, hw, e1, e2⟩ := rg_rem (b := b) (by omega) (by omega)
    obtain ⟨y, rfl, hy1, hy2⟩ := rg_LN_n hl
    have hy : (nI y).toInt = y := nI_toInt (by omega)
    rw [e1, nI_add]
    refine br_c (fun k3 => h0 ?_) (fun k3 => h1 ?_)
    · rw [Int32.lt_iff_toInt_lt, rg_i1024, nI_toInt (by omega)] at k3
      rintro ⟨_, z2 | ⟨_, _, z3⟩⟩
      · exact z z2
      · omega
    · rw [Int32.lt_iff_toInt_lt, rg_i1024, nI_toInt (by omega)] at k3
      exact ⟨⟨by omega, by omega⟩, Or.inr ⟨by omega, by omega, by omega⟩⟩
  · rw [Int32.le_iff_toInt_le, rg_i7] at g
    exact fun z => by have := z.1.2; omega
theorem ry_cnt {post : Int32 → Prop} {P s l : Nat} {f : Int32} {a b m p c om op oc : Nat → Int32} (hP : P ≤ 256) (hr : rg_R P a b m p c) (hs : s + l ≤ P) (h : post (nI (rg_cn (rg_mp a) s l))) : wpY_countMapped post (nI P, f, m, p, c, om, op, oc) (nI s) (nI l) :=
  pk_loop (fun n i k => wY_countMapped_5 post (nI s) (nI l) (nI P) f m p c om op oc n (nI k) (nI i)) (fun i k => k = rg_cn (rg_mp a) s i) l 0 0 (Nat.zero_le _) rfl
    (fun n k hk => pk_le l l (fun _ => by rw [hk]; exact h) (fun z => absurd z (by omega)))
    (fun n i k hi hk hw => pk_le l i (fun z => absurd z (by omega)) (fun _ => ⟨pk_in (s + i) 256 (by omega) (hx := nI_add s i), br_c
      (fun z => nm_r (nI_1 i) (hw k (by rw [pk_cl (s + i) (nI_add s i)] at z; rw [rg_cn_f (rg_mp_f.mpr (rg_R_0 hr (by omega) z))]; exact hk)))
      (fun z => nm_r (nI_1 k) (nm_r (nI_1 i) (hw (k + 1) (by rw [pk_cl (s + i) (nI_add s i)] at z; rw [rg_cn_t (rg_mp_t.mpr (rg_R_1 hr (by omega) z)), hk]))))⟩))
theorem ry_cont {post : Int32 → Prop} {P j : Nat} {f : Int32} {m p c om op oc : Nat → Int32} (hP : P ≤ 256) (hj : j < P) (h1 : rg_cy m p c j = true → post 1) (h0 : rg_cy m p c j = false → post 0) : wpY_continuesAt post (nI P, f, m, p, c, om, op, oc) (nI j) := by
  by_cases hz : j = 0
  · subst hz
    exact br_t (by decide) (h0 (decide_eq_false (fun z => absurd z.1 (by omega))))
  have hn : ¬ nI j < 1 := nI_nlt (b := 1) (by omega) (by omega)
  have e1 : nI j - 1 = nI (j - 1) := pk_sub (a := j) (b := 1) (by omega)
  have tl : ¬ m j = 0 → ¬ m (j - 1) = 0 → p j = p (j - 1) → ¬ (c (j - 1) = 0 ∧ c j = 0) → wY_continuesAt_80 post (c (j - 1)) (c j) (nI P) f m p c om op oc := by
    intro z z' k hq
    exact br_c (fun r => h0 (decide_eq_false (fun t => t.2.2.2.2.elim hq (fun y => Int32.not_le.mpr r y.1)))) (fun r => br_c (fun r2 => h0 (decide_eq_false (fun t => t.2.2.2.2.elim hq (fun y => Int32.not_le.mpr r2 y.2.1)))) (fun r2 => ⟨rg_k0, rg_k0, br_c (fun r3 => br_c (fun r4 => h1 (decide_eq_true ⟨by omega, z, z', k, Or.inr ⟨Int32.not_lt.mp r, Int32.not_lt.mp r2, r3, r4⟩⟩)) (fun r4 => h0 (decide_eq_false (fun t => t.2.2.2.2.elim hq (fun y => r4 y.2.2.2))))) (fun r3 => h0 (decide_eq_false (fun t => t.2.2.2.2.elim hq (fun y => r3 y.2.2.1))))⟩))
  unfold wpY_continuesAt
  dsimp only
  rw [e1, nI_clamp (show j < 2 ^ 31 by omega), nI_clamp (show j - 1 < 2 ^ 31 by omega)]
  refine br_f hn (pk_le P j (fun z => absurd z (by omega)) (fun _ => ⟨pk_in j 256 (by omega), br_c (fun z => h0 (decide_eq_false (fun t => t.2.1 z))) (fun z => ⟨pk_in (j - 1) 256 (by omega), br_c (fun z' => h0 (decide_eq_false (fun t => t.2.2.1 z'))) (fun z' => ⟨pk_in j 256 (by omega), pk_in (j - 1) 256 (by omega), ?_⟩)⟩)⟩))
  exact br_c (fun k => ⟨pk_in (j - 1) 256 (by omega), nm_e ⟨pk_in j 256 (by omega), nm_e (br_c (fun q => br_c (fun q2 => h1 (decide_eq_true ⟨by omega, z, z', k, Or.inl ⟨q, q2⟩⟩)) (fun q2 => tl z z' k (fun y => q2 y.2))) (fun q => tl z z' k (fun y => q y.1)))⟩⟩) (fun k => h0 (decide_eq_false (fun t => k t.2.2.2.1)))
theorem rg_st_m {a b : Nat → Int32} {i : Nat} (z : ¬ a i = -6) : rg_st a b i = !rg_co a b i := by
  unfold rg_st
  rw [rg_mp_t.mpr z]
  rfl
theorem rg_st_f {a b : Nat → Int32} {i : Nat} (z : a i = -6) : rg_st a b i = false := by
  unfold rg_st
  rw [rg_mp_f.mpr z]
  rfl
theorem ry_rc {post : Int32 → Prop} {P : Nat} {f : Int32} {a b m p c om op oc : Nat → Int32} (hP : P ≤ 256) (hr : rg_R P a b m p c) (h : post (nI (rg_cn (rg_st a b) 0 P))) : wpY_regionCount post (nI P, f, m, p, c, om, op, oc) := by
  refine pk_loop (fun n i k => wY_regionCount_4 post (nI P) f m p c om op oc n (nI k) (nI i)) (fun i k => k = rg_cn (rg_st a b) 0 i) P 0 0 (Nat.zero_le _) rfl
    (fun n k hk => pk_le P P (fun _ => by rw [hk]; exact h) (fun z => absurd z (by omega)))
    (fun n i k hi hk hw => pk_le P i (fun z => absurd z (by omega)) (fun _ => ⟨pk_in i 256 (by omega), br_c (fun z => ?_) (fun z => ?_)⟩))
  · rw [nI_clamp (show i < 2 ^ 31 by omega)] at z
    refine nm_r (nI_1 i) (hw k ?_)
    rw [rg_cn_f (by rw [Nat.zero_add]; exact rg_st_f (rg_R_0 hr hi z))]
    exact hk
  · rw [nI_clamp (show i < 2 ^ 31 by omega)] at z
    refine ry_cont hP hi (fun y => br_f rg_10 (nm_r (nI_1 i) (hw k ?_))) (fun y => br_t rfl (nm_r (nI_1 k) (nm_r (nI_1 i) (hw (k + 1) ?_))))
    · rw [rg_cy_co hr hi] at y
      rw [rg_cn_f (by rw [Nat.zero_add, rg_st_m (rg_R_1 hr hi z), y]; rfl)]
      exact hk
    · rw [rg_cy_co hr hi] at y
      rw [rg_cn_t (by rw [Nat.zero_add, rg_st_m (rg_R_1 hr hi z), y]; rfl), hk]
theorem ry_rs {post : Int32 → Prop} {P : Nat} {f k : Int32} {a b m p c om op oc : Nat → Int32} (hP : P ≤ 256) (hr : rg_R P a b m p c) (h : ∀ r, rg_RS (rg_st a b) P k r → post r) : wpY_regionStart post (nI P, f, m, p, c, om, op, oc) k := by
  refine pk_loop (fun n i q => wY_regionStart_4 post k (nI P) f m p c om op oc n (nI q) (nI i)) (fun i q => q = rg_cn (rg_st a b) 0 i ∧ rg_IS (rg_st a b) i k) P 0 0 (Nat.zero_le _) ⟨rfl, rg_IS_0 _ _⟩
    (fun n q hq => pk_le P P (fun _ => h _ (rg_IS_x hq.2)) (fun z => absurd z (by omega)))
    (fun n i q hi hq hw => pk_le P i (fun z => absurd z (by omega)) (fun _ => ⟨pk_in i 256 (by omega), br_c (fun z => ?_) (fun z => ?_)⟩))
  · rw [nI_clamp (show i < 2 ^ 31 by omega)] at z
    have y := rg_st_f (b := b) (rg_R_0 hr hi z)
    exact nm_r (nI_1 i) (hw q ⟨by rw [rg_cn_f (by rw [Nat.zero_add]; exact y)]; exact hq.1, rg_IS_m hq.2 y⟩)
  · rw [nI_clamp (show i < 2 ^ 31 by omega)] at z
    refine ry_cont hP hi (fun y => br_f rg_10 (nm_r (nI_1 i) (hw q ?_))) (fun y => br_t rfl ?_)
    · rw [rg_cy_co hr hi] at y
      have y2 : rg_st a b i = false := by rw [rg_st_m (rg_R_1 hr hi z), y]; rfl
      exact ⟨by rw [rg_cn_f (by rw [Nat.zero_add]; exact y2)]; exact hq.1, rg_IS_m hq.2 y2⟩
    · rw [rg_cy_co hr hi] at y
      have y2 : rg_st a b i = true := by rw [rg_st_m (rg_R_1 hr hi z), y]; rfl
      exact br_c (fun w => h _ (rg_IS_r hq.2 hi y2 (by rw [← hq.1]; exact w))) (fun w => nm_r (nI_1 q) (nm_r (nI_1 i) (hw (q + 1) ⟨by rw [rg_cn_t (by rw [Nat.zero_add]; exact y2), hq.1], rg_IS_n hq.2 (by rw [← hq.1]; exact w)⟩)))
theorem ry_rl {post : Int32 → Prop} {P : Nat} {f k : Int32} {a b m p c om op oc : Nat → Int32} (hP : P ≤ 256) (hr : rg_R P a b m p c) (h0 : rg_RS (rg_st a b) P k (-1) → post (-1)) (h1 : ∀ t l, t < P → rg_RS (rg_st a b) P k (nI t) → rg_RL (rg_co a b) P t l → post (nI l)) : wpY_regionLength post (nI P, f, m, p, c, om, op, oc) k := by
  unfold wpY_regionLength
  dsimp only
  refine ry_rs hP hr (fun r hrs => ?_)
  rcases hrs with ⟨t, g1, g2, g3, g4, rfl⟩ | ⟨g1, rfl⟩
  · have hrs : rg_RS (rg_st a b) P k (nI t) := Or.inl ⟨t, g1, g2, g3, g4, rfl⟩
    refine br_t (rg_0le (by omega)) (nm_r (nI_1 t) ?_)
    refine pk_loop (σ := Unit) (fun n i _ => wY_regionLength_19 post (nI P) f m p c om op oc n (nI (1 + i)) (nI (t + 1 + i))) (fun i _ => ∀ q, 1 ≤ q → q < 1 + i → rg_co a b (t + q) = true) (P - t - 1) 0 () (Nat.zero_le _) (fun q q1 q2 => by omega) (fun n _ hI => ?_) (fun n i _ hi hI hw => ?_)
    · refine pk_le P (t + 1 + (P - t - 1)) (fun _ => ?_) (fun z => absurd z (by omega))
      exact h1 t _ g1 hrs ⟨by omega, by omega, hI, Or.inl (by omega)⟩
    · refine pk_le P (t + 1 + i) (fun z => absurd z (by omega)) (fun _ => ry_cont hP (by omega) (fun y => br_f rg_10 (nm_r (nI_1 (1 + i)) (nm_r (nI_1 (t + 1 + i)) (hw () ?_)))) (fun y => br_t rfl ?_))
      · rw [rg_cy_co hr (by omega)] at y
        intro q q1 q2
        by_cases e : q = 1 + i
        · rw [e, show t + (1 + i) = t + 1 + i from by omega]; exact y
        · exact hI q q1 (by omega)
      · rw [rg_cy_co hr (by omega)] at y
        exact h1 t _ g1 hrs ⟨by omega, by omega, hI, Or.inr (by rw [show t + (1 + i) = t + 1 + i from by omega]; exact y)⟩
  · exact br_f (by decide) (h0 (Or.inr ⟨g1, rfl⟩))
theorem ry_fl {post : Int32 → Prop} {P x y : Nat} {f : Int32} {a b m p c om op oc : Nat → Int32} (hP : P ≤ 256) (hr : rg_R P a b m p c) (hx : x < P) (hy1 : 1 ≤ y) (hy2 : y ≤ P) (h : ∀ r, rg_FL a P x y r → post r) : wpY_findLow post (nI P, f, m, p, c, om, op, oc) (nI x) (nI y) := by
  refine br_f (nI_pos (by omega)) (pk_le P x (fun z => absurd z (by omega)) (fun _ => br_f (nI_nlt (b := 1) (by omega) (by omega)) (br_t (nI_le hy2 (by omega)) ?_)))
  have e1 : nI P - nI y = nI (P - y) := pk_sub hy2
  by_cases hxy : x ≤ P - y + 1
  · refine pk_loop (σ := Unit) (fun n i _ => wY_findLow_29 post (nI y) (nI P) f m p c om op oc n (nI i)) (fun i _ => x ≤ i ∧ ∀ t', x ≤ t' → t' < i → ¬ rg_fr a t' y) (P - y + 1) x () hxy ⟨Nat.le_refl _, fun t' h1 h2 => by omega⟩ (fun n _ hI => ?_) (fun n i _ hi hI hw => ?_)
    · exact pk_lt (P - y) (P - y + 1) (fun _ => h _ (Or.inr ⟨fun t' h1 h2 => hI.2 t' h1 (by omega), rfl⟩)) (fun z => absurd z (by omega)) (hx := e1)
    · refine pk_lt (P - y) i (fun z => absurd z (by omega)) (fun _ => ry_cnt hP hr (by omega) ?_) (hx := e1)
      have hle := rg_cn_le (rg_mp a) i y
      refine pk_eq (rg_cn (rg_mp a) i y) 0 (fun z => h _ (Or.inl ⟨i, hI.1, by omega, rg_fr_cn.mp z, hI.2, rfl⟩)) (fun z => nm_r (nI_1 i) (hw () ⟨by omega, fun t' h1 h2 => ?_⟩))
      by_cases e : t' = i
      · rw [e]; exact fun y => z (rg_fr_cn.mpr y)
      · exact hI.2 t' h1 (by omega)
  · exact ⟨1, pk_lt (P - y) x (fun _ => h _ (Or.inr ⟨fun t' h1 h2 => by omega, rfl⟩)) (fun z => absurd z (by omega)) (hx := e1)⟩
theorem ry_fl0 {post : Int32 → Prop} {P : Nat} {f s l : Int32} {m p c om op oc : Nat → Int32} (hP : P ≤ 256) (g : ¬ (rg_PG P s ∧ rg_LN P l)) (h : post (-1)) : wpY_findLow post (nI P, f, m, p, c, om, op, oc) s l := by
  refine br_c (fun _ => h) (fun k1 => br_c (fun _ => h) (fun k2 => br_c (fun _ => h) (fun k3 => br_c (fun k4 => absurd ?_ g) (fun _ => h))))
  rw [Int32.lt_iff_toInt_lt, rg_i0] at k1
  rw [Int32.le_iff_toInt_le, nI_toInt (by omega)] at k2
  rw [Int32.lt_iff_toInt_lt, rg_i1] at k3
  rw [Int32.le_iff_toInt_le, nI_toInt (by omega)] at k4
  exact ⟨⟨by omega, by omega⟩, ⟨by omega, by omega⟩⟩
theorem ry_fh {post : Int32 → Prop} {P x y : Nat} {f : Int32} {a b m p c om op oc : Nat → Int32} (hP : P ≤ 256) (hr : rg_R P a b m p c) (hx1 : 1 ≤ x) (hx2 : x ≤ P) (hy1 : 1 ≤ y) (hy2 : y ≤ P) (h : ∀ r, rg_FH a x y r → post r) : wpY_findHigh post (nI P, f, m, p, c, om, op, oc) (nI x) (nI y) := by
  refine br_f (nI_nlt (b := 1) (by omega) (by omega)) (pk_lt P x (fun z => absurd z (by omega)) (fun _ => br_f (nI_nlt (b := 1) (by omega) (by omega)) (br_t (nI_le hy2 (by omega)) ?_)))
  by_cases hxy : y ≤ x
  · refine nm_r (e' := nI (x - y + 1) - 1) ((pk_sub hxy).trans (nI_pred _).symm) ?_
    have key := pk_loopD (σ := Unit) (fun n i _ => wY_findHigh_32 post (nI y) (nI P) f m p c om op oc n (nI i - 1)) (fun i _ => i ≤ x - y + 1 ∧ ∀ t', i ≤ t' → t' + y ≤ x → ¬ rg_fr a t' y) (fun n _ hI => ?_) (fun n i _ hI hw => ?_) (x - y + 1) () ⟨Nat.le_refl _, fun t' h1 h2 => by omega⟩
    · exact ⟨_, key⟩
    · exact br_t (by decide) (h _ (Or.inr ⟨fun t' h1 => hI.2 t' (Nat.zero_le _) h1, rfl⟩))
    · have e0 : nI (i + 1) - 1 = nI i := nI_pred i
      have e2 : nI i + (-1) = nI i - 1 := by grind
      show wY_findHigh_32 post (nI y) (nI P) f m p c om op oc (n + 1) (nI (i + 1) - 1)
      rw [e0]
      have hle := rg_cn_le (rg_mp a) i y
      refine br_f (nI_pos (by omega)) (ry_cnt hP hr (by omega) (pk_eq (rg_cn (rg_mp a) i y) 0 (fun z => h _ (Or.inl ⟨i, by omega, rg_fr_cn.mp z, fun t' h1 h2 => hI.2 t' (by omega) h2, rfl⟩)) (fun z => nm_r e2 (hw () ⟨by omega, fun t' h1 h2 => ?_⟩))))
      by_cases e : t' = i
      · rw [e]; exact fun y => z (rg_fr_cn.mpr y)
      · exact hI.2 t' (by omega) h2
  · exact nm_e ⟨1, br_t (pk_sneg (by omega) (by omega)) (h _ (Or.inr ⟨fun t' h1 => by omega, rfl⟩))⟩
theorem ry_fh0 {post : Int32 → Prop} {P : Nat} {f s l : Int32} {m p c om op oc : Nat → Int32} (hP : P ≤ 256) (g : ¬ (rg_LN P s ∧ rg_LN P l)) (h : post (-1)) : wpY_findHigh post (nI P, f, m, p, c, om, op, oc) s l := by
  refine br_c (fun _ => h) (fun k1 => br_c (fun _ => h) (fun k2 => br_c (fun _ => h) (fun k3 => br_c (fun k4 => absurd ?_ g) (fun _ => h))))
  rw [Int32.lt_iff_toInt_lt, rg_i1] at k1
  rw [Int32.lt_iff_toInt_lt, nI_toInt (by omega)] at k2
  rw [Int32.lt_iff_toInt_lt, rg_i1] at k3
  rw [Int32.le_iff_toInt_le, nI_toInt (by omega)] at k4
  exact ⟨⟨by omega, by omega⟩, ⟨by omega, by omega⟩⟩
theorem ry_lg {post : Int32 → Prop} {P : Nat} {f : Int32} {a b m p c om op oc : Nat → Int32} (hP : P ≤ 256) (hr : rg_R P a b m p c) (h : ∀ L, rg_LG a P L → post (nI L)) : wpY_longestGap post (nI P, f, m, p, c, om, op, oc) := by
  refine pk_loop (fun n i L => wY_longestGap_4 post (nI P) f m p c om op oc n (nI L) (nI i)) (fun i L => L ≤ P ∧ rg_JG a P i L) P 0 0 (Nat.zero_le _) ⟨Nat.zero_le _, rg_JG_0 a P⟩ (fun n L hL => ?_) (fun n i L hi hL hw => ?_)
  · exact pk_le P P (fun _ => h _ (rg_JG_x hL.2)) (fun z => absurd z (by omega))
  · refine pk_le P i (fun z => absurd z (by omega)) (fun _ => ?_)
    have tl : ∀ q, rg_rud a P i q → wY_longestGap_45 post (wY_longestGap_4 post (nI P) f m p c om op oc n) (nI L) (nI i) (nI q) (nI P) f m p c om op oc := by
      intro q hq
      have hq1 := hq.1
      exact pk_le q L (fun z => nm_r (nI_1 i) (hw L ⟨hL.1, rg_JG_s hL.2 hq z⟩)) (fun z => nm_r (nI_1 i) (hw q ⟨by omega, rg_JG_g hL.2 hq z⟩))
    refine pk_loop (σ := Unit) (fun n' q _ => wY_longestGap_17 post (wY_longestGap_4 post (nI P) f m p c om op oc n) (nI L) (nI i) (nI P) f m p c om op oc n' (nI q) (nI (i + q))) (fun q _ => rg_fr a i q) (P - i) 0 () (Nat.zero_le _) (fun q h => by omega) (fun n' _ hI => ?_) (fun n' q _ hq hI hn => ?_)
    · exact pk_le P (i + (P - i)) (fun _ => tl _ ⟨by omega, hI, Or.inl (by omega)⟩) (fun z => absurd z (by omega))
    · refine pk_le P (i + q) (fun z => absurd z (by omega)) (fun _ => ⟨pk_in (i + q) 256 (by omega), br_c (fun z => ?_) (fun z => ?_)⟩)
      · rw [nI_clamp (show i + q < 2 ^ 31 by omega)] at z
        refine nm_r (nI_1 q) (nm_r (nI_1 (i + q)) (hn () (fun w hw => ?_)))
        by_cases e : w = q
        · rw [e]; exact rg_R_0 hr (by omega) z
        · exact hI w (by omega)
      · rw [nI_clamp (show i + q < 2 ^ 31 by omega)] at z
        exact tl q ⟨by omega, hI, Or.inr (rg_R_1 hr (by omega) z)⟩
end
section
/-! the reference, changing -/
theorem ry_rem {post : SY → Prop} {P : Nat} {f : Int32} {a b m p c om op oc : Nat → Int32} (hP : P ≤ 256) (hr : rg_R P a b m p c) (h : ∀ om op oc, rg_eq P om m → rg_eq P op p → rg_eq P oc c → post (nI P, f, m, p, c, om, op, oc)) : wpY_remember post (nI P, f, m, p, c, om, op, oc) :=
  pk_loop (fun n i (t : (Nat → Int32) × (Nat → Int32) × (Nat → Int32)) => wY_remember_2 post (nI P) f n (nI i) m p c t.1 t.2.1 t.2.2) (fun i t => rg_F 0 i m om t.1 ∧ rg_F 0 i p op t.2.1 ∧ rg_F 0 i c oc t.2.2) P 0 (om, op, oc) (Nat.zero_le _) ⟨rg_F_0 _ _ _, rg_F_0 _ _ _, rg_F_0 _ _ _⟩
    (fun n t ht => pk_le P P (fun _ => h _ _ _ (rg_F_eq ht.1) (rg_F_eq ht.2.1) (rg_F_eq ht.2.2)) (fun z => absurd z (by omega)))
    (fun n i t hi ht hw => pk_le P i (fun z => absurd z (by omega)) (fun _ => ⟨pk_in i 256 (by omega), pk_in i 256 (by omega), nm_e ⟨pk_in i 256 (by omega), pk_in i 256 (by omega), nm_e ⟨pk_in i 256 (by omega), pk_in i 256 (by omega), nm_e (nm_r (nI_1 i) (hw (_, _, _) ⟨rg_F_s ht.1 (Nat.zero_le _) (nI_clamp (by omega)) (by rw [nI_clamp (by omega), rg_nb (rg_R_01 hr hi)]), rg_F_s ht.2.1 (Nat.zero_le _) (nI_clamp (by omega)) (by rw [nI_clamp (by omega)]), rg_F_s ht.2.2 (Nat.zero_le _) (nI_clamp (by omega)) (by rw [nI_clamp (by omega)])⟩))⟩⟩⟩))
def rg_QY (P R : Nat) (post : Int32 → SY → Prop) : Int32 → (Nat → Int32) → (Nat → Int32) → Prop := fun r a' b' => ∀ m p c om op oc, rg_R P a' b' m p c → post r (nI P, nI R, m, p, c, om, op, oc)
theorem ry_set {post : Int32 → SY → Prop} {P R : Nat} {r : Int32} {a b a' b' m p c om op oc : Nat → Int32} (hP : P ≤ 256) (hR : R ≤ 32) (hn : rg_R P a' b' m p c) (ho : rg_R P a b om op oc) (h : rg_gate P R a b a' b' r (rg_QY P R post)) : wpY_settle post (nI P, nI R, m, p, c, om, op, oc) r := by
  unfold wpY_settle
  dsimp only
  refine ry_rc hP hn ?_
  have hle := rg_cn_le (rg_st a' b') 0 P
  refine pk_lt R (rg_cn (rg_st a' b') 0 P) (fun z => ?_) (fun z => h.1 z _ _ _ _ _ _ hn)
  have h := h.2 (fun y => by unfold rg_ok at y; omega)
  exact pk_loop (fun n i (t : (Nat → Int32) × (Nat → Int32) × (Nat → Int32)) => wY_settle_15 post (nI P) (nI R) n (nI i) t.1 t.2.1 t.2.2 om op oc) (fun i t => rg_F 0 i om m t.1 ∧ rg_F 0 i op p t.2.1 ∧ rg_F 0 i oc c t.2.2) P 0 (m, p, c) (Nat.zero_le _) ⟨rg_F_0 _ _ _, rg_F_0 _ _ _, rg_F_0 _ _ _⟩
    (fun n t ht => pk_le P P (fun _ => h _ _ _ _ _ _ (rg_R_cy ho (rg_F_eq ht.1) (rg_F_eq ht.2.1) (rg_F_eq ht.2.2))) (fun z => absurd z (by omega)))
    (fun n i t hi ht hw => pk_le P i (fun z => absurd z (by omega)) (fun _ => ⟨pk_in i 256 (by omega), pk_in i 256 (by omega), nm_e ⟨pk_in i 256 (by omega), pk_in i 256 (by omega), nm_e ⟨pk_in i 256 (by omega), pk_in i 256 (by omega), nm_e (nm_r (nI_1 i) (hw (_, _, _) ⟨rg_F_s ht.1 (Nat.zero_le _) (nI_clamp (by omega)) (by rw [nI_clamp (by omega), rg_nb (rg_R_01 ho hi)]), rg_F_s ht.2.1 (Nat.zero_le _) (nI_clamp (by omega)) (by rw [nI_clamp (by omega)]), rg_F_s ht.2.2 (Nat.zero_le _) (nI_clamp (by omega)) (by rw [nI_clamp (by omega)])⟩))⟩⟩⟩))
theorem rg_bk_ok {s j l : Nat} {q v : Int32} (h : rg_PA (nI l) q v) (hl : l ≤ 256) (h1 : s ≤ j) (h2 : j < s + l) : rg_BK (rg_bk s v j) := by
  unfold rg_bk
  by_cases z : v = 0
  · rw [if_pos z]; exact Or.inl rfl
  · rw [if_neg z]
    rcases h.2 with h | ⟨h3, h4, h5⟩
    · exact absurd h z
    · obtain ⟨n, hn, rfl, fn⟩ := rg_nat (x := v) (by omega)
      have hl' : (nI l).toInt = l := nI_toInt (by omega)
      right
      rw [nI_add, nI_toInt (by omega)]
      omega
theorem rg_R_fill {P s l : Nat} {q v : Int32} {a b m p c m' p' c' : Nat → Int32} (hP : P ≤ 256) (hs : s + l ≤ P) (hr : rg_R P a b m p c) (hA : rg_PA (nI l) q v) (hm : rg_F s (s + l) (fun _ => 1) m m') (hp : rg_F s (s + l) (fun _ => q) p p') (hc : rg_F s (s + l) (rg_bk s v) c c') : rg_R P (rg_on s l (fun _ => q) a) (rg_on s l (rg_bk s v) b) m' p' c' := by
  intro j hj
  by_cases e : s ≤ j ∧ j < s + l
  · rw [rg_on_t e, rg_on_t e, hm.1 j e.1 e.2, hp.1 j e.1 e.2, hc.1 j e.1 e.2]
    exact Or.inr ⟨rfl, rfl, rfl, rg_PT_6 hA.1, rg_bk_ok hA (by omega) e.1 e.2⟩
  · rw [rg_on_f e, rg_on_f e, hm.2 j e, hp.2 j e, hc.2 j e]
    exact hr j hj
theorem rg_R_free {P s l : Nat} {a b m p c m' : Nat → Int32} (hr : rg_R P a b m p c) (hm : rg_F s (s + l) (fun _ => 0) m m') : rg_R P (rg_on s l (fun _ => -6) a) (rg_on s l (fun _ => -6) b) m' p c := by
  intro j hj
  by_cases e : s ≤ j ∧ j < s + l
  · rw [rg_on_t e, rg_on_t e, hm.1 j e.1 e.2]
    exact Or.inl ⟨rfl, rfl, rfl⟩
  · rw [rg_on_f e, rg_on_f e, hm.2 j e]
    exact hr j hj
theorem rg_all {a : Nat → Int32} {s l : Nat} (h : ¬ rg_cn (rg_mp a) s l < l) {j : Nat} (h1 : s ≤ j) (h2 : j < s + l) : ¬ a j = -6 := by
  have := rg_cn_all h (j - s) (by omega)
  rw [show s + (j - s) = j from by omega] at this
  exact rg_mp_t.mp this
theorem rg_R_prot {P s l : Nat} {q : Int32} {a b m p c p' : Nat → Int32} (hr : rg_R P a b m p c) (hq : rg_PT q) (ha : ¬ rg_cn (rg_mp a) s l < l) (hp : rg_F s (s + l) (fun _ => q) p p') : rg_R P (rg_on s l (fun _ => q) a) b m p' c := by
  intro j hj
  by_cases e : s ≤ j ∧ j < s + l
  · rw [rg_on_t e, hp.1 j e.1 e.2]
    rcases hr j hj with ⟨e1, e2, e3⟩ | ⟨e1, e2, e3, e4, e5⟩
    · exact absurd e2 (rg_all ha e.1 e.2)
    · exact Or.inr ⟨e1, rfl, e3, rg_PT_6 hq, e5⟩
  · rw [rg_on_f e, hp.2 j e]
    exact hr j hj
theorem rg_R_mv {P s l t : Nat} {a b m p c op oc m1 m' p' c' : Nat → Int32} (hs : s + l ≤ P) (hr : rg_R P a b m p c) (ha : ¬ rg_cn (rg_mp a) s l < l) (ho : rg_eq P op p) (hq : rg_eq P oc c) (h1 : rg_F s (s + l) (fun _ => 0) m m1) (hm : rg_F t (t + l) (fun _ => 1) m1 m') (hp : rg_F t (t + l) (fun j => op (s + (j - t))) p p') (hc : rg_F t (t + l) (fun j => oc (s + (j - t))) c c') : rg_R P (rg_mv s l t a) (rg_mv s l t b) m' p' c' := by
  intro j hj
  unfold rg_mv
  by_cases e : t ≤ j ∧ j < t + l
  · rw [rg_on_t e, rg_on_t e, hm.1 j e.1 e.2, hp.1 j e.1 e.2, hc.1 j e.1 e.2]
    dsimp only
    rw [ho _ (by omega), hq _ (by omega)]
    rcases hr (s + (j - t)) (by omega) with ⟨e1, e2, e3⟩ | ⟨e1, e2, e3, e4, e5⟩
    · exact absurd e2 (rg_all ha (by omega) (by omega))
    · exact Or.inr ⟨rfl, e2, e3, e4, e5⟩
  · rw [rg_on_f e, rg_on_f e, hm.2 j e, hp.2 j e, hc.2 j e]
    exact rg_R_free hr h1 j hj
theorem ry_fill {post : Int32 → SY → Prop} {P R s l : Nat} {q v r : Int32} {a b m p c om op oc : Nat → Int32} (hP : P ≤ 256) (hR : R ≤ 32) (hs : s + l ≤ P) (hr : rg_R P a b m p c) (hA : rg_PA (nI l) q v) (h : sp_fill P R s l q v r a b (rg_QY P R post)) : wpY_fill post (nI P, nI R, m, p, c, om, op, oc) (nI s) (nI l) q v r := by
  unfold wpY_fill
  dsimp only
  refine ry_rem hP hr (fun om op oc hm hp hc => ?_)
  dsimp only
  exact pk_loop (fun n i (t : (Nat → Int32) × (Nat → Int32) × (Nat → Int32)) => wY_fill_7 post (nI s) (nI l) q v r (nI P) (nI R) n (nI i) t.1 t.2.1 t.2.2 om op oc) (fun i t => rg_F s (s + i) (fun _ => 1) m t.1 ∧ rg_F s (s + i) (fun _ => q) p t.2.1 ∧ rg_F s (s + i) (rg_bk s v) c t.2.2) l 0 (m, p, c) (Nat.zero_le _) ⟨rg_F_0 _ _ _, rg_F_0 _ _ _, rg_F_0 _ _ _⟩
    (fun n t ht => pk_le l l (fun _ => ry_set hP hR (rg_R_fill hP hs hr hA ht.1 ht.2.1 ht.2.2) (rg_R_cy hr hm hp hc) h) (fun z => absurd z (by omega)))
    (fun n i t hi ht hw => pk_le l i (fun z => absurd z (by omega)) (fun _ => ⟨pk_in (s + i) 256 (by omega) (hx := nI_add s i), nm_e ⟨pk_in (s + i) 256 (by omega) (hx := nI_add s i), nm_e (br_c
      (fun z => ⟨pk_in (s + i) 256 (by omega) (hx := nI_add s i), nm_e (nm_r (nI_1 i) (hw (_, _, _) ⟨rg_F_s ht.1 (Nat.le_add_right _ _) (pk_cl (s + i) (nI_add s i)) (rg_nb (Or.inr rfl)), rg_F_s ht.2.1 (Nat.le_add_right _ _) (pk_cl (s + i) (nI_add s i)) rfl, rg_F_s ht.2.2 (Nat.le_add_right _ _) (pk_cl (s + i) (nI_add s i)) (rg_bk_0 z)⟩))⟩)
      (fun z => ⟨pk_in (s + i) 256 (by omega) (hx := nI_add s i), nm_e (nm_r (nI_1 i) (hw (_, _, _) ⟨rg_F_s ht.1 (Nat.le_add_right _ _) (pk_cl (s + i) (nI_add s i)) (rg_nb (Or.inr rfl)), rg_F_s ht.2.1 (Nat.le_add_right _ _) (pk_cl (s + i) (nI_add s i)) rfl, rg_F_s ht.2.2 (Nat.le_add_right _ _) (pk_cl (s + i) (nI_add s i)) (rg_bk_1 z)⟩))⟩))⟩⟩))
theorem rg_QY_s {P R : Nat} {post : Int32 → SY → Prop} {r : Int32} {a b m p c om op oc : Nat → Int32} (h : rg_QY P R post r a b) (hr : rg_R P a b m p c) : post r (nI P, nI R, m, p, c, om, op, oc) := h _ _ _ _ _ _ hr
theorem ry_mapNew {post : Int32 → SY → Prop} {P R : Nat} {a b m p c om op oc : Nat → Int32} {v1 v2 v3 v4 : Int32} (hP : P ≤ 256) (hR : R ≤ 32) (hr : rg_R P a b m p c) (h : sp_mapNew P R a b v1 v2 v3 v4 (rg_QY P R post)) : wpY_mapNew post (nI P, nI R, m, p, c, om, op, oc) v1 v2 v3 v4 := by
  unfold wpY_mapNew
  dsimp only
  refine ry_range hP v1 v2 (fun g => br_f rg_10 (ry_attr hP v2 v3 v4 ⟨g.2.1, by have := g.2.2; have := g.1; omega⟩ (fun k => br_f rg_10 ?_) (fun k => br_t rfl (rg_QY_s (h.2 (fun z => k z.2)) hr)))) (fun g => br_t rfl (rg_QY_s (h.2 (fun z => g z.1)) hr))
  have h := h.1 ⟨g, k⟩
  obtain ⟨s, l, rfl, rfl, hl, hs⟩ := rg_PR_n g
  rw [nI_clamp (show s < 2 ^ 31 by omega), nI_clamp (show l < 2 ^ 31 by omega)] at h
  have hc := rg_cn_le (rg_mp a) s l
  exact ry_cnt hP hr hs (pk_le (rg_cn (rg_mp a) s l) 0 (fun z => ry_fill hP hR hs hr k (h.1 (by omega))) (fun z => rg_QY_s (h.2 (by omega)) hr))
theorem ry_mapOver {post : Int32 → SY → Prop} {P R : Nat} {a b m p c om op oc : Nat → Int32} {v1 v2 v3 v4 : Int32} (hP : P ≤ 256) (hR : R ≤ 32) (hr : rg_R P a b m p c) (h : sp_mapOver P R a b v1 v2 v3 v4 (rg_QY P R post)) : wpY_mapOver post (nI P, nI R, m, p, c, om, op, oc) v1 v2 v3 v4 := by
  unfold wpY_mapOver
  dsimp only
  refine ry_range hP v1 v2 (fun g => br_f rg_10 (ry_attr hP v2 v3 v4 ⟨g.2.1, by have := g.2.2; have := g.1; omega⟩ (fun k => br_f rg_10 ?_) (fun k => br_t rfl (rg_QY_s (h.2 (fun z => k z.2)) hr)))) (fun g => br_t rfl (rg_QY_s (h.2 (fun z => g z.1)) hr))
  have h := h.1 ⟨g, k⟩
  obtain ⟨s, l, rfl, rfl, hl, hs⟩ := rg_PR_n g
  rw [nI_clamp (show s < 2 ^ 31 by omega), nI_clamp (show l < 2 ^ 31 by omega)] at h
  exact ry_cnt hP hr hs (ry_fill hP hR hs hr k h)
theorem ry_mapLow {post : Int32 → SY → Prop} {P R : Nat} {a b m p c om op oc : Nat → Int32} {v1 v2 v3 v4 : Int32} (hP : P ≤ 256) (hR : R ≤ 32) (hr : rg_R P a b m p c) (h : sp_mapLow P R a b v1 v2 v3 v4 (rg_QY P R post)) : wpY_mapLow post (nI P, nI R, m, p, c, om, op, oc) v1 v2 v3 v4 := by
  by_cases g : rg_PG P v1 ∧ rg_LN P v2
  · obtain ⟨g1, g2⟩ := g
    have hh := fun k => h.1 ⟨⟨g1, g2⟩, k⟩
    have hb := fun k => h.2 k
    obtain ⟨x, rfl, hx⟩ := rg_PG_n g1
    obtain ⟨y, rfl, hy1, hy2⟩ := rg_LN_n g2
    unfold wpY_mapLow
    dsimp only
    refine br_f (nI_pos (by omega)) (pk_le P x (fun z => absurd z (by omega)) (fun _ => br_f (nI_nlt (b := 1) (by omega) (by omega)) (br_t (nI_le hy2 (by omega)) ?_)))
    refine ry_attr hP _ v3 v4 g2 (fun k => br_f rg_10 (ry_fl hP hr hx hy1 hy2 (fun r hF => ?_))) (fun k => br_t rfl (rg_QY_s (hb (fun z => k z.2)) hr))
    have h := hh k
    rw [nI_clamp (show x < 2 ^ 31 by omega), nI_clamp (show y < 2 ^ 31 by omega)] at h
    have h := h r hF
    rcases hF with ⟨t, f1, f2, f3, f4, rfl⟩ | ⟨f1, rfl⟩
    · have h := h.1 (rg_0le (by omega))
      rw [nI_clamp (show t < 2 ^ 31 by omega)] at h
      exact br_t (rg_0le (by omega)) (ry_fill hP hR f2 hr k h)
    · exact br_f (by decide) (rg_QY_s (h.2 (by decide)) hr)
  · have hb := rg_QY_s (om := om) (op := op) (oc := oc) (h.2 (fun z => g z.1)) hr
    refine br_c (fun _ => hb) (fun k1 => br_c (fun _ => hb) (fun k2 => br_c (fun _ => hb) (fun k3 => br_c (fun k4 => absurd ?_ g) (fun _ => hb))))
    rw [Int32.lt_iff_toInt_lt, rg_i0] at k1
    rw [Int32.le_iff_toInt_le, nI_toInt (by omega)] at k2
    rw [Int32.lt_iff_toInt_lt, rg_i1] at k3
    rw [Int32.le_iff_toInt_le, nI_toInt (by omega)] at k4
    exact ⟨⟨by omega, by omega⟩, ⟨by omega, by omega⟩⟩
theorem ry_mapHigh {post : Int32 → SY → Prop} {P R : Nat} {a b m p c om op oc : Nat → Int32} {v1 v2 v3 v4 : Int32} (hP : P ≤ 256) (hR : R ≤ 32) (hr : rg_R P a b m p c) (h : sp_mapHigh P R a b v1 v2 v3 v4 (rg_QY P R post)) : wpY_mapHigh post (nI P, nI R, m, p, c, om, op, oc) v1 v2 v3 v4 := by
  by_cases g : rg_LN P v1 ∧ rg_LN P v2
  · obtain ⟨g1, g2⟩ := g
    have hh := fun k => h.1 ⟨⟨g1, g2⟩, k⟩
    have hb := fun k => h.2 k
    obtain ⟨x, rfl, hx1, hx2⟩ := rg_LN_n g1
    obtain ⟨y, rfl, hy1, hy2⟩ := rg_LN_n g2
    unfold wpY_mapHigh
    dsimp only
    refine br_f (nI_nlt (b := 1) (by omega) (by omega)) (pk_lt P x (fun z => absurd z (by omega)) (fun _ => br_f (nI_nlt (b := 1) (by omega) (by omega)) (br_t (nI_le hy2 (by omega)) ?_)))
    refine ry_attr hP _ v3 v4 g2 (fun k => br_f rg_10 (ry_fh hP hr hx1 hx2 hy1 hy2 (fun r hF => ?_))) (fun k => br_t rfl (rg_QY_s (hb (fun z => k z.2)) hr))
    have h := hh k
    rw [nI_clamp (show x < 2 ^ 31 by omega), nI_clamp (show y < 2 ^ 31 by omega)] at h
    have h := h r hF
    rcases hF with ⟨t, f2, f3, f4, rfl⟩ | ⟨f1, rfl⟩
    · have h := h.1 (rg_0le (by omega))
      rw [nI_clamp (show t < 2 ^ 31 by omega)] at h
      exact br_t (rg_0le (by omega)) (ry_fill hP hR (by omega) hr k h)
    · exact br_f (by decide) (rg_QY_s (h.2 (by decide)) hr)
  · have hb := rg_QY_s (om := om) (op := op) (oc := oc) (h.2 (fun z => g z.1)) hr
    refine br_c (fun _ => hb) (fun k1 => br_c (fun _ => hb) (fun k2 => br_c (fun _ => hb) (fun k3 => br_c (fun k4 => absurd ?_ g) (fun _ => hb))))
    rw [Int32.lt_iff_toInt_lt, rg_i1] at k1
    rw [Int32.lt_iff_toInt_lt, nI_toInt (by omega)] at k2
    rw [Int32.lt_iff_toInt_lt, rg_i1] at k3
    rw [Int32.le_iff_toInt_le, nI_toInt (by omega)] at k4
    exact ⟨⟨by omega, by omega⟩, ⟨by omega, by omega⟩⟩
theorem ry_unmap {post : Int32 → SY → Prop} {P R : Nat} {a b m p c om op oc : Nat → Int32} {v1 v2 : Int32} (hP : P ≤ 256) (hR : R ≤ 32) (hr : rg_R P a b m p c) (h : sp_unmap P R a b v1 v2 (rg_QY P R post)) : wpY_unmap post (nI P, nI R, m, p, c, om, op, oc) v1 v2 := by
  unfold wpY_unmap
  dsimp only
  refine ry_range hP v1 v2 (fun g => br_f rg_10 ?_) (fun g => br_t rfl (rg_QY_s (h.2 g) hr))
  have h := h.1 g
  obtain ⟨s, l, rfl, rfl, hl, hs⟩ := rg_PR_n g
  rw [nI_clamp (show s < 2 ^ 31 by omega), nI_clamp (show l < 2 ^ 31 by omega)] at h
  refine ry_cnt hP hr hs (ry_rem hP hr (fun om op oc hm hp hc => ?_))
  dsimp only
  exact pk_loop (fun n i (t : Nat → Int32) => wY_unmap_25 post (nI s) (nI l) (nI (rg_cn (rg_mp a) s l)) (nI P) (nI R) n (nI i) t p c om op oc) (fun i t => rg_F s (s + i) (fun _ => 0) m t) l 0 m (Nat.zero_le _) (rg_F_0 _ _ _)
    (fun n t ht => pk_le l l (fun _ => ry_set hP hR (rg_R_free hr ht) (rg_R_cy hr hm hp hc) h) (fun z => absurd z (by omega)))
    (fun n i t hi ht hw => pk_le l i (fun z => absurd z (by omega)) (fun _ => ⟨pk_in (s + i) 256 (by omega) (hx := nI_add s i), nm_e (nm_r (nI_1 i) (hw _ (rg_F_s ht (Nat.le_add_right _ _) (pk_cl (s + i) (nI_add s i)) (rg_nb (Or.inl rfl)))))⟩))
theorem ry_protect {post : Int32 → SY → Prop} {P R : Nat} {a b m p c om op oc : Nat → Int32} {v1 v2 v3 : Int32} (hP : P ≤ 256) (hR : R ≤ 32) (hr : rg_R P a b m p c) (h : sp_protect P R a b v1 v2 v3 (rg_QY P R post)) : wpY_protect post (nI P, nI R, m, p, c, om, op, oc) v1 v2 v3 := by
  unfold wpY_protect
  dsimp only
  refine ry_range hP v1 v2 (fun g => br_f rg_10 (br_c (fun k => rg_QY_s (h.2 (fun z => ?_)) hr) (fun k => br_c (fun k2 => ?_) (fun k2 => rg_QY_s (h.2 (fun z => ?_)) hr)))) (fun g => br_t rfl (rg_QY_s (h.2 (fun z => g z.1)) hr))
  · rw [Int32.lt_iff_toInt_lt, rg_i0] at k
    have := z.2.1
    omega
  · rw [Int32.lt_iff_toInt_lt, rg_i0] at k
    rw [Int32.le_iff_toInt_le, rg_i7] at k2
    have hq : rg_PT v3 := ⟨by omega, by omega⟩
    have h := h.1 ⟨g, hq⟩
    obtain ⟨s, l, rfl, rfl, hl, hs⟩ := rg_PR_n g
    rw [nI_clamp (show s < 2 ^ 31 by omega), nI_clamp (show l < 2 ^ 31 by omega)] at h
    have hle := rg_cn_le (rg_mp a) s l
    refine ry_cnt hP hr hs (pk_le l (rg_cn (rg_mp a) s l) (fun z => ?_) (fun z => rg_QY_s (h.1 z) hr))
    have hA : ¬ rg_cn (rg_mp a) s l < l := by omega
    have h := h.2 hA
    refine ry_rem hP hr (fun om op oc hm hp hc => ?_)
    dsimp only
    refine pk_loop (fun n i (t : Nat × (Nat → Int32)) => wY_protect_44 post (nI s) (nI l) v3 (nI P) (nI R) n (nI t.1) (nI i) m t.2 c om op oc) (fun i t => t.1 = rg_cn (fun j => decide (¬ a j = v3)) s i ∧ rg_F s (s + i) (fun _ => v3) p t.2) l 0 (0, p) (Nat.zero_le _) ⟨rfl, rg_F_0 _ _ _⟩
      (fun n t ht => pk_le l l (fun _ => ?_) (fun z => absurd z (by omega)))
      (fun n i t hi ht hw => pk_le l i (fun z => absurd z (by omega)) (fun _ => ⟨pk_in (s + i) 256 (by omega) (hx := nI_add s i), ?_⟩))
    · rw [ht.1]
      exact ry_set hP hR (rg_R_prot hr hq hA ht.2) (rg_R_cy hr hm hp hc) h
    · have ep : t.2 (s + i) = a (s + i) := by
        rw [ht.2.2 (s + i) (by omega)]
        rcases hr (s + i) (by omega) with ⟨e1, e2, e3⟩ | ⟨e1, e2, e3, e4, e5⟩
        · exact absurd e2 (rg_all hA (by omega) (by omega))
        · exact e2.symm
      have st : rg_F s (s + (i + 1)) (fun _ => v3) p (upd t.2 (nI s + nI i).toNatClampNeg v3) := rg_F_s ht.2 (Nat.le_add_right _ _) (pk_cl (s + i) (nI_add s i)) rfl
      refine br_c (fun z => ⟨pk_in (s + i) 256 (by omega) (hx := nI_add s i), nm_e (nm_r (nI_1 i) (hw (t.1, _) ⟨?_, st⟩))⟩) (fun z => nm_r (nI_1 t.1) ⟨pk_in (s + i) 256 (by omega) (hx := nI_add s i), nm_e (nm_r (nI_1 i) (hw (t.1 + 1, _) ⟨?_, st⟩))⟩)
      · rw [pk_cl (s + i) (nI_add s i), ep] at z
        rw [rg_cn_f (decide_eq_false (fun y => y z))]; exact ht.1
      · rw [pk_cl (s + i) (nI_add s i), ep] at z
        rw [rg_cn_t (decide_eq_true z), ht.1]
  · rw [Int32.le_iff_toInt_le, rg_i7] at k2
    have := z.2.2
    omega
theorem ry_mv {post : Int32 → SY → Prop} {P R s l t : Nat} {a b m p c om op oc : Nat → Int32} (hP : P ≤ 256) (hR : R ≤ 32) (hl : 1 ≤ l) (hs : s + l ≤ P) (ht : t + l ≤ P) (hr : rg_R P a b m p c) (hA : ¬ rg_cn (rg_mp a) s l < l) (h : sp_mv P R s l t (nI (rg_cn (rg_out a s l) t l)) a b (rg_QY P R post)) : wpY_move post (nI P, nI R, m, p, c, om, op, oc) (nI s) (nI l) (nI t) := by
  unfold wpY_move
  dsimp only
  have hle := rg_cn_le (rg_mp a) s l
  refine ry_range hP _ _ (fun _ => br_f rg_10 (ry_range hP _ _ (fun _ => br_f rg_10 (ry_cnt hP hr hs (pk_le l (rg_cn (rg_mp a) s l) (fun _ => ?_) (fun z => absurd z hA)))) (fun g => absurd (rg_PR_i hP hl ht) g))) (fun g => absurd (rg_PR_i hP hl hs) g)
  refine ry_rem hP hr (fun om op oc hm hp hc => ?_)
  dsimp only
  refine pk_loop (fun n i (w : Nat → Int32) => wY_move_40 post (nI s) (nI l) (nI t) (nI P) (nI R) n (nI i) w p c om op oc) (fun i w => rg_F s (s + i) (fun _ => 0) m w) l 0 m (Nat.zero_le _) (rg_F_0 _ _ _)
    (fun n m1 h1 => pk_le l l (fun _ => ?_) (fun z => absurd z (by omega)))
    (fun n i w hi hw hn => pk_le l i (fun z => absurd z (by omega)) (fun _ => ⟨pk_in (s + i) 256 (by omega) (hx := nI_add s i), nm_e (nm_r (nI_1 i) (hn _ (rg_F_s hw (Nat.le_add_right _ _) (pk_cl (s + i) (nI_add s i)) (rg_nb (Or.inl rfl)))))⟩))
  have kk : ∀ i, i < l → (nI s + nI i).toNatClampNeg = s + (t + i - t) := fun i hi => (pk_cl (s + i) (nI_add s i)).trans (by omega)
  refine pk_loop (fun n i (w : Nat × (Nat → Int32) × (Nat → Int32) × (Nat → Int32)) => wY_move_68 post (nI s) (nI l) (nI t) (nI P) (nI R) n (nI w.1) (nI i) w.2.1 w.2.2.1 w.2.2.2 om op oc) (fun i w => w.1 = rg_cn (rg_out a s l) t i ∧ rg_F t (t + i) (fun _ => 1) m1 w.2.1 ∧ rg_F t (t + i) (fun j => op (s + (j - t))) p w.2.2.1 ∧ rg_F t (t + i) (fun j => oc (s + (j - t))) c w.2.2.2) l 0 (0, m1, p, c) (Nat.zero_le _) ⟨rfl, rg_F_0 _ _ _, rg_F_0 _ _ _, rg_F_0 _ _ _⟩
    (fun n w hw => pk_le l l (fun _ => ?_) (fun z => absurd z (by omega)))
    (fun n i w hi hw hn => pk_le l i (fun z => absurd z (by omega)) (fun _ => nm_r (nI_add t i) ?_))
  · rw [hw.1]
    exact ry_set hP hR (rg_R_mv hs hr hA hp hc h1 hw.2.1 hw.2.2.1 hw.2.2.2) (rg_R_cy hr hm hp hc) h
  · obtain ⟨w0, w1, w2, w3⟩ := w
    obtain ⟨hw0, hw1, hw2, hw3⟩ := hw
    have hk : (nI (t + i)).toNatClampNeg = t + i := nI_clamp (by omega)
    have last : ∀ k, k = rg_cn (rg_out a s l) t (i + 1) → wY_move_119 post (wY_move_68 post (nI s) (nI l) (nI t) (nI P) (nI R) n) (nI s) (nI l) (nI t) (nI k) (nI i) (nI (t + i)) (nI P) (nI R) w1 w2 w3 om op oc := fun k ek =>
      ⟨pk_in (t + i) 256 (by omega), nm_e ⟨pk_in (s + i) 256 (by omega) (hx := nI_add s i), pk_in (t + i) 256 (by omega), nm_e ⟨pk_in (s + i) 256 (by omega) (hx := nI_add s i), pk_in (t + i) 256 (by omega), nm_e (nm_r (nI_1 i) (hn (k, _, _, _) ⟨ek, rg_F_s hw1 (Nat.le_add_right _ _) hk (rg_nb (Or.inr rfl)), rg_F_s hw2 (Nat.le_add_right _ _) hk (congrArg op (kk i hi)), rg_F_s hw3 (Nat.le_add_right _ _) hk (congrArg oc (kk i hi))⟩))⟩⟩⟩
    have tl : (t + i < s ∨ s + l ≤ t + i) → wY_move_99 post (wY_move_68 post (nI s) (nI l) (nI t) (nI P) (nI R) n) (nI s) (nI l) (nI t) (nI w0) (nI i) (nI (t + i)) 0 (nI P) (nI R) w1 w2 w3 om op oc := by
      intro ho
      have ho' : (decide (t + i < s) || decide (s + l ≤ t + i)) = true := by
        rcases ho with ho | ho
        · rw [decide_eq_true ho]; rfl
        · rw [decide_eq_true ho]; exact Bool.or_true _
      refine br_t rfl ⟨pk_in (t + i) 256 (by omega), br_c (fun z => last w0 ?_) (fun z => nm_r (nI_1 w0) (last (w0 + 1) ?_))⟩
      · rw [hk, hm _ (by omega)] at z
        rw [rg_cn_f (by unfold rg_out; rw [rg_mp_f.mpr (rg_R_0 hr (by omega) z)]; exact Bool.and_false _)]
        exact hw0
      · rw [hk, hm _ (by omega)] at z
        rw [rg_cn_t (by unfold rg_out; rw [rg_mp_t.mpr (rg_R_1 hr (by omega) z), ho']; rfl), ← hw0]
    refine pk_lt (t + i) s (fun z => tl (Or.inl z)) (fun z => ?_)
    refine pk_le (s + l) (t + i) (fun y => tl (Or.inr y)) (fun y => br_f rg_10 (last w0 ?_)) (hx := nI_add s l)
    rw [rg_cn_f (by unfold rg_out; rw [decide_eq_false (by omega), decide_eq_false (by omega)]; rfl)]
    exact hw0
theorem ry_move {post : Int32 → SY → Prop} {P R : Nat} {a b m p c om op oc : Nat → Int32} {v1 v2 v3 : Int32} (hP : P ≤ 256) (hR : R ≤ 32) (hr : rg_R P a b m p c) (h : sp_move P R a b v1 v2 v3 (rg_QY P R post)) : wpY_move post (nI P, nI R, m, p, c, om, op, oc) v1 v2 v3 := by
  by_cases g : rg_PR P v1 v2 ∧ rg_PR P v3 v2
  · have h := h.1 g
    obtain ⟨g1, g2⟩ := g
    obtain ⟨s, l, rfl, rfl, hl, hs⟩ := rg_PR_n g1
    obtain ⟨t, l', rfl, el, hl', ht⟩ := rg_PR_n g2
    have el : l = l' := (nI_eq (by omega) (by omega)).mp el
    subst el
    rw [nI_clamp (show s < 2 ^ 31 by omega), nI_clamp (show l < 2 ^ 31 by omega), nI_clamp (show t < 2 ^ 31 by omega)] at h
    by_cases hA : rg_cn (rg_mp a) s l < l
    · unfold wpY_move
      dsimp only
      exact ry_range hP _ _ (fun _ => br_f rg_10 (ry_range hP _ _ (fun _ => br_f rg_10 (ry_cnt hP hr hs (pk_le l (rg_cn (rg_mp a) s l) (fun z => absurd z (by omega)) (fun z => rg_QY_s (h.1 hA) hr)))) (fun g => absurd g2 g))) (fun g => absurd g1 g)
    · exact ry_mv hP hR hl hs ht hr hA (h.2 hA)
  · have hb := rg_QY_s (om := om) (op := op) (oc := oc) (h.2 g) hr
    unfold wpY_move
    dsimp only
    exact ry_range hP _ _ (fun g1 => br_f rg_10 (ry_range hP _ _ (fun g2 => absurd ⟨g1, g2⟩ g) (fun _ => br_t rfl hb))) (fun _ => br_t rfl hb)
theorem ry_moveFree {post : Int32 → SY → Prop} {P R : Nat} {a b m p c om op oc : Nat → Int32} {v1 v2 v3 : Int32} (hP : P ≤ 256) (hR : R ≤ 32) (hr : rg_R P a b m p c) (h : sp_moveFree P R a b v1 v2 v3 (rg_QY P R post)) : wpY_moveFree post (nI P, nI R, m, p, c, om, op, oc) v1 v2 v3 := by
  unfold wpY_moveFree
  dsimp only
  refine ry_range hP v1 v2 (fun g => br_f rg_10 (br_c (fun k => rg_QY_s (h.2 (fun z => ?_)) hr) (fun k => br_c (fun k2 => ?_) (fun k2 => rg_QY_s (h.2 (fun z => ?_)) hr)))) (fun g => br_t rfl (rg_QY_s (h.2 (fun z => g z.1)) hr))
  · rw [Int32.lt_iff_toInt_lt, rg_i0] at k
    have := z.2.1
    omega
  · rw [Int32.lt_iff_toInt_lt, rg_i0] at k
    rw [Int32.lt_iff_toInt_lt, nI_toInt (by omega)] at k2
    have hq : rg_PG P v3 := ⟨by omega, by omega⟩
    have h := h.1 ⟨g, hq⟩
    obtain ⟨s, l, rfl, rfl, hl, hs⟩ := rg_PR_n g
    obtain ⟨x, rfl, hx⟩ := rg_PG_n hq
    rw [nI_clamp (show s < 2 ^ 31 by omega), nI_clamp (show l < 2 ^ 31 by omega), nI_clamp (show x < 2 ^ 31 by omega)] at h
    have hle := rg_cn_le (rg_mp a) s l
    refine ry_cnt hP hr hs (pk_le l (rg_cn (rg_mp a) s l) (fun z => ?_) (fun z => rg_QY_s (h.1 z) hr))
    have hA : ¬ rg_cn (rg_mp a) s l < l := by omega
    have h := h.2 hA
    refine ry_fl hP hr hx hl (by omega) (fun r hF => ?_)
    have h := h r hF
    rcases hF with ⟨t, f1, f2, f3, f4, rfl⟩ | ⟨f1, rfl⟩
    · have h := h.1 (rg_0le (by omega))
      rw [nI_clamp (show t < 2 ^ 31 by omega)] at h
      have hle2 := rg_cn_le (rg_out a s l) t l
      exact br_t (rg_0le (by omega)) (ry_mv hP hR hl hs f2 hr hA ⟨fun k m p c om op oc w => br_t (rg_0le (by omega)) (h.1 k m p c om op oc w), fun k m p c om op oc w => br_f (by decide) (h.2 k m p c om op oc w)⟩)
    · exact br_f (by decide) (rg_QY_s (h.2 (by decide)) hr)
  · rw [Int32.lt_iff_toInt_lt, nI_toInt (by omega)] at k2
    have := z.2.2
    omega
end
section
/-- the relation: the same P and R, the two maps related below P -/
def i_Rel (k : Nat) (u : SX) (v : SY) : Prop := ∃ (P R : Nat) (a b d e m p c om op oc : Nat → Int32), u = (nI P, nI R, a, b, d, e) ∧ v = (nI P, nI R, m, p, c, om, op, oc) ∧ P ≤ 256 ∧ R ≤ 32 ∧ rg_R P a b m p c
theorem i_up {k : Nat} {u : SX} {v : SY} (h : i_Rel k u v) : i_Rel (k + 5) u v := h
theorem ri_mk {k P R : Nat} {a b a' b' d e m p c om op oc : Nat → Int32} (hP : P ≤ 256) (hR : R ≤ 32) (ha : rg_eq P a a') (hb : rg_eq P b b') (hr : rg_R P a' b' m p c) : i_Rel k (nI P, nI R, a, b, d, e) (nI P, nI R, m, p, c, om, op, oc) := ⟨P, R, a, b, d, e, m, p, c, om, op, oc, rfl, rfl, hP, hR, rg_R_cg hr ha hb⟩
theorem ri_16 : (16 : Int32) = nI 16 := by decide
theorem ri_2 : (2 : Int32) = nI 2 := by decide
theorem ri_32 : (32 : Int32) = nI 32 := by decide
theorem ri_cl {x lo hi : Int32} {l h : Nat} (el : lo = nI l) (eh : hi = nI h) (hl : l ≤ h) (hh : h < 2 ^ 31) (h1 : lo ≤ x) (h2 : x ≤ hi) : ∃ n : Nat, n ≤ h ∧ x = nI n := by
  subst el eh
  rw [Int32.le_iff_toInt_le, nI_toInt (by omega)] at h1 h2
  obtain ⟨n, hn, rfl, fn⟩ := rg_nat (x := x) (by omega)
  exact ⟨n, by omega, rfl⟩
theorem ri_x0 {post : SX → Prop} {P R : Nat} (h : ∀ A B D E, (∀ j, j < 256 → A j = -6 ∧ B j = -6) → post (nI P, nI R, A, B, D, E)) : ∃ n, wX_init_66 post (nI P) (nI R) n 0 (fun _ => 0) (fun _ => 0) (fun _ => 0) (fun _ => 0) :=
  pk_loop (fun n i (t : (Nat → Int32) × (Nat → Int32)) => wX_init_66 post (nI P) (nI R) n (nI i) t.1 t.2 (fun _ => 0) (fun _ => 0)) (fun i t => rg_F 0 i (fun _ => -6) (fun _ => 0) t.1 ∧ rg_F 0 i (fun _ => -6) (fun _ => 0) t.2) 256 0 (fun _ => 0, fun _ => 0) (Nat.zero_le _) ⟨rg_F_0 _ _ _, rg_F_0 _ _ _⟩
    (fun n t ht => pk_le 256 256 (fun _ => h _ _ _ _ (fun j hj => ⟨rg_F_eq ht.1 j hj, rg_F_eq ht.2 j hj⟩)) (fun z => absurd z (by omega)))
    (fun n i t hi ht hw => pk_le 256 i (fun z => absurd z (by omega)) (fun _ => ⟨pk_in i 256 hi, nm_e ⟨pk_in i 256 hi, nm_e (nm_r (nI_1 i) (hw (_, _) ⟨rg_F_s ht.1 (Nat.zero_le _) (nI_clamp (by omega)) rfl, rg_F_s ht.2 (Nat.zero_le _) (nI_clamp (by omega)) rfl⟩))⟩⟩))
theorem ri_y0 {post : SY → Prop} {P : Nat} {k1 : Int32} {r : Int32} (hr : (2 ≤ k1 → k1 ≤ 32 → r = k1) ∧ (2 ≤ k1 → ¬ k1 ≤ 32 → r = 32) ∧ (¬ 2 ≤ k1 → r = 2)) (h : post (nI P, r, (fun _ => 0), (fun _ => 0), (fun _ => 0), (fun _ => 0), (fun _ => 0), (fun _ => 0))) : wY_init_84 post k1 (nI P) 0 0 (fun _ => 0) (fun _ => 0) (fun _ => 0) (fun _ => 0) (fun _ => 0) (fun _ => 0) :=
  br_c (fun z => br_c (fun z2 => by rw [hr.1 z z2] at h; exact h) (fun z2 => by rw [hr.2.1 z z2] at h; exact h)) (fun z => by rw [hr.2.2 z] at h; exact h)
theorem ri_00 {k P R : Nat} (hP : P ≤ 256) (hR : R ≤ 32) {A B D E : Nat → Int32} (h : ∀ j, j < 256 → A j = -6 ∧ B j = -6) : i_Rel k (nI P, nI R, A, B, D, E) (nI P, nI R, (fun _ => 0), (fun _ => 0), (fun _ => 0), (fun _ => 0), (fun _ => 0), (fun _ => 0)) :=
  ri_mk hP hR (fun _ _ => rfl) (fun _ _ => rfl) (fun j hj => Or.inl ⟨rfl, (h j (by omega)).1, (h j (by omega)).2⟩)
theorem ri_lim (k1 : Int32) : ∃ R : Nat, R ≤ 32 ∧ (∀ post : Int32 → Prop, post (nI R) → wpX_clamp post k1 2 32) ∧ (2 ≤ k1 → k1 ≤ 32 → nI R = k1) ∧ (2 ≤ k1 → ¬ k1 ≤ 32 → nI R = 32) ∧ (¬ 2 ≤ k1 → nI R = 2) := by
  by_cases h1 : 2 ≤ k1
  · by_cases h2 : k1 ≤ 32
    · obtain ⟨n, hn, rfl⟩ := ri_cl ri_2 ri_32 (by omega) (by omega) h1 h2
      exact ⟨n, hn, fun post hp => br_t h1 (br_t h2 hp), fun _ _ => rfl, fun _ z => absurd h2 z, fun z => absurd h1 z⟩
    · exact ⟨32, by omega, fun post hp => br_t h1 (br_f h2 hp), fun _ z => absurd z h2, fun _ _ => rfl, fun z => absurd h1 z⟩
  · exact ⟨2, by omega, fun post hp => br_f h1 hp, fun z => absurd z h1, fun z => absurd z h1, fun _ => rfl⟩
theorem ri_pag (k0 : Int32) : ∃ P : Nat, P ≤ 256 ∧ (∀ post : Int32 → Prop, post (nI P) → wpX_clamp post k0 16 256) ∧ (∀ (post : SY → Prop) (k1 : Int32), wY_init_84 post k1 (nI P) 0 0 (fun _ => 0) (fun _ => 0) (fun _ => 0) (fun _ => 0) (fun _ => 0) (fun _ => 0) → wpY_init post k0 k1) := by
  by_cases h1 : 16 ≤ k0
  · by_cases h2 : k0 ≤ 256
    · obtain ⟨n, hn, rfl⟩ := ri_cl ri_16 rg_n256 (by omega) (by omega) h1 h2
      exact ⟨n, hn, fun post hp => br_t h1 (br_t h2 hp), fun post k1 hp => br_t h1 (br_t h2 hp)⟩
    · exact ⟨256, by omega, fun post hp => br_t h1 (br_f h2 hp), fun post k1 hp => br_t h1 (br_f h2 hp)⟩
  · exact ⟨16, by omega, fun post hp => br_f h1 hp, fun post k1 hp => br_f h1 hp⟩
theorem i_vc0 (k0 : Int32) (k1 : Int32) : wpX_init (fun u => wpY_init (fun v => i_Rel 2 u v) k0 k1) k0 k1 := by
  obtain ⟨P, hP, hx, hy⟩ := ri_pag k0
  obtain ⟨R, hR, hr, hs⟩ := ri_lim k1
  unfold wpX_init
  exact hx _ (hr _ (ri_x0 (fun A B D E h => hy _ _ (ri_y0 hs (ri_00 hP hR h)))))
theorem i_vc_mapNew {k : Nat} {u : SX} {v : SY} (I : i_Rel k u v) (hk : k + 5 ≤ 2562) (v1 : Int32) (v2 : Int32) (v3 : Int32) (v4 : Int32) : wpX_mapNew (fun r u' => wpY_mapNew (fun r' v' => r' = r ∧ i_Rel (k + 5) u' v') v v1 v2 v3 v4) u v1 v2 v3 v4 := by
  obtain ⟨P, R, a, b, d, e, m, p, c, om, op, oc, rfl, rfl, hP, hR, hr⟩ := I
  obtain ⟨r, a', b', H⟩ := sd_mapNew P R a b v1 v2 v3 v4
  exact rx_mapNew hP hR (H _ (fun A B D E hA hB => ry_mapNew hP hR hr (H _ (fun m p c om op oc w => ⟨rfl, ri_mk hP hR hA hB w⟩))))
theorem i_vc_mapOver {k : Nat} {u : SX} {v : SY} (I : i_Rel k u v) (hk : k + 5 ≤ 2562) (v1 : Int32) (v2 : Int32) (v3 : Int32) (v4 : Int32) : wpX_mapOver (fun r u' => wpY_mapOver (fun r' v' => r' = r ∧ i_Rel (k + 5) u' v') v v1 v2 v3 v4) u v1 v2 v3 v4 := by
  obtain ⟨P, R, a, b, d, e, m, p, c, om, op, oc, rfl, rfl, hP, hR, hr⟩ := I
  obtain ⟨r, a', b', H⟩ := sd_mapOver P R a b v1 v2 v3 v4
  exact rx_mapOver hP hR (H _ (fun A B D E hA hB => ry_mapOver hP hR hr (H _ (fun m p c om op oc w => ⟨rfl, ri_mk hP hR hA hB w⟩))))
theorem i_vc_mapLow {k : Nat} {u : SX} {v : SY} (I : i_Rel k u v) (hk : k + 5 ≤ 2562) (v1 : Int32) (v2 : Int32) (v3 : Int32) (v4 : Int32) : wpX_mapLow (fun r u' => wpY_mapLow (fun r' v' => r' = r ∧ i_Rel (k + 5) u' v') v v1 v2 v3 v4) u v1 v2 v3 v4 := by
  obtain ⟨P, R, a, b, d, e, m, p, c, om, op, oc, rfl, rfl, hP, hR, hr⟩ := I
  obtain ⟨r, a', b', H⟩ := sd_mapLow P R a b v1 v2 v3 v4
  exact rx_mapLow hP hR (H _ (fun A B D E hA hB => ry_mapLow hP hR hr (H _ (fun m p c om op oc w => ⟨rfl, ri_mk hP hR hA hB w⟩))))
theorem i_vc_mapHigh {k : Nat} {u : SX} {v : SY} (I : i_Rel k u v) (hk : k + 5 ≤ 2562) (v1 : Int32) (v2 : Int32) (v3 : Int32) (v4 : Int32) : wpX_mapHigh (fun r u' => wpY_mapHigh (fun r' v' => r' = r ∧ i_Rel (k + 5) u' v') v v1 v2 v3 v4) u v1 v2 v3 v4 := by
  obtain ⟨P, R, a, b, d, e, m, p, c, om, op, oc, rfl, rfl, hP, hR, hr⟩ := I
  obtain ⟨r, a', b', H⟩ := sd_mapHigh P R a b v1 v2 v3 v4
  exact rx_mapHigh hP hR (H _ (fun A B D E hA hB => ry_mapHigh hP hR hr (H _ (fun m p c om op oc w => ⟨rfl, ri_mk hP hR hA hB w⟩))))
theorem i_vc_unmap {k : Nat} {u : SX} {v : SY} (I : i_Rel k u v) (hk : k + 5 ≤ 2562) (v1 : Int32) (v2 : Int32) : wpX_unmap (fun r u' => wpY_unmap (fun r' v' => r' = r ∧ i_Rel (k + 5) u' v') v v1 v2) u v1 v2 := by
  obtain ⟨P, R, a, b, d, e, m, p, c, om, op, oc, rfl, rfl, hP, hR, hr⟩ := I
  obtain ⟨r, a', b', H⟩ := sd_unmap P R a b v1 v2
  exact rx_unmap hP hR (H _ (fun A B D E hA hB => ry_unmap hP hR hr (H _ (fun m p c om op oc w => ⟨rfl, ri_mk hP hR hA hB w⟩))))
theorem i_vc_protect {k : Nat} {u : SX} {v : SY} (I : i_Rel k u v) (hk : k + 5 ≤ 2562) (v1 : Int32) (v2 : Int32) (v3 : Int32) : wpX_protect (fun r u' => wpY_protect (fun r' v' => r' = r ∧ i_Rel (k + 5) u' v') v v1 v2 v3) u v1 v2 v3 := by
  obtain ⟨P, R, a, b, d, e, m, p, c, om, op, oc, rfl, rfl, hP, hR, hr⟩ := I
  obtain ⟨r, a', b', H⟩ := sd_protect P R a b v1 v2 v3
  exact rx_protect hP hR (H _ (fun A B D E hA hB => ry_protect hP hR hr (H _ (fun m p c om op oc w => ⟨rfl, ri_mk hP hR hA hB w⟩))))
theorem i_vc_move {k : Nat} {u : SX} {v : SY} (I : i_Rel k u v) (hk : k + 5 ≤ 2562) (v1 : Int32) (v2 : Int32) (v3 : Int32) : wpX_move (fun r u' => wpY_move (fun r' v' => r' = r ∧ i_Rel (k + 5) u' v') v v1 v2 v3) u v1 v2 v3 := by
  obtain ⟨P, R, a, b, d, e, m, p, c, om, op, oc, rfl, rfl, hP, hR, hr⟩ := I
  obtain ⟨r, a', b', H⟩ := sd_move P R a b v1 v2 v3
  exact rx_move hP hR (H _ (fun A B D E hA hB => ry_move hP hR hr (H _ (fun m p c om op oc w => ⟨rfl, ri_mk hP hR hA hB w⟩))))
theorem i_vc_moveFree {k : Nat} {u : SX} {v : SY} (I : i_Rel k u v) (hk : k + 5 ≤ 2562) (v1 : Int32) (v2 : Int32) (v3 : Int32) : wpX_moveFree (fun r u' => wpY_moveFree (fun r' v' => r' = r ∧ i_Rel (k + 5) u' v') v v1 v2 v3) u v1 v2 v3 := by
  obtain ⟨P, R, a, b, d, e, m, p, c, om, op, oc, rfl, rfl, hP, hR, hr⟩ := I
  obtain ⟨r, a', b', H⟩ := sd_moveFree P R a b v1 v2 v3
  exact rx_moveFree hP hR (H _ (fun A B D E hA hB => ry_moveFree hP hR hr (H _ (fun m p c om op oc w => ⟨rfl, ri_mk hP hR hA hB w⟩))))
theorem i_vc_protOf {k : Nat} {u : SX} {v : SY} (I : i_Rel k u v) (hk : k + 5 ≤ 2562) (v1 : Int32) : wpX_protOf (fun r => wpY_protOf (fun r' => r' = r ∧ i_Rel (k + 5) u v) v v1) u v1 := by
  obtain ⟨P, R, a, b, d, e, m, p, c, om, op, oc, rfl, rfl, hP, hR, hr⟩ := I
  have K : i_Rel (k + 5) (nI P, nI R, a, b, d, e) (nI P, nI R, m, p, c, om, op, oc) := ri_mk hP hR (fun _ _ => rfl) (fun _ _ => rfl) hr
  refine rx_protOf hP (fun x ex hx => ?_) (fun g => ?_)
  · subst ex
    refine br_f (nI_pos (by omega)) (br_t (nI_lt hx (by omega)) ⟨pk_in x 256 (by omega), ?_⟩)
    rw [nI_clamp (show x < 2 ^ 31 by omega)]
    rcases hr x hx with ⟨e1, e2, e3⟩ | ⟨e1, e2, e3, e4, e5⟩
    · exact br_t e1 ⟨e2.symm, K⟩
    · exact br_f (by rw [e1]; exact rg_10) ⟨pk_in x 256 (by omega), e2.symm, K⟩
  · refine br_c (fun _ => ⟨rfl, K⟩) (fun k1 => br_c (fun k2 => absurd ?_ g) (fun _ => ⟨rfl, K⟩))
    rw [Int32.lt_iff_toInt_lt, rg_i0] at k1
    rw [Int32.lt_iff_toInt_lt, nI_toInt (by omega)] at k2
    exact ⟨by omega, by omega⟩
theorem i_vc_backingOf {k : Nat} {u : SX} {v : SY} (I : i_Rel k u v) (hk : k + 5 ≤ 2562) (v1 : Int32) : wpX_backingOf (fun r => wpY_backingOf (fun r' => r' = r ∧ i_Rel (k + 5) u v) v v1) u v1 := by
  obtain ⟨P, R, a, b, d, e, m, p, c, om, op, oc, rfl, rfl, hP, hR, hr⟩ := I
  have K : i_Rel (k + 5) (nI P, nI R, a, b, d, e) (nI P, nI R, m, p, c, om, op, oc) := ri_mk hP hR (fun _ _ => rfl) (fun _ _ => rfl) hr
  refine rx_backingOf hP (fun x ex hx => ?_) (fun g => ?_)
  · subst ex
    refine br_f (nI_pos (by omega)) (br_t (nI_lt hx (by omega)) ⟨pk_in x 256 (by omega), ?_⟩)
    rw [nI_clamp (show x < 2 ^ 31 by omega)]
    rcases hr x hx with ⟨e1, e2, e3⟩ | ⟨e1, e2, e3, e4, e5⟩
    · exact br_t e1 ⟨e3.symm, K⟩
    · exact br_f (by rw [e1]; exact rg_10) ⟨pk_in x 256 (by omega), e3.symm, K⟩
  · refine br_c (fun _ => ⟨rfl, K⟩) (fun k1 => br_c (fun k2 => absurd ?_ g) (fun _ => ⟨rfl, K⟩))
    rw [Int32.lt_iff_toInt_lt, rg_i0] at k1
    rw [Int32.lt_iff_toInt_lt, nI_toInt (by omega)] at k2
    exact ⟨by omega, by omega⟩
theorem i_vc_regionCount {k : Nat} {u : SX} {v : SY} (I : i_Rel k u v) (hk : k + 5 ≤ 2562) : wpX_regionCount (fun r => wpY_regionCount (fun r' => r' = r ∧ i_Rel (k + 5) u v) v) u := by
  obtain ⟨P, R, a, b, d, e, m, p, c, om, op, oc, rfl, rfl, hP, hR, hr⟩ := I
  exact rx_rc hP (ry_rc hP hr ⟨rfl, ri_mk hP hR (fun _ _ => rfl) (fun _ _ => rfl) hr⟩)
theorem i_vc_regionStart {k : Nat} {u : SX} {v : SY} (I : i_Rel k u v) (hk : k + 5 ≤ 2562) (v1 : Int32) : wpX_regionStart (fun r => wpY_regionStart (fun r' => r' = r ∧ i_Rel (k + 5) u v) v v1) u v1 := by
  obtain ⟨P, R, a, b, d, e, m, p, c, om, op, oc, rfl, rfl, hP, hR, hr⟩ := I
  exact rx_rs hP (fun r hF => ry_rs hP hr (fun r' hF' => ⟨rg_RS_u hF hF', ri_mk hP hR (fun _ _ => rfl) (fun _ _ => rfl) hr⟩))
theorem i_vc_regionLength {k : Nat} {u : SX} {v : SY} (I : i_Rel k u v) (hk : k + 5 ≤ 2562) (v1 : Int32) : wpX_regionLength (fun r => wpY_regionLength (fun r' => r' = r ∧ i_Rel (k + 5) u v) v v1) u v1 := by
  obtain ⟨P, R, a, b, d, e, m, p, c, om, op, oc, rfl, rfl, hP, hR, hr⟩ := I
  have K : i_Rel (k + 5) (nI P, nI R, a, b, d, e) (nI P, nI R, m, p, c, om, op, oc) := ri_mk hP hR (fun _ _ => rfl) (fun _ _ => rfl) hr
  have hne : ∀ t, t < P → ¬ nI t = -1 := fun t ht z => by
    have h := congrArg Int32.toInt z
    rw [nI_toInt (by omega), show (-1 : Int32).toInt = -1 from by decide] at h
    omega
  refine rx_rl hP (fun h0 => ry_rl hP hr (fun _ => ⟨rfl, K⟩) (fun t l ht h1 h2 => absurd (rg_RS_u h0 h1) (hne t ht))) (fun t l ht h1 h2 => ry_rl hP hr (fun h0 => absurd (rg_RS_u h0 h1) (hne t ht)) (fun t' l' ht' g1 g2 => ⟨?_, K⟩))
  have et : t' = t := (nI_eq (by omega) (by omega)).mp (rg_RS_u h1 g1)
  subst et
  rw [rg_RL_u h2 g2]
theorem i_vc_findLow {k : Nat} {u : SX} {v : SY} (I : i_Rel k u v) (hk : k + 5 ≤ 2562) (v1 : Int32) (v2 : Int32) : wpX_findLow (fun r => wpY_findLow (fun r' => r' = r ∧ i_Rel (k + 5) u v) v v1 v2) u v1 v2 := by
  obtain ⟨P, R, a, b, d, e, m, p, c, om, op, oc, rfl, rfl, hP, hR, hr⟩ := I
  have K : i_Rel (k + 5) (nI P, nI R, a, b, d, e) (nI P, nI R, m, p, c, om, op, oc) := ri_mk hP hR (fun _ _ => rfl) (fun _ _ => rfl) hr
  refine rx_fl hP (fun g => ry_fl0 hP g ⟨rfl, K⟩) (fun x y r ex ey hx hy1 hy2 hF => ?_)
  subst ex ey
  exact ry_fl hP hr hx hy1 hy2 (fun r' hF' => ⟨rg_FL_u hF hF', K⟩)
theorem i_vc_findHigh {k : Nat} {u : SX} {v : SY} (I : i_Rel k u v) (hk : k + 5 ≤ 2562) (v1 : Int32) (v2 : Int32) : wpX_findHigh (fun r => wpY_findHigh (fun r' => r' = r ∧ i_Rel (k + 5) u v) v v1 v2) u v1 v2 := by
  obtain ⟨P, R, a, b, d, e, m, p, c, om, op, oc, rfl, rfl, hP, hR, hr⟩ := I
  have K : i_Rel (k + 5) (nI P, nI R, a, b, d, e) (nI P, nI R, m, p, c, om, op, oc) := ri_mk hP hR (fun _ _ => rfl) (fun _ _ => rfl) hr
  refine rx_fh hP (fun g => ry_fh0 hP g ⟨rfl, K⟩) (fun x y r ex ey hx1 hx2 hy1 hy2 hF => ?_)
  subst ex ey
  exact ry_fh hP hr hx1 hx2 hy1 hy2 (fun r' hF' => ⟨rg_FH_u hF hF', K⟩)
theorem i_vc_longestGap {k : Nat} {u : SX} {v : SY} (I : i_Rel k u v) (hk : k + 5 ≤ 2562) : wpX_longestGap (fun r => wpY_longestGap (fun r' => r' = r ∧ i_Rel (k + 5) u v) v) u := by
  obtain ⟨P, R, a, b, d, e, m, p, c, om, op, oc, rfl, rfl, hP, hR, hr⟩ := I
  exact rx_lg hP (fun L hF => ry_lg hP hr (fun L' hF' => ⟨by rw [rg_LG_u hF hF'], ri_mk hP hR (fun _ _ => rfl) (fun _ _ => rfl) hr⟩))
end
