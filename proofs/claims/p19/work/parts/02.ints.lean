/-! ints: proper ranges and attributes; the relation of the two maps -/
theorem rg_i0 : (0 : Int32).toInt = 0 := by decide
theorem rg_i1 : (1 : Int32).toInt = 1 := by decide
theorem rg_i7 : (7 : Int32).toInt = 7 := by decide
theorem rg_i1024 : (1024 : Int32).toInt = 1024 := by decide
theorem rg_i8191 : (8191 : Int32).toInt = 8191 := by decide
theorem rg_im6 : (-6 : Int32).toInt = -6 := by decide
theorem rg_n1024 : (1024 : Int32) = nI 1024 := by decide
theorem rg_n256 : (256 : Int32) = nI 256 := by decide
theorem rg_nat {x : Int32} (h : 0 ≤ x.toInt) : ∃ n : Nat, n < 2 ^ 31 ∧ x = nI n ∧ x.toInt = n := by
  have h' : ¬ x < 0 := by rw [Int32.lt_iff_toInt_lt, rg_i0]; omega
  obtain ⟨n, hn, rfl⟩ := nI_of h'
  exact ⟨n, hn, rfl, nI_toInt hn⟩
/-- the range (s, l) is proper -/
def rg_PR (P : Nat) (s l : Int32) : Prop := 0 ≤ s.toInt ∧ 1 ≤ l.toInt ∧ s.toInt + l.toInt ≤ P
theorem rg_PR_n {P : Nat} {s l : Int32} (h : rg_PR P s l) : ∃ x y : Nat, s = nI x ∧ l = nI y ∧ 1 ≤ y ∧ x + y ≤ P := by
  obtain ⟨h1, h2, h3⟩ := h
  obtain ⟨x, hx, ex, fx⟩ := rg_nat h1
  obtain ⟨y, hy, ey, fy⟩ := rg_nat (x := l) (by omega)
  exact ⟨x, y, ex, ey, by omega, by omega⟩
/-- a length, a bound -/
def rg_LN (P : Nat) (l : Int32) : Prop := 1 ≤ l.toInt ∧ l.toInt ≤ P
theorem rg_LN_n {P : Nat} {l : Int32} (h : rg_LN P l) : ∃ y : Nat, l = nI y ∧ 1 ≤ y ∧ y ≤ P := by
  obtain ⟨h1, h2⟩ := h
  obtain ⟨y, hy, ey, fy⟩ := rg_nat (x := l) (by omega)
  exact ⟨y, ey, by omega, by omega⟩
/-- a page -/
def rg_PG (P : Nat) (s : Int32) : Prop := 0 ≤ s.toInt ∧ s.toInt < P
theorem rg_PG_n {P : Nat} {s : Int32} (h : rg_PG P s) : ∃ x : Nat, s = nI x ∧ x < P := by
  obtain ⟨h1, h2⟩ := h
  obtain ⟨x, hx, ex, fx⟩ := rg_nat h1
  exact ⟨x, ex, by omega⟩
/-- a protection -/
def rg_PT (p : Int32) : Prop := 0 ≤ p.toInt ∧ p.toInt ≤ 7
theorem rg_PT_6 {p : Int32} (h : rg_PT p) : ¬ p = -6 := by
  intro e
  have h1 := h.1
  rw [e, rg_im6] at h1
  omega
/-- a backing -/
def rg_BK (b : Int32) : Prop := b = 0 ∨ (1024 ≤ b.toInt ∧ b.toInt ≤ 8191)
/-- (l, p, b) are proper attributes -/
def rg_PA (l p b : Int32) : Prop := rg_PT p ∧ (b = 0 ∨ (1024 ≤ b.toInt ∧ b.toInt ≤ 8191 ∧ b.toInt % 1024 + l.toInt ≤ 1024))
theorem rg_sub {P : Nat} (hP : P ≤ 256) {l : Int32} (h : rg_LN P l) : (nI P - l).toInt = P - l.toInt := by
  obtain ⟨y, rfl, h1, h2⟩ := rg_LN_n h
  rw [pk_sub h2, nI_toInt (by omega), nI_toInt (by omega)]
  omega
theorem rg_rem {b : Int32} (h1 : 1024 ≤ b.toInt) (h2 : b.toInt ≤ 8191) : ∃ c : Nat, c < 1024 ∧ b - b / 1024 * 1024 = nI c ∧ b.toInt % 1024 = c := by
  obtain ⟨n, hn, rfl, fn⟩ := rg_nat (x := b) (by omega)
  refine ⟨n % 1024, by omega, ?_, by omega⟩
  rw [rg_n1024]
  exact pk_rem hn (by omega) (by omega)
/-- the two maps below P: a, b the class's; m, p, c the reference's -/
def rg_R (P : Nat) (a b m p c : Nat → Int32) : Prop := ∀ j, j < P → (m j = 0 ∧ a j = -6 ∧ b j = -6) ∨ (m j = 1 ∧ a j = p j ∧ b j = c j ∧ ¬ a j = -6 ∧ rg_BK (b j))
/-- the reference's own continuing -/
def rg_cy (m p c : Nat → Int32) (j : Nat) : Bool := decide (1 ≤ j ∧ ¬ m j = 0 ∧ ¬ m (j - 1) = 0 ∧ p j = p (j - 1) ∧ ((c (j - 1) = 0 ∧ c j = 0) ∨ (1024 ≤ c (j - 1) ∧ 1024 ≤ c j ∧ c (j - 1) / 1024 = c j / 1024 ∧ c j = c (j - 1) + 1)))
theorem rg_cy_co {P : Nat} {a b m p c : Nat → Int32} (h : rg_R P a b m p c) {j : Nat} (hj : j < P) : rg_cy m p c j = rg_co a b j := by
  unfold rg_cy rg_co
  apply decide_eq_decide.mpr
  have h10 : ¬ (1 : Int32) = 0 := by decide
  by_cases h1 : 1 ≤ j
  · rcases h j hj with ⟨e1, e2, e3⟩ | ⟨e1, e2, e3, e4, e5⟩
    · constructor
      · intro z; exact absurd e1 z.2.1
      · intro z; exact absurd e2 z.2.1
    · rcases h (j - 1) (by omega) with ⟨f1, f2, f3⟩ | ⟨f1, f2, f3, f4, f5⟩
      · constructor
        · intro z; exact absurd f1 z.2.2.1
        · intro z; rw [f2] at z; exact absurd z.2.2.1 e4
      · rw [e1, f1, ← e2, ← f2, ← e3, ← f3]
        constructor
        · rintro ⟨_, _, _, z1, z2⟩
          refine ⟨h1, e4, z1, ?_⟩
          rcases z2 with z2 | ⟨_, _, z3, z4⟩
          · exact Or.inl z2
          · exact Or.inr ⟨z4, z3.symm⟩
        · rintro ⟨_, _, z1, z2⟩
          refine ⟨h1, h10, h10, z1, ?_⟩
          rcases z2 with z2 | ⟨z3, z4⟩
          · exact Or.inl z2
          · right
            have k1 : 1024 ≤ (b (j - 1)).toInt := by
              rcases f5 with f5 | f5
              · rw [f5] at z3
                rcases e5 with e5 | e5
                · rw [z3] at e5; exact absurd e5 (by decide)
                · rw [z3] at e5; exact absurd e5.1 (by decide)
              · exact f5.1
            have k2 : 1024 ≤ (b j).toInt := by
              rcases e5 with e5 | e5
              · rw [e5] at z4
                obtain ⟨n, hn, en, fn⟩ := rg_nat (x := b (j - 1)) (by omega)
                rcases f5 with f5 | f5
                · rw [f5] at k1; exact absurd k1 (by decide)
                · rw [en, rg_n1024, pk_div hn (by omega) (by omega), show (0 : Int32) / nI 1024 = nI 0 from by decide, nI_eq (by omega) (by omega)] at z4
                  omega
              · exact e5.1
            refine ⟨?_, ?_, z4.symm, z3⟩
            · rw [Int32.le_iff_toInt_le, rg_i1024]; exact k1
            · rw [Int32.le_iff_toInt_le, rg_i1024]; exact k2
  · constructor
    · intro z; exact absurd z.1 h1
    · intro z; exact absurd z.1 h1
theorem rg_R_mp {P : Nat} {a b m p c : Nat → Int32} (h : rg_R P a b m p c) {j : Nat} (hj : j < P) : (m j = 0 ∧ rg_mp a j = false) ∨ (m j = 1 ∧ rg_mp a j = true) := by
  rcases h j hj with ⟨e1, e2, _⟩ | ⟨e1, _, _, e4, _⟩
  · exact Or.inl ⟨e1, rg_mp_f.mpr e2⟩
  · exact Or.inr ⟨e1, rg_mp_t.mpr e4⟩
