/-! stores over a range; the pure new maps -/
def rg_F (lo hi : Nat) (g o n : Nat → Int32) : Prop := (∀ j, lo ≤ j → j < hi → n j = g j) ∧ (∀ j, ¬ (lo ≤ j ∧ j < hi) → n j = o j)
theorem rg_F_0 (lo : Nat) (g o : Nat → Int32) : rg_F lo lo g o o := ⟨fun j h1 h2 => by omega, fun j _ => rfl⟩
theorem rg_F_s {lo i k : Nat} {g o n : Nat → Int32} {x : Int32} (h : rg_F lo i g o n) (hl : lo ≤ i) (hk : k = i) (hx : x = g i) : rg_F lo (i + 1) g o (upd n k x) := by
  subst hk hx
  refine ⟨fun j h1 h2 => ?_, fun j h1 => ?_⟩
  · by_cases e : j = k
    · rw [e, pk_us]
    · rw [pk_un e]; exact h.1 j h1 (by omega)
  · rw [pk_un (by omega)]; exact h.2 j (by omega)
theorem rg_F_k {lo i : Nat} {g o n : Nat → Int32} (h : rg_F lo i g o n) (hl : lo ≤ i) (hx : n i = g i) : rg_F lo (i + 1) g o n := by
  refine ⟨fun j h1 h2 => ?_, fun j h1 => h.2 j (by omega)⟩
  by_cases e : j = i
  · rw [e]; exact hx
  · exact h.1 j h1 (by omega)
/-- the pages s .. s+l-1 of a get g, the others stay -/
def rg_on (s l : Nat) (g a : Nat → Int32) : Nat → Int32 := fun j => if s ≤ j ∧ j < s + l then g j else a j
theorem rg_on_t {s l j : Nat} {g a : Nat → Int32} (h : s ≤ j ∧ j < s + l) : rg_on s l g a j = g j := if_pos h
theorem rg_on_f {s l j : Nat} {g a : Nat → Int32} (h : ¬ (s ≤ j ∧ j < s + l)) : rg_on s l g a j = a j := if_neg h
/-- agree below P -/
def rg_eq (P : Nat) (a b : Nat → Int32) : Prop := ∀ j, j < P → a j = b j
theorem rg_F_on {P s l : Nat} {g a o n : Nat → Int32} (h : rg_F s (s + l) g o n) (ho : rg_eq P o a) : rg_eq P n (rg_on s l g a) := by
  intro j hj
  by_cases e : s ≤ j ∧ j < s + l
  · rw [rg_on_t e]; exact h.1 j e.1 e.2
  · rw [rg_on_f e, h.2 j e]; exact ho j hj
theorem rg_F_eq {P : Nat} {g o n : Nat → Int32} (h : rg_F 0 P g o n) : rg_eq P n g := fun j hj => h.1 j (Nat.zero_le j) hj
/-- the backing of a filled page -/
def rg_bk (s : Nat) (b : Int32) : Nat → Int32 := fun j => if b = 0 then 0 else b + nI (j - s)
/-- the map's region limit holds -/
def rg_ok (P R : Nat) (a b : Nat → Int32) : Prop := rg_cn (rg_st a b) 0 P ≤ R
theorem rg_cn_cg {p q : Nat → Bool} {s n : Nat} (h : ∀ i, i < n → p (s + i) = q (s + i)) : rg_cn p s n = rg_cn q s n := by
  induction n with
  | zero => rfl
  | succ n ih => rw [rg_cn, rg_cn, ih (fun i hi => h i (by omega)), h n (by omega)]
theorem rg_st_cg {P : Nat} {a b a' b' : Nat → Int32} (ha : rg_eq P a a') (hb : rg_eq P b b') {j : Nat} (hj : j < P) : rg_st a b j = rg_st a' b' j := by
  unfold rg_st rg_mp rg_co
  rw [ha j hj, hb j hj]
  by_cases h : 1 ≤ j
  · rw [ha (j - 1) (by omega), hb (j - 1) (by omega)]
  · simp [h]
theorem rg_ct_cg {P : Nat} {a b a' b' : Nat → Int32} (ha : rg_eq P a a') (hb : rg_eq P b b') : rg_cn (rg_st a b) 0 P = rg_cn (rg_st a' b') 0 P :=
  rg_cn_cg (fun i hi => rg_st_cg ha hb (by omega))
/-- the relation depends on the pages below P alone -/
theorem rg_R_cg {P : Nat} {a b m p c a' b' : Nat → Int32} (h : rg_R P a b m p c) (ha : rg_eq P a' a) (hb : rg_eq P b' b) : rg_R P a' b' m p c := by
  intro j hj
  rw [ha j hj, hb j hj]
  exact h j hj
theorem rg_R_cy {P : Nat} {a b m p c m' p' c' : Nat → Int32} (h : rg_R P a b m p c) (hm : rg_eq P m' m) (hp : rg_eq P p' p) (hc : rg_eq P c' c) : rg_R P a b m' p' c' := by
  intro j hj
  rw [hm j hj, hp j hj, hc j hj]
  exact h j hj
