/-! the changing calls, purely: each says what its continuation Q (answer, new protections, new backings) is asked at -/
def rg_gate (P R : Nat) (a b a' b' : Nat → Int32) (r : Int32) (Q : Int32 → (Nat → Int32) → (Nat → Int32) → Prop) : Prop := (rg_ok P R a' b' → Q r a' b') ∧ (¬ rg_ok P R a' b' → Q (-5) a b)
def sp_fill (P R s l : Nat) (p c r : Int32) (a b : Nat → Int32) (Q : Int32 → (Nat → Int32) → (Nat → Int32) → Prop) : Prop := rg_gate P R a b (rg_on s l (fun _ => p) a) (rg_on s l (rg_bk s c) b) r Q
/-- the moved map -/
def rg_mv (s l t : Nat) (a : Nat → Int32) : Nat → Int32 := rg_on t l (fun j => a (s + (j - t))) (rg_on s l (fun _ => -6) a)
def sp_mv (P R s l t : Nat) (r : Int32) (a b : Nat → Int32) (Q : Int32 → (Nat → Int32) → (Nat → Int32) → Prop) : Prop := rg_gate P R a b (rg_mv s l t a) (rg_mv s l t b) r Q
def sp_mapNew (P R : Nat) (a b : Nat → Int32) (v1 v2 v3 v4 : Int32) (Q : Int32 → (Nat → Int32) → (Nat → Int32) → Prop) : Prop :=
  (rg_PR P v1 v2 ∧ rg_PA v2 v3 v4 → (rg_cn (rg_mp a) v1.toNatClampNeg v2.toNatClampNeg = 0 → sp_fill P R v1.toNatClampNeg v2.toNatClampNeg v3 v4 0 a b Q) ∧ (¬ rg_cn (rg_mp a) v1.toNatClampNeg v2.toNatClampNeg = 0 → Q (-3) a b)) ∧ (¬ (rg_PR P v1 v2 ∧ rg_PA v2 v3 v4) → Q (-1) a b)
def sp_mapOver (P R : Nat) (a b : Nat → Int32) (v1 v2 v3 v4 : Int32) (Q : Int32 → (Nat → Int32) → (Nat → Int32) → Prop) : Prop :=
  (rg_PR P v1 v2 ∧ rg_PA v2 v3 v4 → sp_fill P R v1.toNatClampNeg v2.toNatClampNeg v3 v4 (nI (rg_cn (rg_mp a) v1.toNatClampNeg v2.toNatClampNeg)) a b Q) ∧ (¬ (rg_PR P v1 v2 ∧ rg_PA v2 v3 v4) → Q (-1) a b)
def sp_at (P R l : Nat) (p c : Int32) (a b : Nat → Int32) (F : Int32 → Prop) (Q : Int32 → (Nat → Int32) → (Nat → Int32) → Prop) : Prop :=
  ∀ r, F r → (0 ≤ r → sp_fill P R r.toNatClampNeg l p c r a b Q) ∧ (¬ 0 ≤ r → Q (-4) a b)
def sp_mapLow (P R : Nat) (a b : Nat → Int32) (v1 v2 v3 v4 : Int32) (Q : Int32 → (Nat → Int32) → (Nat → Int32) → Prop) : Prop :=
  ((rg_PG P v1 ∧ rg_LN P v2) ∧ rg_PA v2 v3 v4 → sp_at P R v2.toNatClampNeg v3 v4 a b (rg_FL a P v1.toNatClampNeg v2.toNatClampNeg) Q) ∧ (¬ ((rg_PG P v1 ∧ rg_LN P v2) ∧ rg_PA v2 v3 v4) → Q (-1) a b)
def sp_mapHigh (P R : Nat) (a b : Nat → Int32) (v1 v2 v3 v4 : Int32) (Q : Int32 → (Nat → Int32) → (Nat → Int32) → Prop) : Prop :=
  ((rg_LN P v1 ∧ rg_LN P v2) ∧ rg_PA v2 v3 v4 → sp_at P R v2.toNatClampNeg v3 v4 a b (rg_FH a v1.toNatClampNeg v2.toNatClampNeg) Q) ∧ (¬ ((rg_LN P v1 ∧ rg_LN P v2) ∧ rg_PA v2 v3 v4) → Q (-1) a b)
def sp_unmap (P R : Nat) (a b : Nat → Int32) (v1 v2 : Int32) (Q : Int32 → (Nat → Int32) → (Nat → Int32) → Prop) : Prop :=
  (rg_PR P v1 v2 → rg_gate P R a b (rg_on v1.toNatClampNeg v2.toNatClampNeg (fun _ => -6) a) (rg_on v1.toNatClampNeg v2.toNatClampNeg (fun _ => -6) b) (nI (rg_cn (rg_mp a) v1.toNatClampNeg v2.toNatClampNeg)) Q) ∧ (¬ rg_PR P v1 v2 → Q (-1) a b)
def sp_protect (P R : Nat) (a b : Nat → Int32) (v1 v2 v3 : Int32) (Q : Int32 → (Nat → Int32) → (Nat → Int32) → Prop) : Prop :=
  (rg_PR P v1 v2 ∧ rg_PT v3 → (rg_cn (rg_mp a) v1.toNatClampNeg v2.toNatClampNeg < v2.toNatClampNeg → Q (-2) a b) ∧ (¬ rg_cn (rg_mp a) v1.toNatClampNeg v2.toNatClampNeg < v2.toNatClampNeg → rg_gate P R a b (rg_on v1.toNatClampNeg v2.toNatClampNeg (fun _ => v3) a) b (nI (rg_cn (fun j => decide (¬ a j = v3)) v1.toNatClampNeg v2.toNatClampNeg)) Q)) ∧ (¬ (rg_PR P v1 v2 ∧ rg_PT v3) → Q (-1) a b)
def sp_move (P R : Nat) (a b : Nat → Int32) (v1 v2 v3 : Int32) (Q : Int32 → (Nat → Int32) → (Nat → Int32) → Prop) : Prop :=
  (rg_PR P v1 v2 ∧ rg_PR P v3 v2 → (rg_cn (rg_mp a) v1.toNatClampNeg v2.toNatClampNeg < v2.toNatClampNeg → Q (-2) a b) ∧ (¬ rg_cn (rg_mp a) v1.toNatClampNeg v2.toNatClampNeg < v2.toNatClampNeg → sp_mv P R v1.toNatClampNeg v2.toNatClampNeg v3.toNatClampNeg (nI (rg_cn (rg_out a v1.toNatClampNeg v2.toNatClampNeg) v3.toNatClampNeg v2.toNatClampNeg)) a b Q)) ∧ (¬ (rg_PR P v1 v2 ∧ rg_PR P v3 v2) → Q (-1) a b)
def sp_moveFree (P R : Nat) (a b : Nat → Int32) (v1 v2 v3 : Int32) (Q : Int32 → (Nat → Int32) → (Nat → Int32) → Prop) : Prop :=
  (rg_PR P v1 v2 ∧ rg_PG P v3 → (rg_cn (rg_mp a) v1.toNatClampNeg v2.toNatClampNeg < v2.toNatClampNeg → Q (-2) a b) ∧ (¬ rg_cn (rg_mp a) v1.toNatClampNeg v2.toNatClampNeg < v2.toNatClampNeg → ∀ r, rg_FL a P v3.toNatClampNeg v2.toNatClampNeg r → (0 ≤ r → sp_mv P R v1.toNatClampNeg v2.toNatClampNeg r.toNatClampNeg r a b Q) ∧ (¬ 0 ≤ r → Q (-4) a b))) ∧ (¬ (rg_PR P v1 v2 ∧ rg_PG P v3) → Q (-1) a b)
/-- a spec asks its continuation at one place -/
def rg_Det (S : (Int32 → (Nat → Int32) → (Nat → Int32) → Prop) → Prop) : Prop := ∃ (r : Int32) (a' b' : Nat → Int32), ∀ Q, S Q ↔ Q r a' b'
theorem rg_Det_q (r : Int32) (a b : Nat → Int32) : rg_Det (fun Q => Q r a b) := ⟨r, a, b, fun _ => Iff.rfl⟩
theorem rg_Det_c {c : Prop} {S T : (Int32 → (Nat → Int32) → (Nat → Int32) → Prop) → Prop} (hs : c → rg_Det S) (ht : ¬ c → rg_Det T) : rg_Det (fun Q => (c → S Q) ∧ (¬ c → T Q)) := by
  by_cases h : c
  · obtain ⟨r, a, b, H⟩ := hs h
    exact ⟨r, a, b, fun Q => ⟨fun z => (H Q).mp (z.1 h), fun q => ⟨fun _ => (H Q).mpr q, fun z => absurd h z⟩⟩⟩
  · obtain ⟨r, a, b, H⟩ := ht h
    exact ⟨r, a, b, fun Q => ⟨fun z => (H Q).mp (z.2 h), fun q => ⟨fun z => absurd z h, fun _ => (H Q).mpr q⟩⟩⟩
theorem rg_Det_f {F : Int32 → Prop} {S : Int32 → (Int32 → (Nat → Int32) → (Nat → Int32) → Prop) → Prop} (he : ∃ r, F r) (hu : ∀ r r', F r → F r' → r' = r) (hs : ∀ r, F r → rg_Det (S r)) : rg_Det (fun Q => ∀ r, F r → S r Q) := by
  obtain ⟨r0, h0⟩ := he
  obtain ⟨r, a, b, H⟩ := hs r0 h0
  exact ⟨r, a, b, fun Q => ⟨fun z => (H Q).mp (z r0 h0), fun q r' h' => by rw [hu r0 r' h0 h']; exact (H Q).mpr q⟩⟩
theorem rg_Det_g (P R : Nat) (a b a' b' : Nat → Int32) (r : Int32) : rg_Det (rg_gate P R a b a' b' r) := rg_Det_c (fun _ => rg_Det_q _ _ _) (fun _ => rg_Det_q _ _ _)
theorem rg_least (p : Nat → Prop) (h : ∃ k, p k) : ∃ k, p k ∧ ∀ j, j < k → ¬ p j := by
  obtain ⟨k, hk⟩ := h
  induction k using Nat.strongRecOn with
  | ind k ih =>
    by_cases hj : ∃ j, j < k ∧ p j
    · obtain ⟨j, hj1, hj2⟩ := hj
      exact ih j hj1 hj2
    · exact ⟨k, hk, fun j h1 h2 => hj ⟨j, h1, h2⟩⟩
theorem rg_FL_e (a : Nat → Int32) (P f l : Nat) : ∃ r, rg_FL a P f l r := by
  by_cases h : ∃ t, f ≤ t ∧ t + l ≤ P ∧ rg_fr a t l
  · obtain ⟨t, ⟨h1, h2, h3⟩, h4⟩ := rg_least _ h
    exact ⟨nI t, Or.inl ⟨t, h1, h2, h3, fun t' g1 g2 g3 => h4 t' g2 ⟨g1, by omega, g3⟩, rfl⟩⟩
  · exact ⟨-4, Or.inr ⟨fun t' g1 g2 g3 => h ⟨t', g1, g2, g3⟩, rfl⟩⟩
theorem rg_FH_e (a : Nat → Int32) (to l : Nat) : ∃ r, rg_FH a to l r := by
  by_cases h : ∃ k, k ≤ to ∧ to - k + l ≤ to ∧ rg_fr a (to - k) l
  · obtain ⟨k, ⟨h1, h2, h3⟩, h4⟩ := rg_least _ h
    refine ⟨nI (to - k), Or.inl ⟨to - k, h2, h3, fun t' g1 g2 g3 => h4 (to - t') (by omega) ⟨by omega, ?_, ?_⟩, rfl⟩⟩
    · rw [show to - (to - t') = t' from by omega]; exact g2
    · rw [show to - (to - t') = t' from by omega]; exact g3
  · exact ⟨-4, Or.inr ⟨fun t' g2 g3 => h ⟨to - t', by omega, by rw [show to - (to - t') = t' from by omega]; exact g2, by rw [show to - (to - t') = t' from by omega]; exact g3⟩, rfl⟩⟩
theorem sd_fill (P R s l : Nat) (p c r : Int32) (a b : Nat → Int32) : rg_Det (sp_fill P R s l p c r a b) := rg_Det_g _ _ _ _ _ _ _
theorem sd_mv (P R s l t : Nat) (r : Int32) (a b : Nat → Int32) : rg_Det (sp_mv P R s l t r a b) := rg_Det_g _ _ _ _ _ _ _
theorem sd_mapNew (P R : Nat) (a b : Nat → Int32) (v1 v2 v3 v4 : Int32) : rg_Det (sp_mapNew P R a b v1 v2 v3 v4) := rg_Det_c (fun _ => rg_Det_c (fun _ => sd_fill _ _ _ _ _ _ _ _ _) (fun _ => rg_Det_q _ _ _)) (fun _ => rg_Det_q _ _ _)
theorem sd_mapOver (P R : Nat) (a b : Nat → Int32) (v1 v2 v3 v4 : Int32) : rg_Det (sp_mapOver P R a b v1 v2 v3 v4) := rg_Det_c (fun _ => sd_fill _ _ _ _ _ _ _ _ _) (fun _ => rg_Det_q _ _ _)
theorem sd_mapLow (P R : Nat) (a b : Nat → Int32) (v1 v2 v3 v4 : Int32) : rg_Det (sp_mapLow P R a b v1 v2 v3 v4) := rg_Det_c (fun _ => rg_Det_f (rg_FL_e _ _ _ _) (fun _ _ h h' => rg_FL_u h h') (fun r _ => rg_Det_c (fun _ => sd_fill _ _ _ _ _ _ _ _ _) (fun _ => rg_Det_q _ _ _))) (fun _ => rg_Det_q _ _ _)
theorem sd_mapHigh (P R : Nat) (a b : Nat → Int32) (v1 v2 v3 v4 : Int32) : rg_Det (sp_mapHigh P R a b v1 v2 v3 v4) := rg_Det_c (fun _ => rg_Det_f (rg_FH_e _ _ _) (fun _ _ h h' => rg_FH_u h h') (fun r _ => rg_Det_c (fun _ => sd_fill _ _ _ _ _ _ _ _ _) (fun _ => rg_Det_q _ _ _))) (fun _ => rg_Det_q _ _ _)
theorem sd_unmap (P R : Nat) (a b : Nat → Int32) (v1 v2 : Int32) : rg_Det (sp_unmap P R a b v1 v2) := rg_Det_c (fun _ => rg_Det_g _ _ _ _ _ _ _) (fun _ => rg_Det_q _ _ _)
theorem sd_protect (P R : Nat) (a b : Nat → Int32) (v1 v2 v3 : Int32) : rg_Det (sp_protect P R a b v1 v2 v3) := rg_Det_c (fun _ => rg_Det_c (fun _ => rg_Det_q _ _ _) (fun _ => rg_Det_g _ _ _ _ _ _ _)) (fun _ => rg_Det_q _ _ _)
theorem sd_move (P R : Nat) (a b : Nat → Int32) (v1 v2 v3 : Int32) : rg_Det (sp_move P R a b v1 v2 v3) := rg_Det_c (fun _ => rg_Det_c (fun _ => rg_Det_q _ _ _) (fun _ => sd_mv _ _ _ _ _ _ _ _)) (fun _ => rg_Det_q _ _ _)
theorem sd_moveFree (P R : Nat) (a b : Nat → Int32) (v1 v2 v3 : Int32) : rg_Det (sp_moveFree P R a b v1 v2 v3) := rg_Det_c (fun _ => rg_Det_c (fun _ => rg_Det_q _ _ _) (fun _ => rg_Det_f (rg_FL_e _ _ _ _) (fun _ _ h h' => rg_FL_u h h') (fun r _ => rg_Det_c (fun _ => sd_mv _ _ _ _ _ _ _ _) (fun _ => rg_Det_q _ _ _)))) (fun _ => rg_Det_q _ _ _)
