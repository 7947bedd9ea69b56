/-! the two turns: the call, and every page compared -/
abbrev lc_T : Type := Int32 × Int32 × Int32 × Int32 × Int32 × Int32 × Int32 × Int32 × Int32 × Int32 × Int32 × Int32 × Int32 × Nat × Nat × Int32 × Int32 × (Nat → Int32) × (Nat → Int32) × (Nat → Int32) × (Nat → Int32) × Int32 × Int32 × (Nat → Int32) × (Nat → Int32) × (Nat → Int32) × (Nat → Int32)
theorem lc_within {post : Int32 → Prop} {p t l : Nat} (hp : p < 1000) (ht : t < 1000) (hl : l < 1000) (h1 : t ≤ p ∧ p < t + l → post 1) (h0 : ¬ (t ≤ p ∧ p < t + l) → post 0) : wpL_within post () (nI p) (nI t) (nI l) := by
  refine pk_lt p t (fun z => h0 (by omega)) (fun z => br_c (fun k => h0 ?_) (fun k => h1 ?_))
  · rw [nI_l (by omega), nI_l (by omega), nI_l (by omega), lN_add, lN_le (by omega) (by omega)] at k
    omega
  · rw [nI_l (by omega), nI_l (by omega), nI_l (by omega), lN_add, lN_le (by omega) (by omega)] at k
    omega
theorem lc_1284 {post : Int32 → Prop} {L : Nat} {xs : Nat → Int32} {J : Int32 → Int32 → Int32 → Nat → Nat → Int32 → Int32 → (Nat → Int32) → (Nat → Int32) → (Nat → Int32) → (Nat → Int32) → Int32 → Int32 → (Nat → Int32) → (Nat → Int32) → (Nat → Int32) → (Nat → Int32) → Prop} {kc ks P : Nat} {f1 g1 : Int32} {a b d e a2 b2 d2 e2 : Nat → Int32} {J8 : Int32 → Int32 → Int32 → Int32 → Int32 → Int32 → Int32 → Int32 → Int32 → Int32 → Int32 → Nat → Nat → Int32 → Int32 → (Nat → Int32) → (Nat → Int32) → (Nat → Int32) → (Nat → Int32) → Int32 → Int32 → (Nat → Int32) → (Nat → Int32) → (Nat → Int32) → (Nat → Int32) → Prop} {x3 x4 x7 x13 x15 x19 x20 x21 x23 x27 x28 x31 : Int32} {K : (lc_T ⊕ lc_T ⊕ lc_T ⊕ lc_T) → Prop} {x34 x35 : Int32} {p : Nat} (hP : P ≤ 256) (hp : p < P) (q1 : a2 p = x34) (q2 : b2 p = x35) (hK : K (.inl (x3, x4, x7, x13, x15, x19, x20, x21, x23, x27, x28, x31, nI (p + 1), kc, ks, nI P, f1, a, b, d, e, nI P, g1, a2, b2, d2, e2))) : wL_law_1284 post L xs J J8 K x3 x4 x7 x13 x15 x19 x20 x21 x23 x27 x28 x31 (nI p) x34 x35 kc ks (nI P) f1 a b d e (nI P) g1 a2 b2 d2 e2 := by
  unfold wL_law_1284
  exact lr_pO hP hp (br_t q1 (lr_bO hP hp (br_t q2 (nm_r (nI_1 p) hK))))
theorem lc_1284_4 {post : Int32 → Prop} {L : Nat} {xs : Nat → Int32} {J : Int32 → Int32 → Int32 → Nat → Nat → Int32 → Int32 → (Nat → Int32) → (Nat → Int32) → (Nat → Int32) → (Nat → Int32) → Int32 → Int32 → (Nat → Int32) → (Nat → Int32) → (Nat → Int32) → (Nat → Int32) → Prop} {kc ks P : Nat} {f1 g1 : Int32} {a b d e a2 b2 d2 e2 : Nat → Int32} {J8 : Int32 → Int32 → Int32 → Int32 → Int32 → Int32 → Int32 → Int32 → Int32 → Int32 → Int32 → Nat → Nat → Int32 → Int32 → (Nat → Int32) → (Nat → Int32) → (Nat → Int32) → (Nat → Int32) → Int32 → Int32 → (Nat → Int32) → (Nat → Int32) → (Nat → Int32) → (Nat → Int32) → Prop} {x3 x4 x7 x13 x15 x19 x20 x21 x23 x27 x28 x31 : Int32} {K : (lc_T ⊕ lc_T ⊕ lc_T ⊕ lc_T) → Prop} {x34 x35 : Int32} {p : Nat} (hP : P ≤ 256) (hp : p < P) (q1 : a p = x34) (q2 : b p = x35) (hK : K (.inr (.inr (.inr (x3, x4, x7, x13, x15, x19, x20, x21, x23, x27, x28, x31, nI (p + 1), kc, ks, nI P, f1, a, b, d, e, nI P, g1, a2, b2, d2, e2))))) : wL_law_1284_4 post L xs J J8 K x3 x4 x7 x13 x15 x19 x20 x21 x23 x27 x28 x31 (nI p) x34 x35 kc ks (nI P) f1 a b d e (nI P) g1 a2 b2 d2 e2 := by
  unfold wL_law_1284_4
  exact lr_pO hP hp (br_t q1 (lr_bO hP hp (br_t q2 (nm_r (nI_1 p) hK))))
theorem lc_turn1 {post : Int32 → Prop} {L : Nat} {xs : Nat → Int32} {J : Int32 → Int32 → Int32 → Nat → Nat → Int32 → Int32 → (Nat → Int32) → (Nat → Int32) → (Nat → Int32) → (Nat → Int32) → Int32 → Int32 → (Nat → Int32) → (Nat → Int32) → (Nat → Int32) → (Nat → Int32) → Prop} {kc ks P : Nat} {f1 g1 : Int32} {a b d e a2 b2 d2 e2 : Nat → Int32} {J8 : Int32 → Int32 → Int32 → Int32 → Int32 → Int32 → Int32 → Int32 → Int32 → Int32 → Int32 → Nat → Nat → Int32 → Int32 → (Nat → Int32) → (Nat → Int32) → (Nat → Int32) → (Nat → Int32) → Int32 → Int32 → (Nat → Int32) → (Nat → Int32) → (Nat → Int32) → (Nat → Int32) → Prop} {x4 x7 x13 x15 x19 x20 x21 x23 x27 x31 : Int32} (hP : P ≤ 256) (ea : a2 = a) (eb : b2 = b) (hJ : J8 (nI P) x4 x7 x13 x15 x19 x20 x21 x23 x27 2 kc ks (nI P) f1 a b d e (nI P) g1 a2 b2 d2 e2) : ∃ n, wL_law_1067 post L xs J J8 n (.inl (nI P, x4, x7, x13, x15, x19, x20, x21, x23, x27, 1, x31, 0, kc, ks, nI P, f1, a, b, d, e, nI P, g1, a2, b2, d2, e2)) := by
  refine pk_loop (σ := Unit) (fun n p _ => wL_law_1067 post L xs J J8 n (.inl (nI P, x4, x7, x13, x15, x19, x20, x21, x23, x27, 1, x31, nI p, kc, ks, nI P, f1, a, b, d, e, nI P, g1, a2, b2, d2, e2))) (fun _ _ => True) P 0 () (Nat.zero_le _) trivial (fun n _ _ => ?_) (fun n p _ hp _ hw => ?_)
  · exact pk_le P P (fun _ => nm_r (show (1 : Int32) + 1 = 2 by decide) hJ) (fun z => absurd z (by omega))
  · have st : wL_law_1089 post L xs J J8 (wL_law_1067 post L xs J J8 n) (nI P) x4 x7 x13 x15 x19 x20 x21 x23 x27 1 x31 (nI p) kc ks (nI P) f1 a b d e (nI P) g1 a2 b2 d2 e2 := by
      unfold wL_law_1089 wL_law_1090
      refine br_t rfl (lr_pO hP hp ?_)
      unfold wL_law_1109
      refine br_t rfl (lr_bO hP hp ?_)
      exact br_f rg_10 (lc_1284 hP hp (by rw [ea]) (by rw [eb]) (hw () trivial))
    exact pk_le P p (fun z => absurd z (by omega)) (fun _ => br_c (fun _ => br_f rg_10 st) (fun _ => st))
theorem lc_turn0 {post : Int32 → Prop} {L : Nat} {xs : Nat → Int32} {J : Int32 → Int32 → Int32 → Nat → Nat → Int32 → Int32 → (Nat → Int32) → (Nat → Int32) → (Nat → Int32) → (Nat → Int32) → Int32 → Int32 → (Nat → Int32) → (Nat → Int32) → (Nat → Int32) → (Nat → Int32) → Prop} {kc ks P : Nat} {f1 g1 : Int32} {a b d e a2 b2 d2 e2 : Nat → Int32} {J8 : Int32 → Int32 → Int32 → Int32 → Int32 → Int32 → Int32 → Int32 → Int32 → Int32 → Int32 → Nat → Nat → Int32 → Int32 → (Nat → Int32) → (Nat → Int32) → (Nat → Int32) → (Nat → Int32) → Int32 → Int32 → (Nat → Int32) → (Nat → Int32) → (Nat → Int32) → (Nat → Int32) → Prop} {x4 x7 x13 x15 x19 x20 x21 x23 x27 x31 : Int32} (hP : P ≤ 256) (h8 : ¬ x13 = 8) (hJ : J8 (nI P) x4 x7 x13 x15 x19 x20 x21 x23 x27 1 kc ks (nI P) f1 a b d e (nI P) g1 a2 b2 d2 e2)
    (hs : ∀ (K : (lc_T ⊕ lc_T ⊕ lc_T ⊕ lc_T) → Prop) (p : Nat), p < P → K (.inr (.inr (.inr (nI P, x4, x7, x13, x15, x19, x20, x21, x23, x27, 0, x31, nI (p + 1), kc, ks, nI P, f1, a, b, d, e, nI P, g1, a2, b2, d2, e2)))) → wL_law_1128_4 post L xs J J8 K (nI P) x4 x7 x13 x15 x19 x20 x21 x23 x27 0 x31 (nI p) (a2 p) (b2 p) kc ks (nI P) f1 a b d e (nI P) g1 a2 b2 d2 e2) : ∃ n, wL_law_1067 post L xs J J8 n (.inr (.inr (.inr (nI P, x4, x7, x13, x15, x19, x20, x21, x23, x27, 0, x31, 0, kc, ks, nI P, f1, a, b, d, e, nI P, g1, a2, b2, d2, e2)))) := by
  refine pk_loop (σ := Unit) (fun n p _ => wL_law_1067 post L xs J J8 n (.inr (.inr (.inr (nI P, x4, x7, x13, x15, x19, x20, x21, x23, x27, 0, x31, nI p, kc, ks, nI P, f1, a, b, d, e, nI P, g1, a2, b2, d2, e2))))) (fun _ _ => True) P 0 () (Nat.zero_le _) trivial (fun n _ _ => ?_) (fun n p _ hp _ hw => ?_)
  · exact pk_le P P (fun _ => nm_r (show (0 : Int32) + 1 = 1 by decide) hJ) (fun z => absurd z (by omega))
  · refine pk_le P p (fun z => absurd z (by omega)) (fun _ => br_f h8 ?_)
    unfold wL_law_1089_4 wL_law_1090_4
    refine br_t rfl (lr_pO hP hp ?_)
    unfold wL_law_1109_4
    exact br_t rfl (lr_bO hP hp (hs _ p hp (hw () trivial)))
theorem lc_fresh {post : Int32 → Prop} {L : Nat} {xs : Nat → Int32} {J : Int32 → Int32 → Int32 → Nat → Nat → Int32 → Int32 → (Nat → Int32) → (Nat → Int32) → (Nat → Int32) → (Nat → Int32) → Int32 → Int32 → (Nat → Int32) → (Nat → Int32) → (Nat → Int32) → (Nat → Int32) → Prop} {kc ks P : Nat} {f1 g1 : Int32} {a b d e a2 b2 d2 e2 : Nat → Int32} {J8 : Int32 → Int32 → Int32 → Int32 → Int32 → Int32 → Int32 → Int32 → Int32 → Int32 → Int32 → Nat → Nat → Int32 → Int32 → (Nat → Int32) → (Nat → Int32) → (Nat → Int32) → (Nat → Int32) → Int32 → Int32 → (Nat → Int32) → (Nat → Int32) → (Nat → Int32) → (Nat → Int32) → Prop} {x4 x7 x13 x15 x19 x20 x21 x23 x27 x31 : Int32} (hP : P ≤ 256) (hf : ∀ j, j < P → a j = -6 ∧ b j = -6) (hJ : J8 (nI P) x4 x7 8 x15 x19 x20 x21 x23 x27 1 kc ks (nI P) f1 a b d e (nI P) g1 a2 b2 d2 e2) : ∃ n, wL_law_1067 post L xs J J8 n (.inr (.inr (.inr (nI P, x4, x7, 8, x15, x19, x20, x21, x23, x27, 0, -1, 0, kc, ks, nI P, f1, a, b, d, e, nI P, g1, a2, b2, d2, e2)))) := by
  refine pk_loop (σ := Unit) (fun n p _ => wL_law_1067 post L xs J J8 n (.inr (.inr (.inr (nI P, x4, x7, 8, x15, x19, x20, x21, x23, x27, 0, -1, nI p, kc, ks, nI P, f1, a, b, d, e, nI P, g1, a2, b2, d2, e2))))) (fun _ _ => True) P 0 () (Nat.zero_le _) trivial (fun n _ _ => ?_) (fun n p _ hp _ hw => ?_)
  · exact pk_le P P (fun _ => nm_r (show (0 : Int32) + 1 = 1 by decide) hJ) (fun z => absurd z (by omega))
  · refine pk_le P p (fun z => absurd z (by omega)) (fun _ => br_t rfl (br_t rfl ?_))
    unfold wL_law_1090_4
    refine br_f rg_10 ?_
    unfold wL_law_1109_4
    refine br_f rg_10 ?_
    exact br_t rfl (br_t (by decide) (lc_1284_4 hP hp (hf p hp).1 (hf p hp).2 (hw () trivial)))
theorem lc_neg {post : Int32 → Prop} {L : Nat} {xs : Nat → Int32} {J : Int32 → Int32 → Int32 → Nat → Nat → Int32 → Int32 → (Nat → Int32) → (Nat → Int32) → (Nat → Int32) → (Nat → Int32) → Int32 → Int32 → (Nat → Int32) → (Nat → Int32) → (Nat → Int32) → (Nat → Int32) → Prop} {kc ks P : Nat} {f1 g1 : Int32} {a b d e a2 b2 d2 e2 : Nat → Int32} {J8 : Int32 → Int32 → Int32 → Int32 → Int32 → Int32 → Int32 → Int32 → Int32 → Int32 → Int32 → Nat → Nat → Int32 → Int32 → (Nat → Int32) → (Nat → Int32) → (Nat → Int32) → (Nat → Int32) → Int32 → Int32 → (Nat → Int32) → (Nat → Int32) → (Nat → Int32) → (Nat → Int32) → Prop} {K : (lc_T ⊕ lc_T ⊕ lc_T ⊕ lc_T) → Prop} {x4 x7 x13 x15 x19 x20 x21 x23 x27 x31 : Int32} {p : Nat} (hP : P ≤ 256) (hn : x31 < 0) (ea : a = a2) (eb : b = b2) (hp : p < P) (hK : K (.inr (.inr (.inr (nI P, x4, x7, x13, x15, x19, x20, x21, x23, x27, 0, x31, nI (p + 1), kc, ks, nI P, f1, a, b, d, e, nI P, g1, a2, b2, d2, e2))))) : wL_law_1128_4 post L xs J J8 K (nI P) x4 x7 x13 x15 x19 x20 x21 x23 x27 0 x31 (nI p) (a2 p) (b2 p) kc ks (nI P) f1 a b d e (nI P) g1 a2 b2 d2 e2 := by
  unfold wL_law_1128_4
  exact br_t rfl (br_t hn (lc_1284_4 hP hp (by rw [ea]) (by rw [eb]) hK))
theorem lc_sub {t p : Nat} (h : t ≤ p) (x : Int32) : x + nI p - nI t = x + nI (p - t) := by
  have e : nI p = nI t + nI (p - t) := by rw [nI_add]; exact congrArg nI (by omega)
  rw [e]
  grind
theorem lc_fill {post : Int32 → Prop} {L : Nat} {xs : Nat → Int32} {J : Int32 → Int32 → Int32 → Nat → Nat → Int32 → Int32 → (Nat → Int32) → (Nat → Int32) → (Nat → Int32) → (Nat → Int32) → Int32 → Int32 → (Nat → Int32) → (Nat → Int32) → (Nat → Int32) → (Nat → Int32) → Prop} {kc ks P : Nat} {f1 g1 : Int32} {a b d e a2 b2 d2 e2 : Nat → Int32} {J8 : Int32 → Int32 → Int32 → Int32 → Int32 → Int32 → Int32 → Int32 → Int32 → Int32 → Int32 → Nat → Nat → Int32 → Int32 → (Nat → Int32) → (Nat → Int32) → (Nat → Int32) → (Nat → Int32) → Int32 → Int32 → (Nat → Int32) → (Nat → Int32) → (Nat → Int32) → (Nat → Int32) → Prop} {K : (lc_T ⊕ lc_T ⊕ lc_T ⊕ lc_T) → Prop} {x4 x7 x13 x15 x19 x20 x21 x23 x27 x31 : Int32} {p : Nat} {o : Nat} (hP : P ≤ 256) (ho : o ≤ 3) (h13 : x13 = nI o) (hn : ¬ x31 < 0) (hE : lq_Ef P a2 b2 x19 x21 x23 x27 a b) (hp : p < P) (hK : K (.inr (.inr (.inr (nI P, x4, x7, x13, x15, x19, x20, x21, x23, x27, 0, x31, nI (p + 1), kc, ks, nI P, f1, a, b, d, e, nI P, g1, a2, b2, d2, e2))))) : wL_law_1128_4 post L xs J J8 K (nI P) x4 x7 x13 x15 x19 x20 x21 x23 x27 0 x31 (nI p) (a2 p) (b2 p) kc ks (nI P) f1 a b d e (nI P) g1 a2 b2 d2 e2 := by
  obtain ⟨t, l, rfl, rfl, hl, ea, eb⟩ := hE
  subst h13
  have c3 : ¬ (3 : Int32) < nI o := nI_nlt (a := 3) ho (by omega)
  have c5 : ¬ nI o = 5 := fun z => absurd ((nI_eq (a := o) (b := 5) (by omega) (by omega)).mp z) (by omega)
  have c4 : ¬ nI o = 4 := fun z => absurd ((nI_eq (a := o) (b := 4) (by omega) (by omega)).mp z) (by omega)
  have c6 : nI o < 6 := nI_lt (b := 6) (by omega) (by omega)
  unfold wL_law_1128_4
  refine br_t rfl (br_f hn (lc_within (by omega) (by omega) (by omega) (fun h => br_f c3 (br_f rg_10 ?_)) (fun h => br_f c3 (br_t rfl ?_))))
  · refine br_c (fun z => ?_) (fun z => ?_)
    · unfold wL_law_1183_4
      exact lc_1284_4 hP hp (by rw [ea, rg_on_t h]) (by rw [eb, rg_on_t h]; unfold rg_bk; rw [if_pos z]) hK
    · unfold wL_law_1183_4
      exact lc_1284_4 hP hp (by rw [ea, rg_on_t h]) (by rw [eb, rg_on_t h, lc_sub h.1]; unfold rg_bk; rw [if_neg z]) hK
  · unfold wL_law_1188_4
    refine br_f c5 ?_
    unfold wL_law_1206_4
    refine br_t c6 ?_
    unfold wL_law_1251_4
    exact br_f c4 (br_t c6 (lc_1284_4 hP hp (by rw [ea, rg_on_f h]) (by rw [eb, rg_on_f h]) hK))
theorem lc_unmap {post : Int32 → Prop} {L : Nat} {xs : Nat → Int32} {J : Int32 → Int32 → Int32 → Nat → Nat → Int32 → Int32 → (Nat → Int32) → (Nat → Int32) → (Nat → Int32) → (Nat → Int32) → Int32 → Int32 → (Nat → Int32) → (Nat → Int32) → (Nat → Int32) → (Nat → Int32) → Prop} {kc ks P : Nat} {f1 g1 : Int32} {a b d e a2 b2 d2 e2 : Nat → Int32} {J8 : Int32 → Int32 → Int32 → Int32 → Int32 → Int32 → Int32 → Int32 → Int32 → Int32 → Int32 → Nat → Nat → Int32 → Int32 → (Nat → Int32) → (Nat → Int32) → (Nat → Int32) → (Nat → Int32) → Int32 → Int32 → (Nat → Int32) → (Nat → Int32) → (Nat → Int32) → (Nat → Int32) → Prop} {K : (lc_T ⊕ lc_T ⊕ lc_T ⊕ lc_T) → Prop} {x4 x7 x13 x15 x19 x20 x21 x23 x27 x31 : Int32} {p : Nat} (hP : P ≤ 256) (h13 : x13 = 4) (e21 : x21 = x15) (hn : ¬ x31 < 0) (hE : lq_Eu P a2 b2 x15 x19 a b) (hp : p < P) (hK : K (.inr (.inr (.inr (nI P, x4, x7, x13, x15, x19, x20, x21, x23, x27, 0, x31, nI (p + 1), kc, ks, nI P, f1, a, b, d, e, nI P, g1, a2, b2, d2, e2))))) : wL_law_1128_4 post L xs J J8 K (nI P) x4 x7 x13 x15 x19 x20 x21 x23 x27 0 x31 (nI p) (a2 p) (b2 p) kc ks (nI P) f1 a b d e (nI P) g1 a2 b2 d2 e2 := by
  obtain ⟨s, l, rfl, rfl, hl, ea, eb⟩ := hE
  subst h13 e21
  have st : ∀ x36 : Int32, wL_law_1188_4 post L xs J J8 K (nI P) x4 x7 4 (nI s) (nI l) x20 (nI s) x23 x27 0 x31 (nI p) (a2 p) (b2 p) x36 kc ks (nI P) f1 a b d e (nI P) g1 a2 b2 d2 e2 := by
    intro x36
    unfold wL_law_1188_4
    refine br_f (by decide) ?_
    unfold wL_law_1206_4
    refine br_t (by decide) ?_
    unfold wL_law_1251_4
    refine br_t rfl ?_
    unfold wL_law_1264_4
    exact lc_within (by omega) (by omega) (by omega) (fun h => br_f rg_10 (lc_1284_4 hP hp (by rw [ea, rg_on_t h]) (by rw [eb, rg_on_t h]) hK)) (fun h => br_t rfl (lc_1284_4 hP hp (by rw [ea, rg_on_f h]) (by rw [eb, rg_on_f h]) hK))
  unfold wL_law_1128_4
  exact br_t rfl (br_f hn (lc_within (by omega) (by omega) (by omega) (fun h => br_t (by decide) (st _)) (fun h => br_t (by decide) (st _))))
theorem lc_prot {post : Int32 → Prop} {L : Nat} {xs : Nat → Int32} {J : Int32 → Int32 → Int32 → Nat → Nat → Int32 → Int32 → (Nat → Int32) → (Nat → Int32) → (Nat → Int32) → (Nat → Int32) → Int32 → Int32 → (Nat → Int32) → (Nat → Int32) → (Nat → Int32) → (Nat → Int32) → Prop} {kc ks P : Nat} {f1 g1 : Int32} {a b d e a2 b2 d2 e2 : Nat → Int32} {J8 : Int32 → Int32 → Int32 → Int32 → Int32 → Int32 → Int32 → Int32 → Int32 → Int32 → Int32 → Nat → Nat → Int32 → Int32 → (Nat → Int32) → (Nat → Int32) → (Nat → Int32) → (Nat → Int32) → Int32 → Int32 → (Nat → Int32) → (Nat → Int32) → (Nat → Int32) → (Nat → Int32) → Prop} {K : (lc_T ⊕ lc_T ⊕ lc_T ⊕ lc_T) → Prop} {x4 x7 x13 x15 x19 x20 x21 x23 x27 x31 : Int32} {p : Nat} (hP : P ≤ 256) (h13 : x13 = 5) (e21 : x21 = x15) (hn : ¬ x31 < 0) (hE : lq_Ep P a2 b2 x15 x19 x23 a b) (hp : p < P) (hK : K (.inr (.inr (.inr (nI P, x4, x7, x13, x15, x19, x20, x21, x23, x27, 0, x31, nI (p + 1), kc, ks, nI P, f1, a, b, d, e, nI P, g1, a2, b2, d2, e2))))) : wL_law_1128_4 post L xs J J8 K (nI P) x4 x7 x13 x15 x19 x20 x21 x23 x27 0 x31 (nI p) (a2 p) (b2 p) kc ks (nI P) f1 a b d e (nI P) g1 a2 b2 d2 e2 := by
  obtain ⟨s, l, rfl, rfl, hl, ea, eb⟩ := hE
  subst h13 e21
  unfold wL_law_1128_4
  refine br_t rfl (br_f hn (lc_within (by omega) (by omega) (by omega) (fun h => br_t (by decide) ?_) (fun h => br_t (by decide) ?_)))
  · unfold wL_law_1188_4
    exact br_t rfl (br_f rg_10 (lc_1284_4 hP hp (by rw [ea, rg_on_t h]) (by rw [eb]) hK))
  · unfold wL_law_1188_4
    refine br_t rfl (br_t rfl ?_)
    unfold wL_law_1206_4
    refine br_t (by decide) ?_
    unfold wL_law_1251_4
    exact br_f (by decide) (br_t (by decide) (lc_1284_4 hP hp (by rw [ea, rg_on_f h]) (by rw [eb]) hK))
theorem lc_move {post : Int32 → Prop} {L : Nat} {xs : Nat → Int32} {J : Int32 → Int32 → Int32 → Nat → Nat → Int32 → Int32 → (Nat → Int32) → (Nat → Int32) → (Nat → Int32) → (Nat → Int32) → Int32 → Int32 → (Nat → Int32) → (Nat → Int32) → (Nat → Int32) → (Nat → Int32) → Prop} {kc ks P : Nat} {f1 g1 : Int32} {a b d e a2 b2 d2 e2 : Nat → Int32} {J8 : Int32 → Int32 → Int32 → Int32 → Int32 → Int32 → Int32 → Int32 → Int32 → Int32 → Int32 → Nat → Nat → Int32 → Int32 → (Nat → Int32) → (Nat → Int32) → (Nat → Int32) → (Nat → Int32) → Int32 → Int32 → (Nat → Int32) → (Nat → Int32) → (Nat → Int32) → (Nat → Int32) → Prop} {K : (lc_T ⊕ lc_T ⊕ lc_T ⊕ lc_T) → Prop} {x4 x7 x13 x15 x19 x20 x21 x23 x27 x31 : Int32} {p : Nat} (hP : P ≤ 256) (h13 : x13 = 6 ∨ x13 = 7) (hn : ¬ x31 < 0) (hE : lq_Em P a2 b2 x15 x19 x21 a b) (hp : p < P) (hK : K (.inr (.inr (.inr (nI P, x4, x7, x13, x15, x19, x20, x21, x23, x27, 0, x31, nI (p + 1), kc, ks, nI P, f1, a, b, d, e, nI P, g1, a2, b2, d2, e2))))) : wL_law_1128_4 post L xs J J8 K (nI P) x4 x7 x13 x15 x19 x20 x21 x23 x27 0 x31 (nI p) (a2 p) (b2 p) kc ks (nI P) f1 a b d e (nI P) g1 a2 b2 d2 e2 := by
  obtain ⟨s, l, t, rfl, rfl, rfl, hl, ht, ea, eb⟩ := hE
  have c3 : (3 : Int32) < x13 := by rcases h13 with rfl | rfl <;> decide
  have c5 : ¬ x13 = 5 := by rcases h13 with rfl | rfl <;> decide
  have c4 : ¬ x13 = 4 := by rcases h13 with rfl | rfl <;> decide
  have c6 : ¬ x13 < 6 := by rcases h13 with rfl | rfl <;> decide
  unfold wL_law_1128_4
  refine br_t rfl (br_f hn (lc_within (by omega) (by omega) (by omega) (fun h => br_t c3 ?_) (fun h => br_t c3 ?_)))
  · unfold wL_law_1188_4
    refine br_f c5 ?_
    unfold wL_law_1206_4
    have e1 : nI s + nI p - nI t = nI (s + (p - t)) := by rw [lc_sub h.1, nI_add]
    rw [e1]
    exact br_f c6 (br_f rg_10 (lr_pO hP (by omega) (lr_bO hP (by omega) (lc_1284_4 hP hp (by rw [ea]; unfold rg_mv; rw [rg_on_t h]) (by rw [eb]; unfold rg_mv; rw [rg_on_t h]) hK))))
  · unfold wL_law_1188_4
    refine br_f c5 ?_
    unfold wL_law_1206_4
    refine br_f c6 (br_t rfl ?_)
    unfold wL_law_1251_4
    refine br_f c4 (br_f c6 ?_)
    unfold wL_law_1264_4
    exact lc_within (by omega) (by omega) (by omega) (fun h2 => br_f rg_10 (lc_1284_4 hP hp (by rw [ea]; unfold rg_mv; rw [rg_on_f h, rg_on_t h2]) (by rw [eb]; unfold rg_mv; rw [rg_on_f h, rg_on_t h2]) hK)) (fun h2 => br_t rfl (lc_1284_4 hP hp (by rw [ea]; unfold rg_mv; rw [rg_on_f h, rg_on_f h2]) (by rw [eb]; unfold rg_mv; rw [rg_on_f h, rg_on_f h2]) hK))
