/-! the class, changing -/
theorem rx_start {post : St2 → Prop} {P : Nat} {f : Int32} {a b d e : Nat → Int32} (hP : P ≤ 256) (h : ∀ D E, rg_eq P D a → rg_eq P E b → post (nI P, f, a, b, D, E)) : wpX_startDraft post (nI P, f, a, b, d, e) :=
  pk_loop (fun n i (t : (Nat → Int32) × (Nat → Int32)) => wX_startDraft_2 post (nI P) f n (nI i) a b t.1 t.2) (fun i t => rg_F 0 i a d t.1 ∧ rg_F 0 i b e t.2) P 0 (d, e) (Nat.zero_le _) ⟨rg_F_0 _ _ _, rg_F_0 _ _ _⟩
    (fun n t ht => pk_le P P (fun _ => h _ _ (rg_F_eq ht.1) (rg_F_eq ht.2)) (fun z => absurd z (by omega)))
    (fun n i t hi ht hw => pk_le P i (fun z => absurd z (by omega)) (fun _ => ⟨pk_in i 256 (by omega), pk_in i 256 (by omega), nm_e ⟨pk_in i 256 (by omega), pk_in i 256 (by omega), nm_e (nm_r (nI_1 i) (hw (_, _) ⟨rg_F_s ht.1 (Nat.zero_le _) (nI_clamp (by omega)) (by rw [nI_clamp (by omega)]), rg_F_s ht.2 (Nat.zero_le _) (nI_clamp (by omega)) (by rw [nI_clamp (by omega)])⟩))⟩⟩))
theorem rx_free {post : St2 → Prop} {P s l : Nat} {f : Int32} {a b d e : Nat → Int32} (hP : P ≤ 256) (hs : s + l ≤ P) (h : ∀ D E, rg_F s (s + l) (fun _ => -6) d D → rg_F s (s + l) (fun _ => -6) e E → post (nI P, f, a, b, D, E)) : wpX_freeInDraft post (nI P, f, a, b, d, e) (nI s) (nI l) :=
  pk_loop (fun n i (t : (Nat → Int32) × (Nat → Int32)) => wX_freeInDraft_2 post (nI s) (nI l) (nI P) f n (nI (s + i)) a b t.1 t.2) (fun i t => rg_F s (s + i) (fun _ => -6) d t.1 ∧ rg_F s (s + i) (fun _ => -6) e t.2) l 0 (d, e) (Nat.zero_le _) ⟨rg_F_0 _ _ _, rg_F_0 _ _ _⟩
    (fun n t ht => pk_le (s + l) (s + l) (fun _ => h _ _ ht.1 ht.2) (fun z => absurd z (by omega)) (hx := nI_add s l))
    (fun n i t hi ht hw => pk_le (s + l) (s + i) (fun z => absurd z (by omega)) (fun _ => ⟨pk_in (s + i) 256 (by omega), nm_e ⟨pk_in (s + i) 256 (by omega), nm_e (nm_r (nI_1 (s + i)) (hw (_, _) ⟨rg_F_s ht.1 (Nat.le_add_right _ _) (nI_clamp (by omega)) rfl, rg_F_s ht.2 (Nat.le_add_right _ _) (nI_clamp (by omega)) rfl⟩))⟩⟩) (hx := nI_add s l))
/-- the same from P on -/
def rg_up (P : Nat) (a' a : Nat → Int32) : Prop := ∀ j, ¬ j < P → a' j = a j
theorem rg_up_on {P s l : Nat} {g a a0 : Nat → Int32} (hs : s + l ≤ P) (h : rg_up P a a0) : rg_up P (rg_on s l g a) a0 := fun j hj => by
  rw [rg_on_f (by omega)]
  exact h j hj
theorem rg_F_ex {P : Nat} {d a a' n : Nat → Int32} (h : rg_F 0 P d a n) (hd : rg_eq P d a') (hu : rg_up P a' a) : n = a' := by
  funext j
  by_cases e : j < P
  · rw [h.1 j (Nat.zero_le _) e]; exact hd j e
  · rw [h.2 j (fun z => e z.2), hu j e]
theorem rx_keep {post : Int32 → St2 → Prop} {P R : Nat} {a b d e a' b' : Nat → Int32} (hP : P ≤ 256) (hR : R ≤ 32) (hd : rg_eq P d a') (he : rg_eq P e b') (ua : rg_up P a' a) (ub : rg_up P b' b) (h1 : rg_ok P R a' b' → post 1 (nI P, nI R, a', b', d, e)) (h0 : ¬ rg_ok P R a' b' → post 0 (nI P, nI R, a, b, d, e)) : wpX_keepDraft post (nI P, nI R, a, b, d, e) := by
  unfold wpX_keepDraft
  dsimp only
  refine rx_ctD hP ?_
  rw [rg_ct_cg hd he]
  have hle := rg_cn_le (rg_st a' b') 0 P
  refine pk_le (rg_cn (rg_st a' b') 0 P) R (fun z => ?_) (fun z => h0 (fun y => by unfold rg_ok at y; omega))
  exact pk_loop (fun n i (t : (Nat → Int32) × (Nat → Int32)) => wX_keepDraft_23 post (nI P) (nI R) n (nI i) t.1 t.2 d e) (fun i t => rg_F 0 i d a t.1 ∧ rg_F 0 i e b t.2) P 0 (a, b) (Nat.zero_le _) ⟨rg_F_0 _ _ _, rg_F_0 _ _ _⟩
    (fun n t ht => pk_le P P (fun _ => by rw [rg_F_ex ht.1 hd ua, rg_F_ex ht.2 he ub]; exact h1 z) (fun z => absurd z (by omega)))
    (fun n i t hi ht hw => pk_le P i (fun z => absurd z (by omega)) (fun _ => ⟨pk_in i 256 (by omega), pk_in i 256 (by omega), nm_e ⟨pk_in i 256 (by omega), pk_in i 256 (by omega), nm_e (nm_r (nI_1 i) (hw (_, _) ⟨rg_F_s ht.1 (Nat.zero_le _) (nI_clamp (by omega)) (by rw [nI_clamp (by omega)]), rg_F_s ht.2 (Nat.zero_le _) (nI_clamp (by omega)) (by rw [nI_clamp (by omega)])⟩))⟩⟩))
theorem rg_bk_0 {s i : Nat} {c : Int32} (z : c = 0) : (0 : Int32) = rg_bk s c (s + i) := by
  unfold rg_bk
  rw [if_pos z]
theorem rg_bk_1 {s i : Nat} {c : Int32} (z : ¬ c = 0) : c + nI i = rg_bk s c (s + i) := by
  unfold rg_bk
  rw [if_neg z, Nat.add_sub_cancel_left]
theorem rx_fill {post : Int32 → St2 → Prop} {P R s l : Nat} {p c : Int32} {a b d e : Nat → Int32} (hP : P ≤ 256) (hR : R ≤ 32) (hs : s + l ≤ P)
    (h1 : rg_ok P R (rg_on s l (fun _ => p) a) (rg_on s l (rg_bk s c) b) → ∀ D E, post 1 (nI P, nI R, rg_on s l (fun _ => p) a, rg_on s l (rg_bk s c) b, D, E))
    (h0 : ¬ rg_ok P R (rg_on s l (fun _ => p) a) (rg_on s l (rg_bk s c) b) → ∀ D E, post 0 (nI P, nI R, a, b, D, E)) : wpX_tryFill post (nI P, nI R, a, b, d, e) (nI s) (nI l) p c := by
  unfold wpX_tryFill
  dsimp only
  refine rx_start hP (fun D E hD hE => ?_)
  dsimp only
  exact pk_loop (fun n i (t : (Nat → Int32) × (Nat → Int32)) => wX_tryFill_7 post (nI s) (nI l) p c (nI P) (nI R) n (nI i) a b t.1 t.2) (fun i t => rg_F s (s + i) (fun _ => p) D t.1 ∧ rg_F s (s + i) (rg_bk s c) E t.2) l 0 (D, E) (Nat.zero_le _) ⟨rg_F_0 _ _ _, rg_F_0 _ _ _⟩
    (fun n t ht => pk_le l l (fun _ => rx_keep hP hR (rg_F_on ht.1 hD) (rg_F_on ht.2 hE) (rg_up_on hs (fun _ _ => rfl)) (rg_up_on hs (fun _ _ => rfl)) (fun k => ⟨rfl, h1 k _ _⟩) (fun k => ⟨rfl, h0 k _ _⟩)) (fun z => absurd z (by omega)))
    (fun n i t hi ht hw => pk_le l i (fun z => absurd z (by omega)) (fun _ => ⟨pk_in (s + i) 256 (by omega) (hx := nI_add s i), nm_e (br_c
      (fun z => ⟨pk_in (s + i) 256 (by omega) (hx := nI_add s i), nm_e (nm_r (nI_1 i) (hw (_, _) ⟨rg_F_s ht.1 (Nat.le_add_right _ _) (pk_cl (s + i) (nI_add s i)) rfl, rg_F_s ht.2 (Nat.le_add_right _ _) (pk_cl (s + i) (nI_add s i)) (rg_bk_0 z)⟩))⟩)
      (fun z => ⟨pk_in (s + i) 256 (by omega) (hx := nI_add s i), nm_e (nm_r (nI_1 i) (hw (_, _) ⟨rg_F_s ht.1 (Nat.le_add_right _ _) (pk_cl (s + i) (nI_add s i)) rfl, rg_F_s ht.2 (Nat.le_add_right _ _) (pk_cl (s + i) (nI_add s i)) (rg_bk_1 z)⟩))⟩))⟩))
theorem rx_mv {post : Int32 → St2 → Prop} {P R s l t : Nat} {a b d e : Nat → Int32} (hP : P ≤ 256) (hR : R ≤ 32) (hs : s + l ≤ P) (ht : t + l ≤ P)
    (h1 : rg_ok P R (rg_mv s l t a) (rg_mv s l t b) → ∀ D E, post 1 (nI P, nI R, rg_mv s l t a, rg_mv s l t b, D, E))
    (h0 : ¬ rg_ok P R (rg_mv s l t a) (rg_mv s l t b) → ∀ D E, post 0 (nI P, nI R, a, b, D, E)) : wpX_tryMove post (nI P, nI R, a, b, d, e) (nI s) (nI l) (nI t) := by
  unfold wpX_tryMove
  dsimp only
  refine rx_start hP (fun D E hD hE => ?_)
  dsimp only
  refine rx_free hP hs (fun D' E' hD' hE' => ?_)
  dsimp only
  have kk : ∀ i, i < l → (nI s + nI i).toNatClampNeg = s + (t + i - t) := fun i hi => (pk_cl (s + i) (nI_add s i)).trans (by omega)
  exact pk_loop (fun n i (w : (Nat → Int32) × (Nat → Int32)) => wX_tryMove_13 post (nI s) (nI l) (nI t) (nI P) (nI R) n (nI i) a b w.1 w.2) (fun i w => rg_F t (t + i) (fun j => a (s + (j - t))) D' w.1 ∧ rg_F t (t + i) (fun j => b (s + (j - t))) E' w.2) l 0 (D', E') (Nat.zero_le _) ⟨rg_F_0 _ _ _, rg_F_0 _ _ _⟩
    (fun n w hw => pk_le l l (fun _ => rx_keep hP hR (rg_F_on hw.1 (rg_F_on hD' hD)) (rg_F_on hw.2 (rg_F_on hE' hE)) (rg_up_on ht (rg_up_on hs (fun _ _ => rfl))) (rg_up_on ht (rg_up_on hs (fun _ _ => rfl))) (fun k => ⟨rfl, h1 k _ _⟩) (fun k => ⟨rfl, h0 k _ _⟩)) (fun z => absurd z (by omega)))
    (fun n i w hi hw hn => pk_le l i (fun z => absurd z (by omega)) (fun _ => ⟨pk_in (s + i) 256 (by omega) (hx := nI_add s i), pk_in (t + i) 256 (by omega) (hx := nI_add t i), nm_e ⟨pk_in (s + i) 256 (by omega) (hx := nI_add s i), pk_in (t + i) 256 (by omega) (hx := nI_add t i), nm_e (nm_r (nI_1 i) (hn (_, _)
      ⟨rg_F_s hw.1 (Nat.le_add_right _ _) (pk_cl (t + i) (nI_add t i)) (congrArg a (kk i hi)), rg_F_s hw.2 (Nat.le_add_right _ _) (pk_cl (t + i) (nI_add t i)) (congrArg b (kk i hi))⟩))⟩⟩))
