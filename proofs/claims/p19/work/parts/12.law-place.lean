/-! the law's preparation of a step: start, length, place, attributes; nothing of it refuses -/
theorem rg_IL_t {a : Nat → Int32} {f l q run P : Nat} (h : rg_IL a f l q run) (hq : a q = -6) (e : run + 1 = l) (hP : q < P) : l ≤ q + 1 ∧ f ≤ q + 1 - l ∧ q + 1 - l + l ≤ P ∧ rg_fr a (q + 1 - l) l ∧ ∀ t', f ≤ t' → t' < q + 1 - l → ¬ rg_fr a t' l := by
  obtain ⟨h1, h2, h3⟩ := h
  have g := rg_run_f h1 hq
  rw [e] at g
  have hle := g.1
  exact ⟨by omega, by omega, by omega, rg_run_fr g, fun t' a1 a2 => h3 t' a1 (by omega)⟩
theorem rg_IH_t {a : Nat → Int32} {to l q run : Nat} (h : rg_IH a to l (q + 1) run) (hq : a q = -6) (e : run + 1 = l) : q + l ≤ to ∧ rg_fr a q l ∧ ∀ t', q < t' → t' + l ≤ to → ¬ rg_fr a t' l := by
  obtain ⟨h1, h2, h3⟩ := h
  have g := rg_rud_f h1 hq
  rw [e] at g
  exact ⟨g.1, g.2.1, fun t' a1 a2 => h3 t' (by omega) a2⟩
theorem lv_p {post : Int32 → Prop} {P : Nat} {f v : Int32} {a b d e : Nat → Int32} (hP : P ≤ 256) (h : ∀ r, post r) : wpX_protOf post (nI P, f, a, b, d, e) v := rx_protOf hP (fun _ _ _ => h _) (fun _ => h _)
theorem lv_b {post : Int32 → Prop} {P : Nat} {f v : Int32} {a b d e : Nat → Int32} (hP : P ≤ 256) (h : ∀ r, post r) : wpX_backingOf post (nI P, f, a, b, d, e) v := rx_backingOf hP (fun _ _ _ => h _) (fun _ => h _)
theorem lv_mod {post : Int32 → Prop} {x : Int32} {M : Nat} (h1 : 1 ≤ M) (h2 : M < 2 ^ 31) (h : ∀ k, k < M → post (nI k)) : wpL_mod post () x (nI M) := by
  refine ⟨nI_ne0 (by omega) h2, ?_⟩
  obtain ⟨k, hk, e⟩ := pk_andE x (m := 2147483647) 31 (by decide)
  rw [e, pk_rem hk (by omega) h2]
  exact h _ (Nat.mod_lt _ (by omega))
theorem lv_819 {post : Int32 → Prop} {L : Nat} {xs : Nat → Int32} {J : Int32 → Int32 → Int32 → Nat → Nat → Int32 → Int32 → (Nat → Int32) → (Nat → Int32) → (Nat → Int32) → (Nat → Int32) → Int32 → Int32 → (Nat → Int32) → (Nat → Int32) → (Nat → Int32) → (Nat → Int32) → Prop} {kc ks P R : Nat} {a b d e d2 e2 : Nat → Int32} {o : Nat} {x7 : Int32} {x14 x15 x19 x20 x21 x23 x27 : Int32} (H : ∀ x23 x27, ∃ n, wL_law_833 post L xs J n (nI P) (nI R) x7 (nI o) x15 x19 x20 x21 x23 x27 0 kc ks (nI P) (nI R) a b d e (nI P) (nI R) a b d2 e2) : wL_law_819 post L xs J (nI P) (nI R) x7 (nI o) x14 x15 x19 x20 x21 x23 x27 kc ks (nI P) (nI R) a b d e (nI P) (nI R) a b d2 e2 :=
  br_c (fun _ => H 8 x27) (fun _ => H x23 x27)
theorem lv_751 {post : Int32 → Prop} {L : Nat} {xs : Nat → Int32} {J : Int32 → Int32 → Int32 → Nat → Nat → Int32 → Int32 → (Nat → Int32) → (Nat → Int32) → (Nat → Int32) → (Nat → Int32) → Int32 → Int32 → (Nat → Int32) → (Nat → Int32) → (Nat → Int32) → (Nat → Int32) → Prop} {kc ks P R : Nat} {a b d e d2 e2 : Nat → Int32} {o : Nat} {x7 : Int32} {x14 x15 x19 x20 x21 x23 x26 x28 z0 : Int32} (hP : P ≤ 256) (H : ∀ x23 x27, ∃ n, wL_law_833 post L xs J n (nI P) (nI R) x7 (nI o) x15 x19 x20 x21 x23 x27 0 kc ks (nI P) (nI R) a b d e (nI P) (nI R) a b d2 e2) : wL_law_751 post L xs J (nI P) (nI R) x7 (nI o) x14 x15 x19 x20 x21 x23 x26 x28 z0 kc ks (nI P) (nI R) a b d e (nI P) (nI R) a b d2 e2 :=
  br_c (fun _ => lv_819 H) (fun _ => lv_p hP (fun r => lv_819 H))
theorem lv_719 {post : Int32 → Prop} {L : Nat} {xs : Nat → Int32} {J : Int32 → Int32 → Int32 → Nat → Nat → Int32 → Int32 → (Nat → Int32) → (Nat → Int32) → (Nat → Int32) → (Nat → Int32) → Int32 → Int32 → (Nat → Int32) → (Nat → Int32) → (Nat → Int32) → (Nat → Int32) → Prop} {kc ks P R : Nat} {a b d e d2 e2 : Nat → Int32} {o : Nat} {x7 : Int32} {x14 x15 x19 x20 x21 x23 x25 x26 z0 : Int32} (hP : P ≤ 256) (H : ∀ x23 x27, ∃ n, wL_law_833 post L xs J n (nI P) (nI R) x7 (nI o) x15 x19 x20 x21 x23 x27 0 kc ks (nI P) (nI R) a b d e (nI P) (nI R) a b d2 e2) : wL_law_719 post L xs J (nI P) (nI R) x7 (nI o) x14 x15 x19 x20 x21 x23 x25 x26 z0 kc ks (nI P) (nI R) a b d e (nI P) (nI R) a b d2 e2 :=
  br_c (fun _ => br_c (fun _ => lv_751 hP H) (fun _ => lv_751 hP H)) (fun _ => lv_751 hP H)
theorem lv_661 {post : Int32 → Prop} {L : Nat} {xs : Nat → Int32} {J : Int32 → Int32 → Int32 → Nat → Nat → Int32 → Int32 → (Nat → Int32) → (Nat → Int32) → (Nat → Int32) → (Nat → Int32) → Int32 → Int32 → (Nat → Int32) → (Nat → Int32) → (Nat → Int32) → (Nat → Int32) → Prop} {kc ks P R : Nat} {a b d e d2 e2 : Nat → Int32} {o : Nat} {x7 : Int32} {x11 x12 x14 x15 x19 x20 x21 x23 x24 x25 z0 : Int32} (hP : P ≤ 256) (H : ∀ x23 x27, ∃ n, wL_law_833 post L xs J n (nI P) (nI R) x7 (nI o) x15 x19 x20 x21 x23 x27 0 kc ks (nI P) (nI R) a b d e (nI P) (nI R) a b d2 e2) : wL_law_661 post L xs J (nI P) (nI R) x7 x11 x12 (nI o) x14 x15 x19 x20 x21 x23 x24 x25 z0 kc ks (nI P) (nI R) a b d e (nI P) (nI R) a b d2 e2 :=
  br_c (fun _ => nm_e (lv_819 H)) (fun _ => br_c (fun _ => br_c (fun _ => lv_719 hP H) (fun _ => lv_b hP (fun r => lv_719 hP H))) (fun _ => br_c (fun _ => br_c (fun _ => lv_819 H) (fun _ => ⟨by decide, lv_819 H⟩)) (fun _ => lv_819 H)))
theorem lv_603 {post : Int32 → Prop} {L : Nat} {xs : Nat → Int32} {J : Int32 → Int32 → Int32 → Nat → Nat → Int32 → Int32 → (Nat → Int32) → (Nat → Int32) → (Nat → Int32) → (Nat → Int32) → Int32 → Int32 → (Nat → Int32) → (Nat → Int32) → (Nat → Int32) → (Nat → Int32) → Prop} {kc ks P R : Nat} {a b d e d2 e2 : Nat → Int32} {o : Nat} {x7 : Int32} {x11 x12 x14 x15 x19 x20 x21 : Int32} (hP : P ≤ 256) (H : ∀ x23 x27, ∃ n, wL_law_833 post L xs J n (nI P) (nI R) x7 (nI o) x15 x19 x20 x21 x23 x27 0 kc ks (nI P) (nI R) a b d e (nI P) (nI R) a b d2 e2) : wL_law_603 post L xs J (nI P) (nI R) x7 x11 x12 (nI o) x14 x15 x19 x20 x21 kc ks (nI P) (nI R) a b d e (nI P) (nI R) a b d2 e2 := by
  have h : ∀ z, wL_law_629 post L xs J (nI P) (nI R) x7 x11 x12 (nI o) x14 x15 x19 x20 x21 z kc ks (nI P) (nI R) a b d e (nI P) (nI R) a b d2 e2 := fun z =>
    nm_e ⟨by decide, nm_e (br_c (fun _ => lv_661 hP H) (fun _ => lv_661 hP H))⟩
  exact nm_e (br_c (fun _ => h _) (fun _ => h _))
theorem lv_421t {post : Int32 → Prop} {L : Nat} {xs : Nat → Int32} {J : Int32 → Int32 → Int32 → Nat → Nat → Int32 → Int32 → (Nat → Int32) → (Nat → Int32) → (Nat → Int32) → (Nat → Int32) → Int32 → Int32 → (Nat → Int32) → (Nat → Int32) → (Nat → Int32) → (Nat → Int32) → Prop} {kc ks P R : Nat} {a b d e d2 e2 : Nat → Int32} {o : Nat} {x7 : Int32} {x11 x12 x14 x15 x19 x20 : Int32} (hP : P ≤ 256) (H : ∀ v, wL_law_603 post L xs J (nI P) (nI R) x7 x11 x12 (nI o) x14 x15 x19 x20 v kc ks (nI P) (nI R) a b d e (nI P) (nI R) a b d2 e2) : ∀ (i : Nat) (s : Int32 × Int32), i ≤ P → wL_law_421 post L xs J (nI P) (nI R) x7 x11 x12 (nI o) x14 x15 x19 x20 kc ks (nI P) (nI R) a b d e (nI P) (nI R) a b d2 e2 (P + 1) s.1 s.2 (nI i) := by
  intro i s hi
  refine loop_i (fun n i (s : Int32 × Int32) => wL_law_421 post L xs J (nI P) (nI R) x7 x11 x12 (nI o) x14 x15 x19 x20 kc ks (nI P) (nI R) a b d e (nI P) (nI R) a b d2 e2 n s.1 s.2 (nI i)) (fun _ _ => True) P (fun n s _ => ?_) (fun n i s hi _ hw => ?_) (P + 1) i s hi (by omega) trivial
  · exact pk_le P P (fun _ => H _) (fun z => absurd z (by omega))
  · refine pk_le P i (fun z => absurd z (by omega)) (fun _ => br_c (fun _ => H _) (fun _ => lv_p hP (fun r => ?_)))
    have st : ∀ z, wL_law_452 post L xs J (wL_law_421 post L xs J (nI P) (nI R) x7 x11 x12 (nI o) x14 x15 x19 x20 kc ks (nI P) (nI R) a b d e (nI P) (nI R) a b d2 e2 n) (nI P) (nI R) x7 x11 x12 (nI o) x14 x15 x19 x20 s.1 (nI i) z kc ks (nI P) (nI R) a b d e (nI P) (nI R) a b d2 e2 := fun z =>
      br_c (fun _ => nm_r (nI_1 i) (hw (s.1, z) trivial)) (fun _ => nm_e (nm_r (nI_1 i) (hw (_, z) trivial)))
    exact br_c (fun _ => st _) (fun _ => st _)
theorem lv_421 {post : Int32 → Prop} {L : Nat} {xs : Nat → Int32} {J : Int32 → Int32 → Int32 → Nat → Nat → Int32 → Int32 → (Nat → Int32) → (Nat → Int32) → (Nat → Int32) → (Nat → Int32) → Int32 → Int32 → (Nat → Int32) → (Nat → Int32) → (Nat → Int32) → (Nat → Int32) → Prop} {kc ks P R : Nat} {a b d e d2 e2 : Nat → Int32} {o : Nat} {x7 : Int32} {x11 x12 x14 x15 x19 x20 : Int32} (hP : P ≤ 256) (hz : (∃ x, x < P ∧ x20 = nI x) ∨ x20 = -1) (H : ∀ v, (∀ x y, x20 = nI x → x19 = nI y → x < P → 1 ≤ y → y ≤ P → rg_AT a P x y v) → wL_law_603 post L xs J (nI P) (nI R) x7 x11 x12 (nI o) x14 x15 x19 x20 v kc ks (nI P) (nI R) a b d e (nI P) (nI R) a b d2 e2) : ∃ n, wL_law_421 post L xs J (nI P) (nI R) x7 x11 x12 (nI o) x14 x15 x19 x20 kc ks (nI P) (nI R) a b d e (nI P) (nI R) a b d2 e2 n (-1) 0 x20 := by
  rcases hz with ⟨x, hx, rfl⟩ | rfl
  · by_cases hy : ∃ y : Nat, 1 ≤ y ∧ y ≤ P ∧ x19 = nI y
    · obtain ⟨y, hy1, hy2, rfl⟩ := hy
      have H' : ∀ v, rg_AT a P x y v → wL_law_603 post L xs J (nI P) (nI R) x7 x11 x12 (nI o) x14 x15 (nI y) (nI x) v kc ks (nI P) (nI R) a b d e (nI P) (nI R) a b d2 e2 := fun v hv => H v (fun x' y' ex ey hx' _ hy' => by
        have e1 : x = x' := (nI_eq (by omega) (by omega)).mp ex
        have e2 : y = y' := (nI_eq (by omega) (by omega)).mp ey
        subst e1 e2
        exact hv)
      refine ⟨P + 1, loop_i (fun n i (s : Int32 × Int32) => wL_law_421 post L xs J (nI P) (nI R) x7 x11 x12 (nI o) x14 x15 (nI y) (nI x) kc ks (nI P) (nI R) a b d e (nI P) (nI R) a b d2 e2 n s.1 s.2 (nI i)) (fun i s => (∃ run, s = (-1, nI run) ∧ rg_IL a x y i run) ∨ (∃ t, s.1 = nI t ∧ x ≤ t ∧ t + y ≤ P ∧ rg_fr a t y ∧ ∀ t', x ≤ t' → t' < t → ¬ rg_fr a t' y)) P (fun n s hs => ?_) (fun n i s hi hs hw => ?_) (P + 1) x (-1, 0) (by omega) (by omega) (Or.inl ⟨0, rfl, rg_IL_0 a hy1⟩)⟩
      · refine pk_le P P (fun _ => H' _ ?_) (fun z => absurd z (by omega))
        rcases hs with ⟨run, rfl, h⟩ | ⟨t, e, h1, h2, h3, h4⟩
        · exact Or.inr ⟨h.2.2, rfl⟩
        · exact Or.inl ⟨t, h1, h2, h3, h4, e⟩
      · refine pk_le P i (fun z => absurd z (by omega)) (fun _ => ?_)
        rcases hs with ⟨run, rfl, h⟩ | ⟨t, e, h1, h2, h3, h4⟩
        · have hle := h.1.1
          refine br_f (show ¬ (0 : Int32) ≤ -1 by decide) (lr_pO hP hi (br_c (fun z => ?_) (fun z => ?_)))
          · show wL_law_452 post L xs J (wL_law_421 post L xs J (nI P) (nI R) x7 x11 x12 (nI o) x14 x15 (nI y) (nI x) kc ks (nI P) (nI R) a b d e (nI P) (nI R) a b d2 e2 n) (nI P) (nI R) x7 x11 x12 (nI o) x14 x15 (nI y) (nI x) (-1) (nI i) (nI run + 1) kc ks (nI P) (nI R) a b d e (nI P) (nI R) a b d2 e2
            rw [nI_1]
            refine pk_lt (run + 1) y (fun q => nm_r (nI_1 i) (hw (-1, nI (run + 1)) (Or.inl ⟨run + 1, rfl, rg_IL_f h z (by omega)⟩))) (fun q => ?_)
            have hl := h.2.1
            obtain ⟨w0, w1, w2, w3, w4⟩ := rg_IL_t h z (by omega) hi
            have e1 : nI i - nI y + 1 = nI (i + 1 - y) := by
              have : nI i - nI y + 1 = nI i + 1 - nI y := by grind
              rw [this, nI_1, pk_sub w0]
            exact nm_r e1 (nm_r (nI_1 i) (hw (nI (i + 1 - y), nI (run + 1)) (Or.inr ⟨i + 1 - y, rfl, w1, w2, w3, w4⟩)))
          · exact pk_lt 0 y (fun q => nm_r (nI_1 i) (hw (-1, nI 0) (Or.inl ⟨0, rfl, rg_IL_m h z hy1⟩))) (fun q => absurd q (by omega))
        · exact br_t (by rw [e]; exact rg_0le (by omega)) (H' _ (Or.inl ⟨t, h1, h2, h3, h4, e⟩))
    · exact ⟨_, lv_421t hP (fun v => H v (fun x' y' ex ey hx' hy1 hy2 => absurd ⟨y', hy1, hy2, ey⟩ hy)) x (-1, 0) (by omega)⟩
  · have H' : ∀ v, wL_law_603 post L xs J (nI P) (nI R) x7 x11 x12 (nI o) x14 x15 x19 (-1) v kc ks (nI P) (nI R) a b d e (nI P) (nI R) a b d2 e2 := fun v => H v (fun x' y' ex ey hx' hy1 hy2 => absurd ex (lr_m1 hP hx'))
    refine ⟨P + 1 + 1, br_f ?_ (br_f (by decide) (lv_p hP (fun r => ?_)))⟩
    · rw [Int32.le_iff_toInt_le, nI_toInt (by omega), show (-1 : Int32).toInt = -1 from by decide]
      omega
    · have st : ∀ z, wL_law_452 post L xs J (wL_law_421 post L xs J (nI P) (nI R) x7 x11 x12 (nI o) x14 x15 x19 (-1) kc ks (nI P) (nI R) a b d e (nI P) (nI R) a b d2 e2 (P + 1)) (nI P) (nI R) x7 x11 x12 (nI o) x14 x15 x19 (-1) (-1) (-1) z kc ks (nI P) (nI R) a b d e (nI P) (nI R) a b d2 e2 := fun z =>
        br_c (fun _ => nm_r (show (-1 : Int32) + 1 = nI 0 by decide) (lv_421t hP H' 0 (-1, z) (by omega))) (fun _ => nm_e (nm_r (show (-1 : Int32) + 1 = nI 0 by decide) (lv_421t hP H' 0 (_, z) (by omega))))
      exact br_c (fun _ => st _) (fun _ => st _)
theorem lv_499t {post : Int32 → Prop} {L : Nat} {xs : Nat → Int32} {J : Int32 → Int32 → Int32 → Nat → Nat → Int32 → Int32 → (Nat → Int32) → (Nat → Int32) → (Nat → Int32) → (Nat → Int32) → Int32 → Int32 → (Nat → Int32) → (Nat → Int32) → (Nat → Int32) → (Nat → Int32) → Prop} {kc ks P R : Nat} {a b d e d2 e2 : Nat → Int32} {o : Nat} {x7 : Int32} {x11 x12 x14 x15 x19 x20 : Int32} (hP : P ≤ 256) (H : ∀ v, wL_law_603 post L xs J (nI P) (nI R) x7 x11 x12 (nI o) x14 x15 x19 x20 v kc ks (nI P) (nI R) a b d e (nI P) (nI R) a b d2 e2) : ∀ (i : Nat) (s : Int32 × Int32), i ≤ 1000 → wL_law_499 post L xs J (nI P) (nI R) x7 x11 x12 (nI o) x14 x15 x19 x20 kc ks (nI P) (nI R) a b d e (nI P) (nI R) a b d2 e2 (i + 1) s.1 s.2 (nI i - 1) := by
  intro i s hi
  refine pk_loopD (fun n i (s : Int32 × Int32) => wL_law_499 post L xs J (nI P) (nI R) x7 x11 x12 (nI o) x14 x15 x19 x20 kc ks (nI P) (nI R) a b d e (nI P) (nI R) a b d2 e2 n s.1 s.2 (nI i - 1)) (fun i _ => i ≤ 1000) (fun n s _ => ?_) (fun n i s hi hw => ?_) i s hi
  · exact br_t (by decide) (H _)
  · show wL_law_499 post L xs J (nI P) (nI R) x7 x11 x12 (nI o) x14 x15 x19 x20 kc ks (nI P) (nI R) a b d e (nI P) (nI R) a b d2 e2 (n + 1) s.1 s.2 (nI (i + 1) - 1)
    rw [nI_pred]
    have em : nI i + (-1) = nI i - 1 := by grind
    refine br_f (nI_pos (by omega)) (br_c (fun _ => H _) (fun _ => lv_p hP (fun r => ?_)))
    have st : ∀ z, wL_law_529 post L xs J (wL_law_499 post L xs J (nI P) (nI R) x7 x11 x12 (nI o) x14 x15 x19 x20 kc ks (nI P) (nI R) a b d e (nI P) (nI R) a b d2 e2 n) (nI P) (nI R) x7 x11 x12 (nI o) x14 x15 x19 x20 s.1 (nI i) z kc ks (nI P) (nI R) a b d e (nI P) (nI R) a b d2 e2 := fun z =>
      br_c (fun _ => nm_r em (hw (s.1, z) (by omega))) (fun _ => nm_r em (hw (_, z) (by omega)))
    exact br_c (fun _ => st _) (fun _ => st _)
theorem lv_499 {post : Int32 → Prop} {L : Nat} {xs : Nat → Int32} {J : Int32 → Int32 → Int32 → Nat → Nat → Int32 → Int32 → (Nat → Int32) → (Nat → Int32) → (Nat → Int32) → (Nat → Int32) → Int32 → Int32 → (Nat → Int32) → (Nat → Int32) → (Nat → Int32) → (Nat → Int32) → Prop} {kc ks P R : Nat} {a b d e d2 e2 : Nat → Int32} {o : Nat} {x7 : Int32} {x11 x12 x14 x15 x19 x20 : Int32} (hP : P ≤ 256) (hz : (∃ x, x < P ∧ x15 = nI x) ∨ x15 = -1) (H : ∀ v, (∀ x y, nI P - x15 = nI x → x19 = nI y → 1 ≤ x → x ≤ P → 1 ≤ y → y ≤ P → rg_AH a x y v) → wL_law_603 post L xs J (nI P) (nI R) x7 x11 x12 (nI o) x14 x15 x19 x20 v kc ks (nI P) (nI R) a b d e (nI P) (nI R) a b d2 e2) : ∃ n, wL_law_499 post L xs J (nI P) (nI R) x7 x11 x12 (nI o) x14 x15 x19 x20 kc ks (nI P) (nI R) a b d e (nI P) (nI R) a b d2 e2 n (-1) 0 (nI P - x15 - 1) := by
  rcases hz with ⟨x, hx, rfl⟩ | rfl
  · have e0 : nI P - nI x = nI (P - x) := pk_sub (by omega)
    rw [e0] at H ⊢
    by_cases hy : ∃ y : Nat, 1 ≤ y ∧ y ≤ P ∧ x19 = nI y
    · obtain ⟨y, hy1, hy2, rfl⟩ := hy
      have H' : ∀ v, rg_AH a (P - x) y v → wL_law_603 post L xs J (nI P) (nI R) x7 x11 x12 (nI o) x14 (nI x) (nI y) x20 v kc ks (nI P) (nI R) a b d e (nI P) (nI R) a b d2 e2 := fun v hv => H v (fun x' y' ex ey _ hx' _ hy' => by
        have e1 : P - x = x' := (nI_eq (by omega) (by omega)).mp ex
        have e2 : y = y' := (nI_eq (by omega) (by omega)).mp ey
        subst e1 e2
        exact hv)
      refine ⟨P - x + 1, pk_loopD (fun n i (s : Int32 × Int32) => wL_law_499 post L xs J (nI P) (nI R) x7 x11 x12 (nI o) x14 (nI x) (nI y) x20 kc ks (nI P) (nI R) a b d e (nI P) (nI R) a b d2 e2 n s.1 s.2 (nI i - 1)) (fun i s => i ≤ P - x ∧ ((∃ run, s = (-1, nI run) ∧ rg_IH a (P - x) y i run) ∨ (∃ t, s.1 = nI t ∧ t + y ≤ P - x ∧ rg_fr a t y ∧ ∀ t', t < t' → t' + y ≤ P - x → ¬ rg_fr a t' y))) (fun n s hs => ?_) (fun n i s hs hw => ?_) (P - x) (-1, 0) ⟨Nat.le_refl _, Or.inl ⟨0, rfl, rg_IH_0 a hy1⟩⟩⟩
      · refine br_t (by decide) (H' _ ?_)
        rcases hs.2 with ⟨run, rfl, h⟩ | ⟨t, e, h2, h3, h4⟩
        · exact Or.inr ⟨fun t' e => h.2.2 t' (Nat.zero_le _) e, rfl⟩
        · exact Or.inl ⟨t, h2, h3, h4, e⟩
      · show wL_law_499 post L xs J (nI P) (nI R) x7 x11 x12 (nI o) x14 (nI x) (nI y) x20 kc ks (nI P) (nI R) a b d e (nI P) (nI R) a b d2 e2 (n + 1) s.1 s.2 (nI (i + 1) - 1)
        rw [nI_pred]
        have em : nI i + (-1) = nI i - 1 := by grind
        have hiP := hs.1
        refine br_f (nI_pos (by omega)) ?_
        rcases hs.2 with ⟨run, rfl, h⟩ | ⟨t, e, h2, h3, h4⟩
        · have hle := h.1.1
          refine br_f (show ¬ (0 : Int32) ≤ -1 by decide) (lr_pO hP (by omega) (br_c (fun z => ?_) (fun z => ?_)))
          · show wL_law_529 post L xs J (wL_law_499 post L xs J (nI P) (nI R) x7 x11 x12 (nI o) x14 (nI x) (nI y) x20 kc ks (nI P) (nI R) a b d e (nI P) (nI R) a b d2 e2 n) (nI P) (nI R) x7 x11 x12 (nI o) x14 (nI x) (nI y) x20 (-1) (nI i) (nI run + 1) kc ks (nI P) (nI R) a b d e (nI P) (nI R) a b d2 e2
            rw [nI_1]
            refine pk_lt (run + 1) y (fun q => nm_r em (hw (-1, nI (run + 1)) ⟨by omega, Or.inl ⟨run + 1, rfl, rg_IH_f h z (by omega)⟩⟩)) (fun q => ?_)
            have hl := h.2.1
            obtain ⟨w2, w3, w4⟩ := rg_IH_t h z (by omega)
            exact nm_r em (hw (nI i, nI (run + 1)) ⟨by omega, Or.inr ⟨i, rfl, w2, w3, w4⟩⟩)
          · exact pk_lt 0 y (fun q => nm_r em (hw (-1, nI 0) ⟨by omega, Or.inl ⟨0, rfl, rg_IH_m h z hy1⟩⟩)) (fun q => absurd q (by omega))
        · exact br_t (by rw [e]; exact rg_0le (by omega)) (H' _ (Or.inl ⟨t, h2, h3, h4, e⟩))
    · exact ⟨_, lv_499t hP (fun v => H v (fun x' y' ex ey _ hx' hy1 hy2 => absurd ⟨y', hy1, hy2, ey⟩ hy)) (P - x) (-1, 0) (by omega)⟩
  · have e0 : nI P - (-1) = nI (P + 1) := by
      have : nI P - (-1) = nI P + 1 := by grind
      rw [this, nI_1]
    rw [e0] at H ⊢
    exact ⟨_, lv_499t hP (fun v => H v (fun x' y' ex ey _ hx' hy1 hy2 => absurd ((nI_eq (by omega) (by omega)).mp ex) (by omega))) (P + 1) (-1, 0) (by omega)⟩
