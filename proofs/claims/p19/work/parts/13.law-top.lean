/-! the law's step from its head, its loop, the whole law -/
theorem lz_392 {post : Int32 → Prop} {L : Nat} {xs : Nat → Int32} {J : Int32 → Int32 → Int32 → Nat → Nat → Int32 → Int32 → (Nat → Int32) → (Nat → Int32) → (Nat → Int32) → (Nat → Int32) → Int32 → Int32 → (Nat → Int32) → (Nat → Int32) → (Nat → Int32) → (Nat → Int32) → Prop} {kc ks P R : Nat} {a b d e d2 e2 : Nat → Int32} {o : Nat} {x7 : Int32} {x11 x12 x14 x15 x19 x20 : Int32} (hP : P ≤ 256) (h1 : 1 ≤ P) (ho : o ≤ 8) (hf : o = 8 → ∀ j, j < P → a j = -6 ∧ b j = -6) (hz : (∃ x, x < P ∧ x15 = nI x) ∨ x15 = -1) (h7 : (o = 7 ∧ ∃ x, x < P ∧ x20 = nI x) ∨ (¬ o = 7 ∧ x20 = x15)) (H : ∀ x15 x19 x20 x21 x23 x27, lq_A P o a b x15 x19 x20 x21 → ∃ n, wL_law_833 post L xs J n (nI P) (nI R) x7 (nI o) x15 x19 x20 x21 x23 x27 0 kc ks (nI P) (nI R) a b d e (nI P) (nI R) a b d2 e2) : wL_law_392 post L xs J (nI P) (nI R) x7 x11 x12 (nI o) x14 x15 x19 x20 kc ks (nI P) (nI R) a b d e (nI P) (nI R) a b d2 e2 := by
  have K : ∀ v, lq_A P o a b x15 x19 x20 v → wL_law_603 post L xs J (nI P) (nI R) x7 x11 x12 (nI o) x14 x15 x19 x20 v kc ks (nI P) (nI R) a b d e (nI P) (nI R) a b d2 e2 := fun v hv => lv_603 hP (fun x23 x27 => H x15 x19 x20 v x23 x27 hv)
  have h20 : (∃ x, x < P ∧ x20 = nI x) ∨ x20 = -1 := by
    rcases h7 with ⟨_, h⟩ | ⟨_, rfl⟩
    · exact Or.inl h
    · exact hz
  refine pk_eq o 2 (fun y2 => ?_) (fun n2 => pk_eq o 7 (fun y7 => ?_) (fun n7 => pk_eq o 3 (fun y3 => ?_) (fun n3 => pk_eq o 6 (fun y6 => ?_) (fun n6 => ?_))))
  · refine lv_421 hP h20 (fun v hv => K v ⟨ho, fun z => by omega, fun _ => ?_, fun z => by omega, fun z => by omega, hf⟩)
    rcases h7 with ⟨h, _⟩ | ⟨_, rfl⟩
    · omega
    · exact hv
  · exact lv_421 hP h20 (fun v hv => K v ⟨ho, fun z => by omega, fun z => by omega, fun z => by omega, fun _ => hv, hf⟩)
  · exact nm_e (lv_499 hP hz (fun v hv => K v ⟨ho, fun z => by omega, fun z => by omega, fun _ => hv, fun z => by omega, hf⟩))
  · have K6 : ∀ v, wL_law_603 post L xs J (nI P) (nI R) x7 x11 x12 (nI o) x14 x15 x19 x20 v kc ks (nI P) (nI R) a b d e (nI P) (nI R) a b d2 e2 := fun v => K v ⟨ho, fun z => by omega, fun z => by omega, fun z => by omega, fun z => by omega, hf⟩
    refine br_c (fun _ => ⟨by decide, K6 _⟩) (fun _ => br_c (fun k => ⟨nI_ne0 (by omega) (by omega), K6 _⟩) (fun k => ⟨fun z => ?_, K6 _⟩))
    have ex : x19 = nI P + 1 := by grind
    rw [ex, nI_1, Int32.lt_iff_toInt_lt, nI_toInt (by omega), nI_toInt (by omega)] at k
    omega
  · exact K x15 ⟨ho, fun _ => rfl, fun z => by omega, fun z => by omega, fun z => by omega, hf⟩
theorem lz_374 {post : Int32 → Prop} {L : Nat} {xs : Nat → Int32} {J : Int32 → Int32 → Int32 → Nat → Nat → Int32 → Int32 → (Nat → Int32) → (Nat → Int32) → (Nat → Int32) → (Nat → Int32) → Int32 → Int32 → (Nat → Int32) → (Nat → Int32) → (Nat → Int32) → (Nat → Int32) → Prop} {kc ks P R : Nat} {a b d e d2 e2 : Nat → Int32} {o : Nat} {x7 : Int32} {x11 x12 x14 x15 x19 : Int32} (hP : P ≤ 256) (h1 : 1 ≤ P) (ho : o ≤ 8) (hf : o = 8 → ∀ j, j < P → a j = -6 ∧ b j = -6) (hz : (∃ x, x < P ∧ x15 = nI x) ∨ x15 = -1) (H : ∀ x15 x19 x20 x21 x23 x27, lq_A P o a b x15 x19 x20 x21 → ∃ n, wL_law_833 post L xs J n (nI P) (nI R) x7 (nI o) x15 x19 x20 x21 x23 x27 0 kc ks (nI P) (nI R) a b d e (nI P) (nI R) a b d2 e2) : wL_law_374 post L xs J (nI P) (nI R) x7 x11 x12 (nI o) x14 x15 x19 kc ks (nI P) (nI R) a b d e (nI P) (nI R) a b d2 e2 :=
  pk_eq o 7 (fun e => lv_mod h1 (by omega) (fun k hk => lz_392 hP h1 ho hf hz (Or.inl ⟨e, k, hk, rfl⟩) H)) (fun e => lz_392 hP h1 ho hf hz (Or.inr ⟨e, rfl⟩) H)
theorem lz_353 {post : Int32 → Prop} {L : Nat} {xs : Nat → Int32} {J : Int32 → Int32 → Int32 → Nat → Nat → Int32 → Int32 → (Nat → Int32) → (Nat → Int32) → (Nat → Int32) → (Nat → Int32) → Int32 → Int32 → (Nat → Int32) → (Nat → Int32) → (Nat → Int32) → (Nat → Int32) → Prop} {kc ks P R : Nat} {a b d e d2 e2 : Nat → Int32} {o : Nat} {x7 : Int32} {x11 x12 x14 x15 x19 : Int32} (hP : P ≤ 256) (h1 : 1 ≤ P) (ho : o ≤ 8) (hf : o = 8 → ∀ j, j < P → a j = -6 ∧ b j = -6) (hz : (∃ x, x < P ∧ x15 = nI x) ∨ x15 = -1) (H : ∀ x15 x19 x20 x21 x23 x27, lq_A P o a b x15 x19 x20 x21 → ∃ n, wL_law_833 post L xs J n (nI P) (nI R) x7 (nI o) x15 x19 x20 x21 x23 x27 0 kc ks (nI P) (nI R) a b d e (nI P) (nI R) a b d2 e2) : wL_law_353 post L xs J (nI P) (nI R) x7 x11 x12 (nI o) x14 x15 x19 kc ks (nI P) (nI R) a b d e (nI P) (nI R) a b d2 e2 := by
  have h : ∀ y, ((∃ x, x < P ∧ y = nI x) ∨ y = -1) → wL_law_363 post L xs J (nI P) (nI R) x7 x11 x12 (nI o) x14 y x19 kc ks (nI P) (nI R) a b d e (nI P) (nI R) a b d2 e2 := fun y hy =>
    br_c (fun _ => lz_374 hP h1 ho hf hy H) (fun _ => lz_374 hP h1 ho hf hy H)
  exact br_c (fun _ => h _ (Or.inr rfl)) (fun _ => h _ hz)
theorem lz_334 {post : Int32 → Prop} {L : Nat} {xs : Nat → Int32} {J : Int32 → Int32 → Int32 → Nat → Nat → Int32 → Int32 → (Nat → Int32) → (Nat → Int32) → (Nat → Int32) → (Nat → Int32) → Int32 → Int32 → (Nat → Int32) → (Nat → Int32) → (Nat → Int32) → (Nat → Int32) → Prop} {kc ks P R : Nat} {a b d e d2 e2 : Nat → Int32} {o : Nat} {x7 : Int32} {x11 x12 x14 x15 z0 z1 z2 : Int32} (hP : P ≤ 256) (h1 : 1 ≤ P) (ho : o ≤ 8) (hf : o = 8 → ∀ j, j < P → a j = -6 ∧ b j = -6) (hz : (∃ x, x < P ∧ x15 = nI x) ∨ x15 = -1) (h0 : ¬ z0 = 0) (H : ∀ x15 x19 x20 x21 x23 x27, lq_A P o a b x15 x19 x20 x21 → ∃ n, wL_law_833 post L xs J n (nI P) (nI R) x7 (nI o) x15 x19 x20 x21 x23 x27 0 kc ks (nI P) (nI R) a b d e (nI P) (nI R) a b d2 e2) : wL_law_334 post L xs J (nI P) (nI R) x7 x11 x12 (nI o) x14 x15 z0 z1 z2 kc ks (nI P) (nI R) a b d e (nI P) (nI R) a b d2 e2 :=
  ⟨h0, nm_e (br_c (fun _ => nm_e (lz_353 hP h1 ho hf hz H)) (fun _ => lz_353 hP h1 ho hf hz H))⟩
theorem lz_294 {post : Int32 → Prop} {L : Nat} {xs : Nat → Int32} {J : Int32 → Int32 → Int32 → Nat → Nat → Int32 → Int32 → (Nat → Int32) → (Nat → Int32) → (Nat → Int32) → (Nat → Int32) → Int32 → Int32 → (Nat → Int32) → (Nat → Int32) → (Nat → Int32) → (Nat → Int32) → Prop} {kc ks P R : Nat} {a b d e d2 e2 : Nat → Int32} {o : Nat} {x7 : Int32} {x10 x11 x12 x14 x15 x16 : Int32} (hP : P ≤ 256) (h1 : 1 ≤ P) (ho : o ≤ 8) (hf : o = 8 → ∀ j, j < P → a j = -6 ∧ b j = -6) (hz : ∃ x, x < P ∧ x15 = nI x) (h16 : ∃ w, 1 ≤ w ∧ w ≤ 1000 ∧ x16 = nI w) (H : ∀ x15 x19 x20 x21 x23 x27, lq_A P o a b x15 x19 x20 x21 → ∃ n, wL_law_833 post L xs J n (nI P) (nI R) x7 (nI o) x15 x19 x20 x21 x23 x27 0 kc ks (nI P) (nI R) a b d e (nI P) (nI R) a b d2 e2) : wL_law_294 post L xs J (nI P) (nI R) x7 x10 x11 x12 (nI o) x14 x15 x16 kc ks (nI P) (nI R) a b d e (nI P) (nI R) a b d2 e2 := by
  obtain ⟨w, hw1, hw2, rfl⟩ := h16
  have h : ∀ z0, ¬ z0 = 0 → wL_law_315 post L xs J (nI P) (nI R) x7 x10 x11 x12 (nI o) x14 x15 (nI w) z0 kc ks (nI P) (nI R) a b d e (nI P) (nI R) a b d2 e2 := fun z0 hz0 =>
    br_c (fun _ => lz_334 hP h1 ho hf (Or.inl hz) hz0 H) (fun _ => lz_334 hP h1 ho hf (Or.inl hz) (nI_ne0 (by omega) (by omega)) H)
  have hPz : ¬ nI P = 0 := nI_ne0 (by omega) (by omega)
  refine br_c (fun _ => h _ hPz) (fun _ => br_c (fun _ => h _ hPz) (fun _ => ⟨by decide, h _ ?_⟩))
  have e : (1 : Int32) + nI P / 4 = nI (1 + P / 4) := by
    have e4 : nI P / 4 = nI (P / 4) := pk_div (a := P) (d := 4) (by omega) (by omega) (by omega)
    rw [e4]
    exact nI_add 1 (P / 4)
  rw [e]
  exact nI_ne0 (by omega) (by omega)
theorem lz_256 {post : Int32 → Prop} {L : Nat} {xs : Nat → Int32} {J : Int32 → Int32 → Int32 → Nat → Nat → Int32 → Int32 → (Nat → Int32) → (Nat → Int32) → (Nat → Int32) → (Nat → Int32) → Int32 → Int32 → (Nat → Int32) → (Nat → Int32) → (Nat → Int32) → (Nat → Int32) → Prop} {kc ks P R : Nat} {a b d e d2 e2 : Nat → Int32} {o : Nat} {x7 : Int32} {x10 x11 x12 x14 x15 x17 : Int32} (hP : P ≤ 256) (h1 : 1 ≤ P) (ho : o ≤ 8) (hf : o = 8 → ∀ j, j < P → a j = -6 ∧ b j = -6) (hz : ∃ x, x < P ∧ x15 = nI x) (H : ∀ x15 x19 x20 x21 x23 x27, lq_A P o a b x15 x19 x20 x21 → ∃ n, wL_law_833 post L xs J n (nI P) (nI R) x7 (nI o) x15 x19 x20 x21 x23 x27 0 kc ks (nI P) (nI R) a b d e (nI P) (nI R) a b d2 e2) : ∃ n, wL_law_256 post L xs J (nI P) (nI R) x7 x10 x11 x12 (nI o) x14 x15 x17 kc ks (nI P) (nI R) a b d e (nI P) (nI R) a b d2 e2 n 1 := by
  obtain ⟨x, hx, rfl⟩ := hz
  refine pk_loop (σ := Unit) (fun n w _ => wL_law_256 post L xs J (nI P) (nI R) x7 x10 x11 x12 (nI o) x14 (nI x) x17 kc ks (nI P) (nI R) a b d e (nI P) (nI R) a b d2 e2 n (nI w)) (fun w _ => 1 ≤ w) (P - x) 1 () (by omega) (Nat.le_refl _) (fun n _ hw => ?_) (fun n w _ hi hw hn => ?_)
  · exact pk_le P (x + (P - x)) (fun _ => lz_294 hP h1 ho hf ⟨x, hx, rfl⟩ ⟨P - x, hw, by omega, rfl⟩ H) (fun z => absurd z (by omega)) (hy := nI_add x (P - x))
  · refine pk_le P (x + w) (fun z => absurd z (by omega)) (fun _ => lv_p hP (fun r => ?_)) (hy := nI_add x w)
    have st : ∀ z, wL_law_283 post L xs J (wL_law_256 post L xs J (nI P) (nI R) x7 x10 x11 x12 (nI o) x14 (nI x) x17 kc ks (nI P) (nI R) a b d e (nI P) (nI R) a b d2 e2 n) (nI P) (nI R) x7 x10 x11 x12 (nI o) x14 (nI x) (nI w) x17 z kc ks (nI P) (nI R) a b d e (nI P) (nI R) a b d2 e2 := fun z =>
      br_c (fun _ => nm_r (nI_1 w) (hn () (by omega))) (fun _ => lz_294 hP h1 ho hf ⟨x, hx, rfl⟩ ⟨w, hw, by omega, rfl⟩ H)
    exact br_c (fun _ => st _) (fun _ => st _)
theorem lz_213 {post : Int32 → Prop} {L : Nat} {xs : Nat → Int32} {J : Int32 → Int32 → Int32 → Nat → Nat → Int32 → Int32 → (Nat → Int32) → (Nat → Int32) → (Nat → Int32) → (Nat → Int32) → Int32 → Int32 → (Nat → Int32) → (Nat → Int32) → (Nat → Int32) → (Nat → Int32) → Prop} {kc ks P R : Nat} {a b d e d2 e2 : Nat → Int32} {o : Nat} {x7 : Int32} {x10 x11 x12 x14 x15 x17 : Int32} (hP : P ≤ 256) (h1 : 1 ≤ P) (ho : o ≤ 8) (hf : o = 8 → ∀ j, j < P → a j = -6 ∧ b j = -6) (hz : ∃ x, x < P ∧ x15 = nI x) (H : ∀ x15 x19 x20 x21 x23 x27, lq_A P o a b x15 x19 x20 x21 → ∃ n, wL_law_833 post L xs J n (nI P) (nI R) x7 (nI o) x15 x19 x20 x21 x23 x27 0 kc ks (nI P) (nI R) a b d e (nI P) (nI R) a b d2 e2) : ∃ n, wL_law_213 post L xs J (nI P) (nI R) x7 x10 x11 x12 (nI o) x14 x17 kc ks (nI P) (nI R) a b d e (nI P) (nI R) a b d2 e2 n x15 0 := by
  obtain ⟨x, hx, rfl⟩ := hz
  refine pk_loop (fun n k (s : Nat) => wL_law_213 post L xs J (nI P) (nI R) x7 x10 x11 x12 (nI o) x14 x17 kc ks (nI P) (nI R) a b d e (nI P) (nI R) a b d2 e2 n (nI s) (nI k)) (fun _ s => s < P) P 0 x (Nat.zero_le _) hx (fun n s hs => ?_) (fun n k s hk hs hn => ?_)
  · exact pk_le P P (fun _ => lz_256 hP h1 ho hf ⟨s, hs, rfl⟩ H) (fun z => absurd z (by omega))
  · refine pk_le P k (fun z => absurd z (by omega)) (fun _ => lv_p hP (fun r => ?_))
    have e1 : nI s + 1 - (nI s + 1) / nI P * nI P = nI ((s + 1) % P) := by
      rw [nI_1]
      exact pk_rem (by omega) (by omega) (by omega)
    have st : ∀ z, wL_law_234 post L xs J (wL_law_213 post L xs J (nI P) (nI R) x7 x10 x11 x12 (nI o) x14 x17 kc ks (nI P) (nI R) a b d e (nI P) (nI R) a b d2 e2 n) (nI P) (nI R) x7 x10 x11 x12 (nI o) x14 (nI s) x17 (nI k) z kc ks (nI P) (nI R) a b d e (nI P) (nI R) a b d2 e2 := fun z =>
      br_c (fun _ => lz_256 hP h1 ho hf ⟨s, hs, rfl⟩ H) (fun _ => ⟨nI_ne0 (by omega) (by omega), nm_r e1 (nm_r (nI_1 k) (hn _ (Nat.mod_lt _ (by omega))))⟩)
    exact br_c (fun _ => st _) (fun _ => st _)
theorem lz_147 {post : Int32 → Prop} {L : Nat} {xs : Nat → Int32} {J : Int32 → Int32 → Int32 → Nat → Nat → Int32 → Int32 → (Nat → Int32) → (Nat → Int32) → (Nat → Int32) → (Nat → Int32) → Int32 → Int32 → (Nat → Int32) → (Nat → Int32) → (Nat → Int32) → (Nat → Int32) → Prop} {kc ks P R : Nat} {a b d e d2 e2 : Nat → Int32} {o : Nat} {x7 : Int32} {x8 x9 x10 x11 x12 : Int32} (hP : P ≤ 256) (h1 : 1 ≤ P) (ho : o ≤ 8) (hf : o = 8 → ∀ j, j < P → a j = -6 ∧ b j = -6) (H : ∀ x15 x19 x20 x21 x23 x27, lq_A P o a b x15 x19 x20 x21 → ∃ n, wL_law_833 post L xs J n (nI P) (nI R) x7 (nI o) x15 x19 x20 x21 x23 x27 0 kc ks (nI P) (nI R) a b d e (nI P) (nI R) a b d2 e2) : wL_law_147 post L xs J (nI P) (nI R) x7 x8 x9 x10 x11 x12 (nI o) kc ks (nI P) (nI R) a b d e (nI P) (nI R) a b d2 e2 := by
  refine nm_e (lv_mod h1 (by omega) (fun k hk => nm_r (pk_sub (by omega)) ?_))
  have a294 : ∀ x14, wL_law_294 post L xs J (nI P) (nI R) x7 x10 x11 x12 (nI o) x14 (nI k) (nI (P - k)) kc ks (nI P) (nI R) a b d e (nI P) (nI R) a b d2 e2 := fun x14 => lz_294 hP h1 ho hf ⟨k, hk, rfl⟩ ⟨P - k, by omega, by omega, rfl⟩ H
  have a203 : ∀ x14 x17, wL_law_203 post L xs J (nI P) (nI R) x7 x10 x11 x12 (nI o) x14 (nI k) (nI (P - k)) x17 kc ks (nI P) (nI R) a b d e (nI P) (nI R) a b d2 e2 := fun x14 x17 => br_c (fun _ => a294 _) (fun _ => lz_213 hP h1 ho hf ⟨k, hk, rfl⟩ H)
  have a183 : ∀ x14 z, wL_law_183 post L xs J (nI P) (nI R) x7 x10 x11 x12 (nI o) x14 (nI k) (nI (P - k)) z kc ks (nI P) (nI R) a b d e (nI P) (nI R) a b d2 e2 := fun x14 z => br_c (fun _ => a203 _ _) (fun _ => br_c (fun _ => a294 _) (fun _ => br_c (fun _ => a294 _) (fun _ => a203 _ _)))
  exact br_c (fun _ => a183 _ _) (fun _ => a183 _ _)
theorem lz_cell {post : Int32 → Prop} {L : Nat} {xs : Nat → Int32} {x : Int32} (k : Nat) (hL : L ≤ 260) (hk : k < 100000) (hx : x = nI k) (h : ∀ r, post r) : wpL_cell post L xs () x := by
  subst hx
  exact pk_le L k (fun _ => h 0) (fun z => ⟨vp_in_nI z (by omega), h _⟩)
theorem lz_84 {post : Int32 → Prop} {L : Nat} {xs : Nat → Int32} {J : Int32 → Int32 → Int32 → Nat → Nat → Int32 → Int32 → (Nat → Int32) → (Nat → Int32) → (Nat → Int32) → (Nat → Int32) → Int32 → Int32 → (Nat → Int32) → (Nat → Int32) → (Nat → Int32) → (Nat → Int32) → Prop} {kc ks P R i : Nat} {a b d e d2 e2 : Nat → Int32} (hL : L ≤ 260) (hi : i ≤ 1000) (hP : P ≤ 256) (h1 : 1 ≤ P) (hR : R ≤ 32) (hV : lq_V P a b) (hok : rg_ok P R a b) (hf : i = 0 → ∀ j, j < P → a j = -6 ∧ b j = -6)
    (HJ0 : nI i = 0 → ∀ a' b' D E D2 E2, lq_V P a' b' → rg_ok P R a' b' → J (nI P) (nI R) 2 kc ks (nI P) (nI R) a' b' D E (nI P) (nI R) a' b' D2 E2) (HJ1 : ¬ nI i = 0 → ∀ a' b' D E D2 E2, lq_V P a' b' → rg_ok P R a' b' → J (nI P) (nI R) (nI i + 5) kc ks (nI P) (nI R) a' b' D E (nI P) (nI R) a' b' D2 E2) : wL_law_84 post L xs J (nI P) (nI R) (nI i) kc ks (nI P) (nI R) a b d e (nI P) (nI R) a b d2 e2 := by
  have M : ∀ o, o ≤ 8 → (o = 8 → i = 0) → ∀ x8 x9 x10 x11 x12, wL_law_147 post L xs J (nI P) (nI R) (nI i) x8 x9 x10 x11 x12 (nI o) kc ks (nI P) (nI R) a b d e (nI P) (nI R) a b d2 e2 := fun o ho h8 x8 x9 x10 x11 x12 =>
    lz_147 hP h1 ho (fun z => hf (h8 z)) (fun x15 x19 x20 x21 x23 x27 hA => lu_833 hP hR hV hok HJ0 HJ1 hA)
  unfold wL_law_84
  refine lz_cell i hL (by omega) rfl (fun c0 => lz_cell (i + 1) hL (by omega) (nI_add i 1) (fun c1 => lz_cell (i + 2) hL (by omega) (nI_add i 2) (fun c2 => lz_cell (i + 3) hL (by omega) (nI_add i 3) (fun c3 => lz_cell (i + 4) hL (by omega) (nI_add i 4) (fun c4 => ?_)))))
  refine pk_eq i 0 (fun z => M 8 (Nat.le_refl _) (fun _ => z) _ _ _ _ _) (fun z => ?_)
  obtain ⟨o, ho, eo⟩ := pk_andE c0 (m := 7) 3 (by decide)
  rw [eo]
  exact M o (by omega) (fun y => by omega) _ _ _ _ _
theorem lz_72 {post : Int32 → Prop} {L : Nat} {xs : Nat → Int32} {kc ks P R : Nat} (hp : post 1) (hL : L ≤ 260) (hP : P ≤ 256) (h1 : 1 ≤ P) (hR : R ≤ 32) : ∀ (n i : Nat), 1 ≤ i → i ≤ 500 → L < i + n → 1 ≤ n → ∀ a b d e d2 e2, lq_V P a b → rg_ok P R a b → wL_law_72 post L xs n (nI P) (nI R) (nI i) kc ks (nI P) (nI R) a b d e (nI P) (nI R) a b d2 e2 := by
  intro n
  induction n with
  | zero => intro i _ _ _ h; omega
  | succ n ih =>
    intro i hi1 hi2 hn _ a b d e d2 e2 hV hok
    refine br_f (nI_ne0 (by omega) (by omega)) (pk_le L i (fun _ => hp) (fun z => ?_))
    refine lz_84 hL (by omega) hP h1 hR hV hok (fun z => by omega) (fun z => absurd z (nI_ne0 (by omega) (by omega))) (fun _ a' b' D E D2 E2 hV' hok' => ?_)
    rw [show nI i + 5 = nI (i + 5) from nI_add i 5]
    exact ih (i + 5) (by omega) (by omega) (by omega) (by omega) a' b' D E D2 E2 hV' hok'
/-- a new object's arrays -/
def lz_0 : Nat → Int32 := rg_on 0 256 (fun _ => -6) (fun _ => 0)
theorem lz_0f {P : Nat} (hP : P ≤ 256) : ∀ j, j < P → lz_0 j = -6 ∧ lz_0 j = -6 := fun j hj => by
  have h : lz_0 j = -6 := rg_on_t ⟨Nat.zero_le _, by omega⟩
  exact ⟨h, h⟩
theorem lz_0ok {P R : Nat} (hP : P ≤ 256) : rg_ok P R lz_0 lz_0 := by
  unfold rg_ok
  rw [rg_cn_z.mpr (fun i hi => lq_st_f (lz_0f hP (0 + i) (by omega)).1)]
  exact Nat.zero_le _
theorem lz_i66 {post : St2 → Prop} {mc ms kc ks P R : Nat} (h : ∀ D E, post (nI P, nI R, lz_0, lz_0, D, E)) : ∃ n, wX_init_66 post mc ms kc ks (nI P) (nI R) n 0 (fun _ => 0) (fun _ => 0) (fun _ => 0) (fun _ => 0) := by
  refine pk_loop (fun n i (t : (Nat → Int32) × (Nat → Int32)) => wX_init_66 post mc ms kc ks (nI P) (nI R) n (nI i) t.1 t.2 (fun _ => 0) (fun _ => 0)) (fun i t => rg_F 0 i (fun _ => -6) (fun _ => 0) t.1 ∧ rg_F 0 i (fun _ => -6) (fun _ => 0) t.2) 256 0 (fun _ => 0, fun _ => 0) (Nat.zero_le _) ⟨rg_F_0 _ _ _, rg_F_0 _ _ _⟩
    (fun n t ht => pk_le 256 256 (fun _ => ?_) (fun z => absurd z (by omega)))
    (fun n i t hi ht hw => pk_le 256 i (fun z => absurd z (by omega)) (fun _ => ⟨pk_in i 256 hi, nm_e ⟨pk_in i 256 hi, nm_e (nm_r (nI_1 i) (hw (_, _) ⟨rg_F_s ht.1 (Nat.zero_le _) (nI_clamp (by omega)) rfl, rg_F_s ht.2 (Nat.zero_le _) (nI_clamp (by omega)) rfl⟩))⟩⟩))
  have ex : ∀ n : Nat → Int32, rg_F 0 256 (fun _ => -6) (fun _ => 0) n → n = lz_0 := fun n hn => by
    funext j
    by_cases e : 0 ≤ j ∧ j < 0 + 256
    · exact (hn.1 j e.1 (by omega)).trans (rg_on_t (g := fun _ => -6) (a := fun _ => 0) e).symm
    · exact (hn.2 j (by omega)).trans (rg_on_f (g := fun _ => -6) (a := fun _ => 0) e).symm
  rw [ex _ ht.1, ex _ ht.2]
  exact h _ _
theorem lz_16 : (16 : Int32) = nI 16 := by decide
theorem lz_2 : (2 : Int32) = nI 2 := by decide
theorem lz_32 : (32 : Int32) = nI 32 := by decide
theorem lz_cl {x lo hi : Int32} {l h : Nat} (el : lo = nI l) (eh : hi = nI h) (hl : l ≤ h) (hh : h < 2 ^ 31) (h1 : lo ≤ x) (h2 : x ≤ hi) : ∃ n : Nat, l ≤ n ∧ n ≤ h ∧ x = nI n := by
  subst el eh
  rw [Int32.le_iff_toInt_le, nI_toInt (by omega)] at h1 h2
  obtain ⟨n, hn, rfl, fn⟩ := rg_nat (x := x) (by omega)
  exact ⟨n, by omega, by omega, rfl⟩
theorem lz_clamp (x : Int32) {lo hi : Int32} {l h : Nat} (el : lo = nI l) (eh : hi = nI h) (hl : l ≤ h) (hh : h < 2 ^ 31) : ∃ n : Nat, l ≤ n ∧ n ≤ h ∧ (∀ post : Int32 → Prop, post (nI n) → wpL_clamp post () x lo hi) ∧ (∀ post : Int32 → Prop, post (nI n) → wpX_clamp post () x lo hi) := by
  by_cases h1 : lo ≤ x
  · by_cases h2 : x ≤ hi
    · obtain ⟨n, hn1, hn2, rfl⟩ := lz_cl el eh hl hh h1 h2
      exact ⟨n, hn1, hn2, fun post hp => br_t h1 (br_t h2 hp), fun post hp => br_t h1 (br_t h2 hp)⟩
    · subst eh
      exact ⟨h, hl, Nat.le_refl _, fun post hp => br_t h1 (br_f h2 hp), fun post hp => br_t h1 (br_f h2 hp)⟩
  · subst el
    exact ⟨l, Nat.le_refl _, hl, fun post hp => br_f h1 hp, fun post hp => br_f h1 hp⟩
theorem lz_init {post : St2 → Prop} {P R : Nat} {x1 x2 : Int32} (hx : ∀ post : Int32 → Prop, post (nI P) → wpX_clamp post () x1 16 256) (hr : ∀ post : Int32 → Prop, post (nI R) → wpX_clamp post () x2 2 32) (h : ∀ D E, post (nI P, nI R, lz_0, lz_0, D, E)) : wpX_init post 4 1024 (0, 0) x1 x2 := by
  unfold wpX_init
  exact ⟨by omega, by omega, by omega, by omega, by omega, by omega, by omega, by omega, hx _ (hr _ (lz_i66 h))⟩
theorem i_vc (xs : Nat → Int32) (L : Nat) (hL : L ≤ 260) : wpL_law (fun r => r = 1) L xs := by
  unfold wpL_law
  refine lz_cell 0 hL (by omega) rfl (fun r1 => ⟨by decide, nm_e (lz_cell 1 hL (by omega) rfl (fun r4 => ⟨by decide, nm_e ?_⟩))⟩)
  obtain ⟨P, hP1, hP, hPl, hPx⟩ := lz_clamp ((r1 &&& 2147483647) - (r1 &&& 2147483647) / 300 * 300 - 10) lz_16 rg_n256 (by omega) (by omega)
  obtain ⟨R, hR1, hR, hRl, hRx⟩ := lz_clamp ((r4 &&& 2147483647) - (r4 &&& 2147483647) / 40 * 40 - 2) lz_2 lz_32 (by omega) (by omega)
  refine hPl _ (hRl _ ⟨4, 1024, by omega, by omega, lz_init hPx hRx (fun D E => ⟨by omega, by omega, 4, 1024, by omega, by omega, lz_init hPx hRx (fun D2 E2 => ?_)⟩)⟩)
  refine ⟨L + 2, br_t rfl ?_⟩
  refine lz_84 (i := 0) hL (by omega) hP (by omega) hR (fun j hj => Or.inl (lz_0f hP j hj)) (lz_0ok hP) (fun _ => lz_0f hP) (fun _ a' b' D' E' D2' E2' hV' hok' => ?_) (fun z => absurd rfl z)
  exact lz_72 (post := fun r => r = 1) rfl hL hP (by omega) hR (L + 1) 2 (by omega) (by omega) (by omega) (by omega) a' b' D' E' D2' E2' hV' hok'
