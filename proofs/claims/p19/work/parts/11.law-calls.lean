/-! a step's two turns and its end, one theorem a call -/
theorem lu_end {post : Int32 → Prop} {L : Nat} {xs : Nat → Int32} {J : Int32 → Int32 → Int32 → Nat → Nat → Int32 → Int32 → (Nat → Int32) → (Nat → Int32) → (Nat → Int32) → (Nat → Int32) → Int32 → Int32 → (Nat → Int32) → (Nat → Int32) → (Nat → Int32) → (Nat → Int32) → Prop} {kc ks P R : Nat} {a b d e d2 e2 : Nat → Int32} {x7 x13 x15 x19 x20 x21 x23 x27 : Int32} (hP : P ≤ 256) (hR : R ≤ 32) (hV : lq_V P a b) (hok : rg_ok P R a b) (HJ0 : x7 = 0 → ∀ a' b' D E D2 E2, lq_V P a' b' → rg_ok P R a' b' → J (nI P) (nI R) 2 kc ks (nI P) (nI R) a' b' D E (nI P) (nI R) a' b' D2 E2) (HJ1 : ¬ x7 = 0 → ∀ a' b' D E D2 E2, lq_V P a' b' → rg_ok P R a' b' → J (nI P) (nI R) (x7 + 5) kc ks (nI P) (nI R) a' b' D E (nI P) (nI R) a' b' D2 E2) : wL_law_833 post L xs J 1 (nI P) (nI R) x7 x13 x15 x19 x20 x21 x23 x27 2 kc ks (nI P) (nI R) a b d e (nI P) (nI R) a b d2 e2 := by
  have hle := rg_cn_le (rg_st a b) 0 P
  exact br_t (by decide) (rx_rc hP (br_f (nI_pos (by omega)) (br_t (nI_le hok (by omega)) (lr_1346 hP hV (fun z => HJ0 z _ _ _ _ _ _ hV hok) (fun z => HJ1 z _ _ _ _ _ _ hV hok)))))
theorem lu_0 {post : Int32 → Prop} {L : Nat} {xs : Nat → Int32} {J : Int32 → Int32 → Int32 → Nat → Nat → Int32 → Int32 → (Nat → Int32) → (Nat → Int32) → (Nat → Int32) → (Nat → Int32) → Int32 → Int32 → (Nat → Int32) → (Nat → Int32) → (Nat → Int32) → (Nat → Int32) → Prop} {kc ks P R : Nat} {a b d e d2 e2 : Nat → Int32} {x7 x15 x19 x20 x21 x23 x27 : Int32} (hP : P ≤ 256) (hR : R ≤ 32) (hV : lq_V P a b) (hok : rg_ok P R a b) (HJ0 : x7 = 0 → ∀ a' b' D E D2 E2, lq_V P a' b' → rg_ok P R a' b' → J (nI P) (nI R) 2 kc ks (nI P) (nI R) a' b' D E (nI P) (nI R) a' b' D2 E2) (HJ1 : ¬ x7 = 0 → ∀ a' b' D E D2 E2, lq_V P a' b' → rg_ok P R a' b' → J (nI P) (nI R) (x7 + 5) kc ks (nI P) (nI R) a' b' D E (nI P) (nI R) a' b' D2 E2) (e21 : x21 = x15) : wL_law_833 post L xs J 3 (nI P) (nI R) x7 0 x15 x19 x20 x21 x23 x27 0 kc ks (nI P) (nI R) a b d e (nI P) (nI R) a b d2 e2 := by
  subst x21
  obtain ⟨r, a', b', H⟩ := sd_mapNew P R a b x15 x19 x23 x27
  obtain ⟨hV', hok', hF⟩ := (H _).mp (lq_mapNew hP hV hok)
  have at0 : lq_Ef P a b x19 x15 x23 x27 a' b' → (0 : Int32) ≤ x15 := by
    intro hE
    obtain ⟨t, l, e21, _, hl, _⟩ := hE
    rw [e21]
    exact rg_0le (by omega)
  have T1 : ∀ D E, wL_law_833 post L xs J 2 (nI P) (nI R) x7 0 x15 x19 x20 x15 x23 x27 1 kc ks (nI P) (nI R) a' b' D E (nI P) (nI R) a b d2 e2 := by
    intro D E
    refine br_f (by decide) (br_f rg_10 ?_)
    unfold wL_law_851
    refine br_f rg_10 ?_
    unfold wL_law_865
    refine br_t rfl (rx_mapNew hP hR ((H _).mpr (fun D2 E2 => ?_)))
    have fin := lc_turn1 (post := post) (L := L) (xs := xs) (J := J) (J8 := wL_law_833 post L xs J 1) (kc := kc) (ks := ks) (f1 := nI R) (g1 := nI R) (d := D) (e := E) (d2 := D2) (e2 := E2) (x4 := nI R) (x7 := x7) (x13 := 0) (x15 := x15) (x19 := x19) (x20 := x20) (x21 := x15) (x23 := x23) (x27 := x27) (x31 := r) hP (rfl : a' = a') (rfl : b' = b') (lu_end hP hR hV' hok' HJ0 HJ1)
    rcases hF with ⟨hn, _⟩ | ⟨hn, hE⟩
    · exact br_t hn fin
    · exact br_f hn (br_t (at0 hE) fin)
  refine br_f (by decide) (br_t rfl ?_)
  unfold wL_law_851_2
  refine br_t rfl ?_
  unfold wL_law_865_4
  refine br_t rfl (rx_mapNew hP hR ((H _).mpr (fun D E => ?_)))
  rcases hF with ⟨hn, ea, eb⟩ | ⟨hn, hE⟩
  · exact br_t hn (lc_turn0 hP (by decide) (T1 D E) (fun K p hp hK => lc_neg hP hn ea eb hp hK))
  · exact br_f hn (br_t (at0 hE) (lc_turn0 hP (by decide) (T1 D E) (fun K p hp hK => lc_fill (o := 0) hP (by omega) rfl hn hE hp hK)))
theorem lu_1 {post : Int32 → Prop} {L : Nat} {xs : Nat → Int32} {J : Int32 → Int32 → Int32 → Nat → Nat → Int32 → Int32 → (Nat → Int32) → (Nat → Int32) → (Nat → Int32) → (Nat → Int32) → Int32 → Int32 → (Nat → Int32) → (Nat → Int32) → (Nat → Int32) → (Nat → Int32) → Prop} {kc ks P R : Nat} {a b d e d2 e2 : Nat → Int32} {x7 x15 x19 x20 x21 x23 x27 : Int32} (hP : P ≤ 256) (hR : R ≤ 32) (hV : lq_V P a b) (hok : rg_ok P R a b) (HJ0 : x7 = 0 → ∀ a' b' D E D2 E2, lq_V P a' b' → rg_ok P R a' b' → J (nI P) (nI R) 2 kc ks (nI P) (nI R) a' b' D E (nI P) (nI R) a' b' D2 E2) (HJ1 : ¬ x7 = 0 → ∀ a' b' D E D2 E2, lq_V P a' b' → rg_ok P R a' b' → J (nI P) (nI R) (x7 + 5) kc ks (nI P) (nI R) a' b' D E (nI P) (nI R) a' b' D2 E2) (e21 : x21 = x15) : wL_law_833 post L xs J 3 (nI P) (nI R) x7 1 x15 x19 x20 x21 x23 x27 0 kc ks (nI P) (nI R) a b d e (nI P) (nI R) a b d2 e2 := by
  subst x21
  obtain ⟨r, a', b', H⟩ := sd_mapOver P R a b x15 x19 x23 x27
  obtain ⟨hV', hok', hF⟩ := (H _).mp (lq_mapOver hP hV hok)
  have at0 : lq_Ef P a b x19 x15 x23 x27 a' b' → (0 : Int32) ≤ x15 := by
    intro hE
    obtain ⟨t, l, e21, _, hl, _⟩ := hE
    rw [e21]
    exact rg_0le (by omega)
  have T1 : ∀ D E, wL_law_833 post L xs J 2 (nI P) (nI R) x7 1 x15 x19 x20 x15 x23 x27 1 kc ks (nI P) (nI R) a' b' D E (nI P) (nI R) a b d2 e2 := by
    intro D E
    refine br_f (by decide) (br_f rg_10 ?_)
    unfold wL_law_851
    refine br_f rg_10 ?_
    unfold wL_law_865
    refine br_f (by decide) (br_t rfl (rx_mapOver hP hR ((H _).mpr (fun D2 E2 => ?_))))
    have fin := lc_turn1 (post := post) (L := L) (xs := xs) (J := J) (J8 := wL_law_833 post L xs J 1) (kc := kc) (ks := ks) (f1 := nI R) (g1 := nI R) (d := D) (e := E) (d2 := D2) (e2 := E2) (x4 := nI R) (x7 := x7) (x13 := 1) (x15 := x15) (x19 := x19) (x20 := x20) (x21 := x15) (x23 := x23) (x27 := x27) (x31 := r) hP (rfl : a' = a') (rfl : b' = b') (lu_end hP hR hV' hok' HJ0 HJ1)
    rcases hF with ⟨hn, _⟩ | ⟨hn, hE⟩
    · exact br_t hn fin
    · exact br_f hn (br_t (at0 hE) fin)
  refine br_f (by decide) (br_t rfl ?_)
  unfold wL_law_851_2
  refine br_t rfl ?_
  unfold wL_law_865_4
  refine br_f (by decide) (br_t rfl (rx_mapOver hP hR ((H _).mpr (fun D E => ?_))))
  rcases hF with ⟨hn, ea, eb⟩ | ⟨hn, hE⟩
  · exact br_t hn (lc_turn0 hP (by decide) (T1 D E) (fun K p hp hK => lc_neg hP hn ea eb hp hK))
  · exact br_f hn (br_t (at0 hE) (lc_turn0 hP (by decide) (T1 D E) (fun K p hp hK => lc_fill (o := 1) hP (by omega) rfl hn hE hp hK)))
theorem lu_2 {post : Int32 → Prop} {L : Nat} {xs : Nat → Int32} {J : Int32 → Int32 → Int32 → Nat → Nat → Int32 → Int32 → (Nat → Int32) → (Nat → Int32) → (Nat → Int32) → (Nat → Int32) → Int32 → Int32 → (Nat → Int32) → (Nat → Int32) → (Nat → Int32) → (Nat → Int32) → Prop} {kc ks P R : Nat} {a b d e d2 e2 : Nat → Int32} {x7 x15 x19 x20 x21 x23 x27 : Int32} (hP : P ≤ 256) (hR : R ≤ 32) (hV : lq_V P a b) (hok : rg_ok P R a b) (HJ0 : x7 = 0 → ∀ a' b' D E D2 E2, lq_V P a' b' → rg_ok P R a' b' → J (nI P) (nI R) 2 kc ks (nI P) (nI R) a' b' D E (nI P) (nI R) a' b' D2 E2) (HJ1 : ¬ x7 = 0 → ∀ a' b' D E D2 E2, lq_V P a' b' → rg_ok P R a' b' → J (nI P) (nI R) (x7 + 5) kc ks (nI P) (nI R) a' b' D E (nI P) (nI R) a' b' D2 E2) (ha : ∀ x y, x15 = nI x → x19 = nI y → x < P → 1 ≤ y → y ≤ P → rg_AT a P x y x21) : wL_law_833 post L xs J 3 (nI P) (nI R) x7 2 x15 x19 x20 x21 x23 x27 0 kc ks (nI P) (nI R) a b d e (nI P) (nI R) a b d2 e2 := by
  obtain ⟨r, a', b', H⟩ := sd_mapLow P R a b x15 x19 x23 x27
  obtain ⟨hV', hok', hF⟩ := (H _).mp (lq_mapLow hP hV hok ha)
  have at0 : lq_Ef P a b x19 x21 x23 x27 a' b' → (0 : Int32) ≤ x21 := by
    intro hE
    obtain ⟨t, l, e21, _, hl, _⟩ := hE
    rw [e21]
    exact rg_0le (by omega)
  have T1 : ∀ D E, wL_law_833 post L xs J 2 (nI P) (nI R) x7 2 x15 x19 x20 x21 x23 x27 1 kc ks (nI P) (nI R) a' b' D E (nI P) (nI R) a b d2 e2 := by
    intro D E
    refine br_f (by decide) (br_f rg_10 ?_)
    unfold wL_law_851
    refine br_f rg_10 ?_
    unfold wL_law_865
    refine br_f (by decide) (br_f (by decide) (br_t rfl (rx_mapLow hP hR ((H _).mpr (fun D2 E2 => ?_)))))
    have fin := lc_turn1 (post := post) (L := L) (xs := xs) (J := J) (J8 := wL_law_833 post L xs J 1) (kc := kc) (ks := ks) (f1 := nI R) (g1 := nI R) (d := D) (e := E) (d2 := D2) (e2 := E2) (x4 := nI R) (x7 := x7) (x13 := 2) (x15 := x15) (x19 := x19) (x20 := x20) (x21 := x21) (x23 := x23) (x27 := x27) (x31 := r) hP (rfl : a' = a') (rfl : b' = b') (lu_end hP hR hV' hok' HJ0 HJ1)
    rcases hF with ⟨hn, _⟩ | ⟨hn, hE⟩
    · exact br_t hn fin
    · exact br_f hn (br_t (at0 hE) fin)
  refine br_f (by decide) (br_t rfl ?_)
  unfold wL_law_851_2
  refine br_t rfl ?_
  unfold wL_law_865_4
  refine br_f (by decide) (br_f (by decide) (br_t rfl (rx_mapLow hP hR ((H _).mpr (fun D E => ?_)))))
  rcases hF with ⟨hn, ea, eb⟩ | ⟨hn, hE⟩
  · exact br_t hn (lc_turn0 hP (by decide) (T1 D E) (fun K p hp hK => lc_neg hP hn ea eb hp hK))
  · exact br_f hn (br_t (at0 hE) (lc_turn0 hP (by decide) (T1 D E) (fun K p hp hK => lc_fill (o := 2) hP (by omega) rfl hn hE hp hK)))
theorem lu_3 {post : Int32 → Prop} {L : Nat} {xs : Nat → Int32} {J : Int32 → Int32 → Int32 → Nat → Nat → Int32 → Int32 → (Nat → Int32) → (Nat → Int32) → (Nat → Int32) → (Nat → Int32) → Int32 → Int32 → (Nat → Int32) → (Nat → Int32) → (Nat → Int32) → (Nat → Int32) → Prop} {kc ks P R : Nat} {a b d e d2 e2 : Nat → Int32} {x7 x15 x19 x20 x21 x23 x27 : Int32} (hP : P ≤ 256) (hR : R ≤ 32) (hV : lq_V P a b) (hok : rg_ok P R a b) (HJ0 : x7 = 0 → ∀ a' b' D E D2 E2, lq_V P a' b' → rg_ok P R a' b' → J (nI P) (nI R) 2 kc ks (nI P) (nI R) a' b' D E (nI P) (nI R) a' b' D2 E2) (HJ1 : ¬ x7 = 0 → ∀ a' b' D E D2 E2, lq_V P a' b' → rg_ok P R a' b' → J (nI P) (nI R) (x7 + 5) kc ks (nI P) (nI R) a' b' D E (nI P) (nI R) a' b' D2 E2) (ha : ∀ x y, nI P - x15 = nI x → x19 = nI y → 1 ≤ x → x ≤ P → 1 ≤ y → y ≤ P → rg_AH a x y x21) : wL_law_833 post L xs J 3 (nI P) (nI R) x7 3 x15 x19 x20 x21 x23 x27 0 kc ks (nI P) (nI R) a b d e (nI P) (nI R) a b d2 e2 := by
  obtain ⟨r, a', b', H⟩ := sd_mapHigh P R a b (nI P - x15) x19 x23 x27
  obtain ⟨hV', hok', hF⟩ := (H _).mp (lq_mapHigh hP hV hok ha)
  have at0 : lq_Ef P a b x19 x21 x23 x27 a' b' → (0 : Int32) ≤ x21 := by
    intro hE
    obtain ⟨t, l, e21, _, hl, _⟩ := hE
    rw [e21]
    exact rg_0le (by omega)
  have T1 : ∀ D E, wL_law_833 post L xs J 2 (nI P) (nI R) x7 3 x15 x19 x20 x21 x23 x27 1 kc ks (nI P) (nI R) a' b' D E (nI P) (nI R) a b d2 e2 := by
    intro D E
    refine br_f (by decide) (br_f rg_10 ?_)
    unfold wL_law_851
    refine br_f rg_10 ?_
    unfold wL_law_865
    refine br_f (by decide) (br_f (by decide) (br_f (by decide) (br_t rfl (rx_mapHigh hP hR ((H _).mpr (fun D2 E2 => ?_))))))
    have fin := lc_turn1 (post := post) (L := L) (xs := xs) (J := J) (J8 := wL_law_833 post L xs J 1) (kc := kc) (ks := ks) (f1 := nI R) (g1 := nI R) (d := D) (e := E) (d2 := D2) (e2 := E2) (x4 := nI R) (x7 := x7) (x13 := 3) (x15 := x15) (x19 := x19) (x20 := x20) (x21 := x21) (x23 := x23) (x27 := x27) (x31 := r) hP (rfl : a' = a') (rfl : b' = b') (lu_end hP hR hV' hok' HJ0 HJ1)
    rcases hF with ⟨hn, _⟩ | ⟨hn, hE⟩
    · exact br_t hn fin
    · exact br_f hn (br_t (at0 hE) fin)
  refine br_f (by decide) (br_t rfl ?_)
  unfold wL_law_851_2
  refine br_t rfl ?_
  unfold wL_law_865_4
  refine br_f (by decide) (br_f (by decide) (br_f (by decide) (br_t rfl (rx_mapHigh hP hR ((H _).mpr (fun D E => ?_))))))
  rcases hF with ⟨hn, ea, eb⟩ | ⟨hn, hE⟩
  · exact br_t hn (lc_turn0 hP (by decide) (T1 D E) (fun K p hp hK => lc_neg hP hn ea eb hp hK))
  · exact br_f hn (br_t (at0 hE) (lc_turn0 hP (by decide) (T1 D E) (fun K p hp hK => lc_fill (o := 3) hP (by omega) rfl hn hE hp hK)))
theorem lu_4 {post : Int32 → Prop} {L : Nat} {xs : Nat → Int32} {J : Int32 → Int32 → Int32 → Nat → Nat → Int32 → Int32 → (Nat → Int32) → (Nat → Int32) → (Nat → Int32) → (Nat → Int32) → Int32 → Int32 → (Nat → Int32) → (Nat → Int32) → (Nat → Int32) → (Nat → Int32) → Prop} {kc ks P R : Nat} {a b d e d2 e2 : Nat → Int32} {x7 x15 x19 x20 x21 x23 x27 : Int32} (hP : P ≤ 256) (hR : R ≤ 32) (hV : lq_V P a b) (hok : rg_ok P R a b) (HJ0 : x7 = 0 → ∀ a' b' D E D2 E2, lq_V P a' b' → rg_ok P R a' b' → J (nI P) (nI R) 2 kc ks (nI P) (nI R) a' b' D E (nI P) (nI R) a' b' D2 E2) (HJ1 : ¬ x7 = 0 → ∀ a' b' D E D2 E2, lq_V P a' b' → rg_ok P R a' b' → J (nI P) (nI R) (x7 + 5) kc ks (nI P) (nI R) a' b' D E (nI P) (nI R) a' b' D2 E2) (e21 : x21 = x15) : wL_law_833 post L xs J 3 (nI P) (nI R) x7 4 x15 x19 x20 x21 x23 x27 0 kc ks (nI P) (nI R) a b d e (nI P) (nI R) a b d2 e2 := by
  subst x21
  obtain ⟨r, a', b', H⟩ := sd_unmap P R a b x15 x19
  obtain ⟨hV', hok', hF⟩ := (H _).mp (lq_unmap hP hV hok)
  have at0 : lq_Eu P a b x15 x19 a' b' → (0 : Int32) ≤ x15 := by
    intro hE
    obtain ⟨t, l, e21, _, hl, _⟩ := hE
    rw [e21]
    exact rg_0le (by omega)
  have T1 : ∀ D E, wL_law_833 post L xs J 2 (nI P) (nI R) x7 4 x15 x19 x20 x15 x23 x27 1 kc ks (nI P) (nI R) a' b' D E (nI P) (nI R) a b d2 e2 := by
    intro D E
    refine br_f (by decide) (br_f rg_10 ?_)
    unfold wL_law_851
    refine br_f rg_10 ?_
    unfold wL_law_865
    refine br_f (by decide) (br_f (by decide) (br_f (by decide) (br_f (by decide) (br_t rfl (rx_unmap hP hR ((H _).mpr (fun D2 E2 => ?_)))))))
    have fin := lc_turn1 (post := post) (L := L) (xs := xs) (J := J) (J8 := wL_law_833 post L xs J 1) (kc := kc) (ks := ks) (f1 := nI R) (g1 := nI R) (d := D) (e := E) (d2 := D2) (e2 := E2) (x4 := nI R) (x7 := x7) (x13 := 4) (x15 := x15) (x19 := x19) (x20 := x20) (x21 := x15) (x23 := x23) (x27 := x27) (x31 := r) hP (rfl : a' = a') (rfl : b' = b') (lu_end hP hR hV' hok' HJ0 HJ1)
    rcases hF with ⟨hn, _⟩ | ⟨hn, hE⟩
    · exact br_t hn fin
    · exact br_f hn (br_t (at0 hE) fin)
  refine br_f (by decide) (br_t rfl ?_)
  unfold wL_law_851_2
  refine br_t rfl ?_
  unfold wL_law_865_4
  refine br_f (by decide) (br_f (by decide) (br_f (by decide) (br_f (by decide) (br_t rfl (rx_unmap hP hR ((H _).mpr (fun D E => ?_)))))))
  rcases hF with ⟨hn, ea, eb⟩ | ⟨hn, hE⟩
  · exact br_t hn (lc_turn0 hP (by decide) (T1 D E) (fun K p hp hK => lc_neg hP hn ea eb hp hK))
  · exact br_f hn (br_t (at0 hE) (lc_turn0 hP (by decide) (T1 D E) (fun K p hp hK => lc_unmap hP rfl rfl hn hE hp hK)))
theorem lu_5 {post : Int32 → Prop} {L : Nat} {xs : Nat → Int32} {J : Int32 → Int32 → Int32 → Nat → Nat → Int32 → Int32 → (Nat → Int32) → (Nat → Int32) → (Nat → Int32) → (Nat → Int32) → Int32 → Int32 → (Nat → Int32) → (Nat → Int32) → (Nat → Int32) → (Nat → Int32) → Prop} {kc ks P R : Nat} {a b d e d2 e2 : Nat → Int32} {x7 x15 x19 x20 x21 x23 x27 : Int32} (hP : P ≤ 256) (hR : R ≤ 32) (hV : lq_V P a b) (hok : rg_ok P R a b) (HJ0 : x7 = 0 → ∀ a' b' D E D2 E2, lq_V P a' b' → rg_ok P R a' b' → J (nI P) (nI R) 2 kc ks (nI P) (nI R) a' b' D E (nI P) (nI R) a' b' D2 E2) (HJ1 : ¬ x7 = 0 → ∀ a' b' D E D2 E2, lq_V P a' b' → rg_ok P R a' b' → J (nI P) (nI R) (x7 + 5) kc ks (nI P) (nI R) a' b' D E (nI P) (nI R) a' b' D2 E2) (e21 : x21 = x15) : wL_law_833 post L xs J 3 (nI P) (nI R) x7 5 x15 x19 x20 x21 x23 x27 0 kc ks (nI P) (nI R) a b d e (nI P) (nI R) a b d2 e2 := by
  subst x21
  obtain ⟨r, a', b', H⟩ := sd_protect P R a b x15 x19 x23
  obtain ⟨hV', hok', hF⟩ := (H _).mp (lq_protect hP hV hok)
  have at0 : lq_Ep P a b x15 x19 x23 a' b' → (0 : Int32) ≤ x15 := by
    intro hE
    obtain ⟨t, l, e21, _, hl, _⟩ := hE
    rw [e21]
    exact rg_0le (by omega)
  have T1 : ∀ D E, wL_law_833 post L xs J 2 (nI P) (nI R) x7 5 x15 x19 x20 x15 x23 x27 1 kc ks (nI P) (nI R) a' b' D E (nI P) (nI R) a b d2 e2 := by
    intro D E
    refine br_f (by decide) (br_f rg_10 ?_)
    unfold wL_law_851
    refine br_f rg_10 ?_
    unfold wL_law_865
    refine br_f (by decide) (br_f (by decide) (br_f (by decide) (br_f (by decide) (br_f (by decide) (br_t rfl (rx_protect hP hR ((H _).mpr (fun D2 E2 => ?_))))))))
    have fin := lc_turn1 (post := post) (L := L) (xs := xs) (J := J) (J8 := wL_law_833 post L xs J 1) (kc := kc) (ks := ks) (f1 := nI R) (g1 := nI R) (d := D) (e := E) (d2 := D2) (e2 := E2) (x4 := nI R) (x7 := x7) (x13 := 5) (x15 := x15) (x19 := x19) (x20 := x20) (x21 := x15) (x23 := x23) (x27 := x27) (x31 := r) hP (rfl : a' = a') (rfl : b' = b') (lu_end hP hR hV' hok' HJ0 HJ1)
    rcases hF with ⟨hn, _⟩ | ⟨hn, hE⟩
    · exact br_t hn fin
    · exact br_f hn (br_t (at0 hE) fin)
  refine br_f (by decide) (br_t rfl ?_)
  unfold wL_law_851_2
  refine br_t rfl ?_
  unfold wL_law_865_4
  refine br_f (by decide) (br_f (by decide) (br_f (by decide) (br_f (by decide) (br_f (by decide) (br_t rfl (rx_protect hP hR ((H _).mpr (fun D E => ?_))))))))
  rcases hF with ⟨hn, ea, eb⟩ | ⟨hn, hE⟩
  · exact br_t hn (lc_turn0 hP (by decide) (T1 D E) (fun K p hp hK => lc_neg hP hn ea eb hp hK))
  · exact br_f hn (br_t (at0 hE) (lc_turn0 hP (by decide) (T1 D E) (fun K p hp hK => lc_prot hP rfl rfl hn hE hp hK)))
theorem lu_6 {post : Int32 → Prop} {L : Nat} {xs : Nat → Int32} {J : Int32 → Int32 → Int32 → Nat → Nat → Int32 → Int32 → (Nat → Int32) → (Nat → Int32) → (Nat → Int32) → (Nat → Int32) → Int32 → Int32 → (Nat → Int32) → (Nat → Int32) → (Nat → Int32) → (Nat → Int32) → Prop} {kc ks P R : Nat} {a b d e d2 e2 : Nat → Int32} {x7 x15 x19 x20 x21 x23 x27 : Int32} (hP : P ≤ 256) (hR : R ≤ 32) (hV : lq_V P a b) (hok : rg_ok P R a b) (HJ0 : x7 = 0 → ∀ a' b' D E D2 E2, lq_V P a' b' → rg_ok P R a' b' → J (nI P) (nI R) 2 kc ks (nI P) (nI R) a' b' D E (nI P) (nI R) a' b' D2 E2) (HJ1 : ¬ x7 = 0 → ∀ a' b' D E D2 E2, lq_V P a' b' → rg_ok P R a' b' → J (nI P) (nI R) (x7 + 5) kc ks (nI P) (nI R) a' b' D E (nI P) (nI R) a' b' D2 E2)  : wL_law_833 post L xs J 3 (nI P) (nI R) x7 6 x15 x19 x20 x21 x23 x27 0 kc ks (nI P) (nI R) a b d e (nI P) (nI R) a b d2 e2 := by
  obtain ⟨r, a', b', H⟩ := sd_move P R a b x15 x19 x21
  obtain ⟨hV', hok', hF⟩ := (H _).mp (lq_move hP hV hok)
  have at0 : lq_Em P a b x15 x19 x21 a' b' → (0 : Int32) ≤ x21 := by
    intro hE
    obtain ⟨s, l, t, _, _, e21, hl, ht, _⟩ := hE
    rw [e21]
    exact rg_0le (by omega)
  have T1 : ∀ D E, wL_law_833 post L xs J 2 (nI P) (nI R) x7 6 x15 x19 x20 x21 x23 x27 1 kc ks (nI P) (nI R) a' b' D E (nI P) (nI R) a b d2 e2 := by
    intro D E
    refine br_f (by decide) (br_f rg_10 ?_)
    unfold wL_law_851
    refine br_f rg_10 ?_
    unfold wL_law_865
    refine br_f (by decide) (br_f (by decide) (br_f (by decide) (br_f (by decide) (br_f (by decide) (br_f (by decide) (br_t rfl (rx_move hP hR ((H _).mpr (fun D2 E2 => ?_)))))))))
    have fin := lc_turn1 (post := post) (L := L) (xs := xs) (J := J) (J8 := wL_law_833 post L xs J 1) (kc := kc) (ks := ks) (f1 := nI R) (g1 := nI R) (d := D) (e := E) (d2 := D2) (e2 := E2) (x4 := nI R) (x7 := x7) (x13 := 6) (x15 := x15) (x19 := x19) (x20 := x20) (x21 := x21) (x23 := x23) (x27 := x27) (x31 := r) hP (rfl : a' = a') (rfl : b' = b') (lu_end hP hR hV' hok' HJ0 HJ1)
    rcases hF with ⟨hn, _⟩ | ⟨hn, hE⟩
    · exact br_t hn fin
    · exact br_f hn (br_t (at0 hE) fin)
  refine br_f (by decide) (br_t rfl ?_)
  unfold wL_law_851_2
  refine br_t rfl ?_
  unfold wL_law_865_4
  refine br_f (by decide) (br_f (by decide) (br_f (by decide) (br_f (by decide) (br_f (by decide) (br_f (by decide) (br_t rfl (rx_move hP hR ((H _).mpr (fun D E => ?_)))))))))
  rcases hF with ⟨hn, ea, eb⟩ | ⟨hn, hE⟩
  · exact br_t hn (lc_turn0 hP (by decide) (T1 D E) (fun K p hp hK => lc_neg hP hn ea eb hp hK))
  · exact br_f hn (br_t (at0 hE) (lc_turn0 hP (by decide) (T1 D E) (fun K p hp hK => lc_move hP (Or.inl rfl) hn hE hp hK)))
theorem lu_7 {post : Int32 → Prop} {L : Nat} {xs : Nat → Int32} {J : Int32 → Int32 → Int32 → Nat → Nat → Int32 → Int32 → (Nat → Int32) → (Nat → Int32) → (Nat → Int32) → (Nat → Int32) → Int32 → Int32 → (Nat → Int32) → (Nat → Int32) → (Nat → Int32) → (Nat → Int32) → Prop} {kc ks P R : Nat} {a b d e d2 e2 : Nat → Int32} {x7 x15 x19 x20 x21 x23 x27 : Int32} (hP : P ≤ 256) (hR : R ≤ 32) (hV : lq_V P a b) (hok : rg_ok P R a b) (HJ0 : x7 = 0 → ∀ a' b' D E D2 E2, lq_V P a' b' → rg_ok P R a' b' → J (nI P) (nI R) 2 kc ks (nI P) (nI R) a' b' D E (nI P) (nI R) a' b' D2 E2) (HJ1 : ¬ x7 = 0 → ∀ a' b' D E D2 E2, lq_V P a' b' → rg_ok P R a' b' → J (nI P) (nI R) (x7 + 5) kc ks (nI P) (nI R) a' b' D E (nI P) (nI R) a' b' D2 E2) (ha : ∀ x y, x20 = nI x → x19 = nI y → x < P → 1 ≤ y → y ≤ P → rg_AT a P x y x21) : wL_law_833 post L xs J 3 (nI P) (nI R) x7 7 x15 x19 x20 x21 x23 x27 0 kc ks (nI P) (nI R) a b d e (nI P) (nI R) a b d2 e2 := by
  obtain ⟨r, a', b', H⟩ := sd_moveFree P R a b x15 x19 x20
  obtain ⟨hV', hok', hF⟩ := (H _).mp (lq_moveFree hP hV hok ha)
  have at0 : lq_Em P a b x15 x19 x21 a' b' → (0 : Int32) ≤ x21 := by
    intro hE
    obtain ⟨s, l, t, _, _, e21, hl, ht, _⟩ := hE
    rw [e21]
    exact rg_0le (by omega)
  have T1 : ∀ D E, wL_law_833 post L xs J 2 (nI P) (nI R) x7 7 x15 x19 x20 x21 x23 x27 1 kc ks (nI P) (nI R) a' b' D E (nI P) (nI R) a b d2 e2 := by
    intro D E
    refine br_f (by decide) (br_f rg_10 ?_)
    unfold wL_law_851
    refine br_f rg_10 ?_
    unfold wL_law_865
    refine br_f (by decide) (br_f (by decide) (br_f (by decide) (br_f (by decide) (br_f (by decide) (br_f (by decide) (br_f (by decide) (br_t rfl (rx_moveFree hP hR ((H _).mpr (fun D2 E2 => ?_))))))))))
    have fin := lc_turn1 (post := post) (L := L) (xs := xs) (J := J) (J8 := wL_law_833 post L xs J 1) (kc := kc) (ks := ks) (f1 := nI R) (g1 := nI R) (d := D) (e := E) (d2 := D2) (e2 := E2) (x4 := nI R) (x7 := x7) (x13 := 7) (x15 := x15) (x19 := x19) (x20 := x20) (x21 := x21) (x23 := x23) (x27 := x27) (x31 := r) hP (rfl : a' = a') (rfl : b' = b') (lu_end hP hR hV' hok' HJ0 HJ1)
    rcases hF with ⟨hn, _⟩ | ⟨hn, hE⟩
    · exact br_t hn fin
    · exact br_f hn (br_t (at0 hE) fin)
  refine br_f (by decide) (br_t rfl ?_)
  unfold wL_law_851_2
  refine br_t rfl ?_
  unfold wL_law_865_4
  refine br_f (by decide) (br_f (by decide) (br_f (by decide) (br_f (by decide) (br_f (by decide) (br_f (by decide) (br_f (by decide) (br_t rfl (rx_moveFree hP hR ((H _).mpr (fun D E => ?_))))))))))
  rcases hF with ⟨hn, ea, eb⟩ | ⟨hn, hE⟩
  · exact br_t hn (lc_turn0 hP (by decide) (T1 D E) (fun K p hp hK => lc_neg hP hn ea eb hp hK))
  · exact br_f hn (br_t (at0 hE) (lc_turn0 hP (by decide) (T1 D E) (fun K p hp hK => lc_move hP (Or.inr rfl) hn hE hp hK)))
theorem lu_8 {post : Int32 → Prop} {L : Nat} {xs : Nat → Int32} {J : Int32 → Int32 → Int32 → Nat → Nat → Int32 → Int32 → (Nat → Int32) → (Nat → Int32) → (Nat → Int32) → (Nat → Int32) → Int32 → Int32 → (Nat → Int32) → (Nat → Int32) → (Nat → Int32) → (Nat → Int32) → Prop} {kc ks P R : Nat} {a b d e d2 e2 : Nat → Int32} {x7 x15 x19 x20 x21 x23 x27 : Int32} (hP : P ≤ 256) (hR : R ≤ 32) (hV : lq_V P a b) (hok : rg_ok P R a b) (HJ0 : x7 = 0 → ∀ a' b' D E D2 E2, lq_V P a' b' → rg_ok P R a' b' → J (nI P) (nI R) 2 kc ks (nI P) (nI R) a' b' D E (nI P) (nI R) a' b' D2 E2) (HJ1 : ¬ x7 = 0 → ∀ a' b' D E D2 E2, lq_V P a' b' → rg_ok P R a' b' → J (nI P) (nI R) (x7 + 5) kc ks (nI P) (nI R) a' b' D E (nI P) (nI R) a' b' D2 E2) (hf : ∀ j, j < P → a j = -6 ∧ b j = -6) : wL_law_833 post L xs J 3 (nI P) (nI R) x7 8 x15 x19 x20 x21 x23 x27 0 kc ks (nI P) (nI R) a b d e (nI P) (nI R) a b d2 e2 := by
  have T1 : wL_law_833 post L xs J 2 (nI P) (nI R) x7 8 x15 x19 x20 x21 x23 x27 1 kc ks (nI P) (nI R) a b d e (nI P) (nI R) a b d2 e2 := by
    refine br_f (by decide) (br_f rg_10 ?_)
    unfold wL_law_851
    refine br_f rg_10 ?_
    unfold wL_law_865
    refine br_f (by decide) (br_f (by decide) (br_f (by decide) (br_f (by decide) (br_f (by decide) (br_f (by decide) (br_f (by decide) (br_f (by decide) (?_))))))))
    exact br_t (by decide) (lc_turn1 hP rfl rfl (lu_end hP hR hV hok HJ0 HJ1))
  refine br_f (by decide) (br_t rfl ?_)
  unfold wL_law_851_2
  refine br_t rfl ?_
  unfold wL_law_865_4
  refine br_f (by decide) (br_f (by decide) (br_f (by decide) (br_f (by decide) (br_f (by decide) (br_f (by decide) (br_f (by decide) (br_f (by decide) (?_))))))))
  exact br_t (by decide) (lc_fresh (x13 := 0) (x31 := 0) hP hf T1)
/-- what the law's own place is, a call -/
def lq_A (P o : Nat) (a b : Nat → Int32) (x15 x19 x20 x21 : Int32) : Prop :=
  o ≤ 8 ∧ (o = 0 ∨ o = 1 ∨ o = 4 ∨ o = 5 → x21 = x15) ∧ (o = 2 → ∀ x y, x15 = nI x → x19 = nI y → x < P → 1 ≤ y → y ≤ P → rg_AT a P x y x21) ∧ (o = 3 → ∀ x y, nI P - x15 = nI x → x19 = nI y → 1 ≤ x → x ≤ P → 1 ≤ y → y ≤ P → rg_AH a x y x21) ∧ (o = 7 → ∀ x y, x20 = nI x → x19 = nI y → x < P → 1 ≤ y → y ≤ P → rg_AT a P x y x21) ∧ (o = 8 → ∀ j, j < P → a j = -6 ∧ b j = -6)
theorem lu_833 {post : Int32 → Prop} {L : Nat} {xs : Nat → Int32} {J : Int32 → Int32 → Int32 → Nat → Nat → Int32 → Int32 → (Nat → Int32) → (Nat → Int32) → (Nat → Int32) → (Nat → Int32) → Int32 → Int32 → (Nat → Int32) → (Nat → Int32) → (Nat → Int32) → (Nat → Int32) → Prop} {kc ks P R : Nat} {a b d e d2 e2 : Nat → Int32} {x7 x15 x19 x20 x21 x23 x27 : Int32} {o : Nat} (hP : P ≤ 256) (hR : R ≤ 32) (hV : lq_V P a b) (hok : rg_ok P R a b) (HJ0 : x7 = 0 → ∀ a' b' D E D2 E2, lq_V P a' b' → rg_ok P R a' b' → J (nI P) (nI R) 2 kc ks (nI P) (nI R) a' b' D E (nI P) (nI R) a' b' D2 E2) (HJ1 : ¬ x7 = 0 → ∀ a' b' D E D2 E2, lq_V P a' b' → rg_ok P R a' b' → J (nI P) (nI R) (x7 + 5) kc ks (nI P) (nI R) a' b' D E (nI P) (nI R) a' b' D2 E2) (hA : lq_A P o a b x15 x19 x20 x21) : ∃ n, wL_law_833 post L xs J n (nI P) (nI R) x7 (nI o) x15 x19 x20 x21 x23 x27 0 kc ks (nI P) (nI R) a b d e (nI P) (nI R) a b d2 e2 := by
  obtain ⟨ho, h1, h2, h3, h7, h8⟩ := hA
  refine ⟨3, ?_⟩
  have ho : o = 0 ∨ o = 1 ∨ o = 2 ∨ o = 3 ∨ o = 4 ∨ o = 5 ∨ o = 6 ∨ o = 7 ∨ o = 8 := by omega
  rcases ho with rfl | rfl | rfl | rfl | rfl | rfl | rfl | rfl | rfl
  · exact lu_0 hP hR hV hok HJ0 HJ1 (h1 (by omega))
  · exact lu_1 hP hR hV hok HJ0 HJ1 (h1 (by omega))
  · exact lu_2 hP hR hV hok HJ0 HJ1 (h2 rfl)
  · exact lu_3 hP hR hV hok HJ0 HJ1 (h3 rfl)
  · exact lu_4 hP hR hV hok HJ0 HJ1 (h1 (by omega))
  · exact lu_5 hP hR hV hok HJ0 HJ1 (h1 (by omega))
  · exact lu_6 hP hR hV hok HJ0 HJ1
  · exact lu_7 hP hR hV hok HJ0 HJ1 (h7 rfl)
  · exact lu_8 hP hR hV hok HJ0 HJ1 (h8 rfl)
