/-! ===== a text is read: each sign ===== -/
theorem beg_rel {c0 N D dn e ch : Nat} {x1 : Int32} {σ0 s t : zkS} {vo ho ly tg mn : Nat → Nat} (h : PR c0 x1 σ0 s t N D vo ho ly tg mn dn e) (he : N ≤ e) (hN : N ≤ 99) (hw0 : D = 0 → dn = 0) (hw1 : ∀ l, D = l + 1 → ho l ≠ 1) (h8 : s.1 44 8 = 1) (hx1 : x1 = t.1 1 1) (hch : ch < 128) : resR c0 x1 σ0 (N + 1) s t (W7 (nI ch) x1 s) (fX8_begins (nI ch) t) := by
  have hp := h
  obtain ⟨hg, ⟨m13, m14, m16, mo, mv⟩, ⟨c1, c7, cc⟩, -, -, hs⟩ := hp
  have hD6 := hg.1
  by_cases ho : ch = 40 ∨ ch = 91 ∨ ch = 60
  · have eW : W7 (nI ch) x1 s = zb2 (fX6_open 33 (nI ch) s) (fun v5 s6 => zck v5 (some (v5, s6))) := by
      unfold W7
      rcases ho with rfl | rfl | rfl
      · rw [if_pos (show nI 40 = 40 from rfl)]
      · rw [if_neg (show ¬ nI 91 = 40 by decide), if_pos (show nI 91 = 91 from rfl)]
      · rw [if_neg (show ¬ nI 60 = 40 by decide), if_neg (show ¬ nI 60 = 91 by decide), if_pos (show nI 60 = 60 from rfl)]
    rw [eW]
    by_cases hD : D < 6
    · obtain ⟨y, hy⟩ : ∃ y, ch = 40 ∧ y = 1 ∨ ch = 91 ∧ y = 2 ∨ ch = 60 ∧ y = 3 := by
        rcases ho with q | q | q
        · exact ⟨1, Or.inl ⟨q, rfl⟩⟩
        · exact ⟨2, Or.inr (Or.inl ⟨q, rfl⟩)⟩
        · exact ⟨3, Or.inr (Or.inr ⟨q, rfl⟩)⟩
      obtain ⟨s', t', q1, q2, q3, q4, q5⟩ := open_rel h he hN hD hw0 hw1 h8 hy
      rw [q1, q2, zb2_s, zck_1]
      exact ⟨1, s', t', rfl, rfl, q3, q4, Or.inr ⟨rfl, q5⟩⟩
    · have e6 : D = 6 := by omega
      refine ⟨0, s, t, ?_, ?_, fc_0 s, ft_0 t, Or.inl rfl⟩
      · unfold fX6_open
        rw [c7, e6, if_neg (by decide), if_neg (by decide), zb2_s, zck_0]
      · unfold fX8_begins
        simp only [jn, zlt]
        rw [in_n ch (by omega) (a := 48) (b := 57) 48 57 (by omega) (by omega) (by decide) (by decide), ite10, if_neg (show ¬ (48 ≤ ch ∧ ch ≤ 57) by omega), in_n ch (by omega) (a := 97) (b := 120) 97 120 (by omega) (by omega) (by decide) (by decide), ite10, if_neg (show ¬ (97 ≤ ch ∧ ch ≤ 120) by omega), in_n ch (by omega) (a := 65) (b := 70) 65 70 (by omega) (by omega) (by decide) (by decide), ite10, if_neg (show ¬ (65 ≤ ch ∧ ch ≤ 70) by omega), m14, e6, if_pos (show nI 6 = (6 : Int32) from rfl), if_neg (show ¬ nI ch = 126 from chne (k := 126) (by omega) (by omega) (by omega)), ite_self, ite_self, ite_self]
  · have n40 : ¬ nI ch = 40 := chne (k := 40) (by omega) (by omega) (by omega)
    have n91 : ¬ nI ch = 91 := chne (k := 91) (by omega) (by omega) (by omega)
    have n60 : ¬ nI ch = 60 := chne (k := 60) (by omega) (by omega) (by omega)
    have eW : W7 (nI ch) x1 s = W8 (nI ch) x1 (zsi s 44 8 0) := by
      unfold W7
      rw [if_neg n40, if_neg n91, if_neg n60]
    rw [eW]
    have h11 := PR_8 (v := 0) h
    have e8 : (zsi s 44 8 0).1 44 8 = 0 := si_eq _ _ _ _
    unfold W8
    by_cases c126 : ch = 126
    · subst c126
      obtain ⟨s', t', q1, q2, q3, q4, q5⟩ := leaf_rel (x := -5) h11 he (by omega) hw1 e8 (Or.inl rfl)
      refine ⟨1, s', t', ?_, ?_, fc_t (fc_8 s 0) q3, q4, Or.inr ⟨rfl, OUTR_m (by omega) q5⟩⟩
      · rw [if_pos (show nI 126 = 126 from rfl), show (-5 : Int32) = tl c0 (-5) from by unfold tl; rw [if_pos (by decide)], q1, zb2_s, zck_1]
      · unfold fX8_begins
        rw [if_pos (show fX8_in (nI 126).toInt64 48 57 = 0 by decide), if_pos (show fX8_in (nI 126).toInt64 97 120 = 0 by decide), if_pos (show fX8_in (nI 126).toInt64 65 70 = 0 by decide), if_pos (show nI 126 = 126 from rfl), q2, zb1_s]
    rw [if_neg (show ¬ nI ch = 126 from chne (k := 126) (by omega) (by omega) c126)]
    unfold fX8_begins
    simp only [jn, zlt]
    rw [in_n ch (by omega) (a := 48) (b := 57) 48 57 (by omega) (by omega) (by decide) (by decide), ite10]
    by_cases cd : 48 ≤ ch ∧ ch ≤ 57
    · obtain ⟨g, hg9, eg⟩ : ∃ g, g ≤ 9 ∧ nI ch - 48 = nI g := ⟨ch - 48, by omega, pk_sub (b := 48) (by omega)⟩
      rw [if_pos cd, if_neg (show ¬ nI ch < 48 from nI_nlt (b := 48) cd.1 (by omega)), if_neg (show ¬ 57 < nI ch from nI_nlt (a := 57) cd.2 (by omega)), eg]
      have r44 : ∀ v, (zsi (zsi s 44 8 0) 44 1 v).1 44 1 = v := fun v => si_eq _ _ _ _
      have e25 : (zsi s 44 8 0).1 44 1 + 1 = nI (N + 1) := by rw [si_b _ _ (by omega), c1, nI_1]
      rw [e25]
      have sr : ∀ a, a ≠ 44 → (zsi (zsi s 44 8 0) 44 1 (nI (N + 1))).1 a = s.1 a := fun a ha => by rw [si_r _ _ ha, si_r _ _ ha]
      obtain ⟨s1, e1, a1, a2, a3, a4⟩ := addN (y := 0) (g := g) (f := 0) (by omega) (sR_c (s' := zsi (zsi s 44 8 0) 44 1 (nI (N + 1))) (fun a _ _ => sr a (by omega)) hs)
      have s14 : ∀ j, j ≠ 1 → j ≠ 8 → s1.1 44 j = s.1 44 j := fun j j1 j8 => by rw [a1 44 (by omega), si_b _ _ j1, si_b _ _ j8]
      obtain ⟨t1, e2, p2, f2⟩ := L_new (e' := N + 1) (y := 0) (g := g) (s' := s1) h he (by omega) (by omega) hg9 a3 (fun q => by
        have := a4 q
        rw [sr 33 (by omega), sr 34 (by omega), sr 35 (by omega), sr 36 (by omega), sr 37 (by omega)] at this
        exact this) (by rw [a1 44 (by omega), si_eq]) (s14 2 (by omega) (by omega)) (s14 7 (by omega) (by omega)) (fun a _ _ => by rw [a1 a (by omega), sr a (by omega)]) (Or.inl rfl)
      obtain ⟨s', t', q1, q2, q3, q4, q5⟩ := leaf_rel (x := nI (100 + N)) p2 (Nat.le_refl _) (by omega) hw1 (by rw [a1 44 (by omega), si_b _ _ (by omega), si_eq]) (Or.inr (Or.inr ⟨N, by omega, rfl⟩))
      rw [tl_new (by omega)] at q1
      refine ⟨1, s', t', ?_, ?_, fc_t (s1 := s1) ⟨fun a x1 x2 _ => by rw [a1 a (by omega), sr a x2], fun j j1 _ _ j8 => s14 j j1 j8, by rw [a2]; rfl⟩ q3, ft_t f2 q4, Or.inr ⟨rfl, q5⟩⟩
      · rw [show fX0_add 33 0 (nI g) 0 (zsi (zsi s 44 8 0) 44 1 (nI (N + 1))) = _ from e1, zb2_s, q1, zb2_s, zck_1]
      · rw [show fX8_isNew 0 (nI g) t = _ from e2, zb2_s, show (100 : Int32) + nI N = nI (100 + N) from nI_add 100 N, q2, zb1_s]
    rw [if_neg cd]
    have e9 : (if nI ch < 48 then W9 (nI ch) x1 (zsi s 44 8 0) else if 57 < nI ch then W9 (nI ch) x1 (zsi s 44 8 0) else zb2 (fX0_add 33 0 (nI ch - 48) 0 (zsi (zsi s 44 8 0) 44 1 ((zsi s 44 8 0).1 44 1 + 1))) fun v26 s27 => zb2 (fX6_put 33 v26 s27) fun v28 s29 => zck v28 (some (v28, s29))) = W9 (nI ch) x1 (zsi s 44 8 0) := by
      by_cases q : ch < 48
      · rw [if_pos (show nI ch < 48 from nI_lt (b := 48) q (by omega))]
      · rw [if_neg (show ¬ nI ch < 48 from nI_nlt (b := 48) (by omega) (by omega)), if_pos (show 57 < nI ch from nI_lt (a := 57) (by omega) (by omega))]
    rw [e9, in_n ch (by omega) (a := 97) (b := 120) 97 120 (by omega) (by omega) (by decide) (by decide), ite10]
    unfold W9
    by_cases cl' : 97 ≤ ch ∧ ch ≤ 120
    · obtain ⟨d, hd, ed⟩ : ∃ d, d < 24 ∧ nI ch - 97 = nI d := ⟨ch - 97, by omega, pk_sub (b := 97) (by omega)⟩
      rw [if_pos cl', if_neg (show ¬ nI ch < 97 from nI_nlt (b := 97) cl'.1 (by omega)), if_neg (show ¬ 120 < nI ch from nI_nlt (a := 120) cl'.2 (by omega)), ed, has_eq, hasN_nI hd, there8, zb1_s, hasN_nI hd, ← hx1]
      cases eb : bt x1 d with
      | false =>
        rw [if_neg (show ¬ false = true by decide), if_pos rfl, if_pos rfl, zck_0]
        exact ⟨0, _, t, rfl, rfl, fc_8 s 0, ft_0 t, Or.inl rfl⟩
      | true =>
        obtain ⟨s', t', q1, q2, q3, q4, q5⟩ := leaf_rel (x := nI d) h11 he (by omega) hw1 e8 (Or.inr (Or.inl ⟨d, hd, rfl, eb⟩))
        rw [tl_old hd] at q1
        rw [if_pos (show true = true from rfl), if_neg (show ¬ (1 : Int32) = 0 by decide), if_neg (show ¬ (1 : Int32) = 0 by decide), q1, zb2_s, if_neg (show ¬ (1 : Int32) = 0 by decide), q2, zb1_s, zck_1]
        exact ⟨1, s', t', rfl, rfl, fc_t (fc_8 s 0) q3, q4, Or.inr ⟨rfl, OUTR_m (by omega) q5⟩⟩
    rw [if_neg cl']
    have e10 : (if nI ch < 97 then W10 (nI ch) (zsi s 44 8 0) else if 120 < nI ch then W10 (nI ch) (zsi s 44 8 0) else if fX7_has x1 (nI ch - 97) = 0 then some (0, zsi s 44 8 0) else zb2 (fX6_put 33 (nI ch - 97) (zsi s 44 8 0)) fun v23 s24 => if v23 = 0 then some (0, s24) else some (1, s24)) = W10 (nI ch) (zsi s 44 8 0) := by
      by_cases q : ch < 97
      · rw [if_pos (show nI ch < 97 from nI_lt (b := 97) q (by omega))]
      · rw [if_neg (show ¬ nI ch < 97 from nI_nlt (b := 97) (by omega) (by omega)), if_pos (show 120 < nI ch from nI_lt (a := 120) (by omega) (by omega))]
    rw [e10, in_n ch (by omega) (a := 65) (b := 70) 65 70 (by omega) (by omega) (by decide) (by decide), ite10]
    unfold W10
    by_cases cu : 65 ≤ ch ∧ ch ≤ 70
    · obtain ⟨k, hk, ek⟩ : ∃ k, k ≤ 5 ∧ nI ch - 65 = nI k := ⟨ch - 65, by omega, pk_sub (b := 65) (by omega)⟩
      rw [if_pos cu, if_neg (show ¬ nI ch < 65 from nI_nlt (b := 65) cu.1 (by omega)), if_neg (show ¬ 70 < nI ch from nI_nlt (a := 70) cu.2 (by omega)), ek, si_b _ _ (show 7 ≠ 8 by decide), c7, m14]
      by_cases gk : D ≤ k
      · have neg : nI D - 1 - nI k < 0 := (by decide +kernel : ∀ D, D ≤ 6 → ∀ k, k ≤ 5 → D ≤ k → nI D - 1 - nI k < 0) D hD6 k hk gk
        rw [if_pos neg, if_pos neg, if_pos neg]
        exact ⟨0, _, t, rfl, rfl, fc_8 s 0, ft_0 t, Or.inl rfl⟩
      · have pos : nI D - 1 - nI k = nI (D - 1 - k) := by rw [show nI D - 1 = nI (D - 1) from pk_sub (b := 1) (by omega), pk_sub (by omega)]
        have hv := (hg.2.2.1) (D - 1 - k) (by omega)
        obtain ⟨s', t', q1, q2, q3, q4, q5⟩ := leaf_rel (x := nI (100 + vo (D - 1 - k))) h11 he (by omega) hw1 e8 (Or.inr (Or.inr ⟨vo (D - 1 - k), hv, rfl⟩))
        rw [tl_new (by omega)] at q1
        rw [pos, if_neg (nI_nneg (by omega)), if_neg (show ¬ (6 : Int32) ≤ nI (D - 1 - k) from nI_ge (b := 6) (by omega) (by decide)), rd_nI (show D - 1 - k < 6 by omega) (by decide), si_r _ _ (show 46 ≠ 44 by decide), (cc (D - 1 - k) (by omega)).1, q1, zb2_s, if_neg (show ¬ (1 : Int32) = 0 by decide), if_neg (nI_nneg (by omega)), rd_nI (show D - 1 - k < 8 by omega) (by decide), (mo (D - 1 - k) (by omega)).1, show (100 : Int32) + nI (vo (D - 1 - k)) = nI (100 + vo (D - 1 - k)) from nI_add 100 _, q2, zb1_s, if_neg (nI_nneg (by omega))]
        exact ⟨1, s', t', rfl, rfl, fc_t (fc_8 s 0) q3, q4, Or.inr ⟨rfl, OUTR_m (by omega) q5⟩⟩
    · rw [if_neg cu, if_neg (show ¬ nI ch = 126 from chne (k := 126) (by omega) (by omega) c126), if_neg n40, if_neg n91, if_neg n60]
      refine ⟨0, zsi s 44 8 0, t, ?_, rfl, fc_8 s 0, ft_0 t, Or.inl rfl⟩
      by_cases q : ch < 65
      · rw [if_pos (show nI ch < 65 from nI_lt (b := 65) q (by omega))]
      · rw [if_neg (show ¬ nI ch < 65 from nI_nlt (b := 65) (by omega) (by omega)), if_pos (show 70 < nI ch from nI_lt (a := 70) (by omega) (by omega))]
