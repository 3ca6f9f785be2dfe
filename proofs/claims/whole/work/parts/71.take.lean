/-! ===== a text is read: a sign is taken ===== -/
theorem zw2_s {α β : Type} (x : α) (s : zkS) (F : α → zkS → β) : zw2 (x, s) F = F x s := rfl
theorem chP {ch k : Nat} (hc : ch < 2 ^ 31) (hk : k < 2 ^ 31) : (nI ch = nI k) = (ch = k) := propext (nI_eq hc hk)
theorem tk8_1 {t : zkS} {d v m ch : Nat} (hch : ch < 128) (h16 : t.1 0 16 = nI 0) (h14 : t.1 0 14 = nI (d + 1)) (hd : d < 6) (h5 : t.1 5 d = nI v) (hv : v < 101) (h6 : t.1 6 d = 40) (h7 : t.1 7 d = nI 1) (h10 : t.1 10 v = nI m) (hm : m = 1 ∨ m = 2) : fX8_takes (nI ch) t = if m = 1 then (if ch = 46 then some (1, zsi t 7 d 2) else some (0, t)) else (if ch = 41 then zb1 (fX8_shuts t) (fun s => some (1, s)) else some (0, t)) := by
  have P46 : (nI ch = (46 : Int32)) = (ch = 46) := chP (k := 46) (by omega) (by omega)
  have P41 : (nI ch = (41 : Int32)) = (ch = 41) := chP (k := 41) (by omega) (by omega)
  have f1 : ((40 : Int32) = 91) = False := eq_false (by decide)
  have f2 : ((40 : Int32) = 60) = False := eq_false (by decide)
  have f3 : ((1 : Int32) = 0) = False := eq_false (by decide)
  have f4 : (nI 1 = (1 : Int32)) = True := eq_true (by decide)
  have f5 : (nI 1 = (2 : Int32)) = False := eq_false (by decide)
  have f6 : (nI 2 = (2 : Int32)) = True := eq_true (by decide)
  have f7 : (nI 2 = (1 : Int32)) = False := eq_false (by decide)
  unfold fX8_takes
  simp only [jn]
  rw [h16, if_pos (show nI 0 = 0 from rfl), h14, if_neg (show ¬ nI (d + 1) = 0 from fun q => by have := (nI_eq0 (by omega)).mp q; omega), show nI (d + 1) - 1 = nI d from pk_sub (b := 1) (by omega), rd_nI (show d < 8 by omega) (by decide), rd_nI (show d < 8 by omega) (by decide), rd_nI (show d < 8 by omega) (by decide), h5, rd_nI hv (by decide), h6, h7, h10, wr_nI (show d < 8 by omega) (by decide)]
  rcases hm with rfl | rfl
  · simp only [f1, f2, f3, f4, f5, P46, P41, if_true, if_false]
  · simp only [f1, f2, f3, f4, f6, f7, P46, P41, if_true, if_false, show ((2 : Nat) = 1) = False from eq_false (by decide)]
theorem tk8_2 {t : zkS} {d v m ch : Nat} (hch : ch < 128) (h16 : t.1 0 16 = nI 0) (h14 : t.1 0 14 = nI (d + 1)) (hd : d < 6) (h5 : t.1 5 d = nI v) (hv : v < 101) (h6 : t.1 6 d = 91) (h7 : t.1 7 d = nI 1) (h10 : t.1 10 v = nI m) (hm : m ≤ 6) : fX8_takes (nI ch) t = if ch = 93 then zb1 (fX8_shuts t) (fun s => some (1, s)) else if ch = 44 then (if 6 ≤ m then some (0, t) else some (1, zsi t 7 d 2)) else some (0, t) := by
  have P93 : (nI ch = (93 : Int32)) = (ch = 93) := chP (k := 93) (by omega) (by omega)
  have P44 : (nI ch = (44 : Int32)) = (ch = 44) := chP (k := 44) (by omega) (by omega)
  have P6 : ((6 : Int32) ≤ nI m) = (6 ≤ m) := propext ⟨fun q => by
    rcases Nat.lt_or_ge m 6 with g | g
    · exact absurd q (nI_ge (b := 6) g (by decide))
    · exact g, fun q => nI_le (a := 6) q (by omega)⟩
  have f1 : ((91 : Int32) = 40) = False := eq_false (by decide)
  have f2 : ((91 : Int32) = 60) = False := eq_false (by decide)
  have f3 : ((1 : Int32) = 0) = False := eq_false (by decide)
  have f4 : (nI 1 = (1 : Int32)) = True := eq_true (by decide)
  unfold fX8_takes
  simp only [jn]
  rw [h16, if_pos (show nI 0 = 0 from rfl), h14, if_neg (show ¬ nI (d + 1) = 0 from fun q => by have := (nI_eq0 (by omega)).mp q; omega), show nI (d + 1) - 1 = nI d from pk_sub (b := 1) (by omega), rd_nI (show d < 8 by omega) (by decide), rd_nI (show d < 8 by omega) (by decide), rd_nI (show d < 8 by omega) (by decide), h5, rd_nI hv (by decide), h6, h7, h10, wr_nI (show d < 8 by omega) (by decide)]
  simp only [f1, f2, f3, f4, P6, P93, P44, if_true, if_false]
  by_cases g1 : ch = 93
  · have : ¬ ch = 44 := by omega
    simp only [g1, if_true, if_neg (show ¬ (93 : Nat) = 44 by decide), ite_self]
  · by_cases g2 : ch = 44
    · by_cases g3 : 6 ≤ m
      · simp only [if_neg g1, if_pos g2, if_pos g3]
      · simp only [if_neg g1, if_pos g2, if_neg g3]
    · simp only [if_neg g1, if_neg g2, ite_self]
theorem tk8_3 {t : zkS} {d v m ch : Nat} (hch : ch < 128) (h16 : t.1 0 16 = nI 0) (h14 : t.1 0 14 = nI (d + 1)) (hd : d < 6) (h5 : t.1 5 d = nI v) (hv : v < 101) (h6 : t.1 6 d = 60) (h7 : t.1 7 d = nI 1) (h10 : t.1 10 v = nI m) : fX8_takes (nI ch) t = if ch = 62 then zb1 (fX8_shuts t) (fun s => some (1, s)) else some (0, t) := by
  have P62 : (nI ch = (62 : Int32)) = (ch = 62) := chP (k := 62) (by omega) (by omega)
  have f1 : ((60 : Int32) = 40) = False := eq_false (by decide)
  have f2 : ((60 : Int32) = 91) = False := eq_false (by decide)
  have f3 : ((1 : Int32) = 0) = False := eq_false (by decide)
  have f4 : (nI 1 = (1 : Int32)) = True := eq_true (by decide)
  unfold fX8_takes
  simp only [jn]
  rw [h16, if_pos (show nI 0 = 0 from rfl), h14, if_neg (show ¬ nI (d + 1) = 0 from fun q => by have := (nI_eq0 (by omega)).mp q; omega), show nI (d + 1) - 1 = nI d from pk_sub (b := 1) (by omega), rd_nI (show d < 8 by omega) (by decide), rd_nI (show d < 8 by omega) (by decide), rd_nI (show d < 8 by omega) (by decide), h5, rd_nI hv (by decide), h6, h7, h10, wr_nI (show d < 8 by omega) (by decide)]
  simp only [f1, f2, f3, f4, P62, if_true, if_false]
/-- how the wanting ones are taken -/
theorem tk8_w {t : zkS} {d v m h y ch : Nat} (hch : ch < 128) (h16 : t.1 0 16 = nI 0) (h14 : t.1 0 14 = nI (d + 1)) (hd : d < 6) (h5 : t.1 5 d = nI v) (hv : v < 101) (h6 : t.1 6 d = sg y) (hy : 1 ≤ y ∧ y ≤ 3) (h7 : t.1 7 d = nI h) (hh : h = 0 ∨ h = 2) (h10 : t.1 10 v = nI m) : fX8_takes (nI ch) t = if h = 0 ∧ y = 2 ∧ ch = 93 then zb1 (fX8_shuts t) (fun s => some (1, s)) else zb2 (fX8_begins (nI ch) t) (fun v s => zck v (some (v, s))) := by
  have P93 : (nI ch = (93 : Int32)) = (ch = 93) := chP (k := 93) (by omega) (by omega)
  have f4 : (nI 0 = (1 : Int32)) = False := eq_false (by decide)
  have f5 : (nI 2 = (1 : Int32)) = False := eq_false (by decide)
  have f6 : (nI 0 = (0 : Int32)) = True := eq_true (by decide)
  have f7 : (nI 2 = (0 : Int32)) = False := eq_false (by decide)
  have f8 : (sg 1 = (91 : Int32)) = False := eq_false (by decide)
  have f9 : (sg 2 = (91 : Int32)) = True := eq_true (by decide)
  have fa : (sg 3 = (91 : Int32)) = False := eq_false (by decide)
  unfold fX8_takes
  simp only [jn]
  rw [h16, if_pos (show nI 0 = 0 from rfl), h14, if_neg (show ¬ nI (d + 1) = 0 from fun q => by have := (nI_eq0 (by omega)).mp q; omega), show nI (d + 1) - 1 = nI d from pk_sub (b := 1) (by omega), rd_nI (show d < 8 by omega) (by decide), rd_nI (show d < 8 by omega) (by decide), rd_nI (show d < 8 by omega) (by decide), h5, rd_nI hv (by decide), h6, h7]
  rcases hh with rfl | rfl
  · rcases (show y = 1 ∨ y = 2 ∨ y = 3 by omega) with rfl | rfl | rfl
    · simp only [f4, f6, f8, if_true, if_false, show ((1 : Nat) = 2) = False from eq_false (by decide), false_and, and_false]
    · simp only [f4, f6, f9, P93, if_true, if_false, true_and]
    · simp only [f4, f6, fa, if_true, if_false, show ((3 : Nat) = 2) = False from eq_false (by decide), false_and, and_false]
  · simp only [f5, f7, if_false, show ((2 : Nat) = 0) = False from eq_false (by decide), false_and]
theorem close7 {s : zkS} {d : Nat} (c7 : s.1 44 7 = nI (d + 1)) : fX6_close s = (1, zsi (zsi s 44 7 (nI d)) 44 8 0) := by
  unfold fX6_close zpi
  dsimp only
  rw [c7, show nI (d + 1) - 1 = nI d from pk_sub (b := 1) (by omega)]
theorem go7 {s : zkS} {d y m ch : Nat} (hch : ch < 128) (c7 : s.1 44 7 = nI (d + 1)) (hd : d < 6) (hy : 1 ≤ y ∧ y ≤ 3) (h47 : s.1 47 d = nI y) (hm : m ≤ 6) (h48 : s.1 48 d = nI m) : fX6_goOn (nI ch) s = if y = 1 then (if 2 ≤ m then (if ch = 41 then some (1, zsi (zsi s 44 7 (nI d)) 44 8 0) else some (0, s)) else (if ch = 46 then some (1, zsi s 44 8 1) else some (0, s))) else if y = 2 then (if ch = 93 then some (1, zsi (zsi s 44 7 (nI d)) 44 8 0) else if ch = 44 then (if 6 ≤ m then some (0, s) else some (1, zsi s 44 8 1)) else some (0, s)) else (if ch = 62 then some (1, zsi (zsi s 44 7 (nI d)) 44 8 0) else some (0, s)) := by
  have P41 : (nI ch = (41 : Int32)) = (ch = 41) := chP (k := 41) (by omega) (by omega)
  have P46 : (nI ch = (46 : Int32)) = (ch = 46) := chP (k := 46) (by omega) (by omega)
  have P93 : (nI ch = (93 : Int32)) = (ch = 93) := chP (k := 93) (by omega) (by omega)
  have P44 : (nI ch = (44 : Int32)) = (ch = 44) := chP (k := 44) (by omega) (by omega)
  have P62 : (nI ch = (62 : Int32)) = (ch = 62) := chP (k := 62) (by omega) (by omega)
  have P6 : ((6 : Int32) ≤ nI m) = (6 ≤ m) := propext ⟨fun q => by
    rcases Nat.lt_or_ge m 6 with g | g
    · exact absurd q (nI_ge (b := 6) g (by decide))
    · exact g, fun q => nI_le (a := 6) q (by omega)⟩
  have P2 : ((2 : Int32) ≤ nI m) = (2 ≤ m) := propext ⟨fun q => by
    rcases Nat.lt_or_ge m 2 with g | g
    · exact absurd q (nI_ge (b := 2) g (by decide))
    · exact g, fun q => nI_le (a := 2) q (by omega)⟩
  have f3 : ((1 : Int32) = 0) = False := eq_false (by decide)
  have ew : fX6_wantMore s = (1, zsi s 44 8 1) := rfl
  unfold fX6_goOn
  simp only [zlt, close7 c7, ew, zw2_s, zck_1]
  rw [c7, if_neg (show ¬ nI (d + 1) ≤ 0 from nI_ge (a := 0) (by omega) (by omega)), if_pos (show nI (d + 1) ≤ (6 : Int32) from nI_le (b := 6) (by omega) (by decide)), show nI (d + 1) - 1 = nI d from pk_sub (b := 1) (by omega), rd_nI hd (by decide), rd_nI hd (by decide), h47, h48]
  simp only [P41, P46, P93, P44, P62, P6, P2, f3, if_false]
  rcases (show y = 1 ∨ y = 2 ∨ y = 3 by omega) with rfl | rfl | rfl
  · rw [if_pos (show nI 1 = 1 from rfl), if_pos (show 1 = 1 from rfl)]
  · rw [if_neg (show ¬ nI 2 = 1 by decide), if_pos (show nI 2 = 2 from rfl), if_neg (show ¬ 2 = 1 by decide), if_pos (show 2 = 2 from rfl), rd_nI hd (by decide), h48]
    simp only [P6]
  · rw [if_neg (show ¬ nI 3 = 1 by decide), if_neg (show ¬ nI 3 = 2 by decide), if_neg (show ¬ 3 = 1 by decide), if_neg (show ¬ 3 = 2 by decide)]
theorem just7 {s : zkS} {d y m : Nat} (c7 : s.1 44 7 = nI (d + 1)) (hd : d < 6) (hy : 1 ≤ y ∧ y ≤ 3) (h47 : s.1 47 d = nI y) (hm : m ≤ 6) (h48 : s.1 48 d = nI m) : fX6_isRowJustOpened s = some (if y = 2 ∧ m = 0 then 1 else 0) := by
  unfold fX6_isRowJustOpened
  rw [c7, if_neg (show ¬ nI (d + 1) ≤ 0 from nI_ge (a := 0) (by omega) (by omega)), if_neg (show ¬ (6 : Int32) < nI (d + 1) from nI_nlt (a := 6) (by omega) (by decide)), show nI (d + 1) - 1 = nI d from pk_sub (b := 1) (by omega), rd_nI hd (by decide), rd_nI hd (by decide), h47, h48]
  by_cases g : y = 2
  · subst g
    rw [if_pos (show nI 2 = 2 from rfl)]
    by_cases g2 : m = 0
    · rw [g2, if_pos (show nI 0 = 0 from rfl), if_pos ⟨rfl, rfl⟩]
    · rw [if_neg (fun q => g2 ((nI_eq0 (by omega)).mp q)), if_neg (fun q => g2 q.2)]
  · rw [if_neg (show ¬ nI y = 2 from chne (k := 2) (by omega) (by omega) g), if_neg (fun q => g q.1)]
theorem just7_0 {s : zkS} (c7 : s.1 44 7 = nI 0) : fX6_isRowJustOpened s = some 0 := by
  unfold fX6_isRowJustOpened
  rw [c7, if_pos (by decide)]
theorem fc_cl (s : zkS) (v w : Int32) : fc s (zsi (zsi s 44 7 v) 44 8 w) := ⟨fun a _ a2 _ => by rw [si_r _ _ a2, si_r _ _ a2], fun j _ _ j7 j8 => by rw [si_b _ _ j8, si_b _ _ j7], rfl⟩
theorem shut_rel {c0 N d dn e : Nat} {x1 : Int32} {σ0 s t : zkS} {vo ho ly tg mn : Nat → Nat} (h : PR c0 x1 σ0 s t N (d + 1) vo ho ly tg mn dn e) (he : N ≤ e) (hN : N ≤ 99) (hcl : mn (vo d) = szO (ly (vo d)) (mn (vo d))) : ∃ t', fX8_shuts t = some t' ∧ ft t t' ∧ OUTR c0 x1 σ0 (N + 1) (zsi (zsi s 44 7 (nI d)) 44 8 0) t' := by
  obtain ⟨t', ho', mn', dn', q1, q2, q3, q4, q5⟩ := L_shut h (by omega) hcl
  exact ⟨t', q1, q3, N, d, dn', e, vo, ho', ly, tg, mn', by omega, he, q2, Or.inl ⟨si_eq _ _ _ _, q4, q5⟩⟩
theorem want_rel {c0 N d dn e : Nat} {x1 : Int32} {σ0 s t : zkS} {vo ho ly tg mn : Nat → Nat} (h : PR c0 x1 σ0 s t N (d + 1) vo ho ly tg mn dn e) (he : N ≤ e) (hok : okS (ly (vo d)) 2 (mn (vo d))) : ft t (zsi t 7 d 2) ∧ OUTR c0 x1 σ0 (N + 1) (zsi s 44 8 1) (zsi t 7 d 2) := by
  obtain ⟨q1, q2⟩ := L_want h hok
  exact ⟨q2, N, d + 1, dn, e, vo, _, ly, tg, mn, by omega, he, q1, Or.inr ⟨si_eq _ _ _ _, fun q => by omega, fun l hl => by rw [show l = d by omega, fu_eq]; decide⟩⟩
theorem gt_rel {c0 N d dn e ch : Nat} {x1 : Int32} {σ0 s t : zkS} {vo ho ly tg mn : Nat → Nat} (h : PR c0 x1 σ0 s t N (d + 1) vo ho ly tg mn dn e) (he : N ≤ e) (hN : N ≤ 99) (hho : ho d = 1) (hch : ch < 128) : resR c0 x1 σ0 (N + 1) s t (zb2 (fX6_goOn (nI ch) s) (fun v1 s2 => zck v1 (some (v1, s2)))) (fX8_takes (nI ch) t) := by
  have hp := h
  obtain ⟨hg, ⟨m13, m14, m16, mo, mv⟩, ⟨c1, c7, cc⟩, -, -, hs⟩ := hp
  have hD6 := hg.1
  have hvd := hg.2.2.1 d (by omega)
  have hok := hg.2.2.2.2.1 d (by omega)
  rw [hho] at hok
  have dn0 : dn = 0 := by
    rcases hg.2.1 with q | ⟨-, q⟩
    · exact q
    · omega
  rw [dn0] at m16
  obtain ⟨m5, m6, m7⟩ := mo d (by omega)
  rw [hho] at m7
  obtain ⟨-, c47, c48⟩ := cc d (by omega)
  rw [if_neg (by omega), Nat.add_zero] at c48
  have m10 := (mv (vo d) hvd).2.2
  have hm6 := (hg.2.2.2.2.2.2.1 (vo d) hvd).2.2
  have no : ∀ {A B : Option (Int32 × zkS)}, A = some (0, s) → B = some (0, t) → resR c0 x1 σ0 (N + 1) s t (zb2 A (fun v1 s2 => zck v1 (some (v1, s2)))) B := fun ha hb => by
    rw [ha, zb2_s, zck_0]
    exact ⟨0, s, t, rfl, hb, fc_0 s, ft_0 t, Or.inl rfl⟩
  have sh : ∀ {A B : Option (Int32 × zkS)}, mn (vo d) = szO (ly (vo d)) (mn (vo d)) → A = some (1, zsi (zsi s 44 7 (nI d)) 44 8 0) → B = zb1 (fX8_shuts t) (fun s => some (1, s)) → resR c0 x1 σ0 (N + 1) s t (zb2 A (fun v1 s2 => zck v1 (some (v1, s2)))) B := fun hcl ha hb => by
    obtain ⟨t', q1, q2, q3⟩ := shut_rel h he hN hcl
    rw [ha, zb2_s, zck_1]
    exact ⟨1, _, t', rfl, by rw [hb, q1, zb1_s], fc_cl _ _ _, q2, Or.inr ⟨rfl, q3⟩⟩
  have wa : ∀ {A B : Option (Int32 × zkS)}, okS (ly (vo d)) 2 (mn (vo d)) → A = some (1, zsi s 44 8 1) → B = some (1, zsi t 7 d 2) → resR c0 x1 σ0 (N + 1) s t (zb2 A (fun v1 s2 => zck v1 (some (v1, s2)))) B := fun hk ha hb => by
    obtain ⟨q1, q2⟩ := want_rel h he hk
    rw [ha, zb2_s, zck_1]
    exact ⟨1, _, _, rfl, hb, fc_8 s 1, q1, Or.inr ⟨rfl, q2⟩⟩
  have hyy : 1 ≤ ly (vo d) ∧ ly (vo d) ≤ 3 := by
    unfold okS at hok
    omega
  have e7 := go7 (ch := ch) hch c7 (by omega) hyy c47 hm6 c48
  rcases (show ly (vo d) = 1 ∨ ly (vo d) = 2 ∨ ly (vo d) = 3 by omega) with hy | hy | hy
  · rw [hy] at m6 e7
    rw [if_pos rfl] at e7
    have hm : mn (vo d) = 1 ∨ mn (vo d) = 2 := by
      unfold okS at hok
      omega
    have e8 := tk8_1 (ch := ch) hch m16 m14 (by omega) m5 (by omega) m6 m7 m10 hm
    rcases hm with hm | hm
    · rw [if_neg (by omega)] at e7
      rw [if_pos hm] at e8
      by_cases g : ch = 46
      · rw [if_pos g] at e7 e8
        exact wa (by unfold okS; omega) e7 e8
      · rw [if_neg g] at e7 e8
        exact no e7 e8
    · rw [if_pos (by omega)] at e7
      rw [if_neg (by omega)] at e8
      by_cases g : ch = 41
      · rw [if_pos g] at e7 e8
        exact sh (by rw [hy, hm]; rfl) e7 e8
      · rw [if_neg g] at e7 e8
        exact no e7 e8
  · rw [hy] at m6 e7
    rw [if_neg (by decide), if_pos rfl] at e7
    have hm : 1 ≤ mn (vo d) := by
      unfold okS at hok
      omega
    have e8 := tk8_2 (ch := ch) hch m16 m14 (by omega) m5 (by omega) m6 m7 m10 hm6
    by_cases g : ch = 93
    · rw [if_pos g] at e7 e8
      exact sh (by rw [hy]; rfl) e7 e8
    · rw [if_neg g] at e7 e8
      by_cases g2 : ch = 44
      · rw [if_pos g2] at e7 e8
        by_cases g3 : 6 ≤ mn (vo d)
        · rw [if_pos g3] at e7 e8
          exact no e7 e8
        · rw [if_neg g3] at e7 e8
          exact wa (by unfold okS; omega) e7 e8
      · rw [if_neg g2] at e7 e8
        exact no e7 e8
  · rw [hy] at m6 e7
    rw [if_neg (by decide), if_neg (by decide)] at e7
    have hm : mn (vo d) = 1 := by
      unfold okS at hok
      omega
    have e8 := tk8_3 (ch := ch) hch m16 m14 (by omega) m5 (by omega) m6 m7 m10
    by_cases g : ch = 62
    · rw [if_pos g] at e7 e8
      exact sh (by rw [hy, hm]; rfl) e7 e8
    · rw [if_neg g] at e7 e8
      exact no e7 e8
theorem res_ck {c0 K : Nat} {x1 : Int32} {σ0 s t : zkS} {A B : Option (Int32 × zkS)} (h : resR c0 x1 σ0 K s t A B) : resR c0 x1 σ0 K s t A (zb2 B (fun v s => zck v (some (v, s)))) := by
  obtain ⟨r, s', t', ha, hb, h1, h2, h3⟩ := h
  refine ⟨r, s', t', ha, ?_, h1, h2, h3⟩
  rw [hb, zb2_s]
  rcases h3 with rfl | ⟨rfl, -⟩
  · exact zck_0 _
  · exact zck_1 _
theorem take_rel {c0 N D dn e ch : Nat} {x1 : Int32} {σ0 s t : zkS} {vo ho ly tg mn : Nat → Nat} (h : PR c0 x1 σ0 s t N D vo ho ly tg mn dn e) (he : N ≤ e) (hN : N ≤ 99) (hw : wnt s D ho dn) (hx1 : x1 = t.1 1 1) (hch : ch < 128) : resR c0 x1 σ0 (N + 1) s t (fX6_take 33 (nI ch) x1 s) (fX8_takes (nI ch) t) := by
  have hp := h
  obtain ⟨hg, ⟨m13, m14, m16, mo, mv⟩, ⟨c1, c7, cc⟩, -, -, hs⟩ := hp
  have hD6 := hg.1
  rw [take7]
  rcases hw with ⟨h8, w0, w1⟩ | ⟨h8, w0, w1⟩
  · rw [h8, if_pos rfl]
    rcases Nat.eq_zero_or_pos D with h0 | h0
    · subst h0
      rw [w0 rfl] at m16
      refine ⟨0, s, t, ?_, ?_, fc_0 s, ft_0 t, Or.inl rfl⟩
      · unfold fX6_goOn
        rw [c7, if_pos (show nI 0 ≤ 0 by decide), zb2_s, zck_0]
      · unfold fX8_takes
        rw [m16, if_neg (show ¬ nI 1 = 0 by decide)]
    · obtain ⟨d, rfl⟩ : ∃ d, D = d + 1 := ⟨D - 1, by omega⟩
      exact gt_rel h he hN (w1 d rfl) hch
  · rw [h8, if_neg (show ¬ (1 : Int32) = 0 by decide)]
    have hb := beg_rel h he hN w0 w1 h8 hx1 hch
    have P93 : (nI ch = (93 : Int32)) = (ch = 93) := chP (k := 93) (by omega) (by omega)
    rcases Nat.eq_zero_or_pos D with h0 | h0
    · subst h0
      rw [w0 rfl] at m16
      have e8 : fX8_takes (nI ch) t = zb2 (fX8_begins (nI ch) t) (fun v s => zck v (some (v, s))) := by
        unfold fX8_takes
        rw [m16, if_pos (show nI 0 = 0 from rfl), m14, if_pos (show nI 0 = 0 from rfl)]
      rw [e8, just7_0 c7, zb1_s, if_pos rfl, ite_self]
      exact res_ck hb
    · obtain ⟨d, rfl⟩ : ∃ d, D = d + 1 := ⟨D - 1, by omega⟩
      have hvd := hg.2.2.1 d (by omega)
      have hok := hg.2.2.2.2.1 d (by omega)
      have hn1 := w1 d rfl
      have dn0 : dn = 0 := by
        rcases hg.2.1 with q | ⟨-, q⟩
        · exact q
        · omega
      rw [dn0] at m16
      obtain ⟨m5, m6, m7⟩ := mo d (by omega)
      obtain ⟨-, c47, c48⟩ := cc d (by omega)
      rw [if_neg (by omega), Nat.add_zero] at c48
      have m10 := (mv (vo d) hvd).2.2
      have hm6 := (hg.2.2.2.2.2.2.1 (vo d) hvd).2.2
      have hyy : 1 ≤ ly (vo d) ∧ ly (vo d) ≤ 3 := by
        unfold okS at hok
        omega
      have hh : ho d = 0 ∨ ho d = 2 := by
        unfold okS at hok
        omega
      rw [tk8_w hch m16 m14 (by omega) m5 (by omega) m6 hyy m7 hh m10, just7 c7 (by omega) hyy c47 hm6 c48, zb1_s]
      by_cases g : ch = 93
      · rw [if_pos (show nI ch = 93 by rw [P93]; exact g)]
        by_cases g2 : ly (vo d) = 2 ∧ mn (vo d) = 0
        · have hh0 : ho d = 0 := by
            unfold okS at hok
            omega
          obtain ⟨t', q1, q2, q3⟩ := shut_rel h he hN (by rw [g2.1]; rfl)
          rw [if_pos g2, if_neg (show ¬ (1 : Int32) = 0 by decide), close7 c7, zw2_s, zck_1, if_pos ⟨hh0, g2.1, g⟩, q1, zb1_s]
          exact ⟨1, _, t', rfl, rfl, fc_cl _ _ _, q2, Or.inr ⟨rfl, q3⟩⟩
        · rw [if_neg g2, if_pos rfl, if_neg (show ¬ (ho d = 0 ∧ ly (vo d) = 2 ∧ ch = 93) from fun q => g2 ⟨q.2.1, by unfold okS at hok; omega⟩)]
          exact res_ck hb
      · rw [if_neg (show ¬ nI ch = 93 by rw [P93]; exact g), if_neg (fun q => g q.2.2)]
        exact res_ck hb
