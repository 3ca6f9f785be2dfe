/-! ===== the model's ways up and down; one step ===== -/
theorem down8 {t : zkS} {u a f d lim : Nat} (ha : a < 24) (hf : f < 24) (h6 : t.1 u 6 = nI d) (hd : d < 24) (h3 : t.1 u 3 = nI lim) (hl : lim ≤ 8) (hp : lim ≤ d → bt (t.1 u 14) a = false) :
    ∃ t', fX8_goesDown u (nI a) (nI f) t = some t' ∧ (∀ j, j ≠ 12 → j ≠ 4 → j ≠ 6 → j ≠ 8 → j ≠ 9 → j ≠ 11 → j ≠ 116 + d → j ≠ 92 + f → t'.1 u j = t.1 u j) ∧ t'.1 u 12 = t.1 u 12 ||| (1 <<< (nI f &&& 31)) ∧ t'.1 u 4 = nI f ∧ t'.1 u 6 = nI (d + 1) ∧ t'.1 u 8 = t.1 u 8 + gT d lim ∧ t'.1 u 9 = t.1 u 9 + gP d lim ∧ t'.1 u 11 = (if t.1 u 11 < nI (d + 1) then nI (d + 1) else t.1 u 11) ∧ t'.1 u (116 + d) = nI a ∧ t'.1 u (92 + f) = 0 ∧ (∀ a, a ≠ u → t'.1 a = t.1 a) ∧ t'.2 = t.2 := by
  obtain ⟨M, eM, m1, m2, m3, m4, m5⟩ := marks8 (t := t) (u := u) hf
  have M6 : M.1 u 6 = nI d := (m1 6 (by omega) (by omega)).trans h6
  have M3 : M.1 u 3 = nI lim := (m1 3 (by omega) (by omega)).trans h3
  have M14 : M.1 u 14 = t.1 u 14 := m1 14 (by omega) (by omega)
  have key : fX8_goesDown u (nI a) (nI f) t = some (zsi (zsi (zsi (zsi (zsi (zsi M u 9 (M.1 u 9 + gP d lim)) u 8 (M.1 u 8 + gT d lim)) u (116 + d) (nI a)) u 6 (nI (d + 1))) u 4 (nI f)) u 11 (if M.1 u 11 < nI (d + 1) then nI (d + 1) else M.1 u 11)) := by
    unfold fX8_goesDown
    simp only [jn]
    rw [eM, zb1_s, rd_6, rd_3, M6, M3]
    by_cases g : d < lim
    · rw [if_neg (nI_ge g (by omega))]
      simp only [if_neg (show ¬ (1 : Int32) = 0 by decide)]
      unfold gP gT
      rw [if_pos g, if_pos g, rd_9, wr_9, rd_8, wr_8, si_b _ _ (show 8 ≠ 9 by decide), rd_6, si_b _ _ (show 6 ≠ 8 by decide), si_b _ _ (show 6 ≠ 9 by decide), M6, wr_116c (by omega), rd_6, si_b _ _ (show 6 ≠ 116 + d by omega), si_b _ _ (show 6 ≠ 8 by decide), si_b _ _ (show 6 ≠ 9 by decide), M6, wr_6, wr_4, rd_11, rd_6, wr_11, nI_1, si_b _ _ (show 6 ≠ 4 by decide), si_eq, si_b _ _ (show 11 ≠ 4 by decide), si_b _ _ (show 11 ≠ 6 by decide), si_b _ _ (show 11 ≠ 116 + d by omega), si_b _ _ (show 11 ≠ 8 by decide), si_b _ _ (show 11 ≠ 9 by decide)]
    · rw [if_pos (nI_le (by omega) (by omega))]
      simp only [if_true]
      unfold gP gT
      rw [if_neg g, if_neg g, rd_14, M14, bit8_eq _ (by omega), hp (by omega), if_neg (show ¬ (false = true) by decide), if_pos rfl, rd_9, wr_9, rd_8, wr_8, si_b _ _ (show 8 ≠ 9 by decide), rd_6, si_b _ _ (show 6 ≠ 8 by decide), si_b _ _ (show 6 ≠ 9 by decide), M6, wr_116c (by omega), rd_6, si_b _ _ (show 6 ≠ 116 + d by omega), si_b _ _ (show 6 ≠ 8 by decide), si_b _ _ (show 6 ≠ 9 by decide), M6, wr_6, wr_4, rd_11, rd_6, wr_11, nI_1, si_b _ _ (show 6 ≠ 4 by decide), si_eq, si_b _ _ (show 11 ≠ 4 by decide), si_b _ _ (show 11 ≠ 6 by decide), si_b _ _ (show 11 ≠ 116 + d by omega), si_b _ _ (show 11 ≠ 8 by decide), si_b _ _ (show 11 ≠ 9 by decide)]
  refine ⟨_, key, fun j j1 j2 j3 j4 j5 j6 j7 j8 => ?_, ?_, ?_, ?_, ?_, ?_, ?_, ?_, ?_, fun x hx => ?_, ?_⟩
  · rw [si_b _ _ j6, si_b _ _ j2, si_b _ _ j3, si_b _ _ j7, si_b _ _ j4, si_b _ _ j5, m1 j j1 j8]
  · rw [si_b _ _ (by omega), si_b _ _ (by omega), si_b _ _ (by omega), si_b _ _ (by omega), si_b _ _ (by omega), si_b _ _ (by omega), m2]
  · rw [si_b _ _ (by omega), si_eq]
  · rw [si_b _ _ (by omega), si_b _ _ (by omega), si_eq]
  · rw [si_b _ _ (by omega), si_b _ _ (by omega), si_b _ _ (by omega), si_b _ _ (by omega), si_eq, m1 8 (by omega) (by omega)]
  · rw [si_b _ _ (by omega), si_b _ _ (by omega), si_b _ _ (by omega), si_b _ _ (by omega), si_b _ _ (by omega), si_eq, m1 9 (by omega) (by omega)]
  · rw [si_eq, m1 11 (by omega) (by omega)]
  · rw [si_b _ _ (by omega), si_b _ _ (by omega), si_b _ _ (by omega), si_eq]
  · rw [si_b _ _ (by omega), si_b _ _ (by omega), si_b _ _ (by omega), si_b _ _ (by omega), si_b _ _ (by omega), si_b _ _ (by omega), m3]
  · rw [si_r _ _ hx, si_r _ _ hx, si_r _ _ hx, si_r _ _ hx, si_r _ _ hx, si_r _ _ hx, m4 x hx]
  · rw [si_2, si_2, si_2, si_2, si_2, si_2, m5]
theorem off8 {t : zkS} {u a f d lim : Nat} (ha : a < 24) (hf : f < 24) (hfa : f ≠ a) (h6 : t.1 u 6 = nI d) (hd : d < 24) (h3 : t.1 u 3 = nI lim) (hl : lim ≤ d) (hp : bt (t.1 u 14) a = true) :
    ∃ t', fX8_goesDown u (nI a) (nI f) t = some t' ∧ (∀ j, j ≠ 12 → j ≠ 13 → j ≠ 10 → j ≠ 92 + f → j ≠ 92 + a → t'.1 u j = t.1 u j) ∧ t'.1 u 12 = t.1 u 12 ||| (1 <<< (nI f &&& 31)) ∧ t'.1 u 13 = t.1 u 13 ||| (1 <<< (nI f &&& 31)) ∧ t'.1 u 10 = t.1 u 10 + 1 ∧ t'.1 u (92 + f) = 0 ∧ t'.1 u (92 + a) = t.1 u (92 + a) + 1 ∧ (∀ a, a ≠ u → t'.1 a = t.1 a) ∧ t'.2 = t.2 := by
  obtain ⟨M, eM, m1, m2, m3, m4, m5⟩ := marks8 (t := t) (u := u) hf
  have M6 : M.1 u 6 = nI d := (m1 6 (by omega) (by omega)).trans h6
  have M3 : M.1 u 3 = nI lim := (m1 3 (by omega) (by omega)).trans h3
  have M14 : M.1 u 14 = t.1 u 14 := m1 14 (by omega) (by omega)
  have key : fX8_goesDown u (nI a) (nI f) t = some (zsi (zsi (zsi M u 13 (M.1 u 13 ||| (1 <<< (nI f &&& 31)))) u 10 (M.1 u 10 + 1)) u (92 + a) (M.1 u (92 + a) + 1)) := by
    unfold fX8_goesDown
    simp only [jn, zlt]
    rw [eM, zb1_s, rd_6, rd_3, M6, M3, if_pos (nI_le hl (by omega))]
    simp only [if_true]
    rw [rd_14, M14, bit8_eq _ (by omega), hp, if_pos (show true = true from rfl), if_neg (show ¬ (1 : Int32) = 0 by decide), rd_13, wr_13, rd_10, wr_10, rd_92c ha, wr_92c ha, si_b _ _ (show 92 + a ≠ 10 by omega), si_b _ _ (show 92 + a ≠ 13 by omega), si_b _ _ (show 10 ≠ 13 by decide)]
  refine ⟨_, key, fun j j1 j2 j3 j4 j5 => ?_, ?_, ?_, ?_, ?_, ?_, fun x hx => ?_, ?_⟩
  · rw [si_b _ _ j5, si_b _ _ j3, si_b _ _ j2, m1 j j1 j4]
  · rw [si_b _ _ (by omega), si_b _ _ (by omega), si_b _ _ (by omega), m2]
  · rw [si_b _ _ (by omega), si_b _ _ (by omega), si_eq, m1 13 (by omega) (by omega)]
  · rw [si_b _ _ (by omega), si_eq, m1 10 (by omega) (by omega)]
  · rw [si_b _ _ (by omega), si_b _ _ (by omega), si_b _ _ (by omega), m3]
  · rw [si_eq, m1 (92 + a) (by omega) (by omega)]
  · rw [si_r _ _ hx, si_r _ _ hx, si_r _ _ hx, m4 x hx]
  · rw [si_2, si_2, si_2, m5]
theorem up8_0 {t : zkS} {u : Nat} (h6 : t.1 u 6 = 0) : fX8_goesUp u t = some (zsi t u 4 (-5)) := by
  unfold fX8_goesUp
  rw [rd_6, h6, if_pos rfl, wr_4]
theorem up8_1 {t : zkS} {u e x : Nat} (h6 : t.1 u 6 = nI (e + 1)) (he : e < 24) (hx : x < 24) (ex : t.1 u (116 + e) = nI x) : fX8_goesUp u t = some (zsi (zsi (zsi t u 6 (nI e)) u 4 (nI x)) u (92 + x) (t.1 u (92 + x) + 1)) := by
  unfold fX8_goesUp
  simp only [zlt]
  rw [rd_6, h6, if_neg (show ¬ nI (e + 1) = 0 from fun q => by have := (nI_eq0 (by omega)).mp q; omega), rd_6, h6, wr_6, show nI (e + 1) - 1 = nI e from pk_sub (b := 1) (by omega), rd_6, si_eq, rd_116c he, si_b _ _ (show 116 + e ≠ 6 by omega), ex, wr_4, rd_4, si_eq, rd_92c hx, wr_92c hx, si_b _ _ (show 92 + x ≠ 4 by omega), si_b _ _ (show 92 + x ≠ 6 by omega)]
theorem up7_0 {s : zkS} {b : Nat} (h5 : s.1 b 5 = 0) : fX2_comeUp b s = some (zsi s b 4 (-5)) := by
  unfold fX2_comeUp
  rw [h5, if_pos (by decide)]
  rfl
theorem up7_1 {s : zkS} {b e x : Nat} (h5 : s.1 b 5 = nI (e + 1)) (he : e < 24) (hx : x < 24) (ex : s.1 (b + 1) e = nI x) : fX2_comeUp b s = some (zsi (zsi (zsi s b 5 (nI e)) b 4 (nI x)) (b + 2) x (s.1 (b + 2) x + 1)) := by
  unfold fX2_comeUp
  rw [h5, if_neg (show ¬ nI (e + 1) ≤ 0 from nI_ge (a := 0) (by omega) (by omega)), if_neg (show ¬ (24 : Int32) < nI (e + 1) from nI_nlt (a := 24) (by omega) (by decide)), show nI (e + 1) - 1 = nI e from pk_sub (b := 1) (by omega)]
  unfold zpi
  try dsimp only
  rw [si_eq, rd24 he, si_r _ _ (show b + 1 ≠ b by omega), ex]
  try dsimp only
  rw [si_eq, cnt7 hx, zb1_s, putc7 hx, zb1_s, si_r _ _ (show b + 2 ≠ b by omega), si_r _ _ (show b + 2 ≠ b by omega)]
theorem none8_A {t : zkS} {u nx : Nat} (hnx : nx < 4) (h5 : t.1 u 5 = nI nx) (hv : hC (t.1 u 12) (t.1 u (16 + nx))) : fX8_stepAtNone u (zsi t u 7 (t.1 u 7 + 1)) = some (zsi (zsi t u 7 (t.1 u 7 + 1)) u 5 (t.1 u 5 + 1)) := by
  unfold fX8_stepAtNone
  rw [rd_5, si_b _ _ (show 5 ≠ 7 by decide), h5, if_neg (show ¬ (4 : Int32) ≤ nI nx from nI_ge (b := 4) hnx (by decide)), rd_5, si_b _ _ (show 5 ≠ 7 by decide), h5, rd_16c hnx, rd_5, si_b _ _ (show 5 ≠ 7 by decide), h5, wr_5, si_b _ _ (show 16 + nx ≠ 7 by omega)]
  rcases hv with e | ⟨f, hf, e, hb⟩
  · rw [e, if_pos (by decide)]
  · rw [e, if_neg (nI_nneg (by omega)), rd_12, si_b _ _ (show 12 ≠ 5 by decide), si_b _ _ (show 12 ≠ 7 by decide), bit8_eq _ (by omega), hb, if_neg (by decide)]
theorem none8_B {t : zkS} {u nx f : Nat} (hnx : nx < 4) (h5 : t.1 u 5 = nI nx) (hf : f < 24) (e : t.1 u (16 + nx) = nI f) (hn : bt (t.1 u 12) f = false) : fX8_stepAtNone u (zsi t u 7 (t.1 u 7 + 1)) = some (zsi (zsi (zsi (zsi (zsi t u 7 (t.1 u 7 + 1)) u 5 (t.1 u 5 + 1)) u 12 (t.1 u 12 ||| (1 <<< (nI f &&& 31)))) u (92 + f) 0) u 4 (nI f)) := by
  unfold fX8_stepAtNone fX8_marks
  rw [rd_5, si_b _ _ (show 5 ≠ 7 by decide), h5, if_neg (show ¬ (4 : Int32) ≤ nI nx from nI_ge (b := 4) hnx (by decide)), rd_5, si_b _ _ (show 5 ≠ 7 by decide), h5, rd_16c hnx, rd_5, si_b _ _ (show 5 ≠ 7 by decide), h5, wr_5, si_b _ _ (show 16 + nx ≠ 7 by omega), e, if_neg (nI_nneg (by omega)), rd_12, si_b _ _ (show 12 ≠ 5 by decide), si_b _ _ (show 12 ≠ 7 by decide), bit8_eq _ (by omega), hn, if_pos (by decide), rd_12, si_b _ _ (show 12 ≠ 5 by decide), si_b _ _ (show 12 ≠ 7 by decide), wr_12, wr_92c hf, zb1_s, wr_4]
theorem out7_A {s : zkS} {b o nx : Nat} {w : Nat → Int32} (hr : rG s o w) (hnx : nx < 4) (h8 : s.1 b 8 = nI nx) (h2 : s.1 b 2 = w 12) (hv : hC (w 12) (w (16 + nx))) : fX2_setOut b o s = some (zsi s b 8 (s.1 b 8 + 1)) := by
  unfold fX2_setOut
  rw [h8, if_neg (show ¬ (4 : Int32) ≤ nI nx from nI_ge (b := 4) hnx (by decide)), root7 hr hnx, zb1_s, h2]
  rcases hv with e | ⟨f, hf, e, hb⟩
  · rw [e, if_pos rfl]
    rfl
  · rw [e, if_neg (nI_m5 (by omega)), has_eq, hasN_nI hf, hb, if_neg (by decide)]
    rfl
theorem out7_B {s : zkS} {b o nx f : Nat} {w : Nat → Int32} (hr : rG s o w) (hnx : nx < 4) (h8 : s.1 b 8 = nI nx) (h2 : s.1 b 2 = w 12) (hf : f < 24) (e : w (16 + nx) = nI f) (hn : bt (w 12) f = false) : ∃ s', fX2_setOut b o s = some s' ∧ (∀ j, j ≠ 8 → j ≠ 2 → j ≠ 4 → s'.1 b j = s.1 b j) ∧ s'.1 b 8 = s.1 b 8 + 1 ∧ s'.1 b 2 = s.1 b 2 ||| fX7_bit (nI f) ∧ s'.1 b 4 = nI f ∧ s'.1 (b + 1) = s.1 (b + 1) ∧ (∀ c, c ≠ f → s'.1 (b + 2) c = s.1 (b + 2) c) ∧ s'.1 (b + 2) f = 0 ∧ (∀ a, a ≠ b → a ≠ b + 1 → a ≠ b + 2 → s'.1 a = s.1 a) ∧ s'.2 = s.2 := by
  obtain ⟨M, eM, m1, m2, m3, m4, m5, m6⟩ := mark7 (s := s) (b := b) hf
  have key : fX2_setOut b o s = some (zsi (zsi M b 4 (nI f)) b 8 (M.1 b 8 + 1)) := by
    unfold fX2_setOut
    rw [h8, if_neg (show ¬ (4 : Int32) ≤ nI nx from nI_ge (b := 4) hnx (by decide)), root7 hr hnx, zb1_s, h2, e, if_neg (nI_m5 (by omega)), has_eq, hasN_nI hf, hn, if_pos (by decide), eM, zb1_s]
    unfold zpi
    try dsimp only
    rw [si_b _ _ (show 8 ≠ 4 by decide)]
  refine ⟨_, key, fun j j1 j2 j3 => ?_, ?_, ?_, ?_, ?_, fun c hc => ?_, ?_, fun x x1 x2 x3 => ?_, ?_⟩
  · rw [si_b _ _ j1, si_b _ _ j3, m1 j j2]
  · rw [si_eq, m1 8 (by decide)]
  · rw [si_b _ _ (by decide), si_b _ _ (by decide), m2]
  · rw [si_b _ _ (by decide), si_eq]
  · rw [si_r _ _ (by omega), si_r _ _ (by omega), m5 _ (by omega) (by omega)]
  · rw [si_r _ _ (by omega), si_r _ _ (by omega), m3 c hc]
  · rw [si_r _ _ (by omega), si_r _ _ (by omega), m4]
  · rw [si_r _ _ x1, si_r _ _ x1, m5 _ x1 x3]
  · rw [si_2, si_2, m6]
theorem out7_C {s : zkS} {b o k : Nat} (h8 : s.1 b 8 = 4) (h3 : ¬ s.1 b 3 = 0) (hk : k < 24) (e : fX7_firstOf (s.1 b 3) = nI k) : fX2_setOut b o s = some (zsi (zsi (zsi s b 4 (nI k)) b 3 (s.1 b 3 &&& (fX7_bit (nI k) ^^^ (-1)))) (b + 2) k 0) := by
  unfold fX2_setOut
  rw [h8, if_pos (by decide), if_neg h3, e]
  unfold zpi
  try dsimp only
  rw [si_b _ _ (show 3 ≠ 4 by decide), si_eq, si_b _ _ (show 4 ≠ 3 by decide), si_eq, putc7 hk, zb1_s]
theorem out7_D {s : zkS} {b o : Nat} (h8 : s.1 b 8 = 4) (h3 : s.1 b 3 = 0) : fX2_setOut b o s = some (zsi (zsi s b 0 0) b 1 1) := by
  unfold fX2_setOut
  rw [h8, if_pos (by decide), h3, if_pos rfl]
  rfl
