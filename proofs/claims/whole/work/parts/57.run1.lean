/-! ===== one step of a marking: both sides run ===== -/
theorem nI_m5 {a : Nat} (h : a < 2 ^ 31) : ¬ nI a = -5 := fun q => nI_nneg h (by rw [q]; decide)
theorem bit_ne {c : Nat} (hc : c < 24) : ¬ fX7_bit (nI c) = 0 := fun q => by
  have := bit_bt hc c
  rw [q, b_0] at this
  exact absurd this (by simp)
theorem putc7 {s : zkS} {k c : Nat} {v : Int32} (hc : c < 24) : fX2_putCount k (nI c) v s = some (zsi s (k + 2) c v) := by
  unfold fX2_putCount
  rw [if_neg (bit_ne hc), wr24 hc]
theorem root7 {s : zkS} {o nx : Nat} {w : Nat → Int32} (hr : rG s o w) (h : nx < 4) : fX0_heldByRoot o (nI nx) s = some (w (16 + nx)) := by
  unfold fX0_heldByRoot fX7_isRoot
  rw [if_neg (nI_nneg (by omega)), if_neg (show ¬ (4 : Int32) ≤ nI nx from nI_ge (b := 4) h (by decide)), if_neg (by decide), rd_nI h (by decide), hr.2.2.2.2.2 nx h]
theorem lead7 {s : zkS} {o a q z : Nat} {w : Nat → Int32} (hr : rG s o w) (hg : wG w) (ha : a < 24) (hb : bt (w 1) a = true) (ez : w (68 + a) = nI z) (hz : z ≤ 6) (hlt : q < z) : fX0_leadsTo o (nI a) (nI q) s = some (ld w a q) := by
  have e : isF w (nI a) (nI q) = true := by
    rw [isF_nI ha (by omega), hb, Bool.true_and, ez, decide_eq_true (nI_ge hlt (by omega))]
  rw [fol7 hr hg, e, if_pos rfl, fldN_nI ha (by omega), nI_clamp (by omega)]
  rfl
theorem lead8s {t : zkS} {u a q z : Nat} {v : Int32} (hg : wG (t.1 u)) (ha : a < 24) (ez : t.1 u (68 + a) = nI z) (hz : z ≤ 6) (hlt : q < z) : fX8_leads u (nI a) (nI q) (zsi t u 7 v) = some (ld (t.1 u) a q) := by
  have hg' : wG ((zsi t u 7 v).1 u) := wG_c (fun j hj => si_b _ _ (by unfold iG at hj; omega)) hg
  rw [leads8 hg' ha (by omega) (by rw [si_b _ _ (by omega), ez]; exact nI_lt hlt (by omega)), si_b _ _ (show 20 + a ≠ 7 by omega), si_b _ _ (show 44 + a ≠ 7 by omega), si_b _ _ (show 140 + 6 * a + q ≠ 7 by omega)]
  rfl
theorem mark7 {s : zkS} {b f : Nat} (hf : f < 24) : ∃ s', fX2_mark b (nI f) s = some s' ∧ (∀ j, j ≠ 2 → s'.1 b j = s.1 b j) ∧ s'.1 b 2 = s.1 b 2 ||| fX7_bit (nI f) ∧ (∀ c, c ≠ f → s'.1 (b + 2) c = s.1 (b + 2) c) ∧ s'.1 (b + 2) f = 0 ∧ (∀ a, a ≠ b → a ≠ b + 2 → s'.1 a = s.1 a) ∧ s'.2 = s.2 := by
  refine ⟨zsi (zsi s b 2 (s.1 b 2 ||| fX7_bit (nI f))) (b + 2) f 0, ?_, fun j hj => ?_, ?_, fun c hc => ?_, ?_, fun a h1 h2 => ?_, rfl⟩
  · unfold fX2_mark zpi
    dsimp only
    rw [putc7 hf, zb1_s]
  · rw [si_r _ _ (by omega), si_b _ _ hj]
  · rw [si_r _ _ (by omega), si_eq]
  · rw [si_b _ _ hc, si_r _ _ (by omega)]
  · rw [si_eq]
  · rw [si_r _ _ h2, si_r _ _ h1]
theorem marks8 {t : zkS} {u f : Nat} (hf : f < 24) : ∃ t', fX8_marks u (nI f) t = some t' ∧ (∀ j, j ≠ 12 → j ≠ 92 + f → t'.1 u j = t.1 u j) ∧ t'.1 u 12 = t.1 u 12 ||| (1 <<< (nI f &&& 31)) ∧ t'.1 u (92 + f) = 0 ∧ (∀ a, a ≠ u → t'.1 a = t.1 a) ∧ t'.2 = t.2 := by
  refine ⟨zsi (zsi t u 12 (t.1 u 12 ||| (1 <<< (nI f &&& 31)))) u (92 + f) 0, ?_, fun j h1 h2 => ?_, ?_, ?_, fun a h => ?_, rfl⟩
  · unfold fX8_marks
    rw [rd_12, wr_12, wr_92c hf]
  · rw [si_b _ _ h2, si_b _ _ h1]
  · rw [si_b _ _ (by omega), si_eq]
  · rw [si_eq]
  · rw [si_r _ _ h, si_r _ _ h]
theorem down7 {s : zkS} {b d : Nat} {p : Int32} (h5 : s.1 b 5 = nI d) (hd : d < 24) : ∃ s', fX2_goDown b p s = some s' ∧ (∀ j, j ≠ 5 → j ≠ 12 → j ≠ 4 → s'.1 b j = s.1 b j) ∧ s'.1 b 5 = nI (d + 1) ∧ s'.1 b 12 = (if s.1 b 12 < nI (d + 1) then nI (d + 1) else s.1 b 12) ∧ s'.1 b 4 = p ∧ (∀ j, j ≠ d → s'.1 (b + 1) j = s.1 (b + 1) j) ∧ s'.1 (b + 1) d = s.1 b 4 ∧ (∀ a, a ≠ b → a ≠ b + 1 → s'.1 a = s.1 a) ∧ s'.2 = s.2 := by
  have e1 : ∀ j, (zsi s (b + 1) d (s.1 b 4)).1 b j = s.1 b j := fun j => by rw [si_r _ _ (by omega)]
  refine ⟨zsi (zsi (zsi (zsi s (b + 1) d (s.1 b 4)) b 5 (nI (d + 1))) b 12 (if s.1 b 12 < nI (d + 1) then nI (d + 1) else s.1 b 12)) b 4 p, ?_, fun j q1 q2 q3 => ?_, ?_, ?_, ?_, fun j q => ?_, ?_, fun a q1 q2 => ?_, rfl⟩
  · unfold fX2_goDown
    simp only [jn]
    rw [h5, if_neg (nI_nneg (by omega)), if_neg (nI_n24 hd), wr24 hd]
    unfold zpi
    try dsimp only
    rw [e1, h5, nI_1, si_b _ _ (show 12 ≠ 5 by decide), e1, si_eq]
  · rw [si_b _ _ q3, si_b _ _ q2, si_b _ _ q1, e1]
  · rw [si_b _ _ (by decide), si_b _ _ (by decide), si_eq]
  · rw [si_b _ _ (by decide), si_eq]
  · rw [si_eq]
  · rw [si_r _ _ (by omega), si_r _ _ (by omega), si_r _ _ (by omega), si_b _ _ q]
  · rw [si_r _ _ (by omega), si_r _ _ (by omega), si_r _ _ (by omega), si_eq]
  · rw [si_r _ _ q1, si_r _ _ q1, si_r _ _ q1, si_r _ _ q2]
theorem stp_none {s S : zkS} {b o : Nat} (h4 : s.1 b 4 = -5) (e : fX2_setOut b o s = some S) : stp7 b o s = some (zsi S b 6 (S.1 b 6 + 1)) := by
  unfold stp7
  rw [if_pos h4, e, zb1_s]
theorem stp_up {s S : zkS} {b o a q z : Nat} (ha : a < 24) (h4 : s.1 b 4 = nI a) (hc : s.1 (b + 2) a = nI q) (hs : fX0_sizeOf o (nI a) s = some (nI z)) (h : z ≤ q) (hq : q ≤ 6) (e : fX2_comeUp b s = some S) : stp7 b o s = some (zsi S b 6 (S.1 b 6 + 1)) := by
  unfold stp7
  rw [h4, if_neg (nI_m5 (by omega)), cnt7 ha, zb1_s, hs, zb1_s, hc, if_pos (nI_le h (by omega)), e, zb1_s]
theorem stp_on {s S : zkS} {b o a q z : Nat} (ha : a < 24) (h4 : s.1 b 4 = nI a) (hc : s.1 (b + 2) a = nI q) (hs : fX0_sizeOf o (nI a) s = some (nI z)) (h : q < z) (hz : z ≤ 6) (e : fX2_goOn b o s = some S) : stp7 b o s = some (zsi S b 6 (S.1 b 6 + 1)) := by
  unfold stp7
  rw [h4, if_neg (nI_m5 (by omega)), cnt7 ha, zb1_s, hs, zb1_s, hc, if_neg (nI_ge h (by omega)), e, zb1_s]
theorem st8_none {t T : zkS} {u : Nat} (h4 : t.1 u 4 = -5) (e : fX8_stepAtNone u (zsi t u 7 (t.1 u 7 + 1)) = some T) : fX8_steps u t = some T := by
  unfold fX8_steps
  rw [rd_4, rd_7, wr_7, h4, if_neg (by decide), e, zb1_s]
theorem st8_up {t T : zkS} {u a q z : Nat} (ha : a < 24) (h4 : t.1 u 4 = nI a) (h92 : t.1 u (92 + a) = nI q) (h68 : t.1 u (68 + a) = nI z) (h : z ≤ q) (hq : q ≤ 6) (e : fX8_goesUp u (zsi t u 7 (t.1 u 7 + 1)) = some T) : fX8_steps u t = some T := by
  unfold fX8_steps
  rw [rd_4, rd_7, wr_7, h4, if_pos (nI_pos' (by omega)), rd_92c ha, rd_68c ha, si_b _ _ (show 92 + a ≠ 7 by omega), si_b _ _ (show 68 + a ≠ 7 by omega), h92, h68, if_pos (nI_le h (by omega)), e, zb1_s]
theorem st8_skip {t : zkS} {u a q z : Nat} (hg : wG (t.1 u)) (ha : a < 24) (h4 : t.1 u 4 = nI a) (h92 : t.1 u (92 + a) = nI q) (h68 : t.1 u (68 + a) = nI z) (h : q < z) (hz : z ≤ 6) (hv : hC (t.1 u 12) (ld (t.1 u) a q)) : fX8_steps u t = some (zsi (zsi t u 7 (t.1 u 7 + 1)) u (92 + a) (t.1 u (92 + a) + 1)) := by
  unfold fX8_steps
  simp only [jn, zlt]
  rw [rd_4, rd_7, wr_7, h4, if_pos (nI_pos' (by omega)), rd_92c ha, rd_68c ha, si_b _ _ (show 92 + a ≠ 7 by omega), si_b _ _ (show 68 + a ≠ 7 by omega), h92, h68, if_neg (nI_ge h (by omega)), rd_92c ha, si_b _ _ (show 92 + a ≠ 7 by omega), h92, lead8s hg ha h68 hz h, zb1_s, rd_92c ha, wr_92c ha, si_b _ _ (show 92 + a ≠ 7 by omega), h92]
  rcases hv with e | ⟨f, hf, e, hb⟩
  · rw [e, if_pos (by decide)]
  · rw [e, if_neg (nI_nneg (by omega)), rd_12, si_b _ _ (show 12 ≠ 7 by decide), bit8_eq _ (by omega), hb, if_neg (by decide)]
theorem st8_down {t T : zkS} {u a q z f : Nat} (hg : wG (t.1 u)) (ha : a < 24) (h4 : t.1 u 4 = nI a) (h92 : t.1 u (92 + a) = nI q) (h68 : t.1 u (68 + a) = nI z) (h : q < z) (hz : z ≤ 6) (hf : f < 24) (hv : ld (t.1 u) a q = nI f) (hn : bt (t.1 u 12) f = false) (e : fX8_goesDown u (nI a) (nI f) (zsi t u 7 (t.1 u 7 + 1)) = some T) : fX8_steps u t = some T := by
  unfold fX8_steps
  simp only [jn, zlt]
  rw [rd_4, rd_7, wr_7, h4, if_pos (nI_pos' (by omega)), rd_92c ha, rd_68c ha, si_b _ _ (show 92 + a ≠ 7 by omega), si_b _ _ (show 68 + a ≠ 7 by omega), h92, h68, if_neg (nI_ge h (by omega)), rd_92c ha, si_b _ _ (show 92 + a ≠ 7 by omega), h92, lead8s hg ha h68 hz h, zb1_s, hv, if_neg (nI_nneg (by omega)), rd_12, si_b _ _ (show 12 ≠ 7 by decide), bit8_eq _ (by omega), hn, if_pos (by decide), e, zb1_s]
theorem goOn_skip {s : zkS} {b o a q z : Nat} {w : Nat → Int32} (hr : rG s o w) (hg : wG w) (ha : a < 24) (h4 : s.1 b 4 = nI a) (hc : s.1 (b + 2) a = nI q) (hb : bt (w 1) a = true) (ez : w (68 + a) = nI z) (hz : z ≤ 6) (h : q < z) (h2 : s.1 b 2 = w 12) (hv : hC (w 12) (ld w a q)) : fX2_goOn b o s = some (zsi s (b + 2) a (s.1 (b + 2) a + 1)) := by
  unfold fX2_goOn
  simp only [jn]
  rw [h4, cnt7 ha, zb1_s, hc, lead7 hr hg ha hb ez hz h, zb1_s, zb1_s, putc7 ha, zb1_s, h2]
  rcases hv with e | ⟨f, hf, e, hb⟩
  · rw [e, if_pos rfl]
  · rw [e, if_neg (nI_m5 (by omega)), has_eq, hasN_nI hf, hb, if_neg (by decide)]
/-- which of pushed and turned grows -/
def gT (d lim : Nat) : Int32 := if d < lim then 0 else 1
def gP (d lim : Nat) : Int32 := if d < lim then 1 else 0
theorem goOn_down {s : zkS} {b o a q z d lim f : Nat} {w : Nat → Int32} (hbo : o + 5 < b) (hr : rG s o w) (hg : wG w) (ha : a < 24) (h4 : s.1 b 4 = nI a) (hc : s.1 (b + 2) a = nI q) (hb : bt (w 1) a = true) (ez : w (68 + a) = nI z) (hz : z ≤ 6) (h : q < z) (h2 : s.1 b 2 = w 12) (h5 : s.1 b 5 = nI d) (hd : d < 24) (h7 : s.1 b 7 = nI lim) (hl : lim ≤ 8) (hf : f < 24) (hv : ld w a q = nI f) (hn : bt (w 12) f = false) (hp : lim ≤ d → bt (w 14) a = false) :
    ∃ s', fX2_goOn b o s = some s' ∧ (∀ j, j ≠ 2 → j ≠ 4 → j ≠ 5 → j ≠ 9 → j ≠ 10 → j ≠ 12 → s'.1 b j = s.1 b j) ∧ s'.1 b 2 = s.1 b 2 ||| fX7_bit (nI f) ∧ s'.1 b 4 = nI f ∧ s'.1 b 5 = nI (d + 1) ∧ s'.1 b 9 = s.1 b 9 + gT d lim ∧ s'.1 b 10 = s.1 b 10 + gP d lim ∧ s'.1 b 12 = (if s.1 b 12 < nI (d + 1) then nI (d + 1) else s.1 b 12) ∧ (∀ j, j ≠ d → s'.1 (b + 1) j = s.1 (b + 1) j) ∧ s'.1 (b + 1) d = nI a ∧ (∀ c, c ≠ f → s'.1 (b + 2) c = s.1 (b + 2) c) ∧ s'.1 (b + 2) f = 0 ∧ (∀ a, a ≠ b → a ≠ b + 1 → a ≠ b + 2 → s'.1 a = s.1 a) ∧ s'.2 = s.2 := by
  obtain ⟨M, eM, m1, m2, m3, m4, m5, m6⟩ := mark7 (s := s) (b := b) hf
  unfold fX2_goOn
  simp only [jn]
  rw [h4, cnt7 ha, zb1_s, hc, lead7 hr hg ha hb ez hz h, zb1_s, hv, if_neg (nI_m5 (by omega)), h2, has_eq, hasN_nI hf, hn, if_pos (by decide), eM, zb1_s, m1 7 (by decide), m1 5 (by decide), m1 4 (by decide), h7, h5, h4]
  by_cases g : d < lim
  · rw [if_neg (nI_ge g (by omega))]
    unfold zpi
    try dsimp only
    obtain ⟨S, eS, s1, s2, s3, s4, s5, s6, s7, s8⟩ := down7 (s := zsi M b 10 (M.1 b 10 + 1)) (b := b) (p := nI f) (d := d) (by rw [si_b _ _ (by decide), m1 5 (by decide), h5]) hd
    rw [eS, zb1_s]
    refine ⟨S, rfl, fun j j1 j2 j3 j4 j5 j6 => ?_, ?_, s4, s2, ?_, ?_, ?_, fun j hj => ?_, ?_, fun c hc => ?_, ?_, fun a a1 a2 a3 => ?_, ?_⟩
    · rw [s1 j j3 j6 j2, si_b _ _ j5, m1 j j1]
    · rw [s1 2 (by decide) (by decide) (by decide), si_b _ _ (by decide), m2, h2]
    · rw [s1 9 (by decide) (by decide) (by decide), si_b _ _ (by decide), m1 9 (by decide)]
      unfold gT
      rw [if_pos g, Int32.add_zero]
    · rw [s1 10 (by decide) (by decide) (by decide), si_eq, m1 10 (by decide)]
      unfold gP
      rw [if_pos g]
    · rw [s3, si_b _ _ (by decide), m1 12 (by decide)]
    · rw [s5 j hj, si_r _ _ (by omega), m5 _ (by omega) (by omega)]
    · rw [s6, si_b _ _ (by decide), m1 4 (by decide), h4]
    · rw [s7 _ (by omega) (by omega), si_r _ _ (by omega), m3 c hc]
    · rw [s7 _ (by omega) (by omega), si_r _ _ (by omega), m4]
    · rw [s7 _ a1 a2, si_r _ _ a1, m5 _ a1 a3]
    · rw [s8, si_2, m6]
  · rw [if_pos (nI_le (by omega) (by omega)), has_eq, hasN_nI ha, m5 o (by omega) (by omega), hr.2.2.1, hp (by omega), if_pos (by decide)]
    unfold zpi
    try dsimp only
    obtain ⟨S, eS, s1, s2, s3, s4, s5, s6, s7, s8⟩ := down7 (s := zsi M b 9 (M.1 b 9 + 1)) (b := b) (p := nI f) (d := d) (by rw [si_b _ _ (by decide), m1 5 (by decide), h5]) hd
    rw [eS, zb1_s]
    refine ⟨S, rfl, fun j j1 j2 j3 j4 j5 j6 => ?_, ?_, s4, s2, ?_, ?_, ?_, fun j hj => ?_, ?_, fun c hc => ?_, ?_, fun a a1 a2 a3 => ?_, ?_⟩
    · rw [s1 j j3 j6 j2, si_b _ _ j4, m1 j j1]
    · rw [s1 2 (by decide) (by decide) (by decide), si_b _ _ (by decide), m2, h2]
    · rw [s1 9 (by decide) (by decide) (by decide), si_eq, m1 9 (by decide)]
      unfold gT
      rw [if_neg g]
    · rw [s1 10 (by decide) (by decide) (by decide), si_b _ _ (by decide), m1 10 (by decide)]
      unfold gP
      rw [if_neg g, Int32.add_zero]
    · rw [s3, si_b _ _ (by decide), m1 12 (by decide)]
    · rw [s5 j hj, si_r _ _ (by omega), m5 _ (by omega) (by omega)]
    · rw [s6, si_b _ _ (by decide), m1 4 (by decide), h4]
    · rw [s7 _ (by omega) (by omega), si_r _ _ (by omega), m3 c hc]
    · rw [s7 _ (by omega) (by omega), si_r _ _ (by omega), m4]
    · rw [s7 _ a1 a2, si_r _ _ a1, m5 _ a1 a3]
    · rw [s8, si_2, m6]
theorem goOn_off {s : zkS} {b o a q z d lim f : Nat} {w : Nat → Int32} (hbo : o + 5 < b) (hr : rG s o w) (hg : wG w) (ha : a < 24) (h4 : s.1 b 4 = nI a) (hc : s.1 (b + 2) a = nI q) (hb : bt (w 1) a = true) (ez : w (68 + a) = nI z) (hz : z ≤ 6) (h : q < z) (h2 : s.1 b 2 = w 12) (h5 : s.1 b 5 = nI d) (hd : d < 24) (h7 : s.1 b 7 = nI lim) (hf : f < 24) (hfa : f ≠ a) (hv : ld w a q = nI f) (hn : bt (w 12) f = false) (hld : lim ≤ d) (hp : bt (w 14) a = true) :
    ∃ s', fX2_goOn b o s = some s' ∧ (∀ j, j ≠ 2 → j ≠ 3 → j ≠ 11 → s'.1 b j = s.1 b j) ∧ s'.1 b 2 = s.1 b 2 ||| fX7_bit (nI f) ∧ s'.1 b 3 = s.1 b 3 ||| fX7_bit (nI f) ∧ s'.1 b 11 = s.1 b 11 + 1 ∧ s'.1 (b + 1) = s.1 (b + 1) ∧ (∀ c, c ≠ f → c ≠ a → s'.1 (b + 2) c = s.1 (b + 2) c) ∧ s'.1 (b + 2) f = 0 ∧ s'.1 (b + 2) a = s.1 (b + 2) a + 1 ∧ (∀ a, a ≠ b → a ≠ b + 1 → a ≠ b + 2 → s'.1 a = s.1 a) ∧ s'.2 = s.2 := by
  obtain ⟨M, eM, m1, m2, m3, m4, m5, m6⟩ := mark7 (s := s) (b := b) hf
  unfold fX2_goOn
  simp only [jn]
  rw [h4, cnt7 ha, zb1_s, hc, lead7 hr hg ha hb ez hz h, zb1_s, hv, if_neg (nI_m5 (by omega)), h2, has_eq, hasN_nI hf, hn, if_pos (by decide), eM, zb1_s, m1 7 (by decide), m1 5 (by decide), m1 4 (by decide), h7, h5, h4, if_pos (nI_le hld (by omega)), has_eq, hasN_nI ha, m5 o (by omega) (by omega), hr.2.2.1, hp, if_neg (by decide)]
  unfold zpi
  try dsimp only
  rw [si_b _ _ (show 4 ≠ 3 by decide), si_b _ _ (show 4 ≠ 11 by decide), m1 4 (by decide), h4, cnt7 ha, zb1_s, putc7 ha, zb1_s]
  refine ⟨_, rfl, fun j j1 j2 j3 => ?_, ?_, ?_, ?_, ?_, fun c c1 c2 => ?_, ?_, ?_, fun x x1 x2 x3 => ?_, ?_⟩
  · rw [si_r _ _ (by omega), si_b _ _ j2, si_b _ _ j3, m1 j j1]
  · rw [si_r _ _ (by omega), si_b _ _ (by decide), si_b _ _ (by decide), m2, h2]
  · rw [si_r _ _ (by omega), si_eq, si_b _ _ (by decide), m1 3 (by decide)]
  · rw [si_r _ _ (by omega), si_b _ _ (by decide), si_eq, m1 11 (by decide)]
  · rw [si_r _ _ (by omega), si_r _ _ (by omega), si_r _ _ (by omega), m5 _ (by omega) (by omega)]
  · rw [si_b _ _ c2, si_r _ _ (by omega), si_r _ _ (by omega), m3 c c1]
  · rw [si_b _ _ hfa, si_r _ _ (by omega), si_r _ _ (by omega), m4]
  · rw [si_eq, si_r _ _ (by omega), si_r _ _ (by omega), m3 a hfa.symm, hc]
  · rw [si_r _ _ x3, si_r _ _ x1, si_r _ _ x1, m5 _ x1 x3]
  · rw [si_2, si_2, si_2, m6]
