/-! ===== a verdict, a marking begun and left, pins, raw values ===== -/
theorem judge_L {σ τ : zkS} (hR : zRel σ τ) {t n N : Nat} {p2 : Int32} (ht : t < 6) (hn : n ≤ 60) (hl : τ.1 13 t = nI n) (hN : N ≤ 24) (hc : τ.1 1 0 = nI N) : ∀ m i, i ≤ N → N - i < m → (0 < i → ∃ a, p2 = nI a ∧ a + i ≤ n) →
    ∃ r, fX7_judge_L35 m σ (nI t) p2 (nI i) (fun _ => some (-5)) = some r ∧ fX8_judge_L39 m τ (nI t) p2 (nI i) (fun _ => some (-5)) = some r := by
  obtain ⟨⟨hg, hk, hs, hw, hm⟩, -, -, hT⟩ := id hR
  obtain ⟨n', hn', g1, g2, g3, g4⟩ := hT t ht
  have e : n' = n := (nI_eq (by omega) (by omega)).mp (g2.symm.trans hl)
  subst e
  have hc' : σ.1 2 0 = nI N := (show σ.1 2 0 = τ.1 1 0 from hg.1).trans hc
  intro m
  induction m with
  | zero => intro i _ h; omega
  | succ m ih =>
    intro i h1 h2 h3
    unfold fX7_judge_L35 fX8_judge_L39
    rw [rd_0, hc, hc']
    by_cases e : i = N
    · subst e
      rw [if_pos (nI_le (Nat.le_refl i) (by omega)), if_pos (nI_le (Nat.le_refl i) (by omega))]
      exact ⟨_, rfl, rfl⟩
    have hlt : N - (i + 1) < m := by clear h3 ih; omega
    have hle : i + 1 ≤ N := by clear h3 ih; omega
    rw [if_neg (nI_ge (by omega) (by omega)), if_neg (nI_ge (by omega) (by omega)), plc7 hT ht, zb1_s, rd6 ht, rd6 ht, ite01, hl]
    -- where the verdict fails for want of a place
    have bad : (p2 + nI i < 0 ∨ nI n' ≤ p2 + nI i) ∧ (τ.1 12 t = -1 ∨ p2 < 0 ∨ ¬ nI i < nI n' - p2) ∨ ¬ (p2 + nI i < 0 ∨ nI n' ≤ p2 + nI i) ∧ ¬ τ.1 12 t = -1 ∧ ∃ a, p2 = nI a ∧ a + i < n' := by
      by_cases hp : p2 < 0
      · left
        refine ⟨?_, Or.inr (Or.inl hp)⟩
        rcases Nat.eq_zero_or_pos i with h0 | h0
        · subst h0
          exact Or.inl (by rw [show nI 0 = (0 : Int32) from rfl, Int32.add_zero]; exact hp)
        · obtain ⟨a, rfl, ha⟩ := h3 h0
          exact absurd hp (nI_nneg (by omega))
      · obtain ⟨a, ha, rfl⟩ := nI_of hp
        by_cases g : a + i < n'
        · right
          rw [nI_add]
          refine ⟨fun q => q.elim (nI_nneg (by omega)) (nI_ge g (by omega)), fun q => ?_, a, rfl, g⟩
          rcases g3 with ⟨q1, q2, q3⟩ | ⟨y, hy, q1, q2⟩
          · omega
          · rw [q1] at q
            exact nI_nneg (show y < 2 ^ 31 by omega) (by rw [q]; decide)
        · left
          have hai : a + i < 2 ^ 31 ∨ 2 ^ 31 ≤ a + i := by omega
          refine ⟨?_, Or.inr (Or.inr ?_)⟩
          · rcases Nat.eq_zero_or_pos i with h0 | h0
            · subst h0
              right
              rw [nI_add]
              exact nI_le (by omega) (by omega)
            · obtain ⟨a', e', ha'⟩ := h3 h0
              have : a = a' := (nI_eq (by omega) (by omega)).mp e'
              right
              rw [nI_add]
              exact nI_le (by omega) (by omega)
          · intro q
            rw [Int32.lt_iff_toInt_lt, nI_toInt (show i < 2 ^ 31 by omega)] at q
            by_cases ga : a < 2 ^ 30
            · rw [pk_sub_toInt (by omega) ga] at q
              omega
            · have : (nI n' - nI a).toInt < 0 := by
                rw [Int32.toInt_sub, nI_toInt (by omega), nI_toInt ha, Int.bmod_eq_of_le (by omega) (by omega)]
                omega
              omega
    rcases bad with ⟨b1, b2⟩ | ⟨b1, b2, a, rfl, ha⟩
    · rw [if_pos b1]
      refine ⟨100 + nI i, rfl, ?_⟩
      by_cases q1 : τ.1 12 t = -1
      · rw [if_pos q1]
      rw [if_neg q1]
      by_cases q2 : p2 < 0
      · rw [if_pos q2]
      rw [if_neg q2, if_neg ((b2.resolve_left q1).resolve_left q2)]
    · rw [if_neg b1, if_neg b2, if_neg (nI_nneg (by omega)), if_pos (show nI i < nI n' - nI a from by rw [pk_sub (by omega)]; exact nI_lt (by omega) (by omega))]
      unfold fX5_itemAt
      rw [nI_add, plc7 hT ht, zb1_s, ite01, hl, if_neg (fun q => q.elim (nI_nneg (by omega)) (nI_ge ha (by omega))), tpx, rdL_nI (by omega) (by decide), zb1_s, tpx8, nI_add, rdL_nI (by omega) (by decide), rd_12, g4 _ ha, has_eq, hasN_nI (by omega), show σ.1 8 2 = τ.1 1 12 from hk.2.2.1, bit8_eq _ (by omega), ite10, asn10, ← Nat.add_assoc]
      have nxt : ∃ r, (zlt (nI i + 1) fun v9 => fX7_judge_L35 m σ (nI t) (nI a) v9 fun _ => some (-5)) = some r ∧ (zlt (nI i + 1) fun v11 => fX8_judge_L39 m τ (nI t) (nI a) v11 fun _ => some (-5)) = some r := by
        simp only [zlt]
        rw [nI_1]
        exact ih (i + 1) hle hlt (fun _ => ⟨a, rfl, by clear h3 ih; omega⟩)
      cases bt (τ.1 1 12) i with
      | false =>
        rw [if_neg (show ¬ (false = true) by decide), if_neg (show ¬ (false = true) by decide), show ((0 : Int32).toInt64) = 0 from by decide]
        by_cases q : lg_cmp (τ.2 (60 * t + a + i)) 0 = 0
        · rw [if_pos q, if_pos q]
          exact nxt
        · rw [if_neg q, if_neg q]
          exact ⟨_, rfl, rfl⟩
      | true =>
        rw [if_pos (show true = true from rfl), if_pos (show true = true from rfl), show ((1 : Int32).toInt64) = 1 from by decide]
        by_cases q : lg_cmp (τ.2 (60 * t + a + i)) 1 = 0
        · rw [if_pos q, if_pos q]
          exact nxt
        · rw [if_neg q, if_neg q]
          exact ⟨_, rfl, rfl⟩
theorem T_judge {σ τ : zkS} (hR : zRel σ τ) (p1 : Int32) (p2 : Int32) : ∃ (r : Int32), fX7_judge p1 p2 σ = some r ∧ fX8_judge p1 p2 τ = some r ∧ zRel σ τ := by
  unfold fX7_judge fX8_judge
  rw [tape_eq, ite01, in_0 (b := 5) p1 5 (by decide), ite01]
  by_cases h1 : p1 < 0 ∨ nI 5 < p1
  · rw [if_pos h1, if_pos h1]
    exact ⟨_, rfl, rfl, hR⟩
  rw [if_neg h1, if_neg h1]
  obtain ⟨t, ht, rfl⟩ := rng (by decide) h1
  obtain ⟨n, hn, g1, g2, g3, g4⟩ := hR.2.2.2 t (by omega)
  obtain ⟨⟨N, hN, hc, -⟩, -⟩ := hR.1.2.2.2.1
  obtain ⟨r, r7, r8⟩ := judge_L hR (p2 := p2) (show t < 6 by omega) hn g2 hN hc zFU 0 (by omega) (by unfold zFU; omega) (fun q => by omega)
  rw [sort7 (by omega), zb1_s, rd6 (by omega)]
  simp only [jn]
  rw [show (0 : Int32) = nI 0 from rfl, r7, r8]
  rcases g3 with ⟨q1, q2, q3⟩ | ⟨y, hy, q1, q2⟩
  · rw [q1, q2, if_pos rfl, if_pos rfl]
    exact ⟨_, rfl, rfl, hR⟩
  · rw [q1, q2, if_neg (show ¬ nI y = -5 from fun q => nI_nneg (show y < 2 ^ 31 by omega) (by rw [q]; decide)), if_neg (show ¬ nI y = -1 from fun q => nI_nneg (show y < 2 ^ 31 by omega) (by rw [q]; decide)), rd6 (by omega), q1]
    by_cases q : nI y = 4
    · rw [if_pos q]
      exact ⟨_, rfl, rfl, hR⟩
    · rw [if_neg q]
      exact ⟨_, rfl, rfl, hR⟩
theorem lim_eq (p : Int32) : fX7_isLimit p = if p < 0 ∨ nI 8 < p then 0 else 1 := by
  unfold fX7_isLimit
  by_cases h : p < 0
  · rw [if_pos h, if_pos (Or.inl h)]
  · rw [if_neg h]
    by_cases g : (8 : Int32) < p
    · rw [if_pos g, if_pos (show p < 0 ∨ nI 8 < p from Or.inr g)]
    · rw [if_neg g, if_neg (show ¬ (p < 0 ∨ nI 8 < p) from fun q => q.elim h g)]
/-- behind a change of the marking alone -/
theorem rel_K {σ σ' τ τ' : zkS} (hR : zRel σ τ) (hk : rK σ' 8 (τ'.1 1) (fun _ => True)) (hm : wK (τ'.1 1)) (hσ : ∀ a, a ≠ 8 → a ≠ 9 → a ≠ 10 → σ'.1 a = σ.1 a) (hw : ∀ j, iG j ∨ iS j → τ'.1 1 j = τ.1 1 j) (hj : σ'.2 = σ.2) (hτ : ∀ a, a ≠ 1 → τ'.1 a = τ.1 a) (hi : τ'.2 = τ.2) : zRel σ' τ' := by
  obtain ⟨g, k, s, w, m⟩ := hR.1
  exact rel_now hR ⟨rG_c (fun a h1 h2 => hσ a (by omega) (by omega) (by omega)) (fun j hj => hw j (Or.inl hj)) g, hk, rS_c (fun a h1 h2 => hσ a (by omega) (by omega) (by omega)) (fun j hj => hw j (Or.inr hj)) s, wG_c (fun j hj => hw j (Or.inl hj)) w, hm⟩ (fun a h => hσ a (by omega) (by omega) (by omega)) (hσ 0 (by omega) (by omega) (by omega)) hj hτ hi
theorem start_rel {σ : zkS} {w : Nat → Int32} {k lim : Nat} {P : Nat → Prop} (hl : lim ≤ 8) (hk : rK σ k w P) (hm : wK w) {σ' : zkS} {w' : Nat → Int32} (h7 : σ' = fX2_start k (nI lim) σ) (h8 : w' = wu (wu (wu (wu (wu (wu (wu (wu (wu (wu (wu (wu (wu w 2 1) 3 (nI lim)) 4 (-5)) 5 0) 6 0) 7 0) 8 0) 9 0) 10 0) 11 0) 12 0) 13 0) 15 0) : rK σ' k w' P ∧ wK w' := by
  have hne : ∀ j, ¬ (2 ≤ j ∧ j ≤ 13) → j ≠ 15 → w' j = w j := fun j h1 h2 => by
    subst h8
    rw [wu_ne _ _ (by omega), wu_ne _ _ (by omega), wu_ne _ _ (by omega), wu_ne _ _ (by omega), wu_ne _ _ (by omega), wu_ne _ _ (by omega), wu_ne _ _ (by omega), wu_ne _ _ (by omega), wu_ne _ _ (by omega), wu_ne _ _ (by omega), wu_ne _ _ (by omega), wu_ne _ _ (by omega), wu_ne _ _ (by omega)]
  have hrow : ∀ a, a ≠ k → σ'.1 a = σ.1 a := fun a h => by
    subst h7
    show (zsi (zsi (zsi (zsi (zsi (zsi (zsi (zsi (zsi (zsi (zsi (zsi (zsi σ k 0 1) k 1 0) k 2 0) k 3 0) k 4 (-5)) k 5 0) k 6 0) k 7 (nI lim)) k 8 0) k 9 0) k 10 0) k 11 0) k 12 0).1 a = _
    rw [si_row _ _ h, si_row _ _ h, si_row _ _ h, si_row _ _ h, si_row _ _ h, si_row _ _ h, si_row _ _ h, si_row _ _ h, si_row _ _ h, si_row _ _ h, si_row _ _ h, si_row _ _ h, si_row _ _ h]
  have e0 : w' 2 = 1 := by subst h8; rfl
  have ek : ∀ j, σ'.1 k j = if j = 12 then 0 else if j = 11 then 0 else if j = 10 then 0 else if j = 9 then 0 else if j = 8 then 0 else if j = 7 then nI lim else if j = 6 then 0 else if j = 5 then 0 else if j = 4 then -5 else if j = 3 then 0 else if j = 2 then 0 else if j = 1 then 0 else if j = 0 then 1 else σ.1 k j := fun j => by
    subst h7
    show (zsi (zsi (zsi (zsi (zsi (zsi (zsi (zsi (zsi (zsi (zsi (zsi (zsi σ k 0 1) k 1 0) k 2 0) k 3 0) k 4 (-5)) k 5 0) k 6 0) k 7 (nI lim)) k 8 0) k 9 0) k 10 0) k 11 0) k 12 0).1 k j = _
    simp only [si_if, true_and]
  obtain ⟨-, -, -, -, -, -, -, -, -, -, -, -, -, g13⟩ := hk
  obtain ⟨m1, m2, m3, m4, m5, m6, m7⟩ := hm
  have f12 : w' 12 = 0 := by subst h8; rfl
  have f13 : w' 13 = 0 := by subst h8; rfl
  have f15 : w' 15 = 0 := by subst h8; rfl
  have f4 : w' 4 = -5 := by subst h8; rfl
  have f6 : w' 6 = nI 0 := by subst h8; rfl
  refine ⟨⟨?_, ?_, ?_, ?_, ?_, ?_, ?_, ?_, ?_, ?_, ?_, fun _ => ⟨?_, ?_, fun j h1 h2 => ?_⟩, fun q => ?_, fun c hc hP => ?_⟩, ?_, ?_, fun i h => ?_, fun i h => ?_, fun c hc => ?_, fun q => ?_, fun q => ?_⟩
  · rw [ek]; subst h8; rfl
  · rw [ek]; subst h8; rfl
  · rw [ek]; subst h8; rfl
  · rw [ek]; subst h8; rfl
  · rw [ek]; subst h8; rfl
  · rw [ek]; subst h8; rfl
  · rw [ek]; subst h8; rfl
  · rw [ek]; subst h8; rfl
  · rw [ek]; subst h8; rfl
  · rw [ek]; subst h8; rfl
  · rw [ek]; subst h8; rfl
  · rw [ek]; subst h8; rfl
  · rw [ek]; subst h8; rfl
  · rw [f6] at h1
    exact absurd h1 (nI_nlt (by omega) (by omega))
  · rw [e0] at q
    exact absurd q (by decide)
  · rw [hrow (k + 2) (by omega), hne (92 + c) (by omega) (by omega)]
    exact g13 c hc hP
  · exact Or.inr e0
  · exact Or.inl f15
  · rw [f12, b_0] at h
    cases h
  · rw [f13, b_0] at h
    cases h
  · rw [hne (92 + c) (by omega) (by omega), hne 0 (by omega) (by omega)]
    exact m5 c hc
  · rw [f15] at q
    exact absurd q (by decide)
  · exact ⟨lim, 0, 0, hl, by subst h8; rfl, by omega, by subst h8; rfl, by omega, f6, fun r hr => by omega, Or.inl ⟨f4, rfl⟩, fun j hj => by omega, fun i j _ hj => by omega⟩
theorem starts8 {β : Type} (u : Nat) (p : Int32) (τ : zkS) (F : zkS → Option β) : ∃ τ', zb1 (fX8_starts u p τ) F = F τ' ∧ τ'.1 u = wu (wu (wu (wu (wu (wu (wu (wu (wu (wu (wu (wu (wu (τ.1 u) 2 1) 3 p) 4 (-5)) 5 0) 6 0) 7 0) 8 0) 9 0) 10 0) 11 0) 12 0) 13 0) 15 0 ∧ (∀ a, a ≠ u → τ'.1 a = τ.1 a) ∧ τ'.2 = τ.2 := by
  unfold fX8_starts
  rw [wr_2, wr_3, wr_4, wr_5, wr_6, wr_7, wr_8, wr_9, wr_10, wr_11, wr_12, wr_13, wr_15, zb1_s]
  refine ⟨_, rfl, ?_, fun a h => ?_, rfl⟩
  · rw [si_w, si_w, si_w, si_w, si_w, si_w, si_w, si_w, si_w, si_w, si_w, si_w, si_w]
  · rw [si_row _ _ h, si_row _ _ h, si_row _ _ h, si_row _ _ h, si_row _ _ h, si_row _ _ h, si_row _ _ h, si_row _ _ h, si_row _ _ h, si_row _ _ h, si_row _ _ h, si_row _ _ h, si_row _ _ h]
theorem start_row (k : Nat) (p : Int32) (σ : zkS) : (∀ a, a ≠ k → (fX2_start k p σ).1 a = σ.1 a) ∧ (fX2_start k p σ).2 = σ.2 := ⟨fun a h => by
  show (zsi (zsi (zsi (zsi (zsi (zsi (zsi (zsi (zsi (zsi (zsi (zsi (zsi σ k 0 1) k 1 0) k 2 0) k 3 0) k 4 (-5)) k 5 0) k 6 0) k 7 p) k 8 0) k 9 0) k 10 0) k 11 0) k 12 0).1 a = _
  rw [si_row _ _ h, si_row _ _ h, si_row _ _ h, si_row _ _ h, si_row _ _ h, si_row _ _ h, si_row _ _ h, si_row _ _ h, si_row _ _ h, si_row _ _ h, si_row _ _ h, si_row _ _ h, si_row _ _ h], rfl⟩
theorem T_begin {σ τ : zkS} (hR : zRel σ τ) (p1 : Int32) : ∃ (r : Int32) (σ1 : zkS) (τ1 : zkS), fX7_begin p1 σ = (r, σ1) ∧ fX8_begin p1 τ = some (r, τ1) ∧ zRel σ1 τ1 := by
  obtain ⟨⟨hg, hk, hs, hw, hm⟩, -⟩ := id hR
  unfold fX7_begin fX8_begin
  rw [lim_eq, ite01, in_0 (b := 8) p1 8 (by decide), ite01]
  by_cases h1 : p1 < 0 ∨ nI 8 < p1
  · rw [if_pos h1, if_pos h1]
    exact ⟨_, _, _, rfl, rfl, hR⟩
  rw [if_neg h1, if_neg h1, rd_2, runs_01 hm, show σ.1 8 0 = τ.1 1 2 from hk.1]
  obtain ⟨lim, hl, rfl⟩ := rng (by decide) h1
  by_cases h2 : τ.1 1 2 = 0
  · rw [if_pos h2, if_pos h2]
    obtain ⟨τ', e8, ew, ea, ei⟩ := starts8 1 (nI lim) τ (fun s3 => zb1 (fX8_there s3) (fun v4 => some (v4, s3)))
    rw [e8]
    unfold fX8_there
    rw [rd_1, zb1_s]
    obtain ⟨hk', hm'⟩ := start_rel hl hk hm rfl ew
    obtain ⟨r1, r2⟩ := start_row 8 (nI lim) σ
    have e1 : τ'.1 1 1 = τ.1 1 1 := by rw [ew]; rfl
    refine ⟨_, fX2_start 8 (nI lim) σ, τ', rfl, by rw [e1, ← (show σ.1 2 1 = τ.1 1 1 from hg.2.1)]; rfl, rel_K hR hk' hm' (fun a q _ _ => r1 a q) (fun j hj => ?_) r2 ea ei⟩
    rw [ew]
    unfold iG iS at hj
    rw [wu_ne _ _ (by omega), wu_ne _ _ (by omega), wu_ne _ _ (by omega), wu_ne _ _ (by omega), wu_ne _ _ (by omega), wu_ne _ _ (by omega), wu_ne _ _ (by omega), wu_ne _ _ (by omega), wu_ne _ _ (by omega), wu_ne _ _ (by omega), wu_ne _ _ (by omega), wu_ne _ _ (by omega), wu_ne _ _ (by omega)]
  · rw [if_neg h2, if_neg h2]
    exact ⟨_, _, _, rfl, rfl, hR⟩
theorem run_1 {w : Nat → Int32} (hm : wK w) (h : ¬ w 2 = 0) : w 2 = 1 := hm.1.resolve_left h
/-- how many of the way are turned -/
theorem turned7 {w : Nat → Int32} {lim d : Nat} (hl : lim ≤ 8) (hd : d < 24) : (if nI d - nI lim < 0 then (0 : Int32) else nI d - nI lim) = nI (d - lim) := by
  by_cases h : d < lim
  · rw [if_pos (pk_sneg (by omega) h), show d - lim = 0 by omega]
    rfl
  · rw [pk_sub (by omega), if_neg (nI_nneg (by omega))]
theorem turned8 {lim d : Nat} (hl : lim ≤ 8) (hd : d < 24) : (if 0 < nI d - nI lim then nI d - nI lim else (0 : Int32)) = nI (d - lim) := by
  by_cases h : lim < d
  · rw [pk_sub (by omega), if_pos (show (0 : Int32) < nI (d - lim) from nI_lt (a := 0) (by omega) (by omega))]
  · rw [if_neg, show d - lim = 0 by omega]
    · rfl
    · rw [Int32.lt_iff_toInt_lt, pk_sub_toInt (by omega) (by omega)]
      rw [show (0 : Int32).toInt = 0 from rfl]
      omega
theorem tNow8 {τ : zkS} {u lim d : Nat} (h2 : τ.1 u 2 = 1) (h3 : τ.1 u 3 = nI lim) (h6 : τ.1 u 6 = nI d) (hl : lim ≤ 8) (hd : d < 24) : fX8_turnedNow u τ = some (nI (d - lim)) := by
  unfold fX8_turnedNow
  rw [rd_2, h2, if_neg (by decide), rd_6, rd_3, h3, h6]
  simp only [zlt]
  rw [turned8 hl hd]
theorem tNow8_0 {τ : zkS} {u : Nat} (h2 : τ.1 u 2 = 0) : fX8_turnedNow u τ = some 0 := by
  unfold fX8_turnedNow
  rw [rd_2, h2, if_pos rfl]
theorem tNow7 {σ : zkS} {k : Nat} {w : Nat → Int32} {P : Nat → Prop} (hk : rK σ k w P) {lim d : Nat} (h2 : w 2 = 1) (h3 : w 3 = nI lim) (h6 : w 6 = nI d) (hl : lim ≤ 8) (hd : d < 24) : fX2_turnedNow k σ = nI (d - lim) := by
  unfold fX2_turnedNow
  obtain ⟨-, -, -, -, -, g5, -, -, -, -, -, g11, -⟩ := hk
  rw [(g11 h2).2.1, g5, h3, h6]
  simp only [zlt]
  exact turned7 (w := w) hl hd
theorem T_leave {σ τ : zkS} (hR : zRel σ τ) : ∃ (r : Int32) (σ1 : zkS) (τ1 : zkS), fX7_leave σ = (r, σ1) ∧ fX8_leave τ = some (r, τ1) ∧ zRel σ1 τ1 := by
  obtain ⟨⟨hg, hk, hs, hw, hm⟩, -⟩ := id hR
  unfold fX7_leave fX8_leave
  rw [rd_2, show σ.1 8 0 = τ.1 1 2 from hk.1]
  by_cases h2 : τ.1 1 2 = 0
  · rw [if_pos h2, if_pos h2]
    exact ⟨_, _, _, rfl, rfl, hR⟩
  rw [if_neg h2, if_neg h2]
  have h2' := run_1 hm h2
  obtain ⟨lim, nx, d, hl, e3, hnx, e5, hd, e6, -⟩ := hm.2.2.2.2.2.2 h2'
  rw [tNow7 hk h2' e3 e6 hl hd, tNow8 h2' e3 e6 hl hd, zb1_s, wr_2]
  refine ⟨_, zsi (zsi (zsi σ 8 0 0) 8 4 (-5)) 8 5 0, _, rfl, rfl, rel_K hR ?_ ?_ (fun a q _ _ => by rw [si_row _ _ q, si_row _ _ q, si_row _ _ q]) (fun j hj => si_ne _ _ (Or.inr (by unfold iG iS at hj; omega))) rfl (fun a q => si_row _ _ q) rfl⟩
  · obtain ⟨g0, g1, g2, g3, g4, g5, g6, g7, g8, g9, g10, g11, g12, g13⟩ := hk
    rw [si_w]
    refine ⟨rfl, g1, g2, g3, g4, g5, g6, g7, g8, g9, g10, fun q => ?_, fun _ => ⟨rfl, rfl, lim, hl, (wu_ne _ _ (by decide)).trans e3⟩, fun c hc hP => ?_⟩
    · rw [wu_eq] at q
      exact absurd q (by decide)
    · rw [wu_ne _ _ (by omega), si_row _ _ (by omega), si_row _ _ (by omega), si_row _ _ (by omega)]
      exact g13 c hc hP
  · obtain ⟨m1, m2, m3, m4, m5, m6, m7⟩ := hm
    rw [si_w]
    refine ⟨Or.inl (wu_eq _ _ _), m2, m3, m4, fun c hc => ?_, fun q => absurd ((m6 q).1) h2, fun q => ?_⟩
    · rw [wu_ne _ _ (by omega), wu_ne _ _ (by omega)]
      exact m5 c hc
    · rw [wu_eq] at q
      exact absurd q (by decide)
