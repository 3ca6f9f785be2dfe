/-! ===== a cell comes ===== -/
theorem many_eq {y : Nat} (hy : y ≤ 6) (p : Int32) : fX8_manyOf (nI y) p = fX7_fieldsOf (nI y) p ∧ (¬ (nI y = 2 ∨ nI y = 5) → ∃ s, s ≤ 6 ∧ fX7_fieldsOf (nI y) p = nI s) ∧ ((nI y = 2 ∨ nI y = 5) → fX7_fieldsOf (nI y) p = p) ∧ (nI y = 6 → fX7_fieldsOf (nI y) p = 2) := by
  have h : y = 0 ∨ y = 1 ∨ y = 2 ∨ y = 3 ∨ y = 4 ∨ y = 5 ∨ y = 6 := by omega
  rcases h with rfl | rfl | rfl | rfl | rfl | rfl | rfl
  · exact ⟨rfl, fun _ => ⟨0, by omega, rfl⟩, fun q => absurd q (by decide), fun q => absurd q (by decide)⟩
  · exact ⟨rfl, fun _ => ⟨2, by omega, rfl⟩, fun q => absurd q (by decide), fun q => absurd q (by decide)⟩
  · exact ⟨rfl, fun q => absurd (Or.inl (by decide)) q, fun _ => rfl, fun q => absurd q (by decide)⟩
  · exact ⟨rfl, fun _ => ⟨1, by omega, rfl⟩, fun q => absurd q (by decide), fun q => absurd q (by decide)⟩
  · exact ⟨rfl, fun _ => ⟨1, by omega, rfl⟩, fun q => absurd q (by decide), fun q => absurd q (by decide)⟩
  · exact ⟨rfl, fun q => absurd (Or.inr (by decide)) q, fun _ => rfl, fun q => absurd q (by decide)⟩
  · exact ⟨rfl, fun _ => ⟨2, by omega, rfl⟩, fun q => absurd q (by decide), fun _ => rfl⟩
theorem add_L {n f : Nat} (hn : n < 24) (hf : f ≤ 6) {K : zkS → Option (Int32 × zkS)} : ∀ m i (s : zkS), i ≤ f → f - i < m → bt (s.1 2 1) n = true → s.1 5 n = nI i → ∃ s', fX0_add_L73 m 2 (nI f) (nI n) (nI i) s K = K s' ∧ s'.1 5 n = nI f ∧ (∀ j, i ≤ j → j < f → s'.1 6 (6 * n + j) = -5) ∧ (∀ j, ¬ (6 * n + i ≤ j ∧ j < 6 * n + f) → s'.1 6 j = s.1 6 j) ∧ (∀ j, j ≠ n → s'.1 5 j = s.1 5 j) ∧ (∀ a, a ≠ 5 → a ≠ 6 → s'.1 a = s.1 a) ∧ s'.2 = s.2 := by
  intro m
  induction m with
  | zero => intros; omega
  | succ m ih =>
    intro i s h1 h2 hb h5
    unfold fX0_add_L73
    by_cases e : i = f
    · subst e
      rw [if_pos (nI_le (Nat.le_refl i) (by omega))]
      exact ⟨s, rfl, h5, fun j q1 q2 => by omega, fun j _ => rfl, fun j _ => rfl, fun a _ _ => rfl, rfl⟩
    · rw [if_neg (nI_ge (by omega) (by omega))]
      unfold fX0_widen
      rw [has_eq, hasN_nI hn, hb, ite10, if_pos rfl, rd24 hn, h5, if_neg (show ¬ (6 : Int32) ≤ nI i from nI_ge (b := 6) (by omega) (by decide)), rd24 hn, wr24 hn, h5, rd24 hn, si_eq, nI_1, show nI n * 6 + nI (i + 1) - 1 = nI (6 * n + i) from by rw [show (6 : Int32) = nI 6 from rfl, pk_mul, nI_add, show (1 : Int32) = nI 1 from rfl, pk_sub (by omega), Nat.mul_comm, show 6 * n + (i + 1) - 1 = 6 * n + i by omega], wr_nI (by omega) (by decide), zb1_s]
      simp only [zlt]
      obtain ⟨s', q1, q2, q3, q4, q5, q6, q7⟩ := ih (i + 1) (zsi (zsi s 5 n (nI (i + 1))) 6 (6 * n + i) (-5)) (by omega) (by omega) (by rw [si_ne _ _ (by omega), si_ne _ _ (by omega)]; exact hb) (by rw [si_ne _ _ (by omega), si_eq])
      refine ⟨s', q1, q2, fun j j1 j2 => ?_, fun j hj => ?_, fun j hj => ?_, fun a a5 a6 => ?_, q7⟩
      · by_cases ej : j = i
        · subst ej
          rw [q4 _ (by omega), si_eq]
        · exact q3 j (by omega) j2
      · rw [q4 j (by omega), si_ne _ _ (Or.inr (by omega)), si_ne _ _ (by omega)]
      · rw [q5 j hj, si_ne _ _ (by omega), si_ne _ _ (Or.inr hj)]
      · rw [q6 a a5 a6, si_row _ _ a6, si_row _ _ a5]
theorem comes_L {u n : Nat} (hn : n < 24) {K : zkS → Option (Int32 × zkS)} : ∀ m i (t : zkS), i ≤ 6 → 6 - i < m → ∃ t', fX8_comes_L40 m u (nI n) (nI i) t K = K t' ∧ (∀ j, i ≤ j → j < 6 → t'.1 u (140 + 6 * n + j) = -5) ∧ (∀ j, ¬ (140 + 6 * n + i ≤ j ∧ j < 140 + 6 * n + 6) → t'.1 u j = t.1 u j) ∧ (∀ a, a ≠ u → t'.1 a = t.1 a) ∧ t'.2 = t.2 := by
  intro m
  induction m with
  | zero => intros; omega
  | succ m ih =>
    intro i t h1 h2
    unfold fX8_comes_L40
    by_cases e : i = 6
    · subst e
      rw [if_pos (by decide)]
      exact ⟨t, rfl, fun j q1 q2 => by omega, fun j _ => rfl, fun a _ => rfl, rfl⟩
    · rw [if_neg (show ¬ (6 : Int32) ≤ nI i from nI_ge (b := 6) (by omega) (by decide)), wr_fld hn (by omega)]
      simp only [zlt]
      rw [nI_1]
      obtain ⟨t', q1, q2, q3, q4, q5⟩ := ih (i + 1) (zsi t u (140 + 6 * n + i) (-5)) (by omega) (by omega)
      refine ⟨t', q1, fun j j1 j2 => ?_, fun j hj => ?_, fun a ha => ?_, q5⟩
      · by_cases ej : j = i
        · subst ej
          rw [q3 _ (by omega), si_eq]
        · exact q2 j (by omega) j2
      · rw [q3 j (by omega), si_ne _ _ (Or.inr (by omega))]
      · rw [q4 a ha, si_row _ _ ha]
theorem clr_bit {x : Int32} {n : Nat} (hn : n < 24) (h : ∀ i, bt x i = true → i < n) : (x &&& ((1 <<< (nI n &&& 31)) ^^^ (-1))) = x := by
  apply b_ext
  intro i hi
  rw [b_and, bt_not _ hi, bt_one (by omega)]
  cases e : bt x i with
  | false => rfl
  | true => rw [decide_eq_false (by have := h i e; omega)]; rfl
theorem hC_m {s s' v : Int32} (h : ∀ i, bt s i = true → bt s' i = true) (hv : hC s v) : hC s' v := by
  rcases hv with h1 | ⟨d, hd, e, hb⟩
  · exact Or.inl h1
  · exact Or.inr ⟨d, hd, e, h d hb⟩
/-- how the rows stand when a cell has come -/
theorem rel_cell {σ τ σ' τ' : zkS} (hR : zRel σ τ) {n y t f : Nat} (hn : n < 24) (h0 : τ.1 1 0 = nI n) (h2 : τ.1 1 2 = 0) (hy : y ≤ 6) (ht : t ≤ 9) (hf : f ≤ 6) (hyf : y = 6 → f = 2)
    (a0 : σ'.1 2 0 = nI (n + 1)) (a1 : σ'.1 2 1 = (τ.1 1 1 ||| (1 <<< (nI n &&& 31)))) (a2 : σ'.1 2 2 = σ.1 2 2) (a3 : σ'.1 3 n = nI y ∧ ∀ j, j ≠ n → σ'.1 3 j = σ.1 3 j) (a4 : σ'.1 4 n = nI t ∧ ∀ j, j ≠ n → σ'.1 4 j = σ.1 4 j) (a5 : σ'.1 5 n = nI f ∧ ∀ j, j ≠ n → σ'.1 5 j = σ.1 5 j) (a6 : (∀ j, j < f → σ'.1 6 (6 * n + j) = -5) ∧ ∀ j, ¬ (6 * n ≤ j ∧ j < 6 * n + f) → σ'.1 6 j = σ.1 6 j) (a7 : σ'.1 7 = σ.1 7) (a8 : σ'.1 8 1 = 0 ∧ ∀ j, j ≠ 1 → σ'.1 8 j = σ.1 8 j) (a9 : ∀ a, 9 ≤ a → σ'.1 a = σ.1 a) (aa : σ'.1 0 = σ.1 0) (ab : σ'.2 = σ.2)
    (b0 : τ'.1 1 0 = nI (n + 1)) (b1 : τ'.1 1 1 = (τ.1 1 1 ||| (1 <<< (nI n &&& 31)))) (b15 : τ'.1 1 15 = 0) (b20 : τ'.1 1 (20 + n) = nI y) (b44 : τ'.1 1 (44 + n) = nI t) (b68 : τ'.1 1 (68 + n) = nI f) (b92 : τ'.1 1 (92 + n) = 0) (b140 : ∀ j, j < 6 → τ'.1 1 (140 + 6 * n + j) = -5) (bo : ∀ j, j ≠ 0 → j ≠ 1 → j ≠ 15 → j ≠ 20 + n → j ≠ 44 + n → j ≠ 68 + n → j ≠ 92 + n → ¬ (140 + 6 * n ≤ j ∧ j < 140 + 6 * n + 6) → τ'.1 1 j = τ.1 1 j) (bp : ∀ a, a ≠ 1 → τ'.1 a = τ.1 a) (bq : τ'.2 = τ.2) : zRel σ' τ' := by
  obtain ⟨⟨⟨g0, g1, g2, g3, g4, g5⟩, hk, hs, hw, hm⟩, -⟩ := id hR
  obtain ⟨⟨n', hn', w0, w1, w2⟩, w3, w4, w5⟩ := hw
  have e : n' = n := (nI_eq (by omega) (by omega)).mp (w0.symm.trans h0)
  subst e
  obtain ⟨m1, m2, m3, m4, m5, m6, m7⟩ := hm
  have hbt : ∀ i, bt (τ'.1 1 1) i = true → bt (τ.1 1 1) i = true ∨ i = n' := fun i hi => by
    rw [b1, b_or, bt_one (by omega), Bool.or_eq_true, decide_eq_true_eq] at hi
    exact hi
  have hup : ∀ i, bt (τ.1 1 1) i = true → bt (τ'.1 1 1) i = true := fun i hi => by
    rw [b1, b_or, hi, Bool.true_or]
  have e92 : τ.1 1 (92 + n') = 0 := (m5 n' hn).2 (by rw [h0]; exact nI_nlt (Nat.le_refl _) (by omega))
  refine rel_now hR ⟨⟨a0.trans b0.symm, a1.trans b1.symm, ?_, fun c hc => ?_, fun c i hc hb hi hsz => ?_, fun r hr => ?_⟩, ?_, ?_, ⟨⟨n' + 1, by omega, b0, fun i hi => ?_, fun i hi => ?_⟩, fun c hc => ?_, fun c i hc hb hi hsz => ?_, fun r hr => ?_⟩, ?_, ?_, ?_, ?_, fun c hc => ?_, fun q => ?_, fun q => ?_⟩ (fun a h => a9 a (by omega)) aa ab bp bq
  · rw [bo 14 (by omega) (by omega) (by omega) (by omega) (by omega) (by omega) (by omega) (by omega)]
    exact a2.trans g2
  · by_cases ec : c = n'
    · subst ec
      exact ⟨a3.1.trans b20.symm, a4.1.trans b44.symm, a5.1.trans b68.symm⟩
    · rw [show σ'.1 (1 + 1 + 1) c = _ from a3.2 c ec, show σ'.1 (1 + 1 + 2) c = _ from a4.2 c ec, show σ'.1 (1 + 1 + 3) c = _ from a5.2 c ec, bo (20 + c) (by omega) (by omega) (by omega) (by omega) (by omega) (by omega) (by omega) (by omega), bo (44 + c) (by omega) (by omega) (by omega) (by omega) (by omega) (by omega) (by omega) (by omega), bo (68 + c) (by omega) (by omega) (by omega) (by omega) (by omega) (by omega) (by omega) (by omega)]
      exact g3 c hc
  · by_cases ec : c = n'
    · subst ec
      rw [b68] at hsz
      have := (nI_ltI (by omega) (by omega)).mp hsz
      rw [b140 i hi]
      exact a6.1 i this
    · rw [bo (68 + c) (by omega) (by omega) (by omega) (by omega) (by omega) (by omega) (by omega) (by omega)] at hsz
      rw [show σ'.1 (1 + 1 + 4) (6 * c + i) = _ from a6.2 _ (by omega), bo (140 + 6 * c + i) (by omega) (by omega) (by omega) (by omega) (by omega) (by omega) (by omega) (by omega)]
      exact g4 c i hc ((hbt c hb).resolve_right ec) hi hsz
  · rw [show σ'.1 (1 + 1 + 5) = _ from a7, bo (16 + r) (by omega) (by omega) (by omega) (by omega) (by omega) (by omega) (by omega) (by omega)]
    exact g5 r hr
  · have k2 := rK_un (σ' := σ') (w' := wu (τ.1 1) 15 0) a8.2 a8.1 (a9 9 (by omega)) (a9 10 (by omega)) (fun j _ h15 _ => wu_ne _ _ h15) (wu_eq _ _ _) hk
    obtain ⟨x0, x1, x2, x3, x4, x5, x6, x7, x8, x9, x10, x11, x12, x13⟩ := k2
    have bw : ∀ j, 2 ≤ j → j < 14 ∨ 92 ≤ j ∧ j < 140 → τ'.1 1 j = wu (τ.1 1) 15 0 j := fun j j1 j2 => by
      rw [wu_ne _ _ (by omega)]
      by_cases ej : j = 92 + n'
      · rw [ej, b92, e92]
      · exact bo j (by omega) (by omega) (by omega) (by omega) (by omega) (by omega) ej (by omega)
    unfold rK
    rw [bw 2 (by omega) (by omega), b15, bw 12 (by omega) (by omega), bw 13 (by omega) (by omega), bw 7 (by omega) (by omega), bw 3 (by omega) (by omega), bw 5 (by omega) (by omega), bw 8 (by omega) (by omega), bw 9 (by omega) (by omega), bw 10 (by omega) (by omega), bw 11 (by omega) (by omega), bw 4 (by omega) (by omega), bw 6 (by omega) (by omega)]
    exact ⟨x0, x1, x2, x3, x4, x5, x6, x7, x8, x9, x10, fun q => ⟨(x11 q).1, (x11 q).2.1, fun j j1 j2 => by rw [bw (116 + j) (by omega) (by omega)]; exact (x11 q).2.2 j j1 j2⟩, x12, fun c hc hP => by rw [bw (92 + c) (by omega) (by omega)]; exact x13 c hc hP⟩
  · obtain ⟨s1, s2, s3⟩ := rS_3.mp hs
    refine rS_3.mpr ⟨rSa_c (by rw [a9 _ (by omega)]) (a9 _ (by omega)) (fun j _ _ => bo j (by omega) (by omega) (by omega) (by omega) (by omega) (by omega) (by omega) (by omega)) s1, rSb_c (by rw [a9 _ (by omega)]) (a9 _ (by omega)) (fun j _ _ => bo j (by omega) (by omega) (by omega) (by omega) (by omega) (by omega) (by omega) (by omega)) s2, ?_⟩
    obtain ⟨c1, l, c2, c3, c4, c5⟩ := s3
    have bw : ∀ j, 321 ≤ j → j < 346 → τ'.1 1 j = τ.1 1 j := fun j _ _ => bo j (by omega) (by omega) (by omega) (by omega) (by omega) (by omega) (by omega) (by omega)
    refine ⟨by rw [a9 _ (by omega), bw 345 (by omega) (by omega)]; exact c1, l, c2, by rw [bw 345 (by omega) (by omega)]; exact c3, fun j hj => by rw [a9 _ (by omega), bw _ (by omega) (by omega)]; exact c4 j hj, fun k hk => ?_⟩
    obtain ⟨c, i, q1, q2, q3, q4, q5, q6⟩ := c5 k hk
    rw [h0] at q6
    have := (nI_ltI (by omega) (by omega)).mp q6
    exact ⟨c, i, q1, q2, by rw [bw _ (by omega) (by omega)]; exact q3, by rw [bw _ (by omega) (by omega)]; exact q4, by rw [bo (68 + c) (by omega) (by omega) (by omega) (by omega) (by omega) (by omega) (by omega) (by omega)]; exact q5, by rw [b0]; exact nI_lt (by omega) (by omega)⟩
  · rcases hbt i hi with h | h
    · have := w1 i h; omega
    · omega
  · rw [bo 14 (by omega) (by omega) (by omega) (by omega) (by omega) (by omega) (by omega) (by omega)] at hi
    have := w2 i hi
    omega
  · by_cases ec : c = n'
    · subst ec
      rw [b20, b44, b68]
      exact ⟨⟨y, hy, rfl⟩, ⟨t, ht, rfl⟩, ⟨f, hf, rfl⟩, fun q => by rw [hyf ((nI_eq (b := 6) (by omega) (by decide)).mp q)]; rfl⟩
    · rw [bo (20 + c) (by omega) (by omega) (by omega) (by omega) (by omega) (by omega) (by omega) (by omega), bo (44 + c) (by omega) (by omega) (by omega) (by omega) (by omega) (by omega) (by omega) (by omega), bo (68 + c) (by omega) (by omega) (by omega) (by omega) (by omega) (by omega) (by omega) (by omega)]
      exact w3 c hc
  · by_cases ec : c = n'
    · subst ec
      rw [b140 i hi]
      exact Or.inl rfl
    · rw [bo (68 + c) (by omega) (by omega) (by omega) (by omega) (by omega) (by omega) (by omega) (by omega)] at hsz
      rw [bo (140 + 6 * c + i) (by omega) (by omega) (by omega) (by omega) (by omega) (by omega) (by omega) (by omega)]
      exact hC_m hup (w4 c i hc ((hbt c hb).resolve_right ec) hi hsz)
  · rw [bo (16 + r) (by omega) (by omega) (by omega) (by omega) (by omega) (by omega) (by omega) (by omega)]
    exact hC_m hup (w5 r hr)
  · rw [bo 2 (by omega) (by omega) (by omega) (by omega) (by omega) (by omega) (by omega) (by omega)]
    exact m1
  · exact Or.inl b15
  · rw [bo 12 (by omega) (by omega) (by omega) (by omega) (by omega) (by omega) (by omega) (by omega)]
    exact fun i hi => hup i (m3 i hi)
  · rw [bo 12 (by omega) (by omega) (by omega) (by omega) (by omega) (by omega) (by omega) (by omega), bo 13 (by omega) (by omega) (by omega) (by omega) (by omega) (by omega) (by omega) (by omega)]
    exact m4
  · by_cases ec : c = n'
    · subst ec
      rw [b92]
      exact ⟨⟨0, by omega, rfl⟩, fun _ => rfl⟩
    · rw [bo (92 + c) (by omega) (by omega) (by omega) (by omega) (by omega) (by omega) (by omega) (by omega)]
      refine ⟨(m5 c hc).1, fun q => (m5 c hc).2 (fun q2 => q ?_)⟩
      rw [h0] at q2
      rw [b0]
      have := (nI_ltI (by omega) (by omega)).mp q2
      exact nI_lt (by omega) (by omega)
  · rw [b15] at q
    exact absurd q (by decide)
  · rw [bo 2 (by omega) (by omega) (by omega) (by omega) (by omega) (by omega) (by omega) (by omega), h2] at q
    exact absurd q (by decide)
theorem T_cell {σ τ : zkS} (hR : zRel σ τ) (p1 : Int32) (p2 : Int32) (p3 : Int32) : ∃ (r : Int32) (σ1 : zkS) (τ1 : zkS), fX7_cell p1 p2 p3 σ = some (r, σ1) ∧ fX8_cell p1 p2 p3 τ = some (r, τ1) ∧ zRel σ1 τ1 := by
  obtain ⟨⟨hg, hk, hs, hw, hm⟩, -⟩ := id hR
  unfold fX7_cell fX8_cell
  rw [in_0 (b := 6) p1 6 (by decide), ite01, tag_eq, ite01, in_0 (b := 9) p2 9 (by decide), ite01]
  simp only [jn]
  rw [in_0 (b := 6) p3 6 (by decide), ite01]
  by_cases h1 : p1 < 0 ∨ nI 6 < p1
  · rw [if_pos h1]
    refine ⟨-1, σ, _, ?_, rfl, hR⟩
    by_cases g : p1 < 0
    · rw [if_pos g]
    · rw [if_neg g, if_neg]
      have := h1.resolve_left g
      rw [Int32.lt_iff_toInt_lt] at this
      rw [Int32.le_iff_toInt_le]
      have e : (nI 6).toInt = 6 := by decide
      have e2 : (6 : Int32).toInt = 6 := by decide
      omega
  rw [if_neg h1, if_neg (fun q => h1 (Or.inl q))]
  obtain ⟨y, hy, rfl⟩ := rng (by decide) h1
  rw [if_pos (show nI y ≤ (6 : Int32) from nI_le (b := 6) hy (by decide))]
  by_cases h2 : p2 < 0 ∨ nI 9 < p2
  · rw [if_pos h2, if_pos h2]
    exact ⟨_, _, _, rfl, rfl, hR⟩
  rw [if_neg h2, if_neg h2]
  obtain ⟨t, ht, rfl⟩ := rng (by decide) h2
  obtain ⟨e1, e2, e3, e4⟩ := many_eq hy p3
  rw [e1]
  have main : ∀ f, f ≤ 6 → fX7_fieldsOf (nI y) p3 = nI f → ∃ (r : Int32) (σ1 : zkS) (τ1 : zkS), (if fX7_fieldsOf (nI y) p3 < 0 then some (-2, σ) else if fX7_fieldsOf (nI y) p3 ≤ 6 then (if σ.1 8 0 = 0 then (if σ.1 2 0 < 24 then zpi σ 8 1 0 (fun s4 => zb2 (fX0_add 2 (nI y) (nI t) (fX7_fieldsOf (nI y) p3) s4) (fun v6 s7 => some (v6, s7))) else some (-4, σ)) else some (-3, σ)) else some (-2, σ)) = some (r, σ1) ∧ (zrd τ 1 346 2 (fun v5 => if v5 = 1 then some (-3, τ) else zrd τ 1 346 0 (fun v6 => if v6 = 24 then some (-4, τ) else zb2 (fX8_comes 1 (nI y) (nI t) (fX7_fieldsOf (nI y) p3) τ) (fun v8 s9 => some (v8, s9))))) = some (r, τ1) ∧ zRel σ1 τ1 := by
    intro f hf ef
    rw [ef, if_neg (nI_nneg (by omega)), if_pos (show nI f ≤ (6 : Int32) from nI_le (b := 6) hf (by decide)), rd_2, runs_01 hm, show σ.1 8 0 = τ.1 1 2 from hk.1]
    by_cases h : τ.1 1 2 = 0
    · rw [if_pos h, if_pos h, rd_0]
      obtain ⟨n, hn, h0, hb, hp⟩ := hw.1
      rw [show σ.1 2 0 = τ.1 1 0 from hg.1, h0]
      by_cases h24 : n = 24
      · subst h24
        rw [if_neg (show ¬ nI 24 < (24 : Int32) by decide), if_pos (show nI 24 = (24 : Int32) by decide)]
        exact ⟨_, _, _, rfl, rfl, hR⟩
      · rw [if_pos (show nI n < (24 : Int32) from nI_lt (b := 24) (by omega) (by decide)), if_neg (show ¬ nI n = (24 : Int32) from fun q => h24 ((nI_eq (b := 24) (by omega) (by decide)).mp q))]
        have hn24 : n < 24 := by omega
        -- the class
        have c7 : ∃ σ', zpi σ 8 1 0 (fun s4 => zb2 (fX0_add 2 (nI y) (nI t) (nI f) s4) (fun v6 s7 => some (v6, s7))) = some (nI n, σ') ∧ σ'.1 2 0 = nI (n + 1) ∧ σ'.1 2 1 = (τ.1 1 1 ||| (1 <<< (nI n &&& 31))) ∧ σ'.1 2 2 = σ.1 2 2 ∧ (σ'.1 3 n = nI y ∧ ∀ j, j ≠ n → σ'.1 3 j = σ.1 3 j) ∧ (σ'.1 4 n = nI t ∧ ∀ j, j ≠ n → σ'.1 4 j = σ.1 4 j) ∧ (σ'.1 5 n = nI f ∧ ∀ j, j ≠ n → σ'.1 5 j = σ.1 5 j) ∧ ((∀ j, j < f → σ'.1 6 (6 * n + j) = -5) ∧ ∀ j, ¬ (6 * n ≤ j ∧ j < 6 * n + f) → σ'.1 6 j = σ.1 6 j) ∧ σ'.1 7 = σ.1 7 ∧ (σ'.1 8 1 = 0 ∧ ∀ j, j ≠ 1 → σ'.1 8 j = σ.1 8 j) ∧ (∀ a, 9 ≤ a → σ'.1 a = σ.1 a) ∧ σ'.1 0 = σ.1 0 ∧ σ'.2 = σ.2 := by
          have g0 : σ.1 2 0 = nI n := (show σ.1 2 0 = τ.1 1 0 from hg.1).trans h0
          have g1 : σ.1 2 1 = τ.1 1 1 := hg.2.1
          unfold zpi fX0_add
          have z0 : (zsi σ 8 1 0).1 2 0 = nI n := by rw [si_ne _ _ (by omega), g0]
          dsimp only
          rw [z0, if_neg (nI_nneg (by omega)), if_pos (show nI n < (24 : Int32) from nI_lt (b := 24) (by omega) (by decide)), nI_1]
          unfold zpi
          dsimp only
          rw [wr24 hn24, wr24 hn24]
          rw [show (zsi (zsi (zsi (zsi σ 8 1 0) 2 0 (nI (n + 1))) (2 + 1) n (nI y)) (2 + 2) n (nI t)).1 2 1 = τ.1 1 1 from by rw [si_ne _ _ (by omega), si_ne _ _ (by omega), si_ne _ _ (by omega), si_ne _ _ (by omega), g1], bit_nI hn24, wr24 hn24]
          obtain ⟨s', q1, q2, q3, q4, q5, q6, q7⟩ := add_L (n := n) (f := f) hn24 hf (K := fun s10 => some (nI n, s10)) zFU 0 (zsi (zsi (zsi (zsi (zsi (zsi σ 8 1 0) 2 0 (nI (n + 1))) (2 + 1) n (nI y)) (2 + 2) n (nI t)) 2 1 (τ.1 1 1 ||| (1 <<< (nI n &&& 31)))) (2 + 3) n 0) (by omega) (by unfold zFU; omega) (by rw [si_ne _ _ (by omega), si_eq, b_or, bt_one (by omega), decide_eq_true rfl, Bool.or_true]) (by rw [si_eq]; rfl)
          rw [show (0 : Int32) = nI 0 from rfl] at q1 ⊢
          rw [q1, zb2_s]
          have r6 : ∀ a, a ≠ 5 → a ≠ 6 → s'.1 a = (zsi (zsi (zsi (zsi (zsi (zsi σ 8 1 0) 2 0 (nI (n + 1))) (2 + 1) n (nI y)) (2 + 2) n (nI t)) 2 1 (τ.1 1 1 ||| (1 <<< (nI n &&& 31)))) (2 + 3) n 0).1 a := q6
          refine ⟨s', rfl, ?_, ?_, ?_, ⟨?_, fun j hj => ?_⟩, ⟨?_, fun j hj => ?_⟩, ⟨q2, fun j hj => ?_⟩, ⟨fun j hj => q3 j (by omega) hj, fun j hj => ?_⟩, ?_, ⟨?_, fun j hj => ?_⟩, fun a ha => ?_, ?_, q7⟩
          · rw [r6 2 (by omega) (by omega), si_ne _ _ (by omega), si_ne _ _ (by omega), si_ne _ _ (by omega), si_ne _ _ (by omega), si_eq]
          · rw [r6 2 (by omega) (by omega), si_ne _ _ (by omega), si_eq]
          · rw [r6 2 (by omega) (by omega), si_ne _ _ (by omega), si_ne _ _ (by omega), si_ne _ _ (by omega), si_ne _ _ (by omega), si_ne _ _ (by omega), si_ne _ _ (by omega)]
          · rw [r6 3 (by omega) (by omega), si_ne _ _ (by omega), si_ne _ _ (by omega), si_ne _ _ (by omega), si_eq]
          · rw [r6 3 (by omega) (by omega), si_ne _ _ (by omega), si_ne _ _ (by omega), si_ne _ _ (by omega), si_ne _ _ (by omega), si_ne _ _ (by omega), si_ne _ _ (by omega)]
          · rw [r6 4 (by omega) (by omega), si_ne _ _ (by omega), si_ne _ _ (by omega), si_eq]
          · rw [r6 4 (by omega) (by omega), si_ne _ _ (by omega), si_ne _ _ (by omega), si_ne _ _ (by omega), si_ne _ _ (by omega), si_ne _ _ (by omega), si_ne _ _ (by omega)]
          · rw [q5 j hj, si_ne _ _ (by omega), si_ne _ _ (by omega), si_ne _ _ (by omega), si_ne _ _ (by omega), si_ne _ _ (by omega), si_ne _ _ (by omega)]
          · rw [q4 j (by omega), si_ne _ _ (by omega), si_ne _ _ (by omega), si_ne _ _ (by omega), si_ne _ _ (by omega), si_ne _ _ (by omega), si_ne _ _ (by omega)]
          · rw [r6 7 (by omega) (by omega), si_row _ _ (by omega), si_row _ _ (by omega), si_row _ _ (by omega), si_row _ _ (by omega), si_row _ _ (by omega), si_row _ _ (by omega)]
          · rw [r6 8 (by omega) (by omega), si_ne _ _ (by omega), si_ne _ _ (by omega), si_ne _ _ (by omega), si_ne _ _ (by omega), si_ne _ _ (by omega), si_eq]
            rfl
          · rw [r6 8 (by omega) (by omega), si_ne _ _ (by omega), si_ne _ _ (by omega), si_ne _ _ (by omega), si_ne _ _ (by omega), si_ne _ _ (by omega), si_ne _ _ (by omega)]
          · rw [r6 a (by omega) (by omega), si_row _ _ (by omega), si_row _ _ (by omega), si_row _ _ (by omega), si_row _ _ (by omega), si_row _ _ (by omega), si_row _ _ (by omega)]
          · rw [r6 0 (by omega) (by omega), si_row _ _ (by omega), si_row _ _ (by omega), si_row _ _ (by omega), si_row _ _ (by omega), si_row _ _ (by omega), si_row _ _ (by omega)]
        obtain ⟨m1, m2, m3, m4, m5, m6, m7⟩ := hm
        have c12 : (τ.1 1 12 &&& ((1 <<< (nI n &&& 31)) ^^^ (-1))) = τ.1 1 12 := clr_bit hn24 (fun i hi => hb i (m3 i hi))
        have c13 : (τ.1 1 13 &&& ((1 <<< (nI n &&& 31)) ^^^ (-1))) = τ.1 1 13 := clr_bit hn24 (fun i hi => hb i (m3 i (m4 i hi)))
        have c14 : (τ.1 1 14 &&& ((1 <<< (nI n &&& 31)) ^^^ (-1))) = τ.1 1 14 := clr_bit hn24 hp
        have c8 : ∃ τ', zb2 (fX8_comes 1 (nI y) (nI t) (nI f) τ) (fun v8 s9 => some (v8, s9)) = some (nI n, τ') ∧ τ'.1 1 0 = nI (n + 1) ∧ τ'.1 1 1 = (τ.1 1 1 ||| (1 <<< (nI n &&& 31))) ∧ τ'.1 1 15 = 0 ∧ τ'.1 1 (20 + n) = nI y ∧ τ'.1 1 (44 + n) = nI t ∧ τ'.1 1 (68 + n) = nI f ∧ τ'.1 1 (92 + n) = 0 ∧ (∀ j, j < 6 → τ'.1 1 (140 + 6 * n + j) = -5) ∧ (∀ j, j ≠ 0 → j ≠ 1 → j ≠ 15 → j ≠ 20 + n → j ≠ 44 + n → j ≠ 68 + n → j ≠ 92 + n → ¬ (140 + 6 * n ≤ j ∧ j < 140 + 6 * n + 6) → τ'.1 1 j = τ.1 1 j) ∧ (∀ a, a ≠ 1 → τ'.1 a = τ.1 a) ∧ τ'.2 = τ.2 := by
          unfold fX8_comes
          rw [rd_0, h0, wr_20c hn24, wr_44c hn24, wr_68c hn24, wr_92c hn24]
          have cl := fun K => comes_L (u := 1) (n := n) hn24 (K := K) zFU 0 (zsi (zsi (zsi (zsi τ 1 (20 + n) (nI y)) 1 (44 + n) (nI t)) 1 (68 + n) (nI f)) 1 (92 + n) 0) (by omega) (by unfold zFU; omega)
          simp only [show nI 0 = (0 : Int32) from rfl] at cl
          obtain ⟨t', q1, q2, q3, q4, q5⟩ := cl _
          rw [q1, rd_1, wr_1, rd_12, wr_12, rd_13, wr_13, rd_14, wr_14, wr_0, wr_15, nI_1, zb2_s]
          have r3 : ∀ j, j < 140 → t'.1 1 j = (zsi (zsi (zsi (zsi τ 1 (20 + n) (nI y)) 1 (44 + n) (nI t)) 1 (68 + n) (nI f)) 1 (92 + n) 0).1 1 j := fun j hj => q3 j (by omega)
          have s3 : ∀ j, j ≠ 20 + n → j ≠ 44 + n → j ≠ 68 + n → j ≠ 92 + n → ¬ (140 + 6 * n ≤ j ∧ j < 140 + 6 * n + 6) → t'.1 1 j = τ.1 1 j := fun j j1 j2 j3 j4 j5 => by rw [q3 j (by omega), si_ne _ _ (Or.inr j4), si_ne _ _ (Or.inr j3), si_ne _ _ (Or.inr j2), si_ne _ _ (Or.inr j1)]
          have w1 : t'.1 1 1 = τ.1 1 1 := s3 1 (by omega) (by omega) (by omega) (by omega) (by omega)
          have w12 : t'.1 1 12 = τ.1 1 12 := s3 12 (by omega) (by omega) (by omega) (by omega) (by omega)
          have w13 : t'.1 1 13 = τ.1 1 13 := s3 13 (by omega) (by omega) (by omega) (by omega) (by omega)
          have w14 : t'.1 1 14 = τ.1 1 14 := s3 14 (by omega) (by omega) (by omega) (by omega) (by omega)
          rw [si_ne (k' := 12) _ _ (by omega), si_ne (k' := 13) _ _ (by omega), si_ne (k' := 13) _ _ (by omega), si_ne (k' := 14) _ _ (by omega), si_ne (k' := 14) _ _ (by omega), si_ne (k' := 14) _ _ (by omega), w1, w12, w13, w14, c12, c13, c14]
          have r9 : ∀ j, j ≠ 0 → j ≠ 1 → j ≠ 15 → (zsi (zsi (zsi (zsi (zsi (zsi t' 1 1 (τ.1 1 1 ||| (1 <<< (nI n &&& 31)))) 1 12 (τ.1 1 12)) 1 13 (τ.1 1 13)) 1 14 (τ.1 1 14)) 1 0 (nI (n + 1))) 1 15 0).1 1 j = t'.1 1 j := fun j j0 j1 j15 => by
            rw [si_ne _ _ (Or.inr j15), si_ne _ _ (Or.inr j0)]
            by_cases e14 : j = 14
            · rw [e14, si_eq, w14]
            rw [si_ne _ _ (Or.inr e14)]
            by_cases e13 : j = 13
            · rw [e13, si_eq, w13]
            rw [si_ne _ _ (Or.inr e13)]
            by_cases e12 : j = 12
            · rw [e12, si_eq, w12]
            rw [si_ne _ _ (Or.inr e12), si_ne _ _ (Or.inr j1)]
          refine ⟨_, rfl, rfl, rfl, rfl, ?_, ?_, ?_, ?_, fun j hj => ?_, fun j j0 j1 j15 j20 j44 j68 j92 j140 => ?_, fun a ha => ?_, q5⟩
          · rw [r9 _ (by omega) (by omega) (by omega), r3 _ (by omega), si_ne _ _ (by omega), si_ne _ _ (by omega), si_ne _ _ (by omega), si_eq]
          · rw [r9 _ (by omega) (by omega) (by omega), r3 _ (by omega), si_ne _ _ (by omega), si_ne _ _ (by omega), si_eq]
          · rw [r9 _ (by omega) (by omega) (by omega), r3 _ (by omega), si_ne _ _ (by omega), si_eq]
          · rw [r9 _ (by omega) (by omega) (by omega), r3 _ (by omega), si_eq]
          · rw [r9 _ (by omega) (by omega) (by omega)]
            exact q2 j (by omega) hj
          · rw [r9 j j0 j1 j15]
            exact s3 j j20 j44 j68 j92 j140
          · rw [si_row _ _ ha, si_row _ _ ha, si_row _ _ ha, si_row _ _ ha, si_row _ _ ha, si_row _ _ ha, q4 a ha, si_row _ _ ha, si_row _ _ ha, si_row _ _ ha, si_row _ _ ha]
        obtain ⟨σ', E7, a0, a1, a2, a3, a4, a5, a6, a7, a8, a9, aa, ab⟩ := c7
        obtain ⟨τ', E8, b0, b1, b15, b20, b44, b68, b92, b140, bo, bp, bq⟩ := c8
        exact ⟨nI n, σ', τ', E7, E8, rel_cell hR hn24 h0 h hy ht hf (fun q => by
          have := e4 (by rw [q]; rfl)
          rw [ef] at this
          exact (nI_eq (b := 2) (by omega) (by decide)).mp this) a0 a1 a2 a3 a4 a5 a6 a7 a8 a9 aa ab b0 b1 b15 b20 b44 b68 b92 b140 bo bp bq⟩
    · rw [if_neg h, if_neg h]
      exact ⟨_, _, _, rfl, rfl, hR⟩
  by_cases hd : nI y = 2 ∨ nI y = 5
  · have ef := e3 hd
    by_cases h3 : p3 < 0 ∨ nI 6 < p3
    · have : (if nI y = 2 then (if p3 < 0 ∨ nI 6 < p3 then some ((-2 : Int32), τ) else zrd τ 1 346 2 (fun v5 => if v5 = 1 then some (-3, τ) else zrd τ 1 346 0 (fun v6 => if v6 = 24 then some (-4, τ) else zb2 (fX8_comes 1 (nI y) (nI t) (fX7_fieldsOf (nI y) p3) τ) (fun v8 s9 => some (v8, s9))))) else if nI y = 5 then (if p3 < 0 ∨ nI 6 < p3 then some (-2, τ) else zrd τ 1 346 2 (fun v5 => if v5 = 1 then some (-3, τ) else zrd τ 1 346 0 (fun v6 => if v6 = 24 then some (-4, τ) else zb2 (fX8_comes 1 (nI y) (nI t) (fX7_fieldsOf (nI y) p3) τ) (fun v8 s9 => some (v8, s9))))) else zrd τ 1 346 2 (fun v5 => if v5 = 1 then some (-3, τ) else zrd τ 1 346 0 (fun v6 => if v6 = 24 then some (-4, τ) else zb2 (fX8_comes 1 (nI y) (nI t) (fX7_fieldsOf (nI y) p3) τ) (fun v8 s9 => some (v8, s9))))) = some (-2, τ) := by
        simp only [if_pos h3]
        by_cases q : nI y = 2
        · rw [if_pos q]
        · rw [if_neg q, if_pos (hd.resolve_left q)]
      rw [this, ef]
      refine ⟨-2, σ, τ, ?_, rfl, hR⟩
      by_cases g : p3 < 0
      · rw [if_pos g]
      · rw [if_neg g, if_neg]
        have := h3.resolve_left g
        rw [Int32.lt_iff_toInt_lt] at this
        rw [Int32.le_iff_toInt_le]
        have e : (nI 6).toInt = 6 := by decide
        have e2 : (6 : Int32).toInt = 6 := by decide
        omega
    · obtain ⟨f, hf, ep⟩ := rng (by decide) h3
      obtain ⟨r, σ1, τ1, k1, k2, k3⟩ := main f hf (ef.trans ep)
      refine ⟨r, σ1, τ1, k1, ?_, k3⟩
      rw [← k2]
      simp only [if_neg h3]
      by_cases q : nI y = 2
      · rw [if_pos q]
      · rw [if_neg q, if_pos (hd.resolve_left q)]
  · obtain ⟨f, hf, ef⟩ := e2 hd
    obtain ⟨r, σ1, τ1, k1, k2, k3⟩ := main f hf ef
    refine ⟨r, σ1, τ1, k1, ?_, k3⟩
    rw [← k2, if_neg (fun q => hd (Or.inl q)), if_neg (fun q => hd (Or.inr q))]
