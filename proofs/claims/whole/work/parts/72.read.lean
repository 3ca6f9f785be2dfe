/-! ===== a text is read: all signs; the model's new cells come ===== -/
theorem read_T {c0 n : Nat} {x1 : Int32} {σ0 : zkS} (hn : n ≤ 100) {K7 K8 : zkS → Option (Int32 × zkS)} : ∀ m k (s t : zkS), k ≤ n → n - k < m → s.1 44 0 = nI n → (∀ j, j < n → s.1 45 j = t.1 4 j ∧ ∃ c, c < 128 ∧ t.1 4 j = nI c) → x1 = t.1 1 1 → OUTR c0 x1 σ0 k s t → ∃ s' t', fc s s' ∧ ft t t' ∧ ((∃ j, j < n ∧ fX6_readInto_L17 m 33 x1 (nI k) s K7 = some (nI j, s') ∧ fX8_build_L54 m (nI n) (nI k) t K8 = some (-10 - nI j, t')) ∨ fX6_readInto_L17 m 33 x1 (nI k) s K7 = K7 s' ∧ fX8_build_L54 m (nI n) (nI k) t K8 = K8 t' ∧ OUTR c0 x1 σ0 n s' t') := by
  intro m
  induction m with
  | zero => intros; omega
  | succ m ih =>
    intro k s t h1 h2 h44 hT hx hO
    unfold fX6_readInto_L17 fX8_build_L54
    rw [h44]
    by_cases e : k = n
    · subst e
      rw [if_pos (nI_le (Nat.le_refl _) (by omega)), if_pos (nI_le (Nat.le_refl _) (by omega))]
      exact ⟨s, t, fc_0 s, ft_0 t, Or.inr ⟨rfl, rfl, hO⟩⟩
    obtain ⟨e45, c, hc, ec⟩ := hT k (by omega)
    rw [if_neg (nI_ge (by omega) (by omega)), if_neg (nI_ge (by omega) (by omega)), if_neg (show ¬ (100 : Int32) ≤ nI k from nI_ge (b := 100) (by omega) (by decide)), rd_nI (show k < 100 by omega) (by decide), rd_nI (show k < 100 by omega) (by decide), e45, ec]
    obtain ⟨N, D, dn, e', vo, ho, ly, tg, mn, q1, q2, q3, q4⟩ := hO
    obtain ⟨r, s1, t1, e7, e8, f7, f8, hr⟩ := take_rel q3 q2 (by omega) q4 hx hc
    rw [e7, e8, zb2_s, zb2_s]
    rcases hr with rfl | ⟨rfl, hO'⟩
    · rw [if_pos rfl, if_pos rfl]
      exact ⟨s1, t1, f7, f8, Or.inl ⟨k, by omega, rfl, rfl⟩⟩
    · rw [if_neg (show ¬ (1 : Int32) = 0 by decide), if_neg (show ¬ (1 : Int32) = 0 by decide)]
      simp only [zlt]
      rw [nI_1]
      obtain ⟨s', t', g7, g8, hres⟩ := ih (k + 1) s1 t1 (by omega) (by omega) (by rw [f7.2.1 0 (by omega) (by omega) (by omega) (by omega)]; exact h44) (fun j hj => by rw [f7.1 45 (by omega) (by omega) (by omega), f8.1 4 (by omega) (by omega)]; exact hT j hj) (by rw [f8.1 1 (by omega) (by omega)]; exact hx) (OUTR_m (by omega) hO')
      exact ⟨s', t', fc_t f7 g7, ft_t f8 g8, hres⟩
theorem comes8 {t : zkS} {n y g f : Nat} (hn24 : n < 24) (h0 : t.1 1 0 = nI n) (h12 : ∀ i, bt (t.1 1 12) i = true → i < n) (h13 : ∀ i, bt (t.1 1 13) i = true → i < n) (h14 : ∀ i, bt (t.1 1 14) i = true → i < n) : ∃ t', fX8_comes 1 (nI y) (nI g) (nI f) t = some (nI n, t') ∧ t'.1 1 0 = nI (n + 1) ∧ t'.1 1 1 = (t.1 1 1 ||| (1 <<< (nI n &&& 31))) ∧ t'.1 1 15 = 0 ∧ t'.1 1 (20 + n) = nI y ∧ t'.1 1 (44 + n) = nI g ∧ t'.1 1 (68 + n) = nI f ∧ t'.1 1 (92 + n) = 0 ∧ (∀ j, j ≠ 0 → j ≠ 1 → j ≠ 15 → j ≠ 20 + n → j ≠ 44 + n → j ≠ 68 + n → j ≠ 92 + n → ¬ (140 + 6 * n ≤ j ∧ j < 140 + 6 * n + 6) → t'.1 1 j = t.1 1 j) ∧ (∀ a, a ≠ 1 → t'.1 a = t.1 a) ∧ t'.2 = t.2 := by
  have c12 := clr_bit hn24 h12
  have c13 := clr_bit hn24 h13
  have c14 := clr_bit hn24 h14
  unfold fX8_comes
  rw [rd_0, h0, wr_20c hn24, wr_44c hn24, wr_68c hn24, wr_92c hn24]
  have cl := fun K => comes_L (u := 1) (n := n) hn24 (K := K) zFU 0 (zsi (zsi (zsi (zsi t 1 (20 + n) (nI y)) 1 (44 + n) (nI g)) 1 (68 + n) (nI f)) 1 (92 + n) 0) (by omega) (by unfold zFU; omega)
  simp only [show nI 0 = (0 : Int32) from rfl] at cl
  obtain ⟨t', q1, q2, q3, q4, q5⟩ := cl _
  rw [q1, rd_1, wr_1, rd_12, wr_12, rd_13, wr_13, rd_14, wr_14, wr_0, wr_15, nI_1]
  have r3 : ∀ j, j < 140 → t'.1 1 j = (zsi (zsi (zsi (zsi t 1 (20 + n) (nI y)) 1 (44 + n) (nI g)) 1 (68 + n) (nI f)) 1 (92 + n) 0).1 1 j := fun j hj => q3 j (by omega)
  have s3 : ∀ j, j ≠ 20 + n → j ≠ 44 + n → j ≠ 68 + n → j ≠ 92 + n → ¬ (140 + 6 * n ≤ j ∧ j < 140 + 6 * n + 6) → t'.1 1 j = t.1 1 j := fun j j1 j2 j3 j4 j5 => by rw [q3 j (by omega), si_ne _ _ (Or.inr j4), si_ne _ _ (Or.inr j3), si_ne _ _ (Or.inr j2), si_ne _ _ (Or.inr j1)]
  have w1 : t'.1 1 1 = t.1 1 1 := s3 1 (by omega) (by omega) (by omega) (by omega) (by omega)
  have w12 : t'.1 1 12 = t.1 1 12 := s3 12 (by omega) (by omega) (by omega) (by omega) (by omega)
  have w13 : t'.1 1 13 = t.1 1 13 := s3 13 (by omega) (by omega) (by omega) (by omega) (by omega)
  have w14 : t'.1 1 14 = t.1 1 14 := s3 14 (by omega) (by omega) (by omega) (by omega) (by omega)
  rw [si_ne (k' := 12) _ _ (by omega), si_ne (k' := 13) _ _ (by omega), si_ne (k' := 13) _ _ (by omega), si_ne (k' := 14) _ _ (by omega), si_ne (k' := 14) _ _ (by omega), si_ne (k' := 14) _ _ (by omega), w1, w12, w13, w14, c12, c13, c14]
  have r9 : ∀ j, j ≠ 0 → j ≠ 1 → j ≠ 15 → (zsi (zsi (zsi (zsi (zsi (zsi t' 1 1 (t.1 1 1 ||| (1 <<< (nI n &&& 31)))) 1 12 (t.1 1 12)) 1 13 (t.1 1 13)) 1 14 (t.1 1 14)) 1 0 (nI (n + 1))) 1 15 0).1 1 j = t'.1 1 j := fun j j0 j1 j15 => by
    rw [si_ne _ _ (Or.inr j15), si_ne _ _ (Or.inr j0)]
    by_cases e14 : j = 14
    · rw [e14, si_eq, w14]
    rw [si_ne _ _ (Or.inr e14)]
    by_cases e13 : j = 13
    · rw [e13, si_eq, w13]
    rw [si_ne _ _ (Or.inr e13)]
    by_cases e12 : j = 12
    · rw [e12, si_eq, w12]
    rw [si_ne _ _ (Or.inr e12), si_ne _ _ (Or.inr j1)]
  refine ⟨_, rfl, rfl, rfl, rfl, ?_, ?_, ?_, ?_, fun j j0 j1 j15 j20 j44 j68 j92 j140 => ?_, fun a ha => ?_, q5⟩
  · rw [r9 _ (by omega) (by omega) (by omega), r3 _ (by omega), si_ne _ _ (by omega), si_ne _ _ (by omega), si_ne _ _ (by omega), si_eq]
  · rw [r9 _ (by omega) (by omega) (by omega), r3 _ (by omega), si_ne _ _ (by omega), si_ne _ _ (by omega), si_eq]
  · rw [r9 _ (by omega) (by omega) (by omega), r3 _ (by omega), si_ne _ _ (by omega), si_eq]
  · rw [r9 _ (by omega) (by omega) (by omega), r3 _ (by omega), si_eq]
  · rw [r9 j j0 j1 j15]
    exact s3 j j20 j44 j68 j92 j140
  · rw [si_row _ _ ha, si_row _ _ ha, si_row _ _ ha, si_row _ _ ha, si_row _ _ ha, si_row _ _ ha, q4 a ha, si_row _ _ ha, si_row _ _ ha, si_row _ _ ha, si_row _ _ ha]
theorem fld_L {x3 : Int32} {v n m : Nat} (hn : n < 24) (hv : v < 101) (hm : m ≤ 6) {K : zkS → Option (Int32 × zkS)} : ∀ q i (t : zkS), i ≤ m → m - i < q → t.1 10 v = nI m → ∃ t', fX8_build_L161 q x3 (nI v) (nI n) (nI i) t K = K t' ∧ (∀ j, i ≤ j → j < m → t'.1 1 (140 + 6 * n + j) = fX8_told (t.1 11 (6 * v + j)) x3) ∧ (∀ j, ¬ (140 + 6 * n + i ≤ j ∧ j < 140 + 6 * n + m) → t'.1 1 j = t.1 1 j) ∧ (∀ a, a ≠ 1 → t'.1 a = t.1 a) ∧ t'.2 = t.2 := by
  intro q
  induction q with
  | zero => intros; omega
  | succ q ih =>
    intro i t h1 h2 h10
    unfold fX8_build_L161
    rw [rd_nI hv (by decide), h10]
    by_cases e : i = m
    · subst e
      rw [if_pos (nI_le (Nat.le_refl _) (by omega))]
      exact ⟨t, rfl, fun j j1 j2 => by omega, fun j _ => rfl, fun a _ => rfl, rfl⟩
    rw [if_neg (nI_ge (by omega) (by omega)), show (6 : Int32) * nI v + nI i = nI (6 * v + i) from by rw [show (6 : Int32) = nI 6 from rfl, pk_mul, nI_add], rd_nI (by omega) (by decide), wr_fld hn (by omega)]
    simp only [zlt]
    rw [nI_1]
    obtain ⟨t', q1, q2, q3, q4, q5⟩ := ih (i + 1) (zsi t 1 (140 + 6 * n + i) (fX8_told (t.1 11 (6 * v + i)) x3)) (by omega) (by omega) (by rw [si_r _ _ (by omega)]; exact h10)
    refine ⟨t', q1, fun j j1 j2 => ?_, fun j hj => ?_, fun a ha => ?_, q5⟩
    · by_cases ej : j = i
      · subst ej
        rw [q3 _ (by omega), si_eq]
      · rw [q2 j (by omega) j2, si_r _ _ (by omega)]
    · rw [q3 j (by omega), si_b _ _ (by omega)]
    · rw [q4 a ha, si_r _ _ ha]
def apS (c0 v : Nat) (w0 w T : Nat → Int32) (ly tg mn : Nat → Nat) : Prop := w 0 = nI (c0 + v) ∧ (∀ i, bt (w 1) i = (bt (w0 1) i || decide (c0 ≤ i ∧ i < c0 + v))) ∧ (∀ u, u < v → w (20 + (c0 + u)) = nI (ly u) ∧ w (44 + (c0 + u)) = nI (tg u) ∧ w (68 + (c0 + u)) = nI (mn u) ∧ w (92 + (c0 + u)) = 0 ∧ ∀ i, i < mn u → w (140 + 6 * (c0 + u) + i) = fX8_told (T (6 * u + i)) (nI c0)) ∧ ∀ j, j ≠ 0 → j ≠ 1 → j ≠ 15 → ¬ (20 + c0 ≤ j ∧ j < 20 + (c0 + v)) → ¬ (44 + c0 ≤ j ∧ j < 44 + (c0 + v)) → ¬ (68 + c0 ≤ j ∧ j < 68 + (c0 + v)) → ¬ (92 + c0 ≤ j ∧ j < 92 + (c0 + v)) → ¬ (140 + 6 * c0 ≤ j ∧ j < 140 + 6 * (c0 + v)) → w j = w0 j
theorem app_L {c0 N : Nat} {w0 T : Nat → Int32} {ly tg mn : Nat → Nat} (hle : c0 + N ≤ 24) (hb : ∀ i, bt (w0 12) i = true ∨ bt (w0 13) i = true ∨ bt (w0 14) i = true → i < c0) (hl : ∀ v, v < N → ly v ≤ 3 ∧ tg v ≤ 9 ∧ mn v ≤ 6) {K : zkS → Option (Int32 × zkS)} : ∀ q v (t : zkS), v ≤ N → N - v < q → t.1 0 13 = nI N → t.1 11 = T → (∀ u, u < N → t.1 8 u = nI (ly u) ∧ t.1 9 u = nI (tg u) ∧ t.1 10 u = nI (mn u)) → apS c0 v w0 (t.1 1) T ly tg mn → ∃ t', fX8_build_L119 q (nI c0) (nI v) t K = K t' ∧ apS c0 N w0 (t'.1 1) T ly tg mn ∧ (∀ a, a ≠ 1 → t'.1 a = t.1 a) ∧ t'.2 = t.2 := by
  intro q
  induction q with
  | zero => intros; omega
  | succ q ih =>
    intro v t h1 h2 h13 hT hv hA
    unfold fX8_build_L119
    rw [h13]
    by_cases e : v = N
    · subst e
      rw [if_pos (nI_le (Nat.le_refl _) (by omega))]
      exact ⟨t, rfl, hA, fun a _ => rfl, rfl⟩
    obtain ⟨v8, v9, v10⟩ := hv v (by omega)
    obtain ⟨A0, A1, A2, A3⟩ := hA
    have hn : c0 + v < 24 := by omega
    have hm6 := (hl v (by omega)).2.2
    have o12 : t.1 1 12 = w0 12 := A3 12 (by omega) (by omega) (by omega) (by omega) (by omega) (by omega) (by omega) (by omega)
    have o13 : t.1 1 13 = w0 13 := A3 13 (by omega) (by omega) (by omega) (by omega) (by omega) (by omega) (by omega) (by omega)
    have o14 : t.1 1 14 = w0 14 := A3 14 (by omega) (by omega) (by omega) (by omega) (by omega) (by omega) (by omega) (by omega)
    obtain ⟨t1, e1, b0, b1, b15, b20, b44, b68, b92, bo, bp, bq⟩ := comes8 (y := ly v) (g := tg v) (f := mn v) hn A0 (fun i hi => by have := hb i (Or.inl (by rw [← o12]; exact hi)); omega) (fun i hi => by have := hb i (Or.inr (Or.inl (by rw [← o13]; exact hi))); omega) (fun i hi => by have := hb i (Or.inr (Or.inr (by rw [← o14]; exact hi))); omega)
    rw [if_neg (nI_ge (by omega) (by omega)), rd_nI (show v < 101 by omega) (by decide), rd_nI (show v < 101 by omega) (by decide), rd_nI (show v < 101 by omega) (by decide), v8, v9, v10, e1, zb2_s]
    obtain ⟨t2, e2, c1, c2, c3, c4⟩ := fld_L (x3 := nI c0) (v := v) (n := c0 + v) (m := mn v) hn (by omega) hm6 (K := fun s26 => zlt (nI v + 1) (fun v27 => fX8_build_L119 q (nI c0) v27 s26 K)) zFU 0 t1 (by omega) (by unfold zFU; omega) (by rw [bp 10 (by omega)]; exact v10)
    rw [show (0 : Int32) = nI 0 from rfl, e2]
    simp only [zlt]
    rw [nI_1]
    have hA' : apS c0 (v + 1) w0 (t2.1 1) T ly tg mn := by
      refine ⟨?_, fun i => ?_, fun u hu => ?_, fun j j0 j1 j15 j20 j44 j68 j92 j140 => ?_⟩
      · exact (c2 0 (by omega)).trans b0
      · rw [c2 1 (by omega), b1, bt_in hn, A1, Bool.or_assoc]
        congr 1
        by_cases g : i = c0 + v
        · rw [decide_eq_true g, Bool.or_true, decide_eq_true (by omega)]
        · rw [decide_eq_false g, Bool.or_false]
          by_cases g2 : c0 ≤ i ∧ i < c0 + v
          · rw [decide_eq_true g2, decide_eq_true (by omega)]
          · rw [decide_eq_false g2, decide_eq_false (by omega)]
      · by_cases g : u = v
        · subst g
          refine ⟨by rw [c2 _ (by omega)]; exact b20, by rw [c2 _ (by omega)]; exact b44, by rw [c2 _ (by omega)]; exact b68, by rw [c2 _ (by omega)]; exact b92, fun i hi => ?_⟩
          rw [c1 i (by omega) hi, bp 11 (by omega), hT]
        · obtain ⟨a1, a2, a3, a4, a5⟩ := A2 u (by omega)
          have h6 := (hl u (by omega)).2.2
          refine ⟨?_, ?_, ?_, ?_, fun i hi => ?_⟩
          · rw [c2 _ (by omega), bo _ (by omega) (by omega) (by omega) (by omega) (by omega) (by omega) (by omega) (by omega)]; exact a1
          · rw [c2 _ (by omega), bo _ (by omega) (by omega) (by omega) (by omega) (by omega) (by omega) (by omega) (by omega)]; exact a2
          · rw [c2 _ (by omega), bo _ (by omega) (by omega) (by omega) (by omega) (by omega) (by omega) (by omega) (by omega)]; exact a3
          · rw [c2 _ (by omega), bo _ (by omega) (by omega) (by omega) (by omega) (by omega) (by omega) (by omega) (by omega)]; exact a4
          · rw [c2 _ (by omega), bo _ (by omega) (by omega) (by omega) (by omega) (by omega) (by omega) (by omega) (by omega)]; exact a5 i hi
      · rw [c2 j (by omega), bo j j0 j1 j15 (by omega) (by omega) (by omega) (by omega) (by omega)]
        exact A3 j j0 j1 j15 (by omega) (by omega) (by omega) (by omega) (by omega)
    obtain ⟨t', d1, d2, d3, d4⟩ := ih (v + 1) t2 (by omega) (by omega) (by rw [c3 0 (by omega), bp 0 (by omega)]; exact h13) (by rw [c3 11 (by omega), bp 11 (by omega)]; exact hT) (fun u hu => by rw [c3 8 (by omega), c3 9 (by omega), c3 10 (by omega), bp 8 (by omega), bp 9 (by omega), bp 10 (by omega)]; exact hv u hu) hA'
    exact ⟨t', d1, d2, fun a ha => by rw [d3 a ha, c3 a ha, bp a ha], by rw [d4, c4, bq]⟩
theorem told_tl {x1 x : Int32} {N c0 : Nat} (hx : hv x1 N x) (hc : c0 + N ≤ 24) : fX8_told x (nI c0) = tl c0 x := by
  unfold fX8_told
  rcases hx with rfl | ⟨d, hd, rfl, -⟩ | ⟨v, hv, rfl⟩
  · rw [if_pos (by decide)]
    unfold tl
    rw [if_pos (by decide)]
  · rw [if_pos (show nI d < (100 : Int32) from nI_lt (b := 100) (by omega) (by decide)), tl_old hd]
  · rw [if_neg (show ¬ nI (100 + v) < (100 : Int32) from nI_nlt (b := 100) (by omega) (by omega)), tl_new (by omega), cl_of (by omega), nI_add, show nI (c0 + (100 + v)) - 100 = nI (c0 + (100 + v) - 100) from pk_sub (b := 100) (by omega), show c0 + (100 + v) - 100 = c0 + v by omega]
theorem tl_hC {x1 x s : Int32} {N c0 : Nat} (hx : hv x1 N x) (hc : c0 + N ≤ 24) (h1 : ∀ i, bt x1 i = true → bt s i = true) (h2 : ∀ v, v < N → bt s (c0 + v) = true) : hC s (tl c0 x) := by
  rcases hx with rfl | ⟨d, hd, rfl, hb⟩ | ⟨v, hv, rfl⟩
  · left
    unfold tl
    rw [if_pos (by decide)]
  · rw [tl_old hd]
    exact Or.inr ⟨d, hd, rfl, h1 d hb⟩
  · rw [tl_new (by omega), cl_of (by omega)]
    exact Or.inr ⟨c0 + v, by omega, rfl, h2 v hv⟩
