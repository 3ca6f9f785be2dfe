/-! ===== a text is read: new ones, opening, closing ===== -/
def adF (c0 N y g f : Nat) (s s1 : zkS) : Prop := c0 + N < 24 → s1.1 33 1 = (s.1 33 1 ||| (1 <<< (nI (c0 + N) &&& 31))) ∧ (s1.1 34 (c0 + N) = nI y ∧ ∀ j, j ≠ c0 + N → s1.1 34 j = s.1 34 j) ∧ (s1.1 35 (c0 + N) = nI g ∧ ∀ j, j ≠ c0 + N → s1.1 35 j = s.1 35 j) ∧ (s1.1 36 (c0 + N) = nI f ∧ ∀ j, j ≠ c0 + N → s1.1 36 j = s.1 36 j) ∧ ∀ j, ¬ (6 * (c0 + N) ≤ j ∧ j < 6 * (c0 + N) + 6) → s1.1 37 j = s.1 37 j
theorem addN {c0 N y g f : Nat} {σ0 s : zkS} (hf : f ≤ 6) (hs : sR c0 σ0 s N) : ∃ s1, fX0_add 33 (nI y) (nI g) (nI f) s = some (cl c0 N, s1) ∧ (∀ a, ¬ (33 ≤ a ∧ a ≤ 37) → s1.1 a = s.1 a) ∧ s1.2 = s.2 ∧ sR c0 σ0 s1 (N + 1) ∧ adF c0 N y g f s s1 := by
  obtain ⟨h0, h2, h3, h4⟩ := hs
  by_cases g1 : c0 + N < 24
  · rw [if_pos g1] at h0
    obtain ⟨s1, e1, a0, a1, a2, a3, a4, a5, a6, a7, a8⟩ := add33 (y := y) (g := g) g1 hf h0
    refine ⟨s1, by rw [cl_of g1]; exact e1, a7, a8, ⟨?_, ?_, ?_, fun c hc hb => ?_⟩, fun _ => ⟨a1, a3, a4, a5, a6⟩⟩
    · rw [a0]
      by_cases g2 : c0 + (N + 1) < 24
      · rw [if_pos g2]; rfl
      · rw [if_neg g2, show c0 + N + 1 = 24 by omega]
    · rw [a2 2 (by omega) (by omega)]; exact h2
    · rw [a7 38 (by omega)]; exact h3
    · by_cases e : c = c0 + N
      · exact ⟨f, hf, by rw [e]; exact a5.1⟩
      · rw [a1, bt_inn g1 e] at hb
        rw [a5.2 c e]
        exact h4 c hc hb
  · rw [if_neg g1] at h0
    refine ⟨s, by rw [add33_full h0, cl, if_neg g1], fun a _ => rfl, rfl, ⟨?_, h2, h3, h4⟩, fun q => absurd q g1⟩
    rw [h0, if_neg (by omega)]
theorem L_new {c0 N D dn e e' y g : Nat} {x1 : Int32} {σ0 s s' t : zkS} {vo ho ly tg mn : Nat → Nat} (h : PR c0 x1 σ0 s t N D vo ho ly tg mn dn e) (he : N ≤ e) (hN : N ≤ 100) (hy : y ≤ 3) (hg9 : g ≤ 9) (hs : sR c0 σ0 s' (N + 1)) (ha : adF c0 N y g (szO y 0) s s') (h44 : s'.1 44 1 = nI (N + 1)) (h442 : s'.1 44 2 = s.1 44 2) (h447 : s'.1 44 7 = s.1 44 7) (hr : ∀ a, 46 ≤ a → a ≤ 48 → s'.1 a = s.1 a) (he' : y = 0 ∨ e' = N) :
    ∃ t', fX8_isNew (nI y) (nI g) t = some (nI N, t') ∧ PR c0 x1 σ0 s' t' (N + 1) D vo ho (fu ly N y) (fu tg N g) (fu mn N 0) dn e' ∧ ft t t' := by
  obtain ⟨⟨g1, g2, g3, g4, g5, g6, g7, g8⟩, ⟨m13, m14, m16, mo, mv⟩, ⟨c1, c7, cc⟩, ⟨o1, o2, o3⟩, hb, -⟩ := h
  have nv : ∀ l, l < D → vo l ≠ N := fun l hl => by have := g3 l hl; omega
  refine ⟨_, isNew8 m13 (by omega), ⟨⟨g1, g2, fun l hl => by have := g3 l hl; omega, g4, fun l hl => ?_, g6, fun v hv => ?_, fun v hv hve ho' => ?_⟩, ⟨si_eq _ _ _ _, ?_, ?_, fun l hl => ⟨?_, ?_, ?_⟩, fun v hv => ?_⟩, ⟨h44, h447.trans c7, fun l hl => ⟨?_, ?_, ?_⟩⟩, ⟨fun q => h442.trans (o1 q), fun q => ⟨?_, ?_⟩, fun v i hv hi => ?_⟩, fun hle => ?_, hs⟩, ⟨fun a a1 a2 => ?_, fun j hj => ?_, rfl⟩⟩
  · rw [fu_ne _ _ (nv l hl), fu_ne _ _ (nv l hl)]; exact g5 l hl
  · by_cases q : v = N
    · rw [q, fu_eq, fu_eq, fu_eq]; omega
    · rw [fu_ne _ _ q, fu_ne _ _ q, fu_ne _ _ q]; exact g7 v (by omega)
  · by_cases q : v = N
    · subst q
      rcases he' with rfl | rfl
      · rw [fu_eq, fu_eq]; rfl
      · exact absurd rfl hve
    · rw [fu_ne _ _ q, fu_ne _ _ q]; exact g8 v (by omega) (by omega) ho'
  · rw [si_b _ _ (by omega), si_r _ _ (by omega), si_r _ _ (by omega), si_r _ _ (by omega)]; exact m14
  · rw [si_b _ _ (by omega), si_r _ _ (by omega), si_r _ _ (by omega), si_r _ _ (by omega)]; exact m16
  · rw [si_r _ _ (by omega), si_r _ _ (by omega), si_r _ _ (by omega), si_r _ _ (by omega)]; exact (mo l hl).1
  · rw [si_r _ _ (by omega), si_r _ _ (by omega), si_r _ _ (by omega), si_r _ _ (by omega), fu_ne _ _ (nv l hl)]; exact (mo l hl).2.1
  · rw [si_r _ _ (by omega), si_r _ _ (by omega), si_r _ _ (by omega), si_r _ _ (by omega)]; exact (mo l hl).2.2
  · by_cases q : v = N
    · subst q
      rw [fu_eq, fu_eq, fu_eq]
      refine ⟨?_, ?_, ?_⟩
      · rw [si_r _ _ (by omega), si_r _ _ (by omega), si_r _ _ (by omega), si_eq]
      · rw [si_r _ _ (by omega), si_r _ _ (by omega), si_eq]
      · rw [si_r _ _ (by omega), si_eq]; rfl
    · rw [fu_ne _ _ q, fu_ne _ _ q, fu_ne _ _ q]
      refine ⟨?_, ?_, ?_⟩
      · rw [si_r _ _ (by omega), si_r _ _ (by omega), si_r _ _ (by omega), si_b _ _ q]; exact (mv v (by omega)).1
      · rw [si_r _ _ (by omega), si_r _ _ (by omega), si_b _ _ q, si_r _ _ (by omega)]; exact (mv v (by omega)).2.1
      · rw [si_r _ _ (by omega), si_b _ _ q, si_r _ _ (by omega), si_r _ _ (by omega)]; exact (mv v (by omega)).2.2
  · rw [hr 46 (by omega) (by omega)]; exact (cc l hl).1
  · rw [hr 47 (by omega) (by omega), fu_ne _ _ (nv l hl)]; exact (cc l hl).2.1
  · rw [hr 48 (by omega) (by omega), fu_ne _ _ (nv l hl)]; exact (cc l hl).2.2
  · rw [h442, si_b _ _ (by omega), si_r _ _ (by omega), si_r _ _ (by omega), si_r _ _ (by omega)]; exact (o2 q).1
  · rw [si_b _ _ (by omega), si_r _ _ (by omega), si_r _ _ (by omega), si_r _ _ (by omega)]; exact hv_m (by omega) (o2 q).2
  · rw [si_r _ _ (by omega), si_r _ _ (by omega), si_r _ _ (by omega), si_r _ _ (by omega)]
    by_cases q : v = N
    · rw [q, fu_eq] at hi; omega
    · rw [fu_ne _ _ q] at hi
      exact hv_m (by omega) (o3 v i (by omega) hi)
  · obtain ⟨b1, b2, b3, b4, b5, b6, b7⟩ := hb (by omega)
    obtain ⟨d1, d2, d3, d4, d5⟩ := ha (by omega)
    refine ⟨fun i => ?_, fun j hj => ⟨?_, ?_, ?_⟩, fun j hj => ?_, fun v hv => ?_, fun v hv hlv => ?_, fun l hl => ⟨?_, ?_⟩, fun v i hv hi => ?_⟩
    · rw [d1, bt_in (by omega), b1, Bool.or_assoc]
      congr 1
      by_cases q : i = c0 + N
      · rw [decide_eq_true q, Bool.or_true, decide_eq_true (by omega)]
      · rw [decide_eq_false q, Bool.or_false]
        by_cases q2 : c0 ≤ i ∧ i < c0 + N
        · rw [decide_eq_true q2, decide_eq_true (by omega)]
        · rw [decide_eq_false q2, decide_eq_false (by omega)]
    · rw [d2.2 j (by omega)]; exact (b2 j (by omega)).1
    · rw [d3.2 j (by omega)]; exact (b2 j (by omega)).2.1
    · rw [d4.2 j (by omega)]; exact (b2 j (by omega)).2.2
    · rw [d5 j (by omega)]; exact b3 j hj
    · by_cases q : v = N
      · rw [q, fu_eq, fu_eq]; exact ⟨d2.1, d3.1⟩
      · rw [fu_ne _ _ q, fu_ne _ _ q, d2.2 _ (by omega), d3.2 _ (by omega)]; exact b4 v (by omega)
    · by_cases q : v = N
      · rw [q, fu_eq, fu_eq]; exact d4.1
      · rw [fu_ne _ _ q, fu_ne _ _ q, d4.2 _ (by omega)]; exact b5 v (by omega) hlv
    · have := nv l (by omega)
      rw [fu_ne _ _ this, fu_ne _ _ this, d4.2 _ (by omega)]; exact (b6 l hl).1
    · have h1 := g3 l (by omega)
      have h2 := (okS_open (g5 l (by omega)) (g6 l hl)).2.2.2.1
      rw [fu_ne _ _ (nv l (by omega)), d5 _ (by omega)]; exact (b6 l hl).2
    · rw [si_r _ _ (by omega), si_r _ _ (by omega), si_r _ _ (by omega), si_r _ _ (by omega)]
      by_cases q : v = N
      · rw [q, fu_eq] at hi; omega
      · rw [fu_ne _ _ q] at hi
        have := (g7 v (by omega)).2.2
        rw [d5 _ (by omega)]
        exact b7 v i (by omega) hi
  · rw [si_r _ _ a1, si_r _ _ (by omega), si_r _ _ (by omega), si_r _ _ (by omega)]
  · rw [si_b _ _ (by omega), si_r _ _ (by omega), si_r _ _ (by omega), si_r _ _ (by omega)]
/-- opened -/
def pu7 (s : zkS) (D : Nat) (k : Int32) (y : Nat) : zkS := zsi (zsi (zsi (zsi s 46 D k) 47 D (nI y)) 48 D 0) 44 7 (nI (D + 1))
def pu8 (t : zkS) (D v y : Nat) : zkS := zsi (zsi (zsi (zsi t 5 D (nI v)) 6 D (sg y)) 7 D 0) 0 14 (nI (D + 1))
theorem pu7_r (s : zkS) (D : Nat) (k : Int32) (y : Nat) {a : Nat} (h : a ≠ 44) (h' : ¬ (46 ≤ a ∧ a ≤ 48)) : (pu7 s D k y).1 a = s.1 a := by
  unfold pu7
  rw [si_r _ _ h, si_r _ _ (by omega), si_r _ _ (by omega), si_r _ _ (by omega)]
theorem pu7_4 (s : zkS) (D : Nat) (k : Int32) (y : Nat) {j : Nat} (h : j ≠ 7) : (pu7 s D k y).1 44 j = s.1 44 j := by
  unfold pu7
  rw [si_b _ _ h, si_r _ _ (by omega), si_r _ _ (by omega), si_r _ _ (by omega)]
theorem pu8_r (t : zkS) (D v y : Nat) {a : Nat} (h : a ≠ 0) (h' : ¬ (5 ≤ a ∧ a ≤ 7)) : (pu8 t D v y).1 a = t.1 a := by
  unfold pu8
  rw [si_r _ _ h, si_r _ _ (by omega), si_r _ _ (by omega), si_r _ _ (by omega)]
theorem pu8_0 (t : zkS) (D v y : Nat) {j : Nat} (h : j ≠ 14) : (pu8 t D v y).1 0 j = t.1 0 j := by
  unfold pu8
  rw [si_b _ _ h, si_r _ _ (by omega), si_r _ _ (by omega), si_r _ _ (by omega)]
theorem L_push {c0 N D dn v e e' : Nat} {x1 : Int32} {σ0 s t : zkS} {vo ho ly tg mn : Nat → Nat} (h : PR c0 x1 σ0 s t N D vo ho ly tg mn dn e) (he : ∀ u, u < N → u = e → u = v) (hv : v < N) (hno : ∀ l, l < D → vo l ≠ v) (hy : 1 ≤ ly v ∧ ly v ≤ 3) (hmn : mn v = 0) (hD : D < 6) (hw0 : D = 0 → dn = 0) (hw1 : ∀ l, D = l + 1 → ho l ≠ 1) :
    ∃ s1, fX6_put 33 (cl c0 v) s = some (1, s1) ∧ s1.1 44 7 = nI D ∧ s1.1 44 8 = s.1 44 8 ∧ s1.1 44 1 = s.1 44 1 ∧ fc s s1 ∧ PR c0 x1 σ0 (pu7 s1 D (cl c0 v) (ly v)) (pu8 t D v (ly v)) N (D + 1) (fu vo D v) (fu ho D 0) ly tg mn dn e' := by
  obtain ⟨hg, ⟨m13, m14, m16, mo, mv⟩, ⟨c1, c7, cc⟩, ⟨o1, o2, o3⟩, hb, hs⟩ := h
  have hg' := hg
  obtain ⟨g1, g2, g3, g4, g5, g6, g7, g8⟩ := hg'
  have dn0 : dn = 0 := by
    rcases g2 with q | ⟨-, q⟩
    · exact q
    · exact hw0 q
  -- what put does to the graph
  have P : ∃ s1, fX6_put 33 (cl c0 v) s = some (1, s1) ∧ (∀ a, ¬ (33 ≤ a ∧ a ≤ 38) → a ≠ 44 → a ≠ 48 → s1.1 a = s.1 a) ∧ (∀ j, j ≠ 2 → s1.1 44 j = s.1 44 j) ∧ s1.2 = s.2 ∧ (∀ a, 33 ≤ a → a ≤ 38 → a ≠ 36 → a ≠ 37 → s1.1 a = s.1 a) ∧ safe s1 ∧ (D = 0 → s1.1 44 2 = cl c0 v) ∧ (0 < D → s1.1 44 2 = s.1 44 2) ∧ (∀ l, l + 1 ≠ D → s1.1 48 l = s.1 48 l) ∧ (∀ l, l + 1 = D → s1.1 48 l = nI (mn (vo l) + 1)) ∧ (D = 0 → s1.1 36 = s.1 36 ∧ s1.1 37 = s.1 37) ∧ ∀ l, l + 1 = D → c0 + N ≤ 24 → s1.1 36 (c0 + vo l) = nI (szO (ly (vo l)) (mn (vo l) + 1)) ∧ (∀ j, j ≠ c0 + vo l → s1.1 36 j = s.1 36 j) ∧ s1.1 37 (6 * (c0 + vo l) + mn (vo l)) = cl c0 v ∧ ∀ j, j ≠ 6 * (c0 + vo l) + mn (vo l) → s1.1 37 j = s.1 37 j := by
    rcases Nat.eq_zero_or_pos D with h0 | h0
    · subst h0
      exact ⟨_, put33_0 c7, fun a _ a2 _ => si_r _ _ a2, fun j hj => si_b _ _ hj, rfl, fun a _ _ _ _ => si_r _ _ (by omega), safe_c (si_r _ _ (by omega)) (si_r _ _ (by omega)) hs.2.2.2, fun _ => si_eq _ _ _ _, fun q => by omega, fun l _ => by rw [si_r _ _ (by omega)], fun l hl => by omega, fun _ => ⟨si_r _ _ (by omega), si_r _ _ (by omega)⟩, fun l hl => by omega⟩
    · obtain ⟨l, rfl⟩ : ∃ l, D = l + 1 := ⟨D - 1, by omega⟩
      obtain ⟨hy', hm1, hm2, hm3, -⟩ := okS_open (g5 l (by omega)) (hw1 l rfl)
      obtain ⟨c46, c47, c48⟩ := cc l (by omega)
      rw [if_neg (by omega), Nat.add_zero] at c48
      obtain ⟨s', ep, p48, p48', pf, p2, ps, pp⟩ := put33_1 (x := cl c0 v) (by omega) c7 c47 c48 c46 (by omega) hy' (cl_k c0 (vo l)) hs.2.2.2
      refine ⟨s', ep, fun a a1 a2 a3 => pf a (by omega) (by omega) a3, fun j _ => by rw [pf 44 (by omega) (by omega) (by omega)], p2, fun a _ _ a3 a4 => pf a a3 a4 (by omega), ps, fun q => by omega, fun _ => by rw [pf 44 (by omega) (by omega) (by omega)], fun j hj => p48' j (by omega), fun j hj => ?_, fun q => by omega, fun j hj hle => ?_⟩
      · have : j = l := by omega
        subst this
        exact p48
      · have : j = l := by omega
        subst this
        obtain ⟨q1, q2, q3⟩ := put_b hg hb hle
        exact pp (c0 + vo j) q1 (cl_of q1) q2 q3 hm1 hm2
  obtain ⟨s1, ep, pf, p44, p2, pg, ps, pz, pz', p48, p48', p0, p1⟩ := P
  refine ⟨s1, ep, (p44 7 (by omega)).trans c7, p44 8 (by omega), p44 1 (by omega), ⟨fun a a1 a2 a3 => pf a a1 a2 (by omega), fun j _ j2 _ _ => p44 j j2, p2⟩, ⟨by omega, Or.inl dn0, fun l hl => ?_, fun l l' h1 h2 => ?_, fun l hl => ?_, fun l hl => ?_, g7, fun u hu hue ho' => ?_⟩, ⟨?_, ?_, ?_, fun l hl => ⟨?_, ?_, ?_⟩, fun u hu => ?_⟩, ⟨?_, ?_, fun l hl => ⟨?_, ?_, ?_⟩⟩, ⟨fun _ => ?_, fun q => ?_, fun u i hu hi => ?_⟩, fun hle => ?_, ⟨?_, ?_, ?_, ?_⟩⟩
  · by_cases q : l = D
    · rw [q, fu_eq]; exact hv
    · rw [fu_ne _ _ q]; exact g3 l (by omega)
  · rw [fu_ne _ _ (show l ≠ D by omega)]
    by_cases q : l' = D
    · rw [q, fu_eq]; exact hno l (by omega)
    · rw [fu_ne _ _ q]; exact g4 l l' h1 (by omega)
  · by_cases q : l = D
    · rw [q, fu_eq, fu_eq, hmn]
      unfold okS
      omega
    · rw [fu_ne _ _ q, fu_ne _ _ q]; exact g5 l (by omega)
  · rw [fu_ne _ _ (show l ≠ D by omega)]
    by_cases q : l + 1 < D
    · exact g6 l q
    · exact hw1 l (by omega)
  · refine g8 u hu (fun q => ?_) (fun l hl => ?_)
    · have := ho' D (by omega)
      rw [fu_eq] at this
      exact this (he u hu q).symm
    · have := ho' l (by omega)
      rw [fu_ne _ _ (by omega)] at this
      exact this
  · rw [pu8_0 _ _ _ _ (by omega)]; exact m13
  · unfold pu8; exact si_eq _ _ _ _
  · rw [pu8_0 _ _ _ _ (by omega)]; exact m16
  · unfold pu8
    rw [si_r _ _ (by omega), si_r _ _ (by omega), si_r _ _ (by omega)]
    by_cases q : l = D
    · rw [q, fu_eq, si_eq]
    · rw [fu_ne _ _ q, si_b _ _ q]; exact (mo l (by omega)).1
  · unfold pu8
    rw [si_r _ _ (by omega), si_r _ _ (by omega)]
    by_cases q : l = D
    · rw [q, fu_eq, si_eq]
    · rw [fu_ne _ _ q, si_b _ _ q, si_r _ _ (by omega)]; exact (mo l (by omega)).2.1
  · unfold pu8
    rw [si_r _ _ (by omega)]
    by_cases q : l = D
    · rw [q, fu_eq, si_eq]; rfl
    · rw [fu_ne _ _ q, si_b _ _ q, si_r _ _ (by omega), si_r _ _ (by omega)]; exact (mo l (by omega)).2.2
  · rw [pu8_r _ _ _ _ (by omega) (by omega), pu8_r _ _ _ _ (by omega) (by omega), pu8_r _ _ _ _ (by omega) (by omega)]; exact mv u hu
  · rw [pu7_4 _ _ _ _ (by omega), p44 1 (by omega)]; exact c1
  · unfold pu7; exact si_eq _ _ _ _
  · unfold pu7
    rw [si_r _ _ (by omega), si_r _ _ (by omega), si_r _ _ (by omega)]
    by_cases q : l = D
    · rw [q, fu_eq, si_eq]
    · rw [fu_ne _ _ q, si_b _ _ q, pf 46 (by omega) (by omega) (by omega)]; exact (cc l (by omega)).1
  · unfold pu7
    rw [si_r _ _ (by omega), si_r _ _ (by omega)]
    by_cases q : l = D
    · rw [q, fu_eq, si_eq]
    · rw [fu_ne _ _ q, si_b _ _ q, si_r _ _ (by omega), pf 47 (by omega) (by omega) (by omega)]; exact (cc l (by omega)).2.1
  · unfold pu7
    rw [si_r _ _ (by omega)]
    by_cases q : l = D
    · rw [q, fu_eq, si_eq, hmn, if_neg (by omega)]; rfl
    · rw [fu_ne _ _ q, si_b _ _ q, si_r _ _ (by omega), si_r _ _ (by omega), if_pos (by omega)]
      by_cases q2 : l + 1 = D
      · exact p48' l q2
      · rw [p48 l q2, (cc l (by omega)).2.2, if_pos (by omega)]
  · rw [pu7_4 _ _ _ _ (by omega)]
    by_cases q : D = 0
    · rw [pz q]
      subst q
      rw [fu_eq]
    · rw [pz' (by omega), fu_ne _ _ (by omega)]; exact o1 (by omega)
  · rw [dn0] at q; omega
  · rw [pu8_r _ _ _ _ (by omega) (by omega)]; exact o3 u i hu hi
  · obtain ⟨b1, b2, b3, b4, b5, b6, b7⟩ := hb hle
    rw [pu7_r _ _ _ _ (show 33 ≠ 44 by omega) (by omega), pu7_r _ _ _ _ (show 34 ≠ 44 by omega) (by omega), pu7_r _ _ _ _ (show 35 ≠ 44 by omega) (by omega), pu7_r _ _ _ _ (show 36 ≠ 44 by omega) (by omega), pu7_r _ _ _ _ (show 37 ≠ 44 by omega) (by omega), pu8_r _ _ _ _ (show 11 ≠ 0 by omega) (by omega), pg 33 (by omega) (by omega) (by omega) (by omega), pg 34 (by omega) (by omega) (by omega) (by omega), pg 35 (by omega) (by omega) (by omega) (by omega)]
    rcases Nat.eq_zero_or_pos D with h0 | h0
    · obtain ⟨z6, z7⟩ := p0 h0
      rw [z6, z7]
      subst h0
      exact ⟨b1, b2, b3, b4, fun u hu _ => b5 u hu (fun l hl => by omega), fun l hl => by omega, b7⟩
    · obtain ⟨l, rfl⟩ : ∃ l, D = l + 1 := ⟨D - 1, by omega⟩
      obtain ⟨r1, r2, r3, r4⟩ := p1 l rfl hle
      have hvl := g3 l (by omega)
      have hm3 := (okS_open (g5 l (by omega)) (hw1 l rfl)).2.2.2.1
      have hne : ∀ j, j < l + 1 → j ≠ l → vo j ≠ vo l := fun j hj hjl => g4 j l (by omega) (by omega)
      have hm6 : ∀ j, j + 1 < l + 1 → mn (vo j) < 6 := fun j hj => (okS_open (g5 j (by omega)) (g6 j hj)).2.2.2.1
      refine ⟨b1, fun j hj => ⟨(b2 j hj).1, (b2 j hj).2.1, ?_⟩, fun j hj => ?_, b4, fun u hu hlu => ?_, fun j hj => ?_, fun u i hu hi => ?_⟩
      · rw [r2 j (by omega)]; exact (b2 j hj).2.2
      · rw [r4 j (by omega)]; exact b3 j hj
      · have hul := hlu l (by omega)
        rw [fu_ne _ _ (by omega)] at hul
        rw [r2 _ (by omega)]
        refine b5 u hu (fun j hj => ?_)
        have := hlu j (by omega)
        rw [fu_ne _ _ (by omega)] at this
        exact this
      · by_cases q : j = l
        · subst q
          rw [fu_ne _ _ (show j ≠ j + 1 by omega), fu_eq]
          exact ⟨r1, r3⟩
        · have hn := hne j (by omega) q
          have := hm6 j (by omega)
          rw [fu_ne _ _ (show j ≠ l + 1 by omega), fu_ne _ _ (show j + 1 ≠ l + 1 by omega), r2 _ (by omega), r4 _ (by omega)]
          exact b6 j (by omega)
      · have h6 := (g7 u hu).2.2
        have hpl : ¬ (6 * (c0 + u) + i = 6 * (c0 + vo l) + mn (vo l)) := fun q => by
          have e1 : u = vo l := by omega
          rw [e1] at hi q
          omega
        rw [r4 _ hpl]; exact b7 u i hu hi
  · rw [pu7_r _ _ _ _ (by omega) (by omega), pg 33 (by omega) (by omega) (by omega) (by omega)]; exact hs.1
  · rw [pu7_r _ _ _ _ (by omega) (by omega), pg 33 (by omega) (by omega) (by omega) (by omega)]; exact hs.2.1
  · rw [pu7_r _ _ _ _ (by omega) (by omega), pg 38 (by omega) (by omega) (by omega) (by omega)]; exact hs.2.2.1
  · exact safe_c (pu7_r _ _ _ _ (by omega) (by omega)) (pu7_r _ _ _ _ (by omega) (by omega)) ps
