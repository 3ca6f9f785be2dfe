/-! ===== told ===== -/
theorem told7_m {σ σ1 : zkS} {p r : Int32} (h8 : ¬ p = 8) (h9 : ¬ p = 9) (h10 : ¬ p = 10) (h13 : ¬ p = 13) (h15 : ¬ p = 15) (h16 : ¬ p = 16) (h17 : ¬ p = 17) (h18 : ¬ p = 18) (e : fX7_ofMarking p σ = some (r, σ1)) : fX7_told p σ = some (r, σ1) := by
  unfold fX7_told
  rw [if_neg h8, if_neg h9, if_neg h10, if_neg h13, if_neg h15, if_neg h16, if_neg h17, if_neg h18, e, zb2_s, ite_self, ite_self, ite_self]
theorem told_10 {σ τ : zkS} (hR : zRel σ τ) : ∃ (r : Int32) (s : zkS), fX1_readFrom 2 σ = some s ∧ fX1_reached s = some r ∧ fX8_reached 1 τ = some r ∧ zRel s τ := by
  obtain ⟨⟨hg, hk, hs, hw, hm⟩, -⟩ := id hR
  obtain ⟨s, es, hl, hsa, hs2⟩ := read7 (b := 2) (by omega) hg hw
  have hR' : zRel s τ := zRel_c (fun a h1 h2 => hsa a (by omega) (by omega)) (by rw [hsa 0 (by omega) (by omega)]) (by rw [hsa 44 (by omega) (by omega)]) (hsa 45 (by omega) (by omega)) (hsa 50 (by omega) (by omega)) (hsa 51 (by omega) (by omega)) hs2 rfl rfl rfl rfl rfl rfl rfl rfl hR
  obtain ⟨x, ex, hx⟩ := reached7 hl
  obtain ⟨y, ey, hy⟩ := reached8 (u := 1) hw
  have := bs_u hx hy
  subst this
  exact ⟨x, s, es, ex, ey, hR'⟩
theorem told_11 {σ τ : zkS} (hR : zRel σ τ) : ∃ (r : Int32) (s s' t' : zkS), fX2_copyFrom 39 8 σ = some s ∧ fX2_run 39 2 1000 s = some (r, s') ∧ fX8_left τ = some (r, t') ∧ zRel s' t' := by
  obtain ⟨s, t, es, et, hr, us, vs, ut, vt, -⟩ := trial hR
  obtain ⟨s', t', k, q1, q2, -, -, q4, -⟩ := run_end (by omega) hr
  refine ⟨nI k, s, s', t', es, q1, ?_, zRel_m hR us vs ut vt q4⟩
  unfold fX8_left
  rw [et, zb1_s]
  exact q2 _
theorem told_12 {σ τ : zkS} (hR : zRel σ τ) : σ.1 8 5 - fX2_turnedNow 8 σ = if τ.1 1 2 = 1 then (if τ.1 1 3 < τ.1 1 6 then τ.1 1 3 else τ.1 1 6) else 0 := by
  obtain ⟨⟨hg, hk, hs, hw, hm⟩, -⟩ := id hR
  rcases hm.1 with h | h
  · obtain ⟨r, e7, e8⟩ := tnow_rel (b := 8) (u := 1) hk hm
    rw [tNow8_0 h] at e8
    have e0 : (0 : Int32) = r := Option.some.inj e8
    obtain ⟨-, -, -, -, -, -, -, -, -, -, -, -, g12, -⟩ := hk
    rw [e7, ← e0, (g12 h).2.1, h, if_neg (by decide)]
    rfl
  · obtain ⟨lim, nx, d, hl, e3, hnx, e5, hd, e6, -⟩ := hm.2.2.2.2.2.2 h
    rw [tNow7 hk h e3 e6 hl hd]
    obtain ⟨-, -, -, -, -, -, -, -, -, -, -, g11, -, -⟩ := hk
    rw [h, if_pos rfl, (g11 h).2.1, e3, e6, pk_sub (by omega)]
    by_cases g : lim < d
    · rw [if_pos (nI_lt g (by omega)), show d - (d - lim) = lim by omega]
    · rw [if_neg (nI_nlt (by omega) (by omega)), show d - (d - lim) = d by omega]
theorem as01 {x : Int32} (h : x = 0 ∨ x = 1) : fX7_asNumber x = x := by
  rcases h with rfl | rfl <;> rfl
theorem T_told {σ τ : zkS} (hR : zRel σ τ) (p1 : Int32) : ∃ (r : Int32) (σ1 : zkS) (τ1 : zkS), fX7_told p1 σ = some (r, σ1) ∧ fX8_told_ p1 τ = some (r, τ1) ∧ zRel σ1 τ1 := by
  obtain ⟨⟨hg, hk, hs, hw, hm⟩, -⟩ := id hR
  have k' := hk
  obtain ⟨k0, k1, k2, k3, k4, k5, k6, k7, k8, k9, k10, -⟩ := k'
  have h01 : ¬ τ.1 1 2 = 1 → τ.1 1 2 = 0 := fun h => hm.1.resolve_right h
  by_cases h : p1 < 0 ∨ nI 18 < p1
  · have hne : ∀ c, c ≤ 18 → ¬ p1 = nI c := fun c hc q => h.elim (fun g => nI_nneg (show c < 2 ^ 31 by omega) (q ▸ g)) (fun g => nI_nlt (a := 18) (b := c) hc (by decide) (q ▸ g))
    refine ⟨-1, σ, τ, told7_m (hne 8 (by decide)) (hne 9 (by decide)) (hne 10 (by decide)) (hne 13 (by decide)) (hne 15 (by decide)) (hne 16 (by decide)) (hne 17 (by decide)) (hne 18 (by decide)) ?_, ?_, hR⟩
    · unfold fX7_ofMarking
      rw [if_neg (show ¬ p1 = 0 from hne 0 (by decide)), if_neg (show ¬ p1 = 1 from hne 1 (by decide)), if_neg (show ¬ p1 = 2 from hne 2 (by decide)), if_neg (show ¬ p1 = 3 from hne 3 (by decide)), if_neg (show ¬ p1 = 4 from hne 4 (by decide)), if_neg (show ¬ p1 = 5 from hne 5 (by decide)), if_neg (show ¬ p1 = 6 from hne 6 (by decide)), if_neg (show ¬ p1 = 7 from hne 7 (by decide)), if_neg (show ¬ p1 = 8 from hne 8 (by decide)), if_neg (show ¬ p1 = 9 from hne 9 (by decide)), if_neg (show ¬ p1 = 10 from hne 10 (by decide)), if_neg (show ¬ p1 = 11 from hne 11 (by decide)), if_neg (show ¬ p1 = 12 from hne 12 (by decide)), if_neg (show ¬ p1 = 13 from hne 13 (by decide)), if_neg (show ¬ p1 = 14 from hne 14 (by decide))]
    · unfold fX8_told_
      simp only [jn]
      have e18 : fX8_in p1.toInt64 15 18 = 0 := by
        refine (in_eq p1 15 18).trans (if_pos ?_)
        rcases h with h | h
        · left
          rw [Int32.lt_iff_toInt_lt] at h ⊢
          rw [show (0 : Int32).toInt = 0 from rfl] at h
          rw [show (15 : Int32).toInt = 15 from rfl]
          omega
        · exact Or.inr h
      rw [rd_2]
      by_cases h2 : τ.1 1 2 = 1
      · rw [if_pos h2, if_neg (show ¬ p1 = 0 from hne 0 (by decide)), if_neg (show ¬ p1 = 1 from hne 1 (by decide)), if_neg (show ¬ p1 = 2 from hne 2 (by decide)), if_neg (show ¬ p1 = 3 from hne 3 (by decide)), if_neg (show ¬ p1 = 4 from hne 4 (by decide)), if_neg (show ¬ p1 = 5 from hne 5 (by decide)), if_neg (show ¬ p1 = 6 from hne 6 (by decide)), if_neg (show ¬ p1 = 7 from hne 7 (by decide)), if_neg (show ¬ p1 = 8 from hne 8 (by decide)), if_neg (show ¬ p1 = 9 from hne 9 (by decide)), if_neg (show ¬ p1 = 10 from hne 10 (by decide)), if_neg (show ¬ p1 = 11 from hne 11 (by decide)), if_neg (show ¬ p1 = 12 from hne 12 (by decide)), if_neg (show ¬ p1 = 13 from hne 13 (by decide)), if_neg (show ¬ p1 = 14 from hne 14 (by decide)), if_pos e18]
      · rw [if_neg h2, if_neg (show ¬ p1 = 0 from hne 0 (by decide)), if_neg (show ¬ p1 = 1 from hne 1 (by decide)), if_neg (show ¬ p1 = 2 from hne 2 (by decide)), if_neg (show ¬ p1 = 3 from hne 3 (by decide)), if_neg (show ¬ p1 = 4 from hne 4 (by decide)), if_neg (show ¬ p1 = 5 from hne 5 (by decide)), if_neg (show ¬ p1 = 6 from hne 6 (by decide)), if_neg (show ¬ p1 = 7 from hne 7 (by decide)), if_neg (show ¬ p1 = 8 from hne 8 (by decide)), if_neg (show ¬ p1 = 9 from hne 9 (by decide)), if_neg (show ¬ p1 = 10 from hne 10 (by decide)), if_neg (show ¬ p1 = 11 from hne 11 (by decide)), if_neg (show ¬ p1 = 12 from hne 12 (by decide)), if_neg (show ¬ p1 = 13 from hne 13 (by decide)), if_neg (show ¬ p1 = 14 from hne 14 (by decide)), if_pos e18]
  obtain ⟨k, hk18, rfl⟩ := rng (by decide) h
  rcases (show k = 0 ∨ k = 1 ∨ k = 2 ∨ k = 3 ∨ k = 4 ∨ k = 5 ∨ k = 6 ∨ k = 7 ∨ k = 8 ∨ k = 9 ∨ k = 10 ∨ k = 11 ∨ k = 12 ∨ k = 13 ∨ k = 14 ∨ k = 15 ∨ k = 16 ∨ k = 17 ∨ k = 18 by omega) with rfl | rfl | rfl | rfl | rfl | rfl | rfl | rfl | rfl | rfl | rfl | rfl | rfl | rfl | rfl | rfl | rfl | rfl | rfl
  · refine ⟨fX7_asNumber (σ.1 8 0), σ, τ, told7_m (show ¬ nI 0 = 8 by decide) (show ¬ nI 0 = 9 by decide) (show ¬ nI 0 = 10 by decide) (show ¬ nI 0 = 13 by decide) (show ¬ nI 0 = 15 by decide) (show ¬ nI 0 = 16 by decide) (show ¬ nI 0 = 17 by decide) (show ¬ nI 0 = 18 by decide) ?_, ?_, hR⟩
    · unfold fX7_ofMarking
      rw [if_pos (show nI 0 = 0 from rfl)]
    · unfold fX8_told_
      simp only [jn]
      rw [rd_2]
      by_cases h2 : τ.1 1 2 = 1
      · rw [if_pos h2, if_pos (show nI 0 = 0 from rfl), show σ.1 8 0 = τ.1 1 2 from k0, h2]
        rfl
      · rw [if_neg h2, if_pos (show nI 0 = 0 from rfl), show σ.1 8 0 = τ.1 1 2 from k0, h01 h2]
        rfl
  · refine ⟨σ.1 8 4, σ, τ, told7_m (show ¬ nI 1 = 8 by decide) (show ¬ nI 1 = 9 by decide) (show ¬ nI 1 = 10 by decide) (show ¬ nI 1 = 13 by decide) (show ¬ nI 1 = 15 by decide) (show ¬ nI 1 = 16 by decide) (show ¬ nI 1 = 17 by decide) (show ¬ nI 1 = 18 by decide) ?_, ?_, hR⟩
    · unfold fX7_ofMarking
      rw [if_neg (show ¬ nI 1 = 0 by decide), if_pos (show nI 1 = 1 from rfl)]
    · unfold fX8_told_
      simp only [jn]
      rw [rd_2]
      by_cases h2 : τ.1 1 2 = 1
      · rw [if_pos h2, if_neg (show ¬ nI 1 = 0 by decide), if_pos (show nI 1 = 1 from rfl), if_neg (show ¬ (1 : Int32) = 0 by decide), rd_4, show σ.1 8 4 = _ from at_rel (u := 1) hk hm, if_pos h2]
      · rw [if_neg h2, if_neg (show ¬ nI 1 = 0 by decide), if_pos (show nI 1 = 1 from rfl), if_pos trivial, show σ.1 8 4 = _ from at_rel (u := 1) hk hm, if_neg h2]
  · obtain ⟨r, e7, e8⟩ := back_rel (b := 8) (u := 1) hk hm
    refine ⟨r, σ, τ, told7_m (show ¬ nI 2 = 8 by decide) (show ¬ nI 2 = 9 by decide) (show ¬ nI 2 = 10 by decide) (show ¬ nI 2 = 13 by decide) (show ¬ nI 2 = 15 by decide) (show ¬ nI 2 = 16 by decide) (show ¬ nI 2 = 17 by decide) (show ¬ nI 2 = 18 by decide) ?_, ?_, hR⟩
    · unfold fX7_ofMarking
      rw [if_neg (show ¬ nI 2 = 0 by decide), if_neg (show ¬ nI 2 = 1 by decide), if_pos (show nI 2 = 2 from rfl), e7, zb1_s]
    · unfold fX8_told_
      simp only [jn]
      rw [rd_2]
      by_cases h2 : τ.1 1 2 = 1
      · rw [if_pos h2, if_neg (show ¬ nI 2 = 0 by decide), if_neg (show ¬ nI 2 = 1 by decide), if_pos (show nI 2 = 2 from rfl), e8, zb1_s]
      · rw [if_neg h2, if_neg (show ¬ nI 2 = 0 by decide), if_neg (show ¬ nI 2 = 1 by decide), if_pos (show nI 2 = 2 from rfl), e8, zb1_s]
  · refine ⟨τ.1 1 7, σ, τ, told7_m (show ¬ nI 3 = 8 by decide) (show ¬ nI 3 = 9 by decide) (show ¬ nI 3 = 10 by decide) (show ¬ nI 3 = 13 by decide) (show ¬ nI 3 = 15 by decide) (show ¬ nI 3 = 16 by decide) (show ¬ nI 3 = 17 by decide) (show ¬ nI 3 = 18 by decide) ?_, ?_, hR⟩
    · unfold fX7_ofMarking fX2_tally
      rw [if_neg (show ¬ nI 3 = 0 by decide), if_neg (show ¬ nI 3 = 1 by decide), if_neg (show ¬ nI 3 = 2 by decide), if_pos (show nI 3 = 3 from rfl), if_pos (show nI 3 - 3 = 0 by decide), show σ.1 8 6 = τ.1 1 7 from k4]
    · unfold fX8_told_
      simp only [jn]
      rw [rd_2]
      by_cases h2 : τ.1 1 2 = 1
      · rw [if_pos h2, if_neg (show ¬ nI 3 = 0 by decide), if_neg (show ¬ nI 3 = 1 by decide), if_neg (show ¬ nI 3 = 2 by decide), if_pos (show nI 3 = 3 from rfl), rd_7]
      · rw [if_neg h2, if_neg (show ¬ nI 3 = 0 by decide), if_neg (show ¬ nI 3 = 1 by decide), if_neg (show ¬ nI 3 = 2 by decide), if_pos (show nI 3 = 3 from rfl), rd_7]
  · refine ⟨τ.1 1 8, σ, τ, told7_m (show ¬ nI 4 = 8 by decide) (show ¬ nI 4 = 9 by decide) (show ¬ nI 4 = 10 by decide) (show ¬ nI 4 = 13 by decide) (show ¬ nI 4 = 15 by decide) (show ¬ nI 4 = 16 by decide) (show ¬ nI 4 = 17 by decide) (show ¬ nI 4 = 18 by decide) ?_, ?_, hR⟩
    · unfold fX7_ofMarking fX2_tally
      rw [if_neg (show ¬ nI 4 = 0 by decide), if_neg (show ¬ nI 4 = 1 by decide), if_neg (show ¬ nI 4 = 2 by decide), if_neg (show ¬ nI 4 = 3 by decide), if_pos (show nI 4 = 4 from rfl), if_neg (show ¬ nI 4 - 3 = 0 by decide), if_pos (show nI 4 - 3 = 1 by decide), show σ.1 8 9 = τ.1 1 8 from k7]
    · unfold fX8_told_
      simp only [jn]
      rw [rd_2]
      by_cases h2 : τ.1 1 2 = 1
      · rw [if_pos h2, if_neg (show ¬ nI 4 = 0 by decide), if_neg (show ¬ nI 4 = 1 by decide), if_neg (show ¬ nI 4 = 2 by decide), if_neg (show ¬ nI 4 = 3 by decide), if_pos (show nI 4 = 4 from rfl), rd_8]
      · rw [if_neg h2, if_neg (show ¬ nI 4 = 0 by decide), if_neg (show ¬ nI 4 = 1 by decide), if_neg (show ¬ nI 4 = 2 by decide), if_neg (show ¬ nI 4 = 3 by decide), if_pos (show nI 4 = 4 from rfl), rd_8]
  · refine ⟨τ.1 1 9, σ, τ, told7_m (show ¬ nI 5 = 8 by decide) (show ¬ nI 5 = 9 by decide) (show ¬ nI 5 = 10 by decide) (show ¬ nI 5 = 13 by decide) (show ¬ nI 5 = 15 by decide) (show ¬ nI 5 = 16 by decide) (show ¬ nI 5 = 17 by decide) (show ¬ nI 5 = 18 by decide) ?_, ?_, hR⟩
    · unfold fX7_ofMarking fX2_tally
      rw [if_neg (show ¬ nI 5 = 0 by decide), if_neg (show ¬ nI 5 = 1 by decide), if_neg (show ¬ nI 5 = 2 by decide), if_neg (show ¬ nI 5 = 3 by decide), if_neg (show ¬ nI 5 = 4 by decide), if_pos (show nI 5 = 5 from rfl), if_neg (show ¬ nI 5 - 3 = 0 by decide), if_neg (show ¬ nI 5 - 3 = 1 by decide), if_pos (show nI 5 - 3 = 2 by decide), show σ.1 8 10 = τ.1 1 9 from k8]
    · unfold fX8_told_
      simp only [jn]
      rw [rd_2]
      by_cases h2 : τ.1 1 2 = 1
      · rw [if_pos h2, if_neg (show ¬ nI 5 = 0 by decide), if_neg (show ¬ nI 5 = 1 by decide), if_neg (show ¬ nI 5 = 2 by decide), if_neg (show ¬ nI 5 = 3 by decide), if_neg (show ¬ nI 5 = 4 by decide), if_pos (show nI 5 = 5 from rfl), rd_9]
      · rw [if_neg h2, if_neg (show ¬ nI 5 = 0 by decide), if_neg (show ¬ nI 5 = 1 by decide), if_neg (show ¬ nI 5 = 2 by decide), if_neg (show ¬ nI 5 = 3 by decide), if_neg (show ¬ nI 5 = 4 by decide), if_pos (show nI 5 = 5 from rfl), rd_9]
  · refine ⟨τ.1 1 10, σ, τ, told7_m (show ¬ nI 6 = 8 by decide) (show ¬ nI 6 = 9 by decide) (show ¬ nI 6 = 10 by decide) (show ¬ nI 6 = 13 by decide) (show ¬ nI 6 = 15 by decide) (show ¬ nI 6 = 16 by decide) (show ¬ nI 6 = 17 by decide) (show ¬ nI 6 = 18 by decide) ?_, ?_, hR⟩
    · unfold fX7_ofMarking fX2_tally
      rw [if_neg (show ¬ nI 6 = 0 by decide), if_neg (show ¬ nI 6 = 1 by decide), if_neg (show ¬ nI 6 = 2 by decide), if_neg (show ¬ nI 6 = 3 by decide), if_neg (show ¬ nI 6 = 4 by decide), if_neg (show ¬ nI 6 = 5 by decide), if_pos (show nI 6 = 6 from rfl), if_neg (show ¬ nI 6 - 3 = 0 by decide), if_neg (show ¬ nI 6 - 3 = 1 by decide), if_neg (show ¬ nI 6 - 3 = 2 by decide), if_pos (show nI 6 - 3 = 3 by decide), show σ.1 8 11 = τ.1 1 10 from k9]
    · unfold fX8_told_
      simp only [jn]
      rw [rd_2]
      by_cases h2 : τ.1 1 2 = 1
      · rw [if_pos h2, if_neg (show ¬ nI 6 = 0 by decide), if_neg (show ¬ nI 6 = 1 by decide), if_neg (show ¬ nI 6 = 2 by decide), if_neg (show ¬ nI 6 = 3 by decide), if_neg (show ¬ nI 6 = 4 by decide), if_neg (show ¬ nI 6 = 5 by decide), if_pos (show nI 6 = 6 from rfl), rd_10]
      · rw [if_neg h2, if_neg (show ¬ nI 6 = 0 by decide), if_neg (show ¬ nI 6 = 1 by decide), if_neg (show ¬ nI 6 = 2 by decide), if_neg (show ¬ nI 6 = 3 by decide), if_neg (show ¬ nI 6 = 4 by decide), if_neg (show ¬ nI 6 = 5 by decide), if_pos (show nI 6 = 6 from rfl), rd_10]
  · refine ⟨τ.1 1 11, σ, τ, told7_m (show ¬ nI 7 = 8 by decide) (show ¬ nI 7 = 9 by decide) (show ¬ nI 7 = 10 by decide) (show ¬ nI 7 = 13 by decide) (show ¬ nI 7 = 15 by decide) (show ¬ nI 7 = 16 by decide) (show ¬ nI 7 = 17 by decide) (show ¬ nI 7 = 18 by decide) ?_, ?_, hR⟩
    · unfold fX7_ofMarking fX2_tally
      rw [if_neg (show ¬ nI 7 = 0 by decide), if_neg (show ¬ nI 7 = 1 by decide), if_neg (show ¬ nI 7 = 2 by decide), if_neg (show ¬ nI 7 = 3 by decide), if_neg (show ¬ nI 7 = 4 by decide), if_neg (show ¬ nI 7 = 5 by decide), if_neg (show ¬ nI 7 = 6 by decide), if_pos (show nI 7 = 7 from rfl), if_neg (show ¬ nI 7 - 3 = 0 by decide), if_neg (show ¬ nI 7 - 3 = 1 by decide), if_neg (show ¬ nI 7 - 3 = 2 by decide), if_neg (show ¬ nI 7 - 3 = 3 by decide), show σ.1 8 12 = τ.1 1 11 from k10]
    · unfold fX8_told_
      simp only [jn]
      rw [rd_2]
      by_cases h2 : τ.1 1 2 = 1
      · rw [if_pos h2, if_neg (show ¬ nI 7 = 0 by decide), if_neg (show ¬ nI 7 = 1 by decide), if_neg (show ¬ nI 7 = 2 by decide), if_neg (show ¬ nI 7 = 3 by decide), if_neg (show ¬ nI 7 = 4 by decide), if_neg (show ¬ nI 7 = 5 by decide), if_neg (show ¬ nI 7 = 6 by decide), if_pos (show nI 7 = 7 from rfl), rd_11]
      · rw [if_neg h2, if_neg (show ¬ nI 7 = 0 by decide), if_neg (show ¬ nI 7 = 1 by decide), if_neg (show ¬ nI 7 = 2 by decide), if_neg (show ¬ nI 7 = 3 by decide), if_neg (show ¬ nI 7 = 4 by decide), if_neg (show ¬ nI 7 = 5 by decide), if_neg (show ¬ nI 7 = 6 by decide), if_pos (show nI 7 = 7 from rfl), rd_11]
  · refine ⟨τ.1 1 12, σ, τ, ?_, ?_, hR⟩
    · unfold fX7_told
      rw [if_pos (show nI 8 = 8 from rfl), show σ.1 8 2 = τ.1 1 12 from k2]
    · unfold fX8_told_
      simp only [jn]
      rw [rd_2]
      by_cases h2 : τ.1 1 2 = 1
      · rw [if_pos h2, if_neg (show ¬ nI 8 = 0 by decide), if_neg (show ¬ nI 8 = 1 by decide), if_neg (show ¬ nI 8 = 2 by decide), if_neg (show ¬ nI 8 = 3 by decide), if_neg (show ¬ nI 8 = 4 by decide), if_neg (show ¬ nI 8 = 5 by decide), if_neg (show ¬ nI 8 = 6 by decide), if_neg (show ¬ nI 8 = 7 by decide), if_pos (show nI 8 = 8 from rfl), rd_12]
      · rw [if_neg h2, if_neg (show ¬ nI 8 = 0 by decide), if_neg (show ¬ nI 8 = 1 by decide), if_neg (show ¬ nI 8 = 2 by decide), if_neg (show ¬ nI 8 = 3 by decide), if_neg (show ¬ nI 8 = 4 by decide), if_neg (show ¬ nI 8 = 5 by decide), if_neg (show ¬ nI 8 = 6 by decide), if_neg (show ¬ nI 8 = 7 by decide), if_pos (show nI 8 = 8 from rfl), rd_12]
  · refine ⟨τ.1 1 13, σ, τ, ?_, ?_, hR⟩
    · unfold fX7_told
      rw [if_neg (show ¬ nI 9 = 8 by decide), if_pos (show nI 9 = 9 from rfl), show σ.1 8 3 = τ.1 1 13 from k3]
    · unfold fX8_told_
      simp only [jn]
      rw [rd_2]
      by_cases h2 : τ.1 1 2 = 1
      · rw [if_pos h2, if_neg (show ¬ nI 9 = 0 by decide), if_neg (show ¬ nI 9 = 1 by decide), if_neg (show ¬ nI 9 = 2 by decide), if_neg (show ¬ nI 9 = 3 by decide), if_neg (show ¬ nI 9 = 4 by decide), if_neg (show ¬ nI 9 = 5 by decide), if_neg (show ¬ nI 9 = 6 by decide), if_neg (show ¬ nI 9 = 7 by decide), if_neg (show ¬ nI 9 = 8 by decide), if_pos (show nI 9 = 9 from rfl), rd_13]
      · rw [if_neg h2, if_neg (show ¬ nI 9 = 0 by decide), if_neg (show ¬ nI 9 = 1 by decide), if_neg (show ¬ nI 9 = 2 by decide), if_neg (show ¬ nI 9 = 3 by decide), if_neg (show ¬ nI 9 = 4 by decide), if_neg (show ¬ nI 9 = 5 by decide), if_neg (show ¬ nI 9 = 6 by decide), if_neg (show ¬ nI 9 = 7 by decide), if_neg (show ¬ nI 9 = 8 by decide), if_pos (show nI 9 = 9 from rfl), rd_13]
  · obtain ⟨r, s, es, er, e8, hz⟩ := told_10 hR
    refine ⟨r, s, τ, ?_, ?_, hz⟩
    · unfold fX7_told
      rw [if_neg (show ¬ nI 10 = 8 by decide), if_neg (show ¬ nI 10 = 9 by decide), if_pos (show nI 10 = 10 from rfl), es, zb1_s, er, zb1_s]
    · unfold fX8_told_
      simp only [jn]
      rw [rd_2]
      by_cases h2 : τ.1 1 2 = 1
      · rw [if_pos h2, if_neg (show ¬ nI 10 = 0 by decide), if_neg (show ¬ nI 10 = 1 by decide), if_neg (show ¬ nI 10 = 2 by decide), if_neg (show ¬ nI 10 = 3 by decide), if_neg (show ¬ nI 10 = 4 by decide), if_neg (show ¬ nI 10 = 5 by decide), if_neg (show ¬ nI 10 = 6 by decide), if_neg (show ¬ nI 10 = 7 by decide), if_neg (show ¬ nI 10 = 8 by decide), if_neg (show ¬ nI 10 = 9 by decide), if_pos (show nI 10 = 10 from rfl), e8, zb1_s]
      · rw [if_neg h2, if_neg (show ¬ nI 10 = 0 by decide), if_neg (show ¬ nI 10 = 1 by decide), if_neg (show ¬ nI 10 = 2 by decide), if_neg (show ¬ nI 10 = 3 by decide), if_neg (show ¬ nI 10 = 4 by decide), if_neg (show ¬ nI 10 = 5 by decide), if_neg (show ¬ nI 10 = 6 by decide), if_neg (show ¬ nI 10 = 7 by decide), if_neg (show ¬ nI 10 = 8 by decide), if_neg (show ¬ nI 10 = 9 by decide), if_pos (show nI 10 = 10 from rfl), e8, zb1_s]
  · obtain ⟨r, s, s', t', es, er, e8, hz⟩ := told_11 hR
    refine ⟨r, s', t', told7_m (show ¬ nI 11 = 8 by decide) (show ¬ nI 11 = 9 by decide) (show ¬ nI 11 = 10 by decide) (show ¬ nI 11 = 13 by decide) (show ¬ nI 11 = 15 by decide) (show ¬ nI 11 = 16 by decide) (show ¬ nI 11 = 17 by decide) (show ¬ nI 11 = 18 by decide) ?_, ?_, hz⟩
    · unfold fX7_ofMarking
      rw [if_neg (show ¬ nI 11 = 0 by decide), if_neg (show ¬ nI 11 = 1 by decide), if_neg (show ¬ nI 11 = 2 by decide), if_neg (show ¬ nI 11 = 3 by decide), if_neg (show ¬ nI 11 = 4 by decide), if_neg (show ¬ nI 11 = 5 by decide), if_neg (show ¬ nI 11 = 6 by decide), if_neg (show ¬ nI 11 = 7 by decide), if_neg (show ¬ nI 11 = 8 by decide), if_neg (show ¬ nI 11 = 9 by decide), if_neg (show ¬ nI 11 = 10 by decide), if_pos (show nI 11 = 11 from rfl), es, zb1_s, er, zb2_s]
    · unfold fX8_told_
      simp only [jn]
      rw [rd_2]
      by_cases h2 : τ.1 1 2 = 1
      · rw [if_pos h2, if_neg (show ¬ nI 11 = 0 by decide), if_neg (show ¬ nI 11 = 1 by decide), if_neg (show ¬ nI 11 = 2 by decide), if_neg (show ¬ nI 11 = 3 by decide), if_neg (show ¬ nI 11 = 4 by decide), if_neg (show ¬ nI 11 = 5 by decide), if_neg (show ¬ nI 11 = 6 by decide), if_neg (show ¬ nI 11 = 7 by decide), if_neg (show ¬ nI 11 = 8 by decide), if_neg (show ¬ nI 11 = 9 by decide), if_neg (show ¬ nI 11 = 10 by decide), if_pos (show nI 11 = 11 from rfl), e8, zb2_s]
      · rw [if_neg h2, if_neg (show ¬ nI 11 = 0 by decide), if_neg (show ¬ nI 11 = 1 by decide), if_neg (show ¬ nI 11 = 2 by decide), if_neg (show ¬ nI 11 = 3 by decide), if_neg (show ¬ nI 11 = 4 by decide), if_neg (show ¬ nI 11 = 5 by decide), if_neg (show ¬ nI 11 = 6 by decide), if_neg (show ¬ nI 11 = 7 by decide), if_neg (show ¬ nI 11 = 8 by decide), if_neg (show ¬ nI 11 = 9 by decide), if_neg (show ¬ nI 11 = 10 by decide), if_pos (show nI 11 = 11 from rfl), e8, zb2_s]
  · refine ⟨σ.1 8 5 - fX2_turnedNow 8 σ, σ, τ, told7_m (show ¬ nI 12 = 8 by decide) (show ¬ nI 12 = 9 by decide) (show ¬ nI 12 = 10 by decide) (show ¬ nI 12 = 13 by decide) (show ¬ nI 12 = 15 by decide) (show ¬ nI 12 = 16 by decide) (show ¬ nI 12 = 17 by decide) (show ¬ nI 12 = 18 by decide) ?_, ?_, hR⟩
    · unfold fX7_ofMarking
      rw [if_neg (show ¬ nI 12 = 0 by decide), if_neg (show ¬ nI 12 = 1 by decide), if_neg (show ¬ nI 12 = 2 by decide), if_neg (show ¬ nI 12 = 3 by decide), if_neg (show ¬ nI 12 = 4 by decide), if_neg (show ¬ nI 12 = 5 by decide), if_neg (show ¬ nI 12 = 6 by decide), if_neg (show ¬ nI 12 = 7 by decide), if_neg (show ¬ nI 12 = 8 by decide), if_neg (show ¬ nI 12 = 9 by decide), if_neg (show ¬ nI 12 = 10 by decide), if_neg (show ¬ nI 12 = 11 by decide), if_pos (show nI 12 = 12 from rfl)]
    · unfold fX8_told_
      simp only [jn]
      rw [rd_2]
      by_cases h2 : τ.1 1 2 = 1
      · rw [if_pos h2, if_neg (show ¬ nI 12 = 0 by decide), if_neg (show ¬ nI 12 = 1 by decide), if_neg (show ¬ nI 12 = 2 by decide), if_neg (show ¬ nI 12 = 3 by decide), if_neg (show ¬ nI 12 = 4 by decide), if_neg (show ¬ nI 12 = 5 by decide), if_neg (show ¬ nI 12 = 6 by decide), if_neg (show ¬ nI 12 = 7 by decide), if_neg (show ¬ nI 12 = 8 by decide), if_neg (show ¬ nI 12 = 9 by decide), if_neg (show ¬ nI 12 = 10 by decide), if_neg (show ¬ nI 12 = 11 by decide), if_pos (show nI 12 = 12 from rfl), if_neg (show ¬ (1 : Int32) = 0 by decide), rd_6, rd_3, told_12 hR, if_pos h2]
      · rw [if_neg h2, if_neg (show ¬ nI 12 = 0 by decide), if_neg (show ¬ nI 12 = 1 by decide), if_neg (show ¬ nI 12 = 2 by decide), if_neg (show ¬ nI 12 = 3 by decide), if_neg (show ¬ nI 12 = 4 by decide), if_neg (show ¬ nI 12 = 5 by decide), if_neg (show ¬ nI 12 = 6 by decide), if_neg (show ¬ nI 12 = 7 by decide), if_neg (show ¬ nI 12 = 8 by decide), if_neg (show ¬ nI 12 = 9 by decide), if_neg (show ¬ nI 12 = 10 by decide), if_neg (show ¬ nI 12 = 11 by decide), if_pos (show nI 12 = 12 from rfl), if_pos trivial, told_12 hR, if_neg h2]
  · refine ⟨τ.1 1 1, σ, τ, ?_, ?_, hR⟩
    · unfold fX7_told
      rw [if_neg (show ¬ nI 13 = 8 by decide), if_neg (show ¬ nI 13 = 9 by decide), if_neg (show ¬ nI 13 = 10 by decide), if_neg (show ¬ nI 13 = 11 by decide), if_neg (show ¬ nI 13 = 12 by decide), if_pos (show nI 13 = 13 from rfl), show σ.1 2 1 = τ.1 1 1 from hg.2.1]
    · unfold fX8_told_
      simp only [jn]
      rw [rd_2]
      by_cases h2 : τ.1 1 2 = 1
      · rw [if_pos h2, if_neg (show ¬ nI 13 = 0 by decide), if_neg (show ¬ nI 13 = 1 by decide), if_neg (show ¬ nI 13 = 2 by decide), if_neg (show ¬ nI 13 = 3 by decide), if_neg (show ¬ nI 13 = 4 by decide), if_neg (show ¬ nI 13 = 5 by decide), if_neg (show ¬ nI 13 = 6 by decide), if_neg (show ¬ nI 13 = 7 by decide), if_neg (show ¬ nI 13 = 8 by decide), if_neg (show ¬ nI 13 = 9 by decide), if_neg (show ¬ nI 13 = 10 by decide), if_neg (show ¬ nI 13 = 11 by decide), if_neg (show ¬ nI 13 = 12 by decide), if_pos (show nI 13 = 13 from rfl), rd_1]
      · rw [if_neg h2, if_neg (show ¬ nI 13 = 0 by decide), if_neg (show ¬ nI 13 = 1 by decide), if_neg (show ¬ nI 13 = 2 by decide), if_neg (show ¬ nI 13 = 3 by decide), if_neg (show ¬ nI 13 = 4 by decide), if_neg (show ¬ nI 13 = 5 by decide), if_neg (show ¬ nI 13 = 6 by decide), if_neg (show ¬ nI 13 = 7 by decide), if_neg (show ¬ nI 13 = 8 by decide), if_neg (show ¬ nI 13 = 9 by decide), if_neg (show ¬ nI 13 = 10 by decide), if_neg (show ¬ nI 13 = 11 by decide), if_neg (show ¬ nI 13 = 12 by decide), if_pos (show nI 13 = 13 from rfl), rd_1]
  · refine ⟨τ.1 1 15, σ, τ, told7_m (show ¬ nI 14 = 8 by decide) (show ¬ nI 14 = 9 by decide) (show ¬ nI 14 = 10 by decide) (show ¬ nI 14 = 13 by decide) (show ¬ nI 14 = 15 by decide) (show ¬ nI 14 = 16 by decide) (show ¬ nI 14 = 17 by decide) (show ¬ nI 14 = 18 by decide) ?_, ?_, hR⟩
    · unfold fX7_ofMarking
      rw [if_neg (show ¬ nI 14 = 0 by decide), if_neg (show ¬ nI 14 = 1 by decide), if_neg (show ¬ nI 14 = 2 by decide), if_neg (show ¬ nI 14 = 3 by decide), if_neg (show ¬ nI 14 = 4 by decide), if_neg (show ¬ nI 14 = 5 by decide), if_neg (show ¬ nI 14 = 6 by decide), if_neg (show ¬ nI 14 = 7 by decide), if_neg (show ¬ nI 14 = 8 by decide), if_neg (show ¬ nI 14 = 9 by decide), if_neg (show ¬ nI 14 = 10 by decide), if_neg (show ¬ nI 14 = 11 by decide), if_neg (show ¬ nI 14 = 12 by decide), if_neg (show ¬ nI 14 = 13 by decide), if_pos (show nI 14 = 14 from rfl), show σ.1 8 1 = τ.1 1 15 from k1, as01 hm.2.1]
    · unfold fX8_told_
      simp only [jn]
      rw [rd_2]
      by_cases h2 : τ.1 1 2 = 1
      · rw [if_pos h2, if_neg (show ¬ nI 14 = 0 by decide), if_neg (show ¬ nI 14 = 1 by decide), if_neg (show ¬ nI 14 = 2 by decide), if_neg (show ¬ nI 14 = 3 by decide), if_neg (show ¬ nI 14 = 4 by decide), if_neg (show ¬ nI 14 = 5 by decide), if_neg (show ¬ nI 14 = 6 by decide), if_neg (show ¬ nI 14 = 7 by decide), if_neg (show ¬ nI 14 = 8 by decide), if_neg (show ¬ nI 14 = 9 by decide), if_neg (show ¬ nI 14 = 10 by decide), if_neg (show ¬ nI 14 = 11 by decide), if_neg (show ¬ nI 14 = 12 by decide), if_neg (show ¬ nI 14 = 13 by decide), if_pos (show nI 14 = 14 from rfl), rd_15]
      · rw [if_neg h2, if_neg (show ¬ nI 14 = 0 by decide), if_neg (show ¬ nI 14 = 1 by decide), if_neg (show ¬ nI 14 = 2 by decide), if_neg (show ¬ nI 14 = 3 by decide), if_neg (show ¬ nI 14 = 4 by decide), if_neg (show ¬ nI 14 = 5 by decide), if_neg (show ¬ nI 14 = 6 by decide), if_neg (show ¬ nI 14 = 7 by decide), if_neg (show ¬ nI 14 = 8 by decide), if_neg (show ¬ nI 14 = 9 by decide), if_neg (show ¬ nI 14 = 10 by decide), if_neg (show ¬ nI 14 = 11 by decide), if_neg (show ¬ nI 14 = 12 by decide), if_neg (show ¬ nI 14 = 13 by decide), if_pos (show nI 14 = 14 from rfl), rd_15]
  · refine ⟨τ.1 1 (16 + 0), σ, τ, ?_, ?_, hR⟩
    · unfold fX7_told
      rw [if_neg (show ¬ nI 15 = 8 by decide), if_neg (show ¬ nI 15 = 9 by decide), if_neg (show ¬ nI 15 = 10 by decide), if_neg (show ¬ nI 15 = 11 by decide), if_neg (show ¬ nI 15 = 12 by decide), if_neg (show ¬ nI 15 = 13 by decide), if_neg (show ¬ nI 15 = 14 by decide), if_pos (show nI 15 = 15 from rfl), show nI 15 - 15 = nI 0 by decide, root7 hg (by omega), zb1_s]
    · unfold fX8_told_
      simp only [jn]
      rw [rd_2]
      by_cases h2 : τ.1 1 2 = 1
      · rw [if_pos h2, if_neg (show ¬ nI 15 = 0 by decide), if_neg (show ¬ nI 15 = 1 by decide), if_neg (show ¬ nI 15 = 2 by decide), if_neg (show ¬ nI 15 = 3 by decide), if_neg (show ¬ nI 15 = 4 by decide), if_neg (show ¬ nI 15 = 5 by decide), if_neg (show ¬ nI 15 = 6 by decide), if_neg (show ¬ nI 15 = 7 by decide), if_neg (show ¬ nI 15 = 8 by decide), if_neg (show ¬ nI 15 = 9 by decide), if_neg (show ¬ nI 15 = 10 by decide), if_neg (show ¬ nI 15 = 11 by decide), if_neg (show ¬ nI 15 = 12 by decide), if_neg (show ¬ nI 15 = 13 by decide), if_neg (show ¬ nI 15 = 14 by decide), if_neg (show ¬ fX8_in (nI 15).toInt64 15 18 = 0 by decide), show 16 + nI 15 - 15 = nI (16 + 0) by decide, rd_nI (by omega) (by decide)]
      · rw [if_neg h2, if_neg (show ¬ nI 15 = 0 by decide), if_neg (show ¬ nI 15 = 1 by decide), if_neg (show ¬ nI 15 = 2 by decide), if_neg (show ¬ nI 15 = 3 by decide), if_neg (show ¬ nI 15 = 4 by decide), if_neg (show ¬ nI 15 = 5 by decide), if_neg (show ¬ nI 15 = 6 by decide), if_neg (show ¬ nI 15 = 7 by decide), if_neg (show ¬ nI 15 = 8 by decide), if_neg (show ¬ nI 15 = 9 by decide), if_neg (show ¬ nI 15 = 10 by decide), if_neg (show ¬ nI 15 = 11 by decide), if_neg (show ¬ nI 15 = 12 by decide), if_neg (show ¬ nI 15 = 13 by decide), if_neg (show ¬ nI 15 = 14 by decide), if_neg (show ¬ fX8_in (nI 15).toInt64 15 18 = 0 by decide), show 16 + nI 15 - 15 = nI (16 + 0) by decide, rd_nI (by omega) (by decide)]
  · refine ⟨τ.1 1 (16 + 1), σ, τ, ?_, ?_, hR⟩
    · unfold fX7_told
      rw [if_neg (show ¬ nI 16 = 8 by decide), if_neg (show ¬ nI 16 = 9 by decide), if_neg (show ¬ nI 16 = 10 by decide), if_neg (show ¬ nI 16 = 11 by decide), if_neg (show ¬ nI 16 = 12 by decide), if_neg (show ¬ nI 16 = 13 by decide), if_neg (show ¬ nI 16 = 14 by decide), if_neg (show ¬ nI 16 = 15 by decide), if_pos (show nI 16 = 16 from rfl), show nI 16 - 15 = nI 1 by decide, root7 hg (by omega), zb1_s]
    · unfold fX8_told_
      simp only [jn]
      rw [rd_2]
      by_cases h2 : τ.1 1 2 = 1
      · rw [if_pos h2, if_neg (show ¬ nI 16 = 0 by decide), if_neg (show ¬ nI 16 = 1 by decide), if_neg (show ¬ nI 16 = 2 by decide), if_neg (show ¬ nI 16 = 3 by decide), if_neg (show ¬ nI 16 = 4 by decide), if_neg (show ¬ nI 16 = 5 by decide), if_neg (show ¬ nI 16 = 6 by decide), if_neg (show ¬ nI 16 = 7 by decide), if_neg (show ¬ nI 16 = 8 by decide), if_neg (show ¬ nI 16 = 9 by decide), if_neg (show ¬ nI 16 = 10 by decide), if_neg (show ¬ nI 16 = 11 by decide), if_neg (show ¬ nI 16 = 12 by decide), if_neg (show ¬ nI 16 = 13 by decide), if_neg (show ¬ nI 16 = 14 by decide), if_neg (show ¬ fX8_in (nI 16).toInt64 15 18 = 0 by decide), show 16 + nI 16 - 15 = nI (16 + 1) by decide, rd_nI (by omega) (by decide)]
      · rw [if_neg h2, if_neg (show ¬ nI 16 = 0 by decide), if_neg (show ¬ nI 16 = 1 by decide), if_neg (show ¬ nI 16 = 2 by decide), if_neg (show ¬ nI 16 = 3 by decide), if_neg (show ¬ nI 16 = 4 by decide), if_neg (show ¬ nI 16 = 5 by decide), if_neg (show ¬ nI 16 = 6 by decide), if_neg (show ¬ nI 16 = 7 by decide), if_neg (show ¬ nI 16 = 8 by decide), if_neg (show ¬ nI 16 = 9 by decide), if_neg (show ¬ nI 16 = 10 by decide), if_neg (show ¬ nI 16 = 11 by decide), if_neg (show ¬ nI 16 = 12 by decide), if_neg (show ¬ nI 16 = 13 by decide), if_neg (show ¬ nI 16 = 14 by decide), if_neg (show ¬ fX8_in (nI 16).toInt64 15 18 = 0 by decide), show 16 + nI 16 - 15 = nI (16 + 1) by decide, rd_nI (by omega) (by decide)]
  · refine ⟨τ.1 1 (16 + 2), σ, τ, ?_, ?_, hR⟩
    · unfold fX7_told
      rw [if_neg (show ¬ nI 17 = 8 by decide), if_neg (show ¬ nI 17 = 9 by decide), if_neg (show ¬ nI 17 = 10 by decide), if_neg (show ¬ nI 17 = 11 by decide), if_neg (show ¬ nI 17 = 12 by decide), if_neg (show ¬ nI 17 = 13 by decide), if_neg (show ¬ nI 17 = 14 by decide), if_neg (show ¬ nI 17 = 15 by decide), if_neg (show ¬ nI 17 = 16 by decide), if_pos (show nI 17 = 17 from rfl), show nI 17 - 15 = nI 2 by decide, root7 hg (by omega), zb1_s]
    · unfold fX8_told_
      simp only [jn]
      rw [rd_2]
      by_cases h2 : τ.1 1 2 = 1
      · rw [if_pos h2, if_neg (show ¬ nI 17 = 0 by decide), if_neg (show ¬ nI 17 = 1 by decide), if_neg (show ¬ nI 17 = 2 by decide), if_neg (show ¬ nI 17 = 3 by decide), if_neg (show ¬ nI 17 = 4 by decide), if_neg (show ¬ nI 17 = 5 by decide), if_neg (show ¬ nI 17 = 6 by decide), if_neg (show ¬ nI 17 = 7 by decide), if_neg (show ¬ nI 17 = 8 by decide), if_neg (show ¬ nI 17 = 9 by decide), if_neg (show ¬ nI 17 = 10 by decide), if_neg (show ¬ nI 17 = 11 by decide), if_neg (show ¬ nI 17 = 12 by decide), if_neg (show ¬ nI 17 = 13 by decide), if_neg (show ¬ nI 17 = 14 by decide), if_neg (show ¬ fX8_in (nI 17).toInt64 15 18 = 0 by decide), show 16 + nI 17 - 15 = nI (16 + 2) by decide, rd_nI (by omega) (by decide)]
      · rw [if_neg h2, if_neg (show ¬ nI 17 = 0 by decide), if_neg (show ¬ nI 17 = 1 by decide), if_neg (show ¬ nI 17 = 2 by decide), if_neg (show ¬ nI 17 = 3 by decide), if_neg (show ¬ nI 17 = 4 by decide), if_neg (show ¬ nI 17 = 5 by decide), if_neg (show ¬ nI 17 = 6 by decide), if_neg (show ¬ nI 17 = 7 by decide), if_neg (show ¬ nI 17 = 8 by decide), if_neg (show ¬ nI 17 = 9 by decide), if_neg (show ¬ nI 17 = 10 by decide), if_neg (show ¬ nI 17 = 11 by decide), if_neg (show ¬ nI 17 = 12 by decide), if_neg (show ¬ nI 17 = 13 by decide), if_neg (show ¬ nI 17 = 14 by decide), if_neg (show ¬ fX8_in (nI 17).toInt64 15 18 = 0 by decide), show 16 + nI 17 - 15 = nI (16 + 2) by decide, rd_nI (by omega) (by decide)]
  · refine ⟨τ.1 1 (16 + 3), σ, τ, ?_, ?_, hR⟩
    · unfold fX7_told
      rw [if_neg (show ¬ nI 18 = 8 by decide), if_neg (show ¬ nI 18 = 9 by decide), if_neg (show ¬ nI 18 = 10 by decide), if_neg (show ¬ nI 18 = 11 by decide), if_neg (show ¬ nI 18 = 12 by decide), if_neg (show ¬ nI 18 = 13 by decide), if_neg (show ¬ nI 18 = 14 by decide), if_neg (show ¬ nI 18 = 15 by decide), if_neg (show ¬ nI 18 = 16 by decide), if_neg (show ¬ nI 18 = 17 by decide), if_pos (show nI 18 = 18 from rfl), show nI 18 - 15 = nI 3 by decide, root7 hg (by omega), zb1_s]
    · unfold fX8_told_
      simp only [jn]
      rw [rd_2]
      by_cases h2 : τ.1 1 2 = 1
      · rw [if_pos h2, if_neg (show ¬ nI 18 = 0 by decide), if_neg (show ¬ nI 18 = 1 by decide), if_neg (show ¬ nI 18 = 2 by decide), if_neg (show ¬ nI 18 = 3 by decide), if_neg (show ¬ nI 18 = 4 by decide), if_neg (show ¬ nI 18 = 5 by decide), if_neg (show ¬ nI 18 = 6 by decide), if_neg (show ¬ nI 18 = 7 by decide), if_neg (show ¬ nI 18 = 8 by decide), if_neg (show ¬ nI 18 = 9 by decide), if_neg (show ¬ nI 18 = 10 by decide), if_neg (show ¬ nI 18 = 11 by decide), if_neg (show ¬ nI 18 = 12 by decide), if_neg (show ¬ nI 18 = 13 by decide), if_neg (show ¬ nI 18 = 14 by decide), if_neg (show ¬ fX8_in (nI 18).toInt64 15 18 = 0 by decide), show 16 + nI 18 - 15 = nI (16 + 3) by decide, rd_nI (by omega) (by decide)]
      · rw [if_neg h2, if_neg (show ¬ nI 18 = 0 by decide), if_neg (show ¬ nI 18 = 1 by decide), if_neg (show ¬ nI 18 = 2 by decide), if_neg (show ¬ nI 18 = 3 by decide), if_neg (show ¬ nI 18 = 4 by decide), if_neg (show ¬ nI 18 = 5 by decide), if_neg (show ¬ nI 18 = 6 by decide), if_neg (show ¬ nI 18 = 7 by decide), if_neg (show ¬ nI 18 = 8 by decide), if_neg (show ¬ nI 18 = 9 by decide), if_neg (show ¬ nI 18 = 10 by decide), if_neg (show ¬ nI 18 = 11 by decide), if_neg (show ¬ nI 18 = 12 by decide), if_neg (show ¬ nI 18 = 13 by decide), if_neg (show ¬ nI 18 = 14 by decide), if_neg (show ¬ fX8_in (nI 18).toInt64 15 18 = 0 by decide), show 16 + nI 18 - 15 = nI (16 + 3) by decide, rd_nI (by omega) (by decide)]
