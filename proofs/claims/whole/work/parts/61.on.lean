/-! ===== a marking tried: on ===== -/
theorem trial {σ τ : zkS} (hR : zRel σ τ) : ∃ s t, fX2_copyFrom 39 8 σ = some s ∧ fX8_copies 1 2 τ = some t ∧ rnR True 39 2 2 s t ∧ (∀ a, ¬ (39 ≤ a ∧ a ≤ 41) → s.1 a = σ.1 a) ∧ s.2 = σ.2 ∧ (∀ a, a ≠ 2 → t.1 a = τ.1 a) ∧ t.2 = τ.2 ∧ ∀ j, j < 346 → t.1 2 j = τ.1 1 j := by
  obtain ⟨⟨hg, hk, hs, hw, hm⟩, -⟩ := id hR
  obtain ⟨s, es, fs, us, vs⟩ := copyK (b := 39) (o := 8) (by omega) (σ := σ) (by rw [show σ.1 8 0 = τ.1 1 2 from hk.1]; exact hm.1) (by rw [show σ.1 8 1 = τ.1 1 15 from hk.2.1]; exact hm.2.1)
  obtain ⟨t, et, gt, ut, vt⟩ := copies8 (u := 1) (v := 2) (by decide) τ
  refine ⟨s, t, es, et, ⟨?_, ?_, ?_, ?_⟩, us, vs, ut, vt, gt⟩
  · exact rG_c (fun a h1 h2 => us a (by omega)) (fun j hj => gt j (by unfold iG at hj; omega)) hg
  · exact rK_P (fun _ _ _ => trivial) (rK_w gt (fs _ _ hk))
  · exact wG_c (fun j hj => gt j (by unfold iG at hj; omega)) hw
  · exact wK_c (fun j hj => gt j (by unfold iK at hj; omega)) hm
theorem tnow_rel {b u : Nat} {s t : zkS} {P : Nat → Prop} (hk : rK s b (t.1 u) P) (hm : wK (t.1 u)) : ∃ r, fX2_turnedNow b s = r ∧ fX8_turnedNow u t = some r := by
  rcases hm.1 with h | h
  · obtain ⟨-, -, -, -, -, g5, -, -, -, -, -, -, g12, -⟩ := hk
    obtain ⟨-, a5, l, hl, el⟩ := g12 h
    refine ⟨0, ?_, tNow8_0 h⟩
    unfold fX2_turnedNow
    rw [a5, g5, el]
    simp only [zlt]
    exact (turned7 (w := t.1 u) (lim := l) (d := 0) hl (by omega)).trans (by rw [Nat.zero_sub]; rfl)
  · obtain ⟨lim, nx, d, hl, e3, hnx, e5, hd, e6, -⟩ := hm.2.2.2.2.2.2 h
    exact ⟨_, tNow7 hk h e3 e6 hl hd, tNow8 h e3 e6 hl hd⟩
theorem back_rel {b u : Nat} {s t : zkS} {P : Nat → Prop} (hk : rK s b (t.1 u) P) (hm : wK (t.1 u)) : ∃ r, fX2_back b s = some r ∧ fX8_back u t = some r := by
  unfold fX2_back fX8_back fX2_turnedAt
  rcases dep7 hk hm with ⟨h, h5⟩ | ⟨h, lim, d, hl, hd, e3, e6, h7, h5, hf⟩
  · rw [h5, tNow8_0 h, zb1_s, if_pos rfl, if_pos (show nI 0 - 1 < 0 by decide), if_pos rfl]
    exact ⟨_, rfl, rfl⟩
  · rw [tNow8 h e3 e6 hl hd, zb1_s, h5, h7]
    rcases Nat.eq_zero_or_pos d with h0 | h0
    · subst h0
      rw [if_pos (show nI 0 - 1 < 0 by decide), if_pos rfl, Nat.zero_sub, if_pos (show nI 0 = 0 from rfl)]
      exact ⟨_, rfl, rfl⟩
    · rw [show nI d - 1 = nI (d - 1) from pk_sub (b := 1) h0, if_neg (nI_nneg (by omega))]
      by_cases g : d ≤ lim
      · rw [if_pos (nI_lt (by omega) (by omega)), if_pos rfl, if_pos (show nI (d - lim) = 0 by rw [show d - lim = 0 by omega]; rfl)]
        exact ⟨_, rfl, rfl⟩
      · rw [if_neg (nI_nlt (by omega) (by omega)), if_neg (nI_ge (by omega) (by omega)), if_neg (show ¬ (24 : Int32) ≤ nI (d - 1) from nI_n24 (by omega)), if_neg (by decide), rd24 (by omega), hf (d - 1) (by omega), if_neg (show ¬ nI (d - lim) = 0 from fun q => by have := (nI_eq0 (by omega)).mp q; omega), rd_6, e6, show (116 : Int32) + nI d - 1 = nI (116 + (d - 1)) from by rw [show (116 : Int32) = nI 116 from rfl, nI_add, show (1 : Int32) = nI 1 from rfl, pk_sub (by omega), show 116 + d - 1 = 116 + (d - 1) by omega], rd_nI (by omega) (by decide)]
        exact ⟨_, rfl, rfl⟩
theorem at_rel {b u : Nat} {s t : zkS} {P : Nat → Prop} (hk : rK s b (t.1 u) P) (hm : wK (t.1 u)) : s.1 b 4 = if t.1 u 2 = 1 then t.1 u 4 else -5 := by
  obtain ⟨-, -, -, -, -, -, -, -, -, -, -, g11, g12, -⟩ := hk
  rcases hm.1 with h | h
  · rw [h, if_neg (by decide)]; exact (g12 h).1
  · rw [h, if_pos rfl]; exact (g11 h).1
theorem zRel_m {σ σ' τ τ' s t : zkS} (hR : zRel σ τ) (us : ∀ a, ¬ (39 ≤ a ∧ a ≤ 41) → s.1 a = σ.1 a) (vs : s.2 = σ.2) (ut : ∀ a, a ≠ 2 → t.1 a = τ.1 a) (vt : t.2 = τ.2) (f : frm 39 2 s t σ' τ') : zRel σ' τ' :=
  zRel_t hR (fun a h => by rw [f.1 a (by omega) (by omega) (by omega), us a (by omega)]) (f.2.1.trans vs) (fun a h => (f.2.2.1 a h).trans (ut a h)) (f.2.2.2.1.trans vt)
theorem T_on {σ τ : zkS} (hR : zRel σ τ) (p1 : Int32) (p2 : Int32) : ∃ (r : Int32) (σ1 : zkS) (τ1 : zkS), fX7_on p1 p2 σ = some (r, σ1) ∧ fX8_on p1 p2 τ = some (r, τ1) ∧ zRel σ1 τ1 := by
  unfold fX7_on fX8_on
  rw [in_0 (b := 4) p2 4 (by decide), ite01, in_0 (b := 400) p1 400 (by decide), ite01, show (4 : Int32) = nI 4 from rfl, rng_if]
  by_cases h2 : p2 < 0 ∨ nI 4 < p2
  · rw [if_pos h2, if_pos h2]
    exact ⟨_, _, _, rfl, rfl, hR⟩
  rw [if_neg h2, if_neg h2, show (400 : Int32) = nI 400 from rfl, rng_if]
  by_cases h1 : p1 < 0 ∨ nI 400 < p1
  · rw [if_pos h1, if_pos h1]
    exact ⟨_, _, _, rfl, rfl, hR⟩
  rw [if_neg h1, if_neg h1]
  obtain ⟨n, hn, rfl⟩ := rng (by decide) h1
  obtain ⟨j, hj, rfl⟩ := rng (by decide) h2
  obtain ⟨s, t, es, et, hr, us, vs, ut, vt, -⟩ := trial hR
  obtain ⟨s', t', k, q1, q2, q3, q4⟩ := run_goes (by omega) (show n ≤ 1000 by omega) hr
  rw [es, et, zb1_s, zb1_s, q1, q2, zb2_s, zb2_s]
  have hz := zRel_m hR us vs ut vt q4
  obtain ⟨hg', hk', hw', hm'⟩ := q3
  have k' := hk'
  obtain ⟨k0, k1, k2, k3, k4, k5, k6, k7, k8, k9, k10, -⟩ := k'
  rcases (show j = 0 ∨ j = 1 ∨ j = 2 ∨ j = 3 ∨ j = 4 by omega) with rfl | rfl | rfl | rfl | rfl
  · rw [if_pos (show nI 0 = 0 from rfl), if_pos (show nI 0 = 0 from rfl), rd_2, show nI 4 = (4 : Int32) from rfl, rd_4, at_rel hk' hm']
    by_cases h : t'.1 2 2 = 1
    · rw [if_pos h, if_pos h]
      exact ⟨_, _, _, rfl, rfl, hz⟩
    · rw [if_neg h, if_neg h]
      exact ⟨_, _, _, rfl, rfl, hz⟩
  · obtain ⟨r, e7, e8⟩ := back_rel hk' hm'
    rw [if_neg (show ¬ nI 1 = 0 by decide), if_neg (show ¬ nI 1 = 0 by decide), if_pos (show nI 1 = 1 from rfl), if_pos (show nI 1 = 1 from rfl), e7, e8, zb1_s, zb1_s]
    exact ⟨_, _, _, rfl, rfl, hz⟩
  · rw [if_neg (show ¬ nI 2 = 0 by decide), if_neg (show ¬ nI 2 = 0 by decide), if_neg (show ¬ nI 2 = 1 by decide), if_neg (show ¬ nI 2 = 1 by decide), if_pos (show nI 2 = 2 from rfl), if_pos (show nI 2 = 2 from rfl), rd_12, k2]
    exact ⟨_, _, _, rfl, rfl, hz⟩
  · obtain ⟨r, e7, e8⟩ := tnow_rel hk' hm'
    rw [if_neg (show ¬ nI 3 = 0 by decide), if_neg (show ¬ nI 3 = 0 by decide), if_neg (show ¬ nI 3 = 1 by decide), if_neg (show ¬ nI 3 = 1 by decide), if_neg (show ¬ nI 3 = 2 by decide), if_neg (show ¬ nI 3 = 2 by decide), if_pos (show nI 3 = 3 from rfl), if_pos (show nI 3 = 3 from rfl), e7, e8, zb1_s]
    exact ⟨_, _, _, rfl, rfl, hz⟩
  · rw [if_neg (show ¬ nI 4 = 0 by decide), if_neg (show ¬ nI 4 = 0 by decide), if_neg (show ¬ nI 4 = 1 by decide), if_neg (show ¬ nI 4 = 1 by decide), if_neg (show ¬ nI 4 = 2 by decide), if_neg (show ¬ nI 4 = 2 by decide), if_neg (show ¬ nI 4 = 3 by decide), if_neg (show ¬ nI 4 = 3 by decide), rd_7, k4]
    exact ⟨_, _, _, rfl, rfl, hz⟩
