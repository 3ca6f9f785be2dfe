/-! ===== need, least ===== -/
/-- a row as a marking begins -/
def stW (w : Nat → Int32) (lim : Nat) : Nat → Int32 := wu (wu (wu (wu (wu (wu (wu (wu (wu (wu (wu (wu (wu w 2 1) 3 (nI lim)) 4 (-5)) 5 0) 6 0) 7 0) 8 0) 9 0) 10 0) 11 0) 12 0) 13 0) 15 0
def wC (w : Nat → Int32) : Prop := ∀ c, c < 24 → (∃ j, j ≤ 6 ∧ w (92 + c) = nI j) ∧ (¬ nI c < w 0 → w (92 + c) = 0)
theorem start_new {σ : zkS} {w : Nat → Int32} {k lim : Nat} (hl : lim ≤ 8) (m5 : wC w) {σ' : zkS} {w' : Nat → Int32} (h7 : σ' = fX2_start k (nI lim) σ) (h8 : w' = stW w lim) : rK σ' k w' (fun _ => False) ∧ wK w' := by
  unfold stW at h8
  have hne : ∀ j, ¬ (2 ≤ j ∧ j ≤ 13) → j ≠ 15 → w' j = w j := fun j h1 h2 => by
    subst h8
    rw [wu_ne _ _ (by omega), wu_ne _ _ (by omega), wu_ne _ _ (by omega), wu_ne _ _ (by omega), wu_ne _ _ (by omega), wu_ne _ _ (by omega), wu_ne _ _ (by omega), wu_ne _ _ (by omega), wu_ne _ _ (by omega), wu_ne _ _ (by omega), wu_ne _ _ (by omega), wu_ne _ _ (by omega), wu_ne _ _ (by omega)]
  have hrow : ∀ a, a ≠ k → σ'.1 a = σ.1 a := fun a h => by
    subst h7
    show (zsi (zsi (zsi (zsi (zsi (zsi (zsi (zsi (zsi (zsi (zsi (zsi (zsi σ k 0 1) k 1 0) k 2 0) k 3 0) k 4 (-5)) k 5 0) k 6 0) k 7 (nI lim)) k 8 0) k 9 0) k 10 0) k 11 0) k 12 0).1 a = _
    rw [si_row _ _ h, si_row _ _ h, si_row _ _ h, si_row _ _ h, si_row _ _ h, si_row _ _ h, si_row _ _ h, si_row _ _ h, si_row _ _ h, si_row _ _ h, si_row _ _ h, si_row _ _ h, si_row _ _ h]
  have e0 : w' 2 = 1 := by subst h8; rfl
  have ek : ∀ j, σ'.1 k j = if j = 12 then 0 else if j = 11 then 0 else if j = 10 then 0 else if j = 9 then 0 else if j = 8 then 0 else if j = 7 then nI lim else if j = 6 then 0 else if j = 5 then 0 else if j = 4 then -5 else if j = 3 then 0 else if j = 2 then 0 else if j = 1 then 0 else if j = 0 then 1 else σ.1 k j := fun j => by
    subst h7
    show (zsi (zsi (zsi (zsi (zsi (zsi (zsi (zsi (zsi (zsi (zsi (zsi (zsi σ k 0 1) k 1 0) k 2 0) k 3 0) k 4 (-5)) k 5 0) k 6 0) k 7 (nI lim)) k 8 0) k 9 0) k 10 0) k 11 0) k 12 0).1 k j = _
    simp only [si_if, true_and]
  have f12 : w' 12 = 0 := by subst h8; rfl
  have f13 : w' 13 = 0 := by subst h8; rfl
  have f15 : w' 15 = 0 := by subst h8; rfl
  have f4 : w' 4 = -5 := by subst h8; rfl
  have f6 : w' 6 = nI 0 := by subst h8; rfl
  refine ⟨⟨?_, ?_, ?_, ?_, ?_, ?_, ?_, ?_, ?_, ?_, ?_, fun _ => ⟨?_, ?_, fun j h1 h2 => ?_⟩, fun q => ?_, fun c hc hP => ?_⟩, ?_, ?_, fun i h => ?_, fun i h => ?_, fun c hc => ?_, fun q => ?_, fun q => ?_⟩
  · rw [ek]; subst h8; rfl
  · rw [ek]; subst h8; rfl
  · rw [ek]; subst h8; rfl
  · rw [ek]; subst h8; rfl
  · rw [ek]; subst h8; rfl
  · rw [ek]; subst h8; rfl
  · rw [ek]; subst h8; rfl
  · rw [ek]; subst h8; rfl
  · rw [ek]; subst h8; rfl
  · rw [ek]; subst h8; rfl
  · rw [ek]; subst h8; rfl
  · rw [ek]; subst h8; rfl
  · rw [ek]; subst h8; rfl
  · rw [f6] at h1
    exact absurd h1 (nI_nlt (by omega) (by omega))
  · rw [e0] at q
    exact absurd q (by decide)
  · exact hP.elim
  · exact Or.inr e0
  · exact Or.inl f15
  · rw [f12, b_0] at h
    cases h
  · rw [f13, b_0] at h
    cases h
  · rw [hne (92 + c) (by omega) (by omega), hne 0 (by omega) (by omega)]
    exact m5 c hc
  · rw [f15] at q
    exact absurd q (by decide)
  · exact ⟨lim, 0, 0, hl, by subst h8; rfl, by omega, by subst h8; rfl, by omega, f6, fun r hr => by omega, Or.inl ⟨f4, rfl⟩, fun j hj => by omega, fun i j _ hj => by omega⟩
theorem stW_ne {w : Nat → Int32} {lim j : Nat} (h1 : ¬ (2 ≤ j ∧ j ≤ 13)) (h2 : j ≠ 15) : stW w lim j = w j := by
  unfold stW
  rw [wu_ne _ _ (by omega), wu_ne _ _ (by omega), wu_ne _ _ (by omega), wu_ne _ _ (by omega), wu_ne _ _ (by omega), wu_ne _ _ (by omega), wu_ne _ _ (by omega), wu_ne _ _ (by omega), wu_ne _ _ (by omega), wu_ne _ _ (by omega), wu_ne _ _ (by omega), wu_ne _ _ (by omega), wu_ne _ _ (by omega)]
theorem begun {o lim : Nat} (ho : o + 5 < 39) {s t : zkS} (hl : lim ≤ 8) (hr : rG s o (t.1 2)) (hg : wG (t.1 2)) (hm : wC (t.1 2)) : ∃ t', (∀ {β : Type} (F : zkS → Option β), zb1 (fX8_starts 2 (nI lim) t) F = F t') ∧ rnR False 39 o 2 (fX2_start 39 (nI lim) s) t' ∧ (∀ a, a ≠ 39 → (fX2_start 39 (nI lim) s).1 a = s.1 a) ∧ (fX2_start 39 (nI lim) s).2 = s.2 ∧ (∀ a, a ≠ 2 → t'.1 a = t.1 a) ∧ t'.2 = t.2 ∧ t'.1 2 = stW (t.1 2) lim := by
  obtain ⟨t', -, ew, ea, ei⟩ := starts8 2 (nI lim) t (fun s => some s)
  have es : ∀ {β : Type} (F : zkS → Option β), zb1 (fX8_starts 2 (nI lim) t) F = F t' := fun F => by
    obtain ⟨t2, e2, ew2, ea2, ei2⟩ := starts8 2 (nI lim) t F
    have : t2 = t' := by
      refine Prod.ext (funext fun a => ?_) (ei2.trans ei.symm)
      by_cases h : a = 2
      · rw [h, ew2, ew]
      · rw [ea2 a h, ea a h]
    rw [e2, this]
  obtain ⟨k', m'⟩ := start_new (σ := s) (k := 39) hl hm rfl ew
  obtain ⟨r1, r2⟩ := start_row 39 (nI lim) s
  have eG : ∀ j, iG j → t'.1 2 j = t.1 2 j := fun j hj => by
    rw [ew]
    exact stW_ne (by unfold iG at hj; omega) (by unfold iG at hj; omega)
  refine ⟨t', es, ⟨rG_c (fun a h1 h2 => r1 a (by omega)) eG hr, rK_P (fun c hc hP => ?_) k', wG_c eG hg, m'⟩, r1, r2, ea, ei, ew⟩
  rcases hP with q | q
  · exact q
  · rw [show t'.1 2 12 = 0 by rw [ew]; rfl, b_0] at q
    cases q
theorem needs_rel {s t : zkS} (hR : zRel s t) {lim : Nat} (hl : lim ≤ 8) : ∃ r s' t', fX2_run 39 2 1000 (fX2_start 39 (nI lim) s) = some (r, s') ∧ (∀ j, j ≤ 4 → fX8_needs (nI lim) (nI j) t = some (fX2_tally 39 (nI j) s', t')) ∧ zRel s' t' ∧ t'.1 1 = t.1 1 := by
  obtain ⟨⟨hg, hk, hs, hw, hm⟩, -⟩ := id hR
  obtain ⟨t1, et, gt, ut, vt⟩ := copies8 (u := 1) (v := 2) (by decide) t
  obtain ⟨t2, e2, hr, a1, a2, b1, b2, -⟩ := begun (o := 2) (s := s) (by omega) hl (rG_w gt hg) (wG_c (fun j hj => gt j (by unfold iG at hj; omega)) hw) (wK_c (fun j hj => gt j (by unfold iK at hj; omega)) hm).2.2.2.2.1
  obtain ⟨s', t', k, q1, -, q3, q4, q5, -⟩ := run_end (by omega) hr
  refine ⟨nI k, s', t', q1, fun j hj => ?_, ?_, by rw [q5.2.2.1 1 (by decide), b1 1 (by decide), ut 1 (by decide)]⟩
  · unfold fX8_needs
    rw [et, zb1_s, e2, q3]
    obtain ⟨-, -, -, -, k4, -, -, k7, k8, k9, k10, -⟩ := q4.2.1
    show zrd t' 2 346 (nI 7 + nI j) _ = _
    rw [nI_add, rd_nI (by omega) (by decide)]
    unfold fX2_tally
    rcases (show j = 0 ∨ j = 1 ∨ j = 2 ∨ j = 3 ∨ j = 4 by omega) with rfl | rfl | rfl | rfl | rfl
    · rw [if_pos (show nI 0 = 0 from rfl), k4]
    · rw [if_neg (show ¬ nI 1 = 0 by decide), if_pos (show nI 1 = 1 from rfl), k7]
    · rw [if_neg (show ¬ nI 2 = 0 by decide), if_neg (show ¬ nI 2 = 1 by decide), if_pos (show nI 2 = 2 from rfl), k8]
    · rw [if_neg (show ¬ nI 3 = 0 by decide), if_neg (show ¬ nI 3 = 1 by decide), if_neg (show ¬ nI 3 = 2 by decide), if_pos (show nI 3 = 3 from rfl), k9]
    · rw [if_neg (show ¬ nI 4 = 0 by decide), if_neg (show ¬ nI 4 = 1 by decide), if_neg (show ¬ nI 4 = 2 by decide), if_neg (show ¬ nI 4 = 3 by decide), k10]
  · exact zRel_t hR (fun a h => by rw [q5.1 a (by omega) (by omega) (by omega), a1 a (by omega)]) (q5.2.1.trans a2) (fun a h => by rw [q5.2.2.1 a h, b1 a h, ut a h]) (by rw [q5.2.2.2.1, b2, vt])
theorem T_need {σ τ : zkS} (hR : zRel σ τ) (p1 : Int32) (p2 : Int32) : ∃ (r : Int32) (σ1 : zkS) (τ1 : zkS), fX7_need p1 p2 σ = some (r, σ1) ∧ fX8_need p1 p2 τ = some (r, τ1) ∧ zRel σ1 τ1 := by
  obtain ⟨⟨hg, hk, hs, hw, hm⟩, -⟩ := id hR
  unfold fX7_need fX8_need
  rw [in_0 (b := 4) p2 4 (by decide), ite01, in_0 (b := 8) p1 8 (by decide), ite01, show (4 : Int32) = nI 4 from rfl, rng_if, lim_eq, ite01]
  by_cases h2 : p2 < 0 ∨ nI 4 < p2
  · rw [if_pos h2, if_pos h2]
    exact ⟨_, _, _, rfl, rfl, hR⟩
  rw [if_neg h2, if_neg h2]
  by_cases h1 : p1 < 0 ∨ nI 8 < p1
  · rw [if_pos h1, if_pos h1]
    exact ⟨_, _, _, rfl, rfl, hR⟩
  rw [if_neg h1, if_neg h1, rd_2, runs_01 hm, show σ.1 8 0 = τ.1 1 2 from hk.1]
  by_cases h : τ.1 1 2 = 0
  · rw [if_pos h, if_pos h]
    obtain ⟨lim, hl, rfl⟩ := rng (by decide) h1
    obtain ⟨j, hj, rfl⟩ := rng (by decide) h2
    obtain ⟨r, s', t', e7, e8, hz, -⟩ := needs_rel hR hl
    simp only [zlt]
    rw [e7, e8 j hj]
    exact ⟨_, _, _, rfl, rfl, hz⟩
  · rw [if_neg h, if_neg h]
    exact ⟨_, _, _, rfl, rfl, hR⟩
theorem least_L {p : Nat} (hp : p ≤ 1) : ∀ m lim (s t : zkS), lim ≤ 9 → 9 - lim < m → zRel s t → ∃ r s' t', fX7_least_L29 m (nI p) (nI lim) s (fun s9 => some (-5, s9)) = some (r, s') ∧ fX8_least_L27 m (nI p) (nI lim) t (fun s10 => some (-5, s10)) = some (r, t') ∧ zRel s' t' := by
  intro m
  induction m with
  | zero => intros; omega
  | succ m ih =>
    intro lim s t h1 h2 hR
    unfold fX7_least_L29 fX8_least_L27
    by_cases e : lim = 9
    · subst e
      rw [if_pos (by decide), if_pos (by decide)]
      exact ⟨_, _, _, rfl, rfl, hR⟩
    have e8 : ¬ (8 : Int32) < nI lim := nI_nlt (a := 8) (by omega) (by decide)
    rw [if_neg e8, if_neg e8]
    obtain ⟨r, s', t', q1, q2, hz, -⟩ := needs_rel hR (show lim ≤ 8 by omega)
    obtain ⟨r', s2, t2, i1, i2, i3⟩ := ih (lim + 1) s' t' (by omega) (by omega) hz
    simp only [zlt]
    rw [nI_1, q1, zb2_s, show fX8_needs (nI lim) 1 t = _ from q2 1 (by omega), show fX8_needs (nI lim) 3 t = _ from q2 3 (by omega), zb2_s, zb2_s]
    rcases (show p = 0 ∨ p = 1 by omega) with rfl | rfl
    · rw [if_pos (show nI 0 = 0 from rfl), if_pos (show nI 0 = 0 from rfl), show nI 1 = (1 : Int32) from rfl]
      by_cases g : fX2_tally 39 1 s' = 0
      · rw [if_pos g, if_pos g]
        exact ⟨_, _, _, rfl, rfl, hz⟩
      · rw [if_neg g, if_neg g]
        exact ⟨r', s2, t2, i1, i2, i3⟩
    · rw [if_neg (show ¬ nI 1 = 0 by decide), if_neg (show ¬ nI 1 = 0 by decide), show nI 3 = (3 : Int32) from rfl]
      by_cases g : fX2_tally 39 3 s' = 0
      · rw [if_pos g, if_pos g]
        exact ⟨_, _, _, rfl, rfl, hz⟩
      · rw [if_neg g, if_neg g]
        exact ⟨r', s2, t2, i1, i2, i3⟩
theorem T_least {σ τ : zkS} (hR : zRel σ τ) (p1 : Int32) : ∃ (r : Int32) (σ1 : zkS) (τ1 : zkS), fX7_least p1 σ = some (r, σ1) ∧ fX8_least p1 τ = some (r, τ1) ∧ zRel σ1 τ1 := by
  obtain ⟨⟨hg, hk, hs, hw, hm⟩, -⟩ := id hR
  unfold fX7_least fX8_least
  rw [in_0 (b := 1) p1 1 (by decide), ite01, show (1 : Int32) = nI 1 from rfl, rng_if]
  by_cases h1 : p1 < 0 ∨ nI 1 < p1
  · rw [if_pos h1, if_pos h1]
    exact ⟨_, _, _, rfl, rfl, hR⟩
  rw [if_neg h1, if_neg h1, rd_2, show nI 1 = (1 : Int32) from rfl, runs_01 hm, show σ.1 8 0 = τ.1 1 2 from hk.1]
  by_cases h : τ.1 1 2 = 0
  · rw [if_pos h, if_pos h]
    obtain ⟨p, hp, rfl⟩ := rng (by decide) h1
    exact least_L hp zFU 0 σ τ (by omega) (by unfold zFU; omega) hR
  · rw [if_neg h, if_neg h]
    exact ⟨_, _, _, rfl, rfl, hR⟩
