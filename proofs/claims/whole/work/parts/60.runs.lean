/-! ===== runs of a marking ===== -/
def rnR (A : Prop) (b o u : Nat) (s t : zkS) : Prop := rG s o (t.1 u) ∧ rK s b (t.1 u) (fun c => A ∨ bt (t.1 u 12) c = true) ∧ wG (t.1 u) ∧ wK (t.1 u)
def frm (b u : Nat) (s t s' t' : zkS) : Prop := (∀ a, a ≠ b → a ≠ b + 1 → a ≠ b + 2 → s'.1 a = s.1 a) ∧ s'.2 = s.2 ∧ (∀ a, a ≠ u → t'.1 a = t.1 a) ∧ t'.2 = t.2 ∧ (∀ j, iG j ∨ iS j → t'.1 u j = t.1 u j) ∧ t'.1 u 3 = t.1 u 3
theorem frm_0 (b u : Nat) (s t : zkS) : frm b u s t s t := ⟨fun _ _ _ _ => rfl, rfl, fun _ _ => rfl, rfl, fun _ _ => rfl, rfl⟩
theorem frm_t {b u : Nat} {s t s1 t1 s2 t2 : zkS} (h : frm b u s t s1 t1) (k : frm b u s1 t1 s2 t2) : frm b u s t s2 t2 :=
  ⟨fun a a0 a1 a2 => (k.1 a a0 a1 a2).trans (h.1 a a0 a1 a2), k.2.1.trans h.2.1, fun a ha => (k.2.2.1 a ha).trans (h.2.2.1 a ha), k.2.2.2.1.trans h.2.2.2.1, fun j hj => (k.2.2.2.2.1 j hj).trans (h.2.2.2.2.1 j hj), k.2.2.2.2.2.trans h.2.2.2.2.2⟩
theorem rK_P {s : zkS} {k : Nat} {w : Nat → Int32} {P P' : Nat → Prop} (h : ∀ c, c < 24 → P' c → P c) (hk : rK s k w P) : rK s k w P' := by
  obtain ⟨k0, k1, k2, k3, k4, k5, k6, k7, k8, k9, k10, k11, k12, k13⟩ := hk
  exact ⟨k0, k1, k2, k3, k4, k5, k6, k7, k8, k9, k10, k11, k12, fun c hc hP => k13 c hc (h c hc hP)⟩
theorem step_run {A : Prop} {b o u : Nat} {s t : zkS} (hbo : o + 5 < b) (h : rnR A b o u s t) (h2 : t.1 u 2 = 1) : ∃ s' t', stp7 b o s = some s' ∧ fX8_steps u t = some t' ∧ frm b u s t s' t' ∧ rnR A b o u s' t' ∧ t'.1 u 7 = t.1 u 7 + 1 ∧ (t'.1 u 2 = 0 ∨ msr (t'.1 u) < msr (t.1 u)) := by
  obtain ⟨hr, hk, hg, hm⟩ := h
  obtain ⟨s', t', e7, e8, f1, f2, f3, f4, f5, f6, f7, k', m', d'⟩ := step_rel hbo hr hk hg hm h2
  exact ⟨s', t', e7, e8, ⟨f1, f2, f3, f4, f5, f6⟩, ⟨rG_c (fun a h1 h2 => f1 a (by omega) (by omega) (by omega)) (fun j hj => f5 j (Or.inl hj)) hr, k', wG_c (fun j hj => f5 j (Or.inl hj)) hg, m'⟩, f7, d'⟩
theorem add_k {x : Int32} {k k' : Nat} (h : k + 1 ≤ k') : x + 1 + nI (k' - (k + 1)) = x + nI (k' - k) := by
  rw [Int32.add_assoc, show (1 : Int32) = nI 1 from rfl, nI_add, show 1 + (k' - (k + 1)) = k' - k by omega]
theorem goes_rel {A : Prop} {b o u : Nat} (hbo : o + 5 < b) {N : Nat} (hN : N ≤ 1000) {K7 : zkS → Option (Int32 × zkS)} {K8 : Int32 → zkS → Option (Int32 × zkS)} : ∀ m k (s t : zkS), k ≤ N → N - k < m → rnR A b o u s t → ∃ s' t' k', k ≤ k' ∧ k' ≤ N ∧ fX2_run_L8 m b o (nI N) (nI k) s K7 = K7 s' ∧ fX8_goes_L2 m u (nI N) (nI k) t K8 = K8 (nI k') t' ∧ rnR A b o u s' t' ∧ frm b u s t s' t' ∧ t'.1 u 7 = t.1 u 7 + nI (k' - k) := by
  intro m
  induction m with
  | zero => intros; omega
  | succ m ih =>
    intro k s t h1 h2 hR
    rw [run_1s]
    unfold fX8_goes_L2
    have z : t.1 u 7 = t.1 u 7 + nI (k - k) := by
      rw [Nat.sub_self]
      exact (Int32.add_zero _).symm
    by_cases e : k = N
    · subst e
      rw [if_pos (nI_le (Nat.le_refl _) (by omega)), if_pos (nI_le (Nat.le_refl _) (by omega))]
      exact ⟨s, t, k, Nat.le_refl _, Nat.le_refl _, rfl, rfl, hR, frm_0 _ _ _ _, z⟩
    rw [if_neg (nI_ge (by omega) (by omega)), if_neg (nI_ge (by omega) (by omega)), rd_2, hR.2.1.1]
    rcases hR.2.2.2.1 with h | h
    · rw [h, if_pos rfl, if_neg (by decide)]
      exact ⟨s, t, k, Nat.le_refl _, h1, rfl, rfl, hR, frm_0 _ _ _ _, z⟩
    · rw [h, if_neg (by decide), if_pos rfl]
      obtain ⟨s1, t1, e7, e8, f1, r1, w1, -⟩ := step_run hbo hR h
      rw [e7, zb1_s, e8, zb1_s]
      simp only [zlt]
      rw [nI_1]
      obtain ⟨s', t', k', q1, q2, q3, q4, q5, q6, q7⟩ := ih (k + 1) s1 t1 (by omega) (by omega) r1
      exact ⟨s', t', k', by omega, q2, q3, q4, q5, frm_t f1 q6, by rw [q7, w1, add_k q1]⟩
theorem run_goes {A : Prop} {b o u : Nat} (hbo : o + 5 < b) {N : Nat} (hN : N ≤ 1000) {s t : zkS} (h : rnR A b o u s t) : ∃ s' t' k, fX2_run b o (nI N) s = some (nI k, s') ∧ fX8_goes u (nI N) t = some (nI k, t') ∧ rnR A b o u s' t' ∧ frm b u s t s' t' := by
  obtain ⟨s', t', k', q1, q2, q3, q4, q5, q6, q7⟩ := goes_rel hbo hN (K7 := fun s13 => some (((s13.1 b 6) - (s.1 b 6)), s13)) (K8 := fun x5 s6 => some (x5, s6)) zFU 0 s t (by omega) (by unfold zFU; omega) h
  refine ⟨s', t', k', ?_, q4, q5, q6⟩
  refine Eq.trans q3 ?_
  show some (s'.1 b 6 - s.1 b 6, s') = _
  rw [q5.2.1.2.2.2.2.1, h.2.1.2.2.2.2.1, q7, Int32.add_comm, Int32.add_sub_cancel]
  rfl
theorem msr_220 {w : Nat → Int32} (hg : wG w) : msr w ≤ 220 := by
  have : su (cst w) 24 ≤ 24 * 9 := su_b (fun c hc => by
    obtain ⟨z, hz, ez⟩ := size_of hg hc
    unfold cst
    rw [ez, nI_clamp (by omega)]
    by_cases h1 : bt (w 12) c = false
    · rw [if_pos h1]; omega
    · rw [if_neg h1]
      by_cases h2 : bt (w 13) c = true
      · rw [if_pos h2]; omega
      · rw [if_neg h2]
        by_cases h3 : onW w c = true
        · rw [if_pos h3]; omega
        · rw [if_neg h3]; omega)
  unfold msr
  omega
theorem end_rel {A : Prop} {b o : Nat} (hbo : o + 5 < b) : ∀ m k (s t : zkS), rnR A b o 2 s t → (t.1 2 2 = 0 ∧ 0 < m ∨ t.1 2 2 = 1 ∧ msr (t.1 2) + 1 < m ∧ k + msr (t.1 2) < 1000) → ∃ s' t' k', k ≤ k' ∧ (∀ K7, fX2_run_L8 m b o 1000 (nI k) s K7 = K7 s') ∧ (∀ K8, fX8_left_L13 m (nI k) t K8 = K8 (nI k') t') ∧ (∀ K8, fX8_needs_L19 m t K8 = K8 t') ∧ rnR A b o 2 s' t' ∧ frm b 2 s t s' t' ∧ t'.1 2 7 = t.1 2 7 + nI (k' - k) ∧ t'.1 2 2 = 0 := by
  intro m
  induction m with
  | zero => intros; omega
  | succ m ih =>
    intro k s t hR h
    have z : t.1 2 7 = t.1 2 7 + nI (k - k) := by
      rw [Nat.sub_self]
      exact (Int32.add_zero _).symm
    rcases h with ⟨h, -⟩ | ⟨h, hm, hk⟩
    · refine ⟨s, t, k, Nat.le_refl _, fun K => ?_, fun K => ?_, fun K => ?_, hR, frm_0 _ _ _ _, z, h⟩
      · rw [run_1s, hR.2.1.1, h, if_pos rfl, ite_self]
      · unfold fX8_left_L13
        rw [rd_2, h, if_neg (by decide)]
      · unfold fX8_needs_L19
        rw [rd_2, h, if_neg (by decide)]
    · obtain ⟨s1, t1, e7, e8, f1, r1, w1, d1⟩ := step_run hbo hR h
      have hn : t1.1 2 2 = 0 ∧ 0 < m ∨ t1.1 2 2 = 1 ∧ msr (t1.1 2) + 1 < m ∧ k + 1 + msr (t1.1 2) < 1000 := by
        rcases d1 with d | d
        · exact Or.inl ⟨d, by omega⟩
        · rcases r1.2.2.2.1 with g | g
          · exact Or.inl ⟨g, by omega⟩
          · exact Or.inr ⟨g, by omega, by omega⟩
      obtain ⟨s', t', k', q1, q2, q3, q4, q5, q6, q7, q8⟩ := ih (k + 1) s1 t1 r1 hn
      refine ⟨s', t', k', by omega, fun K => ?_, fun K => ?_, fun K => ?_, q5, frm_t f1 q6, by rw [q7, w1, add_k q1], q8⟩
      · rw [run_1s, if_neg (show ¬ (1000 : Int32) ≤ nI k from nI_ge (b := 1000) (by omega) (by decide)), hR.2.1.1, h, if_neg (by decide), e7, zb1_s, nI_1]
        exact q2 K
      · unfold fX8_left_L13
        rw [rd_2, h, if_pos rfl, e8, zb1_s]
        simp only [zlt]
        rw [nI_1]
        exact q3 K
      · unfold fX8_needs_L19
        rw [rd_2, h, if_pos rfl, e8, zb1_s]
        exact q4 K
theorem run_end {A : Prop} {b o : Nat} (hbo : o + 5 < b) {s t : zkS} (h : rnR A b o 2 s t) : ∃ s' t' k, fX2_run b o 1000 s = some (nI k, s') ∧ (∀ K8, fX8_left_L13 zFU 0 t K8 = K8 (nI k) t') ∧ (∀ K8, fX8_needs_L19 zFU t K8 = K8 t') ∧ rnR A b o 2 s' t' ∧ frm b 2 s t s' t' ∧ t'.1 2 2 = 0 := by
  have hb := msr_220 h.2.2.1
  have hn : t.1 2 2 = 0 ∧ 0 < zFU ∨ t.1 2 2 = 1 ∧ msr (t.1 2) + 1 < zFU ∧ 0 + msr (t.1 2) < 1000 := by
    rcases h.2.2.2.1 with g | g
    · exact Or.inl ⟨g, by unfold zFU; omega⟩
    · exact Or.inr ⟨g, by unfold zFU; omega, by omega⟩
  obtain ⟨s', t', k', q1, q2, q3, q4, q5, q6, q7, q8⟩ := end_rel hbo zFU 0 s t h hn
  refine ⟨s', t', k', ?_, q3, q4, q5, q6, q8⟩
  refine Eq.trans (q2 (fun s13 => some (((s13.1 b 6) - (s.1 b 6)), s13))) ?_
  show some (s'.1 b 6 - s.1 b 6, s') = _
  rw [q5.2.1.2.2.2.2.1, h.2.1.2.2.2.2.1, q7, Int32.add_comm, Int32.add_sub_cancel]
  rfl
theorem rng_if {α : Type} {p : Int32} {n : Nat} {X Y : α} : (if p < 0 then X else (if p ≤ nI n then Y else X)) = if p < 0 ∨ nI n < p then X else Y := by
  by_cases h : p < 0
  · rw [if_pos h, if_pos (Or.inl h)]
  · rw [if_neg h]
    by_cases g : p ≤ nI n
    · rw [if_pos g, if_neg (fun q => q.elim h (fun q => Int32.not_lt.mpr g q))]
    · rw [if_neg g, if_pos (Or.inr (Int32.not_le.mp g))]
theorem T_step {σ τ : zkS} (hR : zRel σ τ) (p1 : Int32) : ∃ (r : Int32) (σ1 : zkS) (τ1 : zkS), fX7_step p1 σ = some (r, σ1) ∧ fX8_step p1 τ = some (r, τ1) ∧ zRel σ1 τ1 := by
  obtain ⟨⟨hg, hk, hs, hw, hm⟩, -⟩ := id hR
  unfold fX7_step fX8_step
  rw [in_0 (b := 99) p1 99 (by decide), ite01, show (99 : Int32) = nI 99 from rfl, rng_if]
  by_cases h1 : p1 < 0 ∨ nI 99 < p1
  · rw [if_pos h1, if_pos h1]
    exact ⟨_, _, _, rfl, rfl, hR⟩
  rw [if_neg h1, if_neg h1, rd_2, show σ.1 8 0 = τ.1 1 2 from hk.1]
  obtain ⟨n, hn, rfl⟩ := rng (by decide) h1
  by_cases h2 : τ.1 1 2 = 0
  · rw [if_pos h2, if_pos h2]
    exact ⟨_, _, _, rfl, rfl, hR⟩
  rw [if_neg h2, if_neg h2]
  obtain ⟨s', t', k, q1, q2, q3, q4⟩ := run_goes (A := True) (b := 8) (o := 2) (u := 1) (by omega) (show n ≤ 1000 by omega) ⟨hg, rK_P (fun _ _ _ => trivial) hk, hw, hm⟩
  rw [q1, q2]
  exact ⟨_, s', t', rfl, rfl, rel_K hR (rK_P (fun _ _ _ => Or.inl trivial) q3.2.1) q3.2.2.2 (fun a a0 a1 a2 => q4.1 a a0 a1 a2) q4.2.2.2.2.1 q4.2.1 q4.2.2.1 q4.2.2.2.1⟩
