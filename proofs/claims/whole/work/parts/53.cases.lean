/-! ===== the step's cases ===== -/
theorem si_b (σ : zkS) {b k j : Nat} (v : Int32) (h : j ≠ k) : (zsi σ b k v).1 b j = σ.1 b j := si_ne σ v (Or.inr h)
theorem si_r (σ : zkS) {b k a : Nat} (v : Int32) (h : a ≠ b) : (zsi σ b k v).1 a = σ.1 a := si_row σ v h
/-- what a step keeps and how it ends -/
def stpR (A : Prop) (b u : Nat) (s t s' t' : zkS) : Prop := (∀ a, a ≠ b → a ≠ b + 1 → a ≠ b + 2 → s'.1 a = s.1 a) ∧ s'.2 = s.2 ∧ (∀ a, a ≠ u → t'.1 a = t.1 a) ∧ t'.2 = t.2 ∧ (∀ j, iG j ∨ iS j → t'.1 u j = t.1 u j) ∧ t'.1 u 3 = t.1 u 3 ∧ t'.1 u 7 = t.1 u 7 + 1 ∧ rK s' b (t'.1 u) (fun c => A ∨ bt (t'.1 u 12) c = true) ∧ wK (t'.1 u) ∧ (t'.1 u 2 = 0 ∨ msr (t'.1 u) < msr (t.1 u))
/-- the end of a marking -/
theorem step_N1 {A : Prop} {b u : Nat} {s t : zkS} (hk : rK s b (t.1 u) (fun c => A ∨ bt (t.1 u 12) c = true)) (hg : wG (t.1 u)) (hm : wK (t.1 u)) (h2 : t.1 u 2 = 1) (h4 : t.1 u 4 = -5) (h5 : t.1 u 5 = 4) (h13 : t.1 u 13 = 0) :
    stpR A b u s t (zsi (zsi (zsi s b 0 0) b 1 1) b 6 (s.1 b 6 + 1)) (zsi (zsi (zsi t u 7 (t.1 u 7 + 1)) u 2 0) u 15 1) := by
  obtain ⟨k0, k1, k2, k3, k4, k5, k6, k7, k8, k9, k10, k11, k12, k13⟩ := hk
  obtain ⟨m1, m2, m3, m4, m5, m6, m7⟩ := hm
  obtain ⟨lim, nx, d, hl, e3, hnx, e5, hd, e6, hroot, hat, -⟩ := m7 h2
  obtain ⟨q4, q5, -⟩ := k11 h2
  have d0 : d = 0 := by
    rcases hat with h | ⟨a, ha, ea, -⟩
    · exact h.2
    · rw [h4] at ea
      exact absurd (ea ▸ (by decide : (-5 : Int32) < 0)) (nI_nneg (by omega))
  have nx4 : nx = 4 := (nI_eq (b := 4) (by omega) (by decide)).mp (e5.symm.trans h5)
  subst d0
  subst nx4
  have w7 : ∀ j, j ≠ 7 → j ≠ 2 → j ≠ 15 → (zsi (zsi (zsi t u 7 (t.1 u 7 + 1)) u 2 0) u 15 1).1 u j = t.1 u j := fun j j1 j2 j3 => by rw [si_b _ _ j3, si_b _ _ j2, si_b _ _ j1]
  have s7 : ∀ j, j ≠ 0 → j ≠ 1 → j ≠ 6 → (zsi (zsi (zsi s b 0 0) b 1 1) b 6 (s.1 b 6 + 1)).1 b j = s.1 b j := fun j j1 j2 j3 => by rw [si_b _ _ j3, si_b _ _ j2, si_b _ _ j1]
  have w70 : (zsi (zsi (zsi t u 7 (t.1 u 7 + 1)) u 2 0) u 15 1).1 u 7 = t.1 u 7 + 1 := by rw [si_b _ _ (by omega), si_b _ _ (by omega), si_eq]
  have w20 : (zsi (zsi (zsi t u 7 (t.1 u 7 + 1)) u 2 0) u 15 1).1 u 2 = 0 := by rw [si_b _ _ (by omega), si_eq]
  have w15 : (zsi (zsi (zsi t u 7 (t.1 u 7 + 1)) u 2 0) u 15 1).1 u 15 = 1 := si_eq _ _ _ _
  have s0 : (zsi (zsi (zsi s b 0 0) b 1 1) b 6 (s.1 b 6 + 1)).1 b 0 = 0 := by rw [si_b _ _ (by omega), si_b _ _ (by omega), si_eq]
  have s1 : (zsi (zsi (zsi s b 0 0) b 1 1) b 6 (s.1 b 6 + 1)).1 b 1 = 1 := by rw [si_b _ _ (by omega), si_eq]
  have s6 : (zsi (zsi (zsi s b 0 0) b 1 1) b 6 (s.1 b 6 + 1)).1 b 6 = s.1 b 6 + 1 := si_eq _ _ _ _
  refine ⟨fun a h1 _ _ => by rw [si_r _ _ h1, si_r _ _ h1, si_r _ _ h1], rfl, fun a h => by rw [si_r _ _ h, si_r _ _ h, si_r _ _ h], rfl, fun j hj => w7 j (by unfold iG iS at hj; omega) (by unfold iG iS at hj; omega) (by unfold iG iS at hj; omega), w7 3 (by omega) (by omega) (by omega), w70, ⟨by rw [s0, w20], by rw [s1, w15], ?_, ?_, by rw [s6, w70, k4], ?_, ?_, ?_, ?_, ?_, ?_, fun q => by rw [w20] at q; exact absurd q (by decide), fun _ => ⟨?_, ?_, lim, hl, (w7 3 (by omega) (by omega) (by omega)).trans e3⟩, fun c hc hP => ?_⟩, ⟨Or.inl w20, Or.inr w15, ?_, ?_, fun c hc => ?_, fun _ => ⟨w20, ?_, fun r hr => ?_⟩, fun q => by rw [w20] at q; exact absurd q (by decide)⟩, Or.inl w20⟩
  · rw [s7 2 (by omega) (by omega) (by omega), w7 12 (by omega) (by omega) (by omega)]; exact k2
  · rw [s7 3 (by omega) (by omega) (by omega), w7 13 (by omega) (by omega) (by omega)]; exact k3
  · rw [s7 7 (by omega) (by omega) (by omega), w7 3 (by omega) (by omega) (by omega)]; exact k5
  · rw [s7 8 (by omega) (by omega) (by omega), w7 5 (by omega) (by omega) (by omega)]; exact k6
  · rw [s7 9 (by omega) (by omega) (by omega), w7 8 (by omega) (by omega) (by omega)]; exact k7
  · rw [s7 10 (by omega) (by omega) (by omega), w7 9 (by omega) (by omega) (by omega)]; exact k8
  · rw [s7 11 (by omega) (by omega) (by omega), w7 10 (by omega) (by omega) (by omega)]; exact k9
  · rw [s7 12 (by omega) (by omega) (by omega), w7 11 (by omega) (by omega) (by omega)]; exact k10
  · rw [s7 4 (by omega) (by omega) (by omega)]; exact q4.trans h4
  · rw [s7 5 (by omega) (by omega) (by omega)]; exact q5.trans e6
  · rw [w7 12 (by omega) (by omega) (by omega)] at hP
    rw [si_r _ _ (by omega), si_r _ _ (by omega), si_r _ _ (by omega), w7 (92 + c) (by omega) (by omega) (by omega)]
    exact k13 c hc hP
  · rw [w7 12 (by omega) (by omega) (by omega), w7 1 (by omega) (by omega) (by omega)]; exact m3
  · rw [w7 12 (by omega) (by omega) (by omega), w7 13 (by omega) (by omega) (by omega)]; exact m4
  · rw [w7 (92 + c) (by omega) (by omega) (by omega), w7 0 (by omega) (by omega) (by omega)]; exact m5 c hc
  · rw [w7 13 (by omega) (by omega) (by omega)]; exact h13
  · rw [w7 12 (by omega) (by omega) (by omega), w7 (16 + r) (by omega) (by omega) (by omega)]; exact hroot r hr
