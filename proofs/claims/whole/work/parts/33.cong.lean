/-! ===== a place of a big row is written ===== -/
def wu (w : Nat → Int32) (k : Nat) (v : Int32) : Nat → Int32 := fun j => if j = k then v else w j
theorem wu_eq (w : Nat → Int32) (k : Nat) (v : Int32) : wu w k v k = v := if_pos rfl
theorem wu_ne (w : Nat → Int32) {k j : Nat} (v : Int32) (h : j ≠ k) : wu w k v j = w j := if_neg h
theorem si_w (τ : zkS) (u k : Nat) (v : Int32) : (zsi τ u k v).1 u = wu (τ.1 u) k v := funext fun j => by
  show (if u = u ∧ j = k then v else τ.1 u j) = if j = k then v else τ.1 u j
  by_cases h : j = k
  · rw [if_pos ⟨rfl, h⟩, if_pos h]
  · rw [if_neg (fun q => h q.2), if_neg h]
def iG (j : Nat) : Prop := j = 0 ∨ j = 1 ∨ j = 14 ∨ 16 ≤ j ∧ j < 92 ∨ 140 ≤ j ∧ j < 284
def iK (j : Nat) : Prop := j ≤ 13 ∨ 15 ≤ j ∧ j < 20 ∨ 68 ≤ j ∧ j < 140
def iS (j : Nat) : Prop := 284 ≤ j ∧ j < 346 ∨ j = 0 ∨ 68 ≤ j ∧ j < 92
theorem wG_c {w w' : Nat → Int32} (h : ∀ j, iG j → w' j = w j) (hg : wG w) : wG w' := by
  obtain ⟨⟨n, hn, h0, h1, h2⟩, h3, h4, h5⟩ := hg
  have e1 := h 1 (by unfold iG; omega)
  refine ⟨⟨n, hn, by rw [h 0 (by unfold iG; omega)]; exact h0, by rw [e1]; exact h1, by rw [h 14 (by unfold iG; omega)]; exact h2⟩, fun c hc => ?_, fun c i hc hb hi hs => ?_, fun r hr => ?_⟩
  · rw [h (20 + c) (by unfold iG; omega), h (44 + c) (by unfold iG; omega), h (68 + c) (by unfold iG; omega)]
    exact h3 c hc
  · rw [e1] at hb ⊢
    rw [h (68 + c) (by unfold iG; omega)] at hs
    rw [h (140 + 6 * c + i) (by unfold iG; omega)]
    exact h4 c i hc hb hi hs
  · rw [e1, h (16 + r) (by unfold iG; omega)]
    exact h5 r hr
theorem rG_c {σ σ' : zkS} {b : Nat} {w w' : Nat → Int32} (h1 : ∀ a, b ≤ a → a ≤ b + 5 → σ'.1 a = σ.1 a) (h : ∀ j, iG j → w' j = w j) (hr : rG σ b w) : rG σ' b w' := by
  obtain ⟨g0, g1, g2, g3, g4, g5⟩ := hr
  have e1 := h 1 (by unfold iG; omega)
  have k0 := h1 b (by omega) (by omega)
  refine ⟨by rw [k0, h 0 (by unfold iG; omega)]; exact g0, by rw [k0, e1]; exact g1, by rw [k0, h 14 (by unfold iG; omega)]; exact g2, fun c hc => ?_, fun c i hc hb hi hs => ?_, fun r hr => ?_⟩
  · rw [h1 (b + 1) (by omega) (by omega), h1 (b + 2) (by omega) (by omega), h1 (b + 3) (by omega) (by omega), h (20 + c) (by unfold iG; omega), h (44 + c) (by unfold iG; omega), h (68 + c) (by unfold iG; omega)]
    exact g3 c hc
  · rw [e1] at hb
    rw [h (68 + c) (by unfold iG; omega)] at hs
    rw [h1 (b + 4) (by omega) (by omega), h (140 + 6 * c + i) (by unfold iG; omega)]
    exact g4 c i hc hb hi hs
  · rw [h1 (b + 5) (by omega) (by omega), h (16 + r) (by unfold iG; omega)]
    exact g5 r hr
theorem wRun_c {w w' : Nat → Int32} (h : ∀ j, iK j → w' j = w j) (hg : wRun w) : wRun w' := by
  obtain ⟨lim, nx, d, h1, h2, h3, h4, h5, h6, h7, h8, h9, h10⟩ := hg
  have e12 := h 12 (by unfold iK; omega)
  have e13 := h 13 (by unfold iK; omega)
  have e4 := h 4 (by unfold iK; omega)
  refine ⟨lim, nx, d, h1, by rw [h 3 (by unfold iK; omega)]; exact h2, h3, by rw [h 5 (by unfold iK; omega)]; exact h4, h5, by rw [h 6 (by unfold iK; omega)]; exact h6, fun r hr => ?_, ?_, fun j hj => ?_, fun i j hij hj => ?_⟩
  · rw [e12, h (16 + r) (by unfold iK; omega)]
    exact h7 r hr
  · rw [e4, e12, e13]
    rcases h8 with h8 | ⟨a, ha, k1, k2, k3, k4⟩
    · exact Or.inl h8
    · exact Or.inr ⟨a, ha, k1, k2, k3, by rw [h (92 + a) (by unfold iK; omega), h (68 + a) (by unfold iK; omega)]; exact k4⟩
  · rw [e4, e12, e13, h (116 + j) (by unfold iK; omega)]
    obtain ⟨x, hx, k1, k2, k3, k4, k5⟩ := h9 j hj
    exact ⟨x, hx, k1, k2, k3, by rw [h (92 + x) (by unfold iK; omega), h (68 + x) (by unfold iK; omega)]; exact k4, k5⟩
  · rw [h (116 + i) (by unfold iK; omega), h (116 + j) (by unfold iK; omega)]
    exact h10 i j hij hj
/-- the marking's part of a row, which rests on what is there (place 1) as well -/
theorem wK_c {w w' : Nat → Int32} (h : ∀ j, iK j → w' j = w j) (hg : wK w) : wK w' := by
  obtain ⟨h1, h2, h3, h4, h5, h6, h7⟩ := hg
  have e1 := h 1 (by unfold iK; omega)
  have e2 := h 2 (by unfold iK; omega)
  have e12 := h 12 (by unfold iK; omega)
  have e13 := h 13 (by unfold iK; omega)
  have e15 := h 15 (by unfold iK; omega)
  refine ⟨by rw [e2]; exact h1, by rw [e15]; exact h2, by rw [e1, e12]; exact h3, by rw [e12, e13]; exact h4, fun c hc => ?_, fun q => ?_, fun q => ?_⟩
  · rw [h (92 + c) (by unfold iK; omega), h 0 (by unfold iK; omega)]
    exact h5 c hc
  · rw [e15] at q
    rw [e2, e13]
    obtain ⟨k1, k2, k3⟩ := h6 q
    exact ⟨k1, k2, fun r hr => by rw [e12, h (16 + r) (by unfold iK; omega)]; exact k3 r hr⟩
  · rw [e2] at q
    exact wRun_c h (h7 q)
theorem rK_c {σ σ' : zkS} {k : Nat} {w w' : Nat → Int32} {P : Nat → Prop} (h1 : ∀ a, k ≤ a → a ≤ k + 2 → σ'.1 a = σ.1 a) (h : ∀ j, iK j → w' j = w j) (hr : rK σ k w P) : rK σ' k w' P := by
  obtain ⟨g0, g1, g2, g3, g4, g5, g6, g7, g8, g9, g10, g11, g12, g13⟩ := hr
  have k0 := h1 k (by omega) (by omega)
  have k1 := h1 (k + 1) (by omega) (by omega)
  have k2 := h1 (k + 2) (by omega) (by omega)
  unfold rK
  rw [k0, k1, k2, h 2 (by unfold iK; omega), h 15 (by unfold iK; omega), h 12 (by unfold iK; omega), h 13 (by unfold iK; omega), h 7 (by unfold iK; omega), h 3 (by unfold iK; omega), h 5 (by unfold iK; omega), h 8 (by unfold iK; omega), h 9 (by unfold iK; omega), h 10 (by unfold iK; omega), h 11 (by unfold iK; omega), h 4 (by unfold iK; omega), h 6 (by unfold iK; omega)]
  refine ⟨g0, g1, g2, g3, g4, g5, g6, g7, g8, g9, g10, fun q => ?_, g12, fun c hc hP => ?_⟩
  · obtain ⟨a1, a2, a3⟩ := g11 q
    exact ⟨a1, a2, fun j hj hj2 => by rw [h (116 + j) (by unfold iK; omega)]; exact a3 j hj hj2⟩
  · rw [h (92 + c) (by unfold iK; omega)]
    exact g13 c hc hP
theorem rS_c {σ σ' : zkS} {k : Nat} {w w' : Nat → Int32} (h1 : ∀ a, k ≤ a → a ≤ k + 5 → σ'.1 a = σ.1 a) (h : ∀ j, iS j → w' j = w j) (hr : rS σ k w) : rS σ' k w' := by
  obtain ⟨⟨a1, n, a2, a3, a4, a5⟩, ⟨b1, m, b2, b3, b4⟩, c1, l, c2, c3, c4, c5⟩ := hr
  refine ⟨⟨?_, n, a2, ?_, ?_, ?_⟩, ⟨?_, m, b2, ?_, ?_⟩, ?_, l, c2, ?_, ?_, ?_⟩
  · rw [h1 k (by omega) (by omega), h 299 (by unfold iS; omega)]; exact a1
  · rw [h 299 (by unfold iS; omega)]; exact a3
  · intro j hj
    rw [h1 (k + 1) (by omega) (by omega), h (284 + j) (by unfold iS; omega)]
    exact a4 j hj
  · intro j hj
    rw [h (284 + 3 * j) (by unfold iS; omega), h (284 + 3 * j + 1) (by unfold iS; omega), h (284 + 3 * j + 2) (by unfold iS; omega)]
    exact a5 j hj
  · rw [h1 (k + 2) (by omega) (by omega), h 320 (by unfold iS; omega)]; exact b1
  · rw [h 320 (by unfold iS; omega)]; exact b3
  · intro j hj
    rw [h1 (k + 3) (by omega) (by omega), h (300 + 2 * j) (by unfold iS; omega), h (300 + 2 * j + 1) (by unfold iS; omega)]
    exact b4 j hj
  · rw [h1 (k + 4) (by omega) (by omega), h 345 (by unfold iS; omega)]; exact c1
  · rw [h 345 (by unfold iS; omega)]; exact c3
  · intro j hj
    rw [h1 (k + 5) (by omega) (by omega), h (321 + j) (by unfold iS; omega)]
    exact c4 j hj
  · intro j hj
    obtain ⟨c, i, q1, q2, q3, q4, q5, q6⟩ := c5 j hj
    exact ⟨c, i, q1, q2, by rw [h (321 + 3 * j) (by unfold iS; omega)]; exact q3, by rw [h (321 + 3 * j + 1) (by unfold iS; omega)]; exact q4, by rw [h (68 + c) (by unfold iS; omega)]; exact q5, by rw [h 0 (by unfold iS; omega)]; exact q6⟩
/-! single places -/
theorem rG_fld {σ : zkS} {b : Nat} {w : Nat → Int32} {c i : Nat} {v : Int32} (hc : c < 24) (hi : i < 6) (hr : rG σ b w) : rG (zsi σ (b + 4) (6 * c + i) v) b (wu w (140 + 6 * c + i) v) := by
  obtain ⟨g0, g1, g2, g3, g4, g5⟩ := hr
  refine ⟨?_, ?_, ?_, fun c' hc' => ?_, fun c' i' hc' hb hi' hs => ?_, fun r hr => ?_⟩
  · rw [si_ne _ _ (by omega), wu_ne _ _ (by omega)]; exact g0
  · rw [si_ne _ _ (by omega), wu_ne _ _ (by omega)]; exact g1
  · rw [si_ne _ _ (by omega), wu_ne _ _ (by omega)]; exact g2
  · rw [si_ne _ _ (by omega), si_ne _ _ (by omega), si_ne _ _ (by omega), wu_ne _ _ (by omega), wu_ne _ _ (by omega), wu_ne _ _ (by omega)]
    exact g3 c' hc'
  · rw [wu_ne _ _ (by omega)] at hb hs
    by_cases e : 6 * c' + i' = 6 * c + i
    · rw [e, si_eq, show 140 + 6 * c' + i' = 140 + 6 * c + i by omega, wu_eq]
    · rw [si_ne _ _ (Or.inr e), wu_ne _ _ (by omega)]
      exact g4 c' i' hc' hb hi' hs
  · rw [si_ne _ _ (by omega), wu_ne _ _ (by omega)]
    exact g5 r hr
theorem wG_fld {w : Nat → Int32} {c i : Nat} {v : Int32} (hc : c < 24) (hi : i < 6) (hv : hC (w 1) v) (hg : wG w) : wG (wu w (140 + 6 * c + i) v) := by
  obtain ⟨⟨n, hn, h0, h1, h2⟩, h3, h4, h5⟩ := hg
  refine ⟨⟨n, hn, by rw [wu_ne _ _ (by omega)]; exact h0, by rw [wu_ne _ _ (by omega)]; exact h1, by rw [wu_ne _ _ (by omega)]; exact h2⟩, fun c' hc' => ?_, fun c' i' hc' hb hi' hs => ?_, fun r hr => ?_⟩
  · rw [wu_ne _ _ (by omega), wu_ne _ _ (by omega), wu_ne _ _ (by omega)]
    exact h3 c' hc'
  · rw [wu_ne _ _ (by omega)] at hb hs
    rw [wu_ne w (j := 1) _ (by omega)]
    by_cases e : 140 + 6 * c' + i' = 140 + 6 * c + i
    · rw [e, wu_eq]
      exact hv
    · rw [wu_ne _ _ e]
      exact h4 c' i' hc' hb hi' hs
  · rw [wu_ne _ _ (by omega), wu_ne _ _ (by omega)]
    exact h5 r hr
theorem rG_tag {σ : zkS} {b : Nat} {w : Nat → Int32} {c : Nat} {v : Int32} (hc : c < 24) (hr : rG σ b w) : rG (zsi σ (b + 2) c v) b (wu w (44 + c) v) := by
  obtain ⟨g0, g1, g2, g3, g4, g5⟩ := hr
  refine ⟨?_, ?_, ?_, fun c' hc' => ?_, fun c' i' hc' hb hi' hs => ?_, fun r hr => ?_⟩
  · rw [si_ne _ _ (by omega), wu_ne _ _ (by omega)]; exact g0
  · rw [si_ne _ _ (by omega), wu_ne _ _ (by omega)]; exact g1
  · rw [si_ne _ _ (by omega), wu_ne _ _ (by omega)]; exact g2
  · rw [si_ne _ _ (by omega), si_ne σ (a' := b + 3) _ (by omega), wu_ne _ _ (show 20 + c' ≠ 44 + c by omega), wu_ne _ _ (show 68 + c' ≠ 44 + c by omega)]
    refine ⟨(g3 c' hc').1, ?_, (g3 c' hc').2.2⟩
    by_cases e : c' = c
    · subst e
      rw [si_eq, wu_eq]
    · rw [si_ne _ _ (Or.inr e), wu_ne _ _ (by omega)]
      exact (g3 c' hc').2.1
  · rw [wu_ne _ _ (by omega)] at hb hs
    rw [si_ne _ _ (by omega), wu_ne _ _ (by omega)]
    exact g4 c' i' hc' hb hi' hs
  · rw [si_ne _ _ (by omega), wu_ne _ _ (by omega)]
    exact g5 r hr
theorem wG_tag {w : Nat → Int32} {c t : Nat} (hc : c < 24) (ht : t ≤ 9) (hg : wG w) : wG (wu w (44 + c) (nI t)) := by
  obtain ⟨⟨n, hn, h0, h1, h2⟩, h3, h4, h5⟩ := hg
  refine ⟨⟨n, hn, by rw [wu_ne _ _ (by omega)]; exact h0, by rw [wu_ne _ _ (by omega)]; exact h1, by rw [wu_ne _ _ (by omega)]; exact h2⟩, fun c' hc' => ?_, fun c' i' hc' hb hi' hs => ?_, fun r hr => ?_⟩
  · rw [wu_ne _ _ (show 20 + c' ≠ 44 + c by omega), wu_ne _ _ (show 68 + c' ≠ 44 + c by omega)]
    refine ⟨(h3 c' hc').1, ?_, (h3 c' hc').2.2⟩
    by_cases e : c' = c
    · subst e
      rw [wu_eq]
      exact ⟨t, ht, rfl⟩
    · rw [wu_ne _ _ (by omega)]
      exact (h3 c' hc').2.1
  · rw [wu_ne _ _ (by omega)] at hb hs
    rw [wu_ne _ _ (by omega), wu_ne _ _ (by omega)]
    exact h4 c' i' hc' hb hi' hs
  · rw [wu_ne _ _ (by omega), wu_ne _ _ (by omega)]
    exact h5 r hr
theorem rG_root {σ : zkS} {b : Nat} {w : Nat → Int32} {q : Nat} {v : Int32} (hq : q < 4) (hr : rG σ b w) : rG (zsi σ (b + 5) q v) b (wu w (16 + q) v) := by
  obtain ⟨g0, g1, g2, g3, g4, g5⟩ := hr
  refine ⟨?_, ?_, ?_, fun c' hc' => ?_, fun c' i' hc' hb hi' hs => ?_, fun r hr => ?_⟩
  · rw [si_ne _ _ (by omega), wu_ne _ _ (by omega)]; exact g0
  · rw [si_ne _ _ (by omega), wu_ne _ _ (by omega)]; exact g1
  · rw [si_ne _ _ (by omega), wu_ne _ _ (by omega)]; exact g2
  · rw [si_ne _ _ (by omega), si_ne _ _ (by omega), si_ne _ _ (by omega), wu_ne _ _ (by omega), wu_ne _ _ (by omega), wu_ne _ _ (by omega)]
    exact g3 c' hc'
  · rw [wu_ne _ _ (by omega)] at hb hs
    rw [si_ne _ _ (by omega), wu_ne _ _ (by omega)]
    exact g4 c' i' hc' hb hi' hs
  · by_cases e : r = q
    · subst e
      rw [si_eq, wu_eq]
    · rw [si_ne _ _ (Or.inr e), wu_ne _ _ (by omega)]
      exact g5 r hr
theorem wG_root {w : Nat → Int32} {q : Nat} {v : Int32} (hq : q < 4) (hv : hC (w 1) v) (hg : wG w) : wG (wu w (16 + q) v) := by
  obtain ⟨⟨n, hn, h0, h1, h2⟩, h3, h4, h5⟩ := hg
  refine ⟨⟨n, hn, by rw [wu_ne _ _ (by omega)]; exact h0, by rw [wu_ne _ _ (by omega)]; exact h1, by rw [wu_ne _ _ (by omega)]; exact h2⟩, fun c' hc' => ?_, fun c' i' hc' hb hi' hs => ?_, fun r hr => ?_⟩
  · rw [wu_ne _ _ (by omega), wu_ne _ _ (by omega), wu_ne _ _ (by omega)]
    exact h3 c' hc'
  · rw [wu_ne _ _ (by omega)] at hb hs
    rw [wu_ne _ _ (by omega), wu_ne _ _ (by omega)]
    exact h4 c' i' hc' hb hi' hs
  · rw [wu_ne w (j := 1) _ (by omega)]
    by_cases e : r = q
    · subst e
      rw [wu_eq]
      exact hv
    · rw [wu_ne _ _ (by omega)]
      exact h5 r hr
/-- no marking runs, it is clean no more -/
theorem wK_un {w w' : Nat → Int32} (h : ∀ j, iK j → j ≠ 15 → ¬ (16 ≤ j ∧ j < 20) → w' j = w j) (h15 : w' 15 = 0) (h2 : w 2 = 0) (hg : wK w) : wK w' := by
  obtain ⟨a1, a2, a3, a4, a5, a6, a7⟩ := hg
  have e1 := h 1 (by unfold iK; omega) (by omega) (by omega)
  have e2 := h 2 (by unfold iK; omega) (by omega) (by omega)
  have e12 := h 12 (by unfold iK; omega) (by omega) (by omega)
  have e13 := h 13 (by unfold iK; omega) (by omega) (by omega)
  refine ⟨by rw [e2]; exact a1, Or.inl h15, by rw [e1, e12]; exact a3, by rw [e12, e13]; exact a4, fun c hc => ?_, fun q => ?_, fun q => ?_⟩
  · rw [h (92 + c) (by unfold iK; omega) (by omega) (by omega), h 0 (by unfold iK; omega) (by omega) (by omega)]
    exact a5 c hc
  · rw [h15] at q
    exact absurd q (by decide)
  · rw [e2, h2] at q
    exact absurd q (by decide)
theorem rK_un {σ σ' : zkS} {k : Nat} {w w' : Nat → Int32} {P : Nat → Prop} (h1 : ∀ j, j ≠ 1 → σ'.1 k j = σ.1 k j) (h2 : σ'.1 k 1 = 0) (h3 : σ'.1 (k + 1) = σ.1 (k + 1)) (h4 : σ'.1 (k + 2) = σ.1 (k + 2)) (h : ∀ j, iK j → j ≠ 15 → ¬ (16 ≤ j ∧ j < 20) → w' j = w j) (h15 : w' 15 = 0) (hr : rK σ k w P) : rK σ' k w' P := by
  obtain ⟨g0, g1, g2, g3, g4, g5, g6, g7, g8, g9, g10, g11, g12, g13⟩ := hr
  unfold rK
  rw [h1 0 (by omega), h2, h1 2 (by omega), h1 3 (by omega), h1 6 (by omega), h1 7 (by omega), h1 8 (by omega), h1 9 (by omega), h1 10 (by omega), h1 11 (by omega), h1 12 (by omega), h1 4 (by omega), h1 5 (by omega), h3, h4, h15]
  have e := fun j (q : iK j) (q1 : j ≠ 15) (q2 : ¬ (16 ≤ j ∧ j < 20)) => h j q q1 q2
  rw [e 2 (by unfold iK; omega) (by omega) (by omega), e 12 (by unfold iK; omega) (by omega) (by omega), e 13 (by unfold iK; omega) (by omega) (by omega), e 7 (by unfold iK; omega) (by omega) (by omega), e 3 (by unfold iK; omega) (by omega) (by omega), e 5 (by unfold iK; omega) (by omega) (by omega), e 8 (by unfold iK; omega) (by omega) (by omega), e 9 (by unfold iK; omega) (by omega) (by omega), e 10 (by unfold iK; omega) (by omega) (by omega), e 11 (by unfold iK; omega) (by omega) (by omega), e 4 (by unfold iK; omega) (by omega) (by omega), e 6 (by unfold iK; omega) (by omega) (by omega)]
  refine ⟨g0, rfl, g2, g3, g4, g5, g6, g7, g8, g9, g10, fun q => ?_, g12, fun c hc hP => ?_⟩
  · obtain ⟨a1, a2, a3⟩ := g11 q
    exact ⟨a1, a2, fun j hj hj2 => by rw [e (116 + j) (by unfold iK; omega) (by omega) (by omega)]; exact a3 j hj hj2⟩
  · rw [e (92 + c) (by unfold iK; omega) (by omega) (by omega)]
    exact g13 c hc hP
