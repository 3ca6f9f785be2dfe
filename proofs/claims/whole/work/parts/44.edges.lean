/-! ===== edges ===== -/
/-- where a followed field leads -/
def ld (w : Nat → Int32) (c i : Nat) : Int32 := if fX7_isFollowed (w (20 + c)) (w (44 + c)) (nI i) = 0 then -5 else w (140 + 6 * c + i)
/-- the edges, one field (of every cell) left out -/
def eX (w : Nat → Int32) (p : Int32) (c j : Nat) : Prop := c < 24 ∧ j < 24 ∧ bt (w 1) c = true ∧ ∃ i, i < 6 ∧ nI i < w (68 + c) ∧ nI i ≠ p ∧ ld w c i = nI j
def eW (w : Nat → Int32) (c j : Nat) : Prop := eX w (-1) c j
def rW (w : Nat → Int32) (j : Nat) : Prop := j < 24 ∧ ∃ r, r < 4 ∧ w (16 + r) = nI j
theorem ld_hC {w : Nat → Int32} (hg : wG w) {c i : Nat} (hc : c < 24) (hi : i < 6) (hb : bt (w 1) c = true) (hs : nI i < w (68 + c)) : hC (w 1) (ld w c i) := by
  unfold ld
  by_cases h : fX7_isFollowed (w (20 + c)) (w (44 + c)) (nI i) = 0
  · rw [if_pos h]
    exact Or.inl rfl
  · rw [if_neg h]
    exact hg.2.2.1 c i hc hb hi hs
theorem eX_there {w : Nat → Int32} (hg : wG w) {p : Int32} {c j : Nat} (h : eX w p c j) : bt (w 1) j = true := by
  obtain ⟨hc, hj, hb, i, hi, hs, -, e⟩ := h
  rcases ld_hC hg hc hi hb hs with q | ⟨d, hd, ed, hbd⟩
  · rw [q] at e
    exact absurd (e ▸ (by decide : (-5 : Int32) < 0)) (nI_nneg (by omega))
  · rw [ed] at e
    rw [← (nI_eq (by omega) (by omega)).mp e]
    exact hbd
theorem rW_there {w : Nat → Int32} (hg : wG w) {j : Nat} (h : rW w j) : bt (w 1) j = true := by
  obtain ⟨hj, r, hr, e⟩ := h
  rcases hg.2.2.2 r hr with q | ⟨d, hd, ed, hbd⟩
  · rw [q] at e
    exact absurd (e ▸ (by decide : (-5 : Int32) < 0)) (nI_nneg (by omega))
  · rw [ed] at e
    rw [← (nI_eq (by omega) (by omega)).mp e]
    exact hbd
theorem bs_or {x y : Int32} {P Q : Nat → Prop} (hx : bs x P) (hy : bs y Q) : bs (x ||| y) (fun i => P i ∨ Q i) := fun i hi => by
  rw [b_or, Bool.or_eq_true, hx i hi, hy i hi]
theorem bs_iff {x : Int32} {P Q : Nat → Prop} (hx : bs x P) (h : ∀ i, i < 32 → (P i ↔ Q i)) : bs x Q := fun i hi => (hx i hi).trans (h i hi)
theorem bs_0 : bs 0 (fun _ => False) := fun i _ => by
  rw [b_0]
  exact ⟨fun q => (by cases q), fun q => q.elim⟩
theorem bs_hC {s v : Int32} (h : hC s v) : bs (fX7_bit v) (fun j => j < 24 ∧ v = nI j) := fun i hi => by
  rcases h with q | ⟨d, hd, e, hb⟩
  · rw [q, bit_lt (by decide), b_0]
    exact ⟨fun q => (by cases q), fun q => absurd (q.2 ▸ (by decide : (-5 : Int32) < 0)) (nI_nneg (by omega))⟩
  · rw [e, bit_bt hd, decide_eq_true_eq]
    refine ⟨fun q => ⟨by omega, by rw [q]⟩, fun q => ((nI_eq (by omega) (by omega)).mp q.2).symm⟩
theorem links_L {σ : zkS} {b c : Nat} {w : Nat → Int32} (hr : rG σ b w) (hg : wG w) (hc : c < 24) (p : Int32) : ∀ m i x3, i ≤ 6 → 6 - i < m → bs x3 (fun j => j < 24 ∧ bt (w 1) c = true ∧ ∃ i', i' < i ∧ nI i' < w (68 + c) ∧ nI i' ≠ p ∧ ld w c i' = nI j) → ∃ x, fX0_linksOf_L5 m b σ (nI c) p x3 (nI i) (fun x => some x) = some x ∧ bs x (eX w p c) := by
  intro m
  induction m with
  | zero => intros; omega
  | succ m ih =>
    intro i x3 h1 h2 h3
    unfold fX0_linksOf_L5
    rw [size7 hr, zb1_s, hasN_nI hc, nI_clamp (by omega)]
    obtain ⟨z, hz6, ez⟩ := size_of hg hc
    by_cases e : (if bt (w 1) c = true then w (68 + c) else 0) ≤ nI i
    · rw [if_pos e]
      refine ⟨x3, rfl, bs_iff h3 fun j hj => ⟨fun q => ?_, fun q => ?_⟩⟩
      · obtain ⟨q1, q2, i', q3, q4⟩ := q
        exact ⟨hc, q1, q2, i', by omega, q4⟩
      · obtain ⟨q0, q1, q2, i', q3, q4, q5⟩ := q
        rw [if_pos q2, ez] at e
        rw [ez] at q4
        have k1 := (nI_ltI (by omega) (by omega)).mp q4
        have k2 := (nI_leI (by omega) (by omega)).mp e
        exact ⟨q1, q2, i', by omega, by rw [ez]; exact q4, q5⟩
    · rw [if_neg e]
      have hF : bt (w 1) c = true ∧ i < z := by
        cases eb : bt (w 1) c with
        | false =>
          rw [eb, if_neg (by decide)] at e
          exact absurd (show nI 0 ≤ nI i from nI_le (by omega) (by omega)) e
        | true =>
          rw [eb, if_pos rfl, ez] at e
          exact ⟨rfl, Nat.lt_of_not_le (fun q => e (nI_le q (by omega)))⟩
      have hs : nI i < w (68 + c) := by rw [ez]; exact nI_lt hF.2 (by omega)
      have hi6 : i < 6 := by omega
      have hF' : isF w (nI c) (nI i) = true := by
        rw [isF_nI hc (by omega), hF.1, Bool.true_and, ez, decide_eq_true (nI_ge hF.2 (by omega))]
      by_cases ep : nI i = p
      · rw [if_pos ep]
        simp only [zlt]
        rw [nI_1]
        refine ih (i + 1) x3 (by omega) (by omega) (bs_iff h3 fun j hj => ⟨fun q => ?_, fun q => ?_⟩)
        · obtain ⟨q1, q2, i', q3, q4⟩ := q
          exact ⟨q1, q2, i', by omega, q4⟩
        · obtain ⟨q1, q2, i', q3, q4, q5, q6⟩ := q
          refine ⟨q1, q2, i', ?_, q4, q5, q6⟩
          have : i' ≠ i := fun q => q5 (by rw [q]; exact ep)
          omega
      · rw [if_neg ep, fol7 hr hg, hF', if_pos rfl, zb1_s, nI_clamp (by omega), fldN_nI hc hi6]
        simp only [zlt]
        rw [nI_1]
        have hv := ld_hC hg hc hi6 hF.1 hs
        refine ih (i + 1) _ (by omega) (by omega) (bs_iff (bs_or h3 (bs_hC hv)) fun j hj => ⟨fun q => ?_, fun q => ?_⟩)
        · rcases q with ⟨q1, q2, i', q3, q4⟩ | ⟨q1, q2⟩
          · exact ⟨q1, q2, i', by omega, q4⟩
          · exact ⟨q1, hF.1, i, by omega, hs, ep, q2⟩
        · obtain ⟨q1, q2, i', q3, q4, q5, q6⟩ := q
          by_cases ei : i' = i
          · subst ei
            exact Or.inr ⟨q1, q6⟩
          · exact Or.inl ⟨q1, q2, i', by omega, q4, q5, q6⟩
theorem links7 {σ : zkS} {b c : Nat} {w : Nat → Int32} (hr : rG σ b w) (hg : wG w) (hc : c < 24) (p : Int32) : ∃ x, fX0_linksOf b (nI c) p σ = some x ∧ bs x (eX w p c) := by
  unfold fX0_linksOf
  refine links_L hr hg hc p zFU 0 0 (by omega) (by unfold zFU; omega) (bs_iff bs_0 fun j hj => ⟨fun q => q.elim, fun q => ?_⟩)
  obtain ⟨q1, q2, i', q3, q4⟩ := q
  omega
theorem roots7_L {σ : zkS} {b : Nat} {w : Nat → Int32} (hr : rG σ b w) (hg : wG w) : ∀ m i x, i ≤ 4 → 4 - i < m → bs x (fun j => j < 24 ∧ ∃ r, r < i ∧ w (16 + r) = nI j) → ∃ x', fX0_heldByRoots_L4 m b σ x (nI i) (fun x => some x) = some x' ∧ bs x' (rW w) := by
  intro m
  induction m with
  | zero => intros; omega
  | succ m ih =>
    intro i x h1 h2 h3
    unfold fX0_heldByRoots_L4
    by_cases e : i = 4
    · subst e
      rw [if_pos (by decide)]
      exact ⟨x, rfl, h3⟩
    rw [if_neg (show ¬ (4 : Int32) ≤ nI i from nI_ge (b := 4) (by omega) (by decide)), rd_nI (by omega) (by decide), hr.2.2.2.2.2 i (by omega)]
    simp only [zlt]
    rw [nI_1]
    refine ih (i + 1) _ (by omega) (by omega) (bs_iff (bs_or h3 (bs_hC (hg.2.2.2 i (by omega)))) fun j hj => ⟨fun q => ?_, fun q => ?_⟩)
    · rcases q with ⟨q1, r, q3, q4⟩ | ⟨q1, q2⟩
      · exact ⟨q1, r, by omega, q4⟩
      · exact ⟨q1, i, by omega, q2⟩
    · obtain ⟨q1, r, q3, q4⟩ := q
      by_cases er : r = i
      · subst er
        exact Or.inr ⟨q1, q4⟩
      · exact Or.inl ⟨q1, r, by omega, q4⟩
theorem roots7 {σ : zkS} {b : Nat} {w : Nat → Int32} (hr : rG σ b w) (hg : wG w) : ∃ x, fX0_heldByRoots b σ = some x ∧ bs x (rW w) := by
  unfold fX0_heldByRoots
  exact roots7_L hr hg zFU 0 0 (by omega) (by unfold zFU; omega) (bs_iff bs_0 fun j hj => ⟨fun q => q.elim, fun q => by obtain ⟨q1, r, q3, q4⟩ := q; omega⟩)
/-- the class's links hold a graph's edges -/
def lnk (σ : zkS) (w : Nat → Int32) : Prop := bs (σ.1 42 1) (rW w) ∧ ∀ c, c < 24 → bs (σ.1 43 c) (eW w c)
theorem read_L {b : Nat} (hb : b + 5 < 42) {w : Nat → Int32} (hg : wG w) {K : zkS → Option zkS} : ∀ m c (s : zkS), c ≤ 24 → 24 - c < m → rG s b w → (∀ c', c' < c → bs (s.1 43 c') (eW w c')) → ∃ s', fX1_readFrom_L10 m b (nI c) s K = K s' ∧ (∀ c', c' < 24 → bs (s'.1 43 c') (eW w c')) ∧ (∀ a, a ≠ 43 → s'.1 a = s.1 a) ∧ s'.2 = s.2 := by
  intro m
  induction m with
  | zero => intros; omega
  | succ m ih =>
    intro c s h1 h2 hr h3
    unfold fX1_readFrom_L10
    by_cases e : c = 24
    · subst e
      rw [if_pos (by decide)]
      exact ⟨s, rfl, h3, fun a _ => rfl, rfl⟩
    rw [if_neg (show ¬ (24 : Int32) ≤ nI c from nI_n24 (by omega))]
    obtain ⟨x, ex, hx⟩ := links7 hr hg (show c < 24 by omega) (-1)
    rw [ex, zb1_s, wr24 (by omega)]
    simp only [zlt]
    rw [nI_1]
    obtain ⟨s', q1, q2, q3, q4⟩ := ih (c + 1) (zsi s 43 c x) (by omega) (by omega) (rG_c (fun a h1 h2 => si_row _ _ (by omega)) (fun j _ => rfl) hr) (fun c' hc' => by
      by_cases ec : c' = c
      · rw [ec, si_eq]
        exact hx
      · rw [si_ne _ _ (Or.inr ec)]
        exact h3 c' (by omega))
    exact ⟨s', q1, q2, fun a ha => (q3 a ha).trans (si_row _ _ ha), q4⟩
theorem read7 {b : Nat} (hb : b + 5 < 42) {w : Nat → Int32} {σ : zkS} (hr : rG σ b w) (hg : wG w) : ∃ s, fX1_readFrom b σ = some s ∧ lnk s w ∧ (∀ a, a ≠ 42 → a ≠ 43 → s.1 a = σ.1 a) ∧ s.2 = σ.2 := by
  unfold fX1_readFrom
  obtain ⟨x, ex, hx⟩ := roots7 hr hg
  rw [ex, zb1_s]
  unfold zpi
  obtain ⟨s', q1, q2, q3, q4⟩ := read_L hb hg (K := fun s7 => some s7) zFU 0 (zsi σ 42 1 x) (by omega) (by unfold zFU; omega) (rG_c (fun a h1 h2 => si_row _ _ (by omega)) (fun j _ => rfl) hr) (fun c' hc' => by omega)
  refine ⟨s', q1, ⟨?_, q2⟩, fun a h1 h2 => (q3 a h2).trans (si_row _ _ h1), q4⟩
  rw [q3 42 (by omega), si_eq]
  exact hx
theorem reached7 {σ : zkS} {w : Nat → Int32} (h : lnk σ w) : ∃ x, fX1_reached σ = some x ∧ bs x (rch (eW w) (rW w) (fun _ => False)) := by
  unfold fX1_reached
  obtain ⟨x, ex, hx⟩ := spread7 (σ := σ) (f := σ.1 42 1) (bar := 0) (fun i j (q : eW w i j) => ⟨q.1, q.2.1⟩) (fun i (q : rW w i) => q.1) h.1 bs_0 h.2
  rw [ex, zb1_s]
  exact ⟨x, rfl, hx⟩
