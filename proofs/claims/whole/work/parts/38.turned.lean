/-! ===== turned fields ===== -/
def wT (w : Nat → Int32) (p : Int32) (j : Nat) : Prop := w 2 = 1 ∧ ∃ lim d : Nat, lim ≤ 8 ∧ d < 24 ∧ w 3 = nI lim ∧ w 6 = nI d ∧ lim ≤ j ∧ j < d ∧ w (116 + j) = p
theorem way_u {w : Nat → Int32} (hm : wK w) (h2 : w 2 = 1) {d : Nat} (hd : d < 24) (hd6 : w 6 = nI d) {i j : Nat} (hi : i < d) (hj : j < d) (e : w (116 + i) = w (116 + j)) : i = j := by
  obtain ⟨lim, nx, d', hl, k3, hnx, k5, hd', k6, -, -, k7, k8⟩ := hm.2.2.2.2.2.2 h2
  have e1 : d' = d := (nI_eq (by omega) (by omega)).mp (k6.symm.trans hd6)
  subst e1
  rcases Nat.lt_trichotomy i j with g | g | g
  · exact absurd e (k8 i j g hj)
  · exact g
  · exact absurd e.symm (k8 j i g hi)
theorem wT_u {w : Nat → Int32} (hm : wK w) {p : Int32} {i j : Nat} (hi : wT w p i) (hj : wT w p j) : i = j := by
  obtain ⟨h2, l1, d1, -, b1, e1, e2, e3, e4, e5⟩ := hi
  obtain ⟨-, l2, d2, -, b2, f1, f2, f3, f4, f5⟩ := hj
  have e : d2 = d1 := (nI_eq (by omega) (by omega)).mp (f2.symm.trans e2)
  subst e
  exact way_u hm h2 b1 e2 e4 f4 (e5.trans f5.symm)
theorem place_L {σ : zkS} {k d : Nat} {f : Nat → Int32} {p : Int32} {K : Unit → Option Int32} (hd : d < 24) (h5 : σ.1 k 5 = nI d) (hf : ∀ j, j < d → σ.1 (k + 1) j = f j) : ∀ m i, i ≤ d → d - i < m → (∀ j, j < i → f j ≠ p) →
    (∃ j, j < d ∧ f j = p ∧ fX2_placeOf_L2 m k σ p (nI i) K = some (nI j)) ∨ (∀ j, j < d → f j ≠ p) ∧ fX2_placeOf_L2 m k σ p (nI i) K = K () := by
  intro m
  induction m with
  | zero => intros; omega
  | succ m ih =>
    intro i h1 h2 h3
    unfold fX2_placeOf_L2
    rw [h5]
    by_cases e : i = d
    · subst e
      rw [if_pos (nI_le (Nat.le_refl i) (by omega))]
      exact Or.inr ⟨h3, rfl⟩
    rw [if_neg (nI_ge (by omega) (by omega)), if_neg (show ¬ (24 : Int32) ≤ nI i from nI_n24 (by omega)), rd24 (by omega), hf i (by omega)]
    by_cases g : f i = p
    · rw [if_pos g]
      exact Or.inl ⟨i, by omega, g, rfl⟩
    · rw [if_neg g]
      simp only [zlt]
      rw [nI_1]
      refine ih (i + 1) (by omega) (by omega) (fun j hj => ?_)
      by_cases ej : j = i
      · rw [ej]; exact g
      · exact h3 j (by omega)
/-- a marking's depth on the class's side -/
theorem dep7 {σ : zkS} {k : Nat} {w : Nat → Int32} {P : Nat → Prop} (hk : rK σ k w P) (hm : wK w) : (w 2 = 0 ∧ σ.1 k 5 = nI 0) ∨ (w 2 = 1 ∧ ∃ lim d, lim ≤ 8 ∧ d < 24 ∧ w 3 = nI lim ∧ w 6 = nI d ∧ σ.1 k 7 = nI lim ∧ σ.1 k 5 = nI d ∧ ∀ j, j < d → σ.1 (k + 1) j = w (116 + j)) := by
  obtain ⟨-, -, -, -, -, g5, -, -, -, -, -, g11, g12, -⟩ := hk
  rcases hm.1 with h | h
  · exact Or.inl ⟨h, (g12 h).2.1⟩
  · obtain ⟨lim, nx, d, hl, e3, hnx, e5, hd, e6, -⟩ := hm.2.2.2.2.2.2 h
    obtain ⟨-, a2, a3⟩ := g11 h
    exact Or.inr ⟨h, lim, d, hl, hd, e3, e6, by rw [g5, e3], by rw [a2, e6], fun j hj => a3 j (by rw [e6]; exact nI_lt hj (by omega)) (by omega)⟩
theorem turn7 {σ : zkS} {k : Nat} {w : Nat → Int32} {P : Nat → Prop} (hk : rK σ k w P) (hm : wK w) (p : Int32) : (∃ j, wT w p j ∧ j < 24 ∧ fX2_placeOf k p σ = some (nI j) ∧ fX2_hasTurned k p σ = some 1) ∨ (∀ j, ¬ wT w p j) ∧ fX2_hasTurned k p σ = some 0 := by
  unfold fX2_hasTurned
  rcases dep7 hk hm with ⟨h2, h5⟩ | ⟨h2, lim, d, hl, hd, e3, e6, h7, h5, hf⟩
  · right
    refine ⟨fun j q => ?_, ?_⟩
    · exact absurd (h2.symm.trans q.1) (by decide)
    · rcases place_L (K := fun _ => some (-1)) (p := p) (f := fun j => σ.1 (k + 1) j) (show 0 < 24 by omega) h5 (fun j hj => rfl) zFU 0 (by omega) (by unfold zFU; omega) (fun j hj => by omega) with ⟨j, hj, -⟩ | ⟨-, e⟩
      · omega
      · unfold fX2_placeOf
        rw [show (0 : Int32) = nI 0 from rfl, e, zb1_s]
        rfl
  · rcases place_L (K := fun _ => some (-1)) (p := p) (f := fun j => w (116 + j)) hd h5 hf zFU 0 (by omega) (by unfold zFU; omega) (fun j hj => by omega) with ⟨j, hj, ej, e⟩ | ⟨hn, e⟩
    · unfold fX2_placeOf
      rw [show (0 : Int32) = nI 0 from rfl, e, zb1_s]
      unfold fX2_turnedAt
      rw [if_neg (nI_nneg (by omega)), h7, h5]
      by_cases g : j < lim
      · right
        refine ⟨fun j' q => ?_, by rw [if_pos (nI_lt g (by omega))]; rfl⟩
        obtain ⟨-, l2, d2, c1, b2, f1, f2, f3, f4, f5⟩ := q
        have e : d2 = d := (nI_eq (by omega) (by omega)).mp (f2.symm.trans e6)
        have el : l2 = lim := (nI_eq (by omega) (by omega)).mp (f1.symm.trans e3)
        subst e
        subst el
        have := way_u hm h2 hd e6 hj f4 (Eq.trans ej f5.symm)
        omega
      · left
        refine ⟨j, ⟨h2, lim, d, hl, hd, e3, e6, by omega, hj, ej⟩, by omega, rfl, ?_⟩
        rw [if_neg (nI_nlt (by omega) (by omega)), if_neg (nI_ge hj (by omega)), if_neg (show ¬ (24 : Int32) ≤ nI j from nI_n24 (by omega))]
    · right
      refine ⟨fun j' q => ?_, ?_⟩
      · obtain ⟨-, l2, d2, c1, b2, f1, f2, f3, f4, f5⟩ := q
        have e : d2 = d := (nI_eq (by omega) (by omega)).mp (f2.symm.trans e6)
        subst e
        exact hn j' f4 f5
      · unfold fX2_placeOf
        rw [show (0 : Int32) = nI 0 from rfl, e, zb1_s]
        rfl
theorem turn8_L {τ : zkS} {d : Nat} {p : Int32} {K : Unit → Option Int32} (h2 : τ.1 1 2 = 1) (hd : d < 24) (h6 : τ.1 1 6 = nI d) (lim : Nat) (hl : lim ≤ 8) : ∀ m i, lim ≤ i → i < 25 → d - i < m → (∀ j, lim ≤ j → j < i → τ.1 1 (116 + j) ≠ p) →
    (∃ j, lim ≤ j ∧ j < d ∧ τ.1 1 (116 + j) = p ∧ fX8_turnedAt_L7 m τ p (nI i) K = some (nI j)) ∨ (∀ j, lim ≤ j → j < d → τ.1 1 (116 + j) ≠ p) ∧ fX8_turnedAt_L7 m τ p (nI i) K = K () := by
  intro m
  induction m with
  | zero => intros; omega
  | succ m ih =>
    intro i h1 hi0 hi h3
    unfold fX8_turnedAt_L7
    rw [rd_2, h2, if_pos rfl, rd_6, h6]
    by_cases e : d ≤ i
    · rw [if_pos (nI_le e (by omega))]
      exact Or.inr ⟨fun j q1 q2 => h3 j q1 (by omega), rfl⟩
    rw [if_neg (nI_ge (by omega) (by omega)), rd_116c (by omega)]
    by_cases g : τ.1 1 (116 + i) = p
    · rw [if_pos g]
      exact Or.inl ⟨i, by omega, by omega, g, rfl⟩
    · rw [if_neg g]
      simp only [zlt]
      rw [nI_1]
      refine ih (i + 1) (by omega) (by omega) (by omega) (fun j q1 q2 => ?_)
      by_cases ej : j = i
      · rw [ej]; exact g
      · exact h3 j q1 (by omega)
theorem turn8 {τ : zkS} (hm : wK (τ.1 1)) (p : Int32) : (∃ j, wT (τ.1 1) p j ∧ j < 24 ∧ fX8_turnedAt p τ = some (nI j)) ∨ (∀ j, ¬ wT (τ.1 1) p j) ∧ fX8_turnedAt p τ = some (-5) := by
  unfold fX8_turnedAt
  rw [rd_3]
  rcases hm.1 with h2 | h2
  · right
    refine ⟨fun j q => ?_, ?_⟩
    · exact absurd (h2.symm.trans q.1) (by decide)
    · show fX8_turnedAt_L7 (3999 + 1) τ p _ _ = _
      unfold fX8_turnedAt_L7
      rw [rd_2, h2, if_neg (by decide)]
  · obtain ⟨lim, nx, d, hl, e3, hnx, e5, hd, e6, -⟩ := hm.2.2.2.2.2.2 h2
    rw [e3]
    rcases turn8_L (K := fun _ => some (-5)) (p := p) h2 hd e6 lim hl zFU lim (by omega) (by omega) (by unfold zFU; omega) (fun j q1 q2 => by omega) with ⟨j, q1, q2, q3, e⟩ | ⟨q1, e⟩
    · exact Or.inl ⟨j, ⟨h2, lim, d, hl, hd, e3, e6, q1, q2, q3⟩, by omega, e⟩
    · refine Or.inr ⟨fun j q => ?_, e⟩
      obtain ⟨-, l2, d2, c1, b2, f1, f2, f3, f4, f5⟩ := q
      have ed : d2 = d := (nI_eq (by omega) (by omega)).mp (f2.symm.trans e6)
      have el : l2 = lim := (nI_eq (by omega) (by omega)).mp (f1.symm.trans e3)
      subst ed
      subst el
      exact q1 j f3 f4 f5
theorem cnt7 {σ : zkS} {k : Nat} {c : Nat} (hc : c < 24) : fX2_countOf k (nI c) σ = some (σ.1 (k + 2) c) := by
  unfold fX2_countOf
  rw [if_neg, rd24 hc]
  intro q
  have := bit_bt hc c
  rw [q, b_0] at this
  exact absurd this (by simp)
theorem T_raw {σ τ : zkS} (hR : zRel σ τ) (p1 : Int32) (p2 : Int32) : ∃ (r : Int32), fX7_raw p1 p2 σ = some r ∧ fX8_raw p1 p2 τ = some r ∧ zRel σ τ := by
  obtain ⟨⟨hg, hk, hs, hw, hm⟩, -⟩ := id hR
  unfold fX7_raw fX8_raw
  rw [isField7 hg, zb1_s, ite10, isField8 hw, zb1_s, ite10, heldBy7 hg hw]
  cases e : isF (τ.1 1) p1 p2 with
  | false => exact ⟨_, rfl, rfl, hR⟩
  | true =>
    obtain ⟨c, i, hc, hi, rfl, rfl, hbt, hsz⟩ := isF_of hw e
    simp only [jn, if_true, rd_fld hc hi, zb1_s, rd_92c hc, fldN_nI hc hi]
    unfold fX2_isTurned fX2_backFrom
    have e92 : σ.1 (8 + 2) c = τ.1 1 (92 + c) := by
      obtain ⟨-, -, -, -, -, -, -, -, -, -, -, -, -, g13⟩ := hk
      exact g13 c hc trivial
    rcases turn7 hk hm (nI c) with ⟨j, hj, hj24, ep, et⟩ | ⟨hn, et⟩
    · rcases turn8 hm (nI c) with ⟨j', hj', hj24', et'⟩ | ⟨hn', -⟩
      · have := wT_u hm hj hj'
        subst this
        rw [et, et', ep, cnt7 hc, zb1_s, zb1_s, zb1_s, zb1_s, if_neg (by decide), if_neg (nI_nneg (by omega)), e92]
        by_cases g : τ.1 1 (92 + c) = nI i
        · rw [if_pos g, if_pos g, zb1_s, if_neg (by decide), rd_3]
          obtain ⟨h2, lim, d, hl, hd, e3, e6, f3, f4, f5⟩ := hj
          rcases dep7 hk hm with ⟨h2', -⟩ | ⟨-, lim', d', hl', hd', e3', e6', h7, h5, hf⟩
          · exact absurd (h2'.symm.trans h2) (by decide)
          have ed : d' = d := (nI_eq (by omega) (by omega)).mp (e6'.symm.trans e6)
          have el : lim' = lim := (nI_eq (by omega) (by omega)).mp (e3'.symm.trans e3)
          subst ed
          subst el
          rw [e3]
          unfold fX2_turnedAt
          rw [h7, h5]
          by_cases ej : j = lim'
          · subst ej
            rw [if_pos rfl]
            refine ⟨-5, ?_, rfl, hR⟩
            rcases Nat.eq_zero_or_pos j with h0 | h0
            · subst h0
              rw [if_pos (show nI 0 - 1 < 0 by decide)]
              rfl
            · rw [show nI j - 1 = nI (j - 1) from pk_sub (b := 1) h0, if_neg (nI_nneg (by omega)), if_pos (nI_lt (by omega) (by omega))]
              rfl
          · rw [if_neg (fun q => ej ((nI_eq (by omega) (by omega)).mp q)), show nI j - 1 = nI (j - 1) from pk_sub (b := 1) (by omega), if_neg (nI_nneg (by omega)), if_neg (nI_nlt (by omega) (by omega)), if_neg (nI_ge (by omega) (by omega)), if_neg (show ¬ (24 : Int32) ≤ nI (j - 1) from nI_n24 (by omega)), if_neg (by decide), rd24 (by omega), zb1_s, hf (j - 1) (by omega), show (116 : Int32) + nI j - 1 = nI (116 + (j - 1)) from by rw [show (116 : Int32) = nI 116 from rfl, nI_add, show (1 : Int32) = nI 1 from rfl, pk_sub (by omega), show 116 + j - 1 = 116 + (j - 1) by omega], rd_nI (by omega) (by decide)]
            exact ⟨_, rfl, rfl, hR⟩
        · rw [if_neg g, if_neg g, zb1_s, if_pos rfl]
          exact ⟨_, rfl, rfl, hR⟩
      · exact absurd hj (hn' j)
    · rcases turn8 hm (nI c) with ⟨j', hj', -⟩ | ⟨-, et'⟩
      · exact absurd hj' (hn j')
      · rw [et, et', zb1_s, zb1_s, if_pos rfl, zb1_s, if_pos rfl, if_pos (by decide)]
        exact ⟨_, rfl, rfl, hR⟩
theorem flag_bit {x : Int32} {c : Nat} (hc : c < 24) : fX8_flag (fX8_bit x (nI c)) = fX7_asNumber (fX7_has x (nI c)) := by
  rw [flag_as, bit8_eq _ (by omega), has_eq, hasN_nI hc]
/-- the pins alone -/
theorem rel_P {σ τ : zkS} (hR : zRel σ τ) {v : Int32} (hv : ∀ n, τ.1 1 0 = nI n → n ≤ 24 → ∀ i, bt v i = true → i < n) : zRel (zsi σ 2 2 v) (zsi τ 1 14 v) := by
  obtain ⟨⟨hg, hk, hs, hw, hm⟩, -⟩ := id hR
  refine rel_now hR ⟨?_, ?_, ?_, ?_, ?_⟩ (fun a h => si_row _ _ (by omega)) rfl rfl (fun a h => si_row _ _ h) rfl
  · obtain ⟨g0, g1, g2, g3, g4, g5⟩ := hg
    exact ⟨g0, g1, rfl, fun c hc => by rw [si_ne _ _ (Or.inr (show 20 + c ≠ 14 by omega)), si_ne _ _ (Or.inr (show 44 + c ≠ 14 by omega)), si_ne τ _ (Or.inr (show 68 + c ≠ 14 by omega))]; exact g3 c hc, fun c i hc hb hi hs => by
      rw [si_ne _ _ (Or.inr (show 140 + 6 * c + i ≠ 14 by omega))]
      rw [si_ne _ _ (Or.inr (show 68 + c ≠ 14 by omega))] at hs
      exact g4 c i hc hb hi hs, fun r hr => by rw [si_ne τ _ (Or.inr (show 16 + r ≠ 14 by omega))]; exact g5 r hr⟩
  · exact rK_c (fun a h1 h2 => si_row _ _ (by omega)) (fun j hj => si_ne _ _ (Or.inr (by unfold iK at hj; omega))) hk
  · exact rS_c (fun a h1 h2 => si_row _ _ (by omega)) (fun j hj => si_ne _ _ (Or.inr (by unfold iS at hj; omega))) hs
  · obtain ⟨⟨n, hn, h0, h1, h2⟩, h3, h4, h5⟩ := hw
    exact ⟨⟨n, hn, h0, h1, hv n h0 hn⟩, fun c hc => by
      rw [si_ne _ _ (Or.inr (show 20 + c ≠ 14 by omega)), si_ne _ _ (Or.inr (show 44 + c ≠ 14 by omega)), si_ne τ _ (Or.inr (show 68 + c ≠ 14 by omega))]
      exact h3 c hc, fun c i hc hb hi hs => by
      rw [si_ne τ _ (Or.inr (show 140 + 6 * c + i ≠ 14 by omega))]
      rw [si_ne _ _ (Or.inr (show 68 + c ≠ 14 by omega))] at hs
      exact h4 c i hc hb hi hs, fun r hr => by rw [si_ne τ _ (Or.inr (show 16 + r ≠ 14 by omega))]; exact h5 r hr⟩
  · exact wK_c (fun j hj => si_ne _ _ (Or.inr (by unfold iK at hj; omega))) hm
theorem T_pin {σ τ : zkS} (hR : zRel σ τ) (p1 : Int32) (p2 : Int32) : ∃ (r : Int32) (σ1 : zkS) (τ1 : zkS), fX7_pin p1 p2 σ = some (r, σ1) ∧ fX8_pin p1 p2 τ = some (r, τ1) ∧ zRel σ1 τ1 := by
  obtain ⟨⟨hg, hk, hs, hw, hm⟩, -⟩ := id hR
  unfold fX7_pin fX8_pin
  rw [there7, ite10, there8, zb1_s, ite10, show σ.1 2 1 = τ.1 1 1 from hg.2.1, show σ.1 2 2 = τ.1 1 14 from hg.2.2.1]
  cases e : hasN (τ.1 1 1) p1 with
  | false => exact ⟨_, _, _, rfl, rfl, hR⟩
  | true =>
    obtain ⟨c, hc, rfl, hbt⟩ := hasN_of e
    rw [if_pos rfl, if_pos rfl]
    rcases turn7 hk hm (nI c) with ⟨j, hj, hj24, ep, et⟩ | ⟨hn, et⟩
    · rcases turn8 hm (nI c) with ⟨j', hj', hj24', et'⟩ | ⟨hn', -⟩
      · rw [et, et', zb1_s, zb1_s, if_neg (by decide), if_neg (nI_nneg (by omega))]
        exact ⟨_, _, _, rfl, rfl, hR⟩
      · exact absurd hj (hn' j)
    · rcases turn8 hm (nI c) with ⟨j', hj', -⟩ | ⟨-, et'⟩
      · exact absurd hj' (hn j')
      · obtain ⟨n, hnn, h0, h1, h2⟩ := hw.1
        rw [et, et', zb1_s, zb1_s, if_pos rfl, if_pos (by decide), rd_14, bit_nI hc]
        simp only [zlt, rd_14, wr_14, flag_bit hc]
        by_cases g : p2 = 0
        · rw [if_pos g, if_pos g]
          refine ⟨_, zsi σ 2 2 (τ.1 1 14 &&& ((1 <<< (nI c &&& 31)) ^^^ (-1))), _, ?_, rfl, rel_P hR ?_⟩
          · rfl
          · intro n' h0' hn' i hb
            have : n' = n := (nI_eq (by omega) (by omega)).mp (h0'.symm.trans h0)
            subst this
            rw [b_and, Bool.and_eq_true] at hb
            exact h2 i hb.1
        · rw [if_neg g, if_neg g]
          refine ⟨_, zsi σ 2 2 (τ.1 1 14 ||| (1 <<< (nI c &&& 31))), _, ?_, rfl, rel_P hR ?_⟩
          · rfl
          · intro n' h0' hn' i hb
            have : n' = n := (nI_eq (by omega) (by omega)).mp (h0'.symm.trans h0)
            subst this
            rw [b_or, bt_one (by omega), Bool.or_eq_true, decide_eq_true_eq] at hb
            rcases hb with hb | hb
            · exact h2 i hb
            · rw [hb]
              exact h1 c hbt
