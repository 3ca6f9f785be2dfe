/-! ===== calls that read or write single places ===== -/
theorem T_field {σ τ : zkS} (hR : zRel σ τ) (p1 : Int32) (p2 : Int32) : ∃ (r : Int32), fX7_field p1 p2 σ = some r ∧ fX8_field p1 p2 τ = some r ∧ zRel σ τ := by
  obtain ⟨⟨hg, hk, hs, hw, hm⟩, -⟩ := id hR
  refine ⟨if isF (τ.1 1) p1 p2 then fldN (τ.1 1) p1 p2 else -1, ?_, ?_, hR⟩
  · unfold fX7_field
    rw [isField7 hg, zb1_s, ite10, heldBy7 hg hw, zb1_s]
    cases isF (τ.1 1) p1 p2 <;> rfl
  · unfold fX8_field
    rw [isField8 hw, zb1_s, ite10]
    cases e : isF (τ.1 1) p1 p2 with
    | false => rfl
    | true =>
      obtain ⟨c, k, hc, hk, rfl, rfl, hb, hs⟩ := isF_of hw e
      rw [if_pos rfl, if_pos rfl, rd_fld hc hk, fldN_nI hc hk]
theorem T_count {σ τ : zkS} (hR : zRel σ τ) (p1 : Int32) : ∃ (r : Int32), fX7_count p1 σ = r ∧ fX8_count p1 τ = some r ∧ zRel σ τ := by
  obtain ⟨⟨hg, hk, hs, hw, hm⟩, -, ⟨n, hn, hx1, hx2, -⟩, -⟩ := id hR
  refine ⟨_, rfl, ?_, hR⟩
  unfold fX7_count fX8_count
  rw [rd_0, rd_299, rd_320, rd_345, show σ.1 2 0 = τ.1 1 0 from hg.1, show σ.1 11 0 = τ.1 1 299 from hs.1.1, show σ.1 13 0 = τ.1 1 320 from hs.2.1.1, show σ.1 15 0 = τ.1 1 345 from hs.2.2.1, hx1, hx2]
  repeat' split
  all_goals rfl
theorem ton7 {σ : zkS} (b : Nat) (p : Int32) : fX0_isThereOrNothing b p σ = if p = -1 ∨ hasN (σ.1 b 1) p = true then 1 else 0 := by
  unfold fX0_isThereOrNothing
  rw [there7]
  by_cases h : p = -1
  · rw [if_pos h, if_pos (Or.inl h)]
  · rw [if_neg h, ite10]
    cases e : hasN (σ.1 b 1) p with
    | false => rw [if_neg (by decide), if_neg (fun q => q.elim h (by decide))]
    | true => rw [if_pos rfl, if_pos (Or.inr rfl)]
theorem tag_eq (p : Int32) : fX7_isTag p = if p < 0 ∨ nI 9 < p then 0 else 1 := by
  unfold fX7_isTag
  by_cases h : p < 0
  · rw [if_pos h, if_pos (Or.inl h)]
  · rw [if_neg h]
    have e : (10 : Int32) ≤ p ↔ nI 9 < p := by
      rw [Int32.lt_iff_toInt_lt, Int32.le_iff_toInt_le, show (10 : Int32).toInt = 10 from by decide, show (nI 9).toInt = 9 from by decide]
      omega
    by_cases g : (10 : Int32) ≤ p
    · rw [if_pos g, if_pos (Or.inr (e.mp g))]
    · rw [if_neg g, if_neg (fun q => q.elim h (fun q => g (e.mpr q)))]
theorem root_eq (p : Int32) : fX7_isRoot p = if p < 0 ∨ nI 3 < p then 0 else 1 := by
  unfold fX7_isRoot
  by_cases h : p < 0
  · rw [if_pos h, if_pos (Or.inl h)]
  · rw [if_neg h]
    have e : (4 : Int32) ≤ p ↔ nI 3 < p := by
      rw [Int32.lt_iff_toInt_lt, Int32.le_iff_toInt_le, show (4 : Int32).toInt = 4 from by decide, show (nI 3).toInt = 3 from by decide]
      omega
    by_cases g : (4 : Int32) ≤ p
    · rw [if_pos g, if_pos (Or.inr (e.mp g))]
    · rw [if_neg g, if_neg (fun q => q.elim h (fun q => g (e.mpr q)))]
/-- a number in 0 .. n -/
theorem rng {p : Int32} {n : Nat} (hn : n < 2 ^ 30) (h : ¬ (p < 0 ∨ nI n < p)) : ∃ k, k ≤ n ∧ p = nI k := by
  rcases pk_ix p (n := n + 1) (by omega) with q | q | ⟨k, hk, e⟩
  · exact absurd (Or.inl q) h
  · refine absurd (Or.inr ?_) h
    rw [Int32.lt_iff_toInt_lt]
    rw [Int32.le_iff_toInt_le] at q
    rw [nI_toInt (by omega)] at q ⊢
    omega
  · exact ⟨k, by omega, e⟩
/-- what a row's place may be told to hold -/
def vN (p : Int32) : Int32 := if p = -1 then -5 else p
theorem orE (p : Int32) : fX7_orEmpty p = vN p := rfl
theorem hC_v {s p : Int32} (h : p = -1 ∨ hasN s p = true) : hC s (vN p) := by
  unfold vN
  by_cases e : p = -1
  · rw [if_pos e]
    exact Or.inl rfl
  · rw [if_neg e]
    obtain ⟨c, hc, rfl, hb⟩ := hasN_of (h.resolve_left e)
    exact Or.inr ⟨c, hc, rfl, hb⟩
theorem runs_01 {w : Nat → Int32} (hm : wK w) {α : Type} (A B : α) : (if w 2 = 1 then A else B) = if w 2 = 0 then B else A := by
  rcases hm.1 with h | h <;> rw [h] <;> rfl
/-- the model's two ways to a value -/
theorem vN_if {α : Type} (p : Int32) (F : Int32 → α) : (if p = -1 then F (-5) else F p) = F (vN p) := by
  unfold vN
  by_cases e : p = -1
  · rw [if_pos e, if_pos e]
  · rw [if_neg e, if_neg e]
/-- behind a write of a field, a tag or a root while no marking runs -/
theorem rel_un {σ σ' τ τ' : zkS} (hR : zRel σ τ) (h2 : τ.1 1 2 = 0) (hg : rG σ' 2 (τ'.1 1)) (hw : wG (τ'.1 1)) (hw' : ∀ j, iK j → j ≠ 15 → ¬ (16 ≤ j ∧ j < 20) → τ'.1 1 j = τ.1 1 j) (h15 : τ'.1 1 15 = 0) (hs : ∀ j, iS j → τ'.1 1 j = τ.1 1 j) (hk : ∀ j, j ≠ 1 → σ'.1 8 j = σ.1 8 j) (hk1 : σ'.1 8 1 = 0)
    (hσ : ∀ a, 9 ≤ a → σ'.1 a = σ.1 a) (h0 : σ'.1 0 = σ.1 0) (hj : σ'.2 = σ.2) (hτ : ∀ a, a ≠ 1 → τ'.1 a = τ.1 a) (hi : τ'.2 = τ.2) : zRel σ' τ' := by
  obtain ⟨⟨g, k, s, w, m⟩, i, x, t⟩ := hR
  refine ⟨⟨hg, rK_un hk hk1 (hσ 9 (by omega)) (hσ 10 (by omega)) hw' h15 k, rS_c (fun a h1 h2 => hσ a (by omega)) hs s, hw, wK_un hw' h15 h2 m⟩, rI_c (fun a h1 h2 => hσ a (by omega)) (by rw [h0]) (by rw [hτ 0 (by omega)]) (hτ 3 (by omega)) i, rX_c (by rw [hσ 44 (by omega)]) (hσ 45 (by omega)) (by rw [hτ 0 (by omega)]) (hτ 4 (by omega)) x, rT_c (hσ 50 (by omega)) (hσ 51 (by omega)) (hτ 12 (by omega)) (hτ 13 (by omega)) hj hi t⟩
theorem T_hold {σ τ : zkS} (hR : zRel σ τ) (p1 : Int32) (p2 : Int32) (p3 : Int32) : ∃ (r : Int32) (σ1 : zkS) (τ1 : zkS), fX7_hold p1 p2 p3 σ = some (r, σ1) ∧ fX8_hold p1 p2 p3 τ = some (r, τ1) ∧ zRel σ1 τ1 := by
  obtain ⟨⟨hg, hk, hs, hw, hm⟩, -⟩ := id hR
  have e7 : fX7_hold p1 p2 p3 σ = if isF (τ.1 1) p1 p2 then (if p3 = -1 ∨ hasN (τ.1 1 1) p3 = true then (if τ.1 1 2 = 0 then zb1 (fX0_putInto 2 p1 p2 (vN p3) σ) (fun s5 => some (fldN (τ.1 1) p1 p2, zsi s5 8 1 0)) else some (-3, σ)) else some (-1, σ)) else some (-1, σ) := by
    unfold fX7_hold
    rw [isField7 hg, zb1_s, ite10, ton7, ite10, heldBy7 hg hw, zb1_s, show σ.1 8 0 = τ.1 1 2 from hk.1, show σ.1 2 1 = τ.1 1 1 from hg.2.1, orE]
    cases isF (τ.1 1) p1 p2 <;> rfl
  have e8 : fX8_hold p1 p2 p3 τ = if isF (τ.1 1) p1 p2 then (if p3 = -1 ∨ hasN (τ.1 1 1) p3 = true then (if τ.1 1 2 = 0 then zrd τ 1 346 ((140 + (6 * p1)) + p2) (fun v5 => zwr τ 1 346 ((140 + (6 * p1)) + p2) (vN p3) (fun s6 => some (v5, zsi s6 1 15 0))) else some (-3, τ)) else some (-1, τ)) else some (-1, τ) := by
    unfold fX8_hold
    rw [isField8 hw, zb1_s, ite10]
    simp only [jn, there8, zb1_s, ite10, rd_2, wr_15, runs_01 hm]
    cases isF (τ.1 1) p1 p2 with
    | false => rfl
    | true =>
      rw [if_pos rfl, if_pos rfl]
      by_cases h : p3 = -1
      · rw [if_pos (Or.inl h), show vN p3 = -5 from if_pos h]
        simp only [if_pos h]
      · rw [show vN p3 = p3 from if_neg h]
        simp only [if_neg h]
        cases e : hasN (τ.1 1 1) p3 with
        | false => rw [if_neg (by decide), if_neg (fun q => q.elim h (by decide))]
        | true => rw [if_pos rfl, if_pos (Or.inr rfl)]
  rw [e7, e8]
  cases e : isF (τ.1 1) p1 p2 with
  | false => exact ⟨_, _, _, rfl, rfl, hR⟩
  | true =>
    rw [if_pos rfl, if_pos rfl]
    by_cases h3 : p3 = -1 ∨ hasN (τ.1 1 1) p3 = true
    · rw [if_pos h3, if_pos h3]
      by_cases h2 : τ.1 1 2 = 0
      · rw [if_pos h2, if_pos h2]
        obtain ⟨c, k, hc, hk6, rfl, rfl, hb, hsz⟩ := isF_of hw e
        rw [rd_fld hc hk6, wr_fld hc hk6]
        unfold fX0_putInto
        rw [isField7 hg, e, zb1_s, if_pos rfl, if_neg (by decide), wr_hld hc hk6, zb1_s, fldN_nI hc hk6]
        have hv := hC_v h3
        refine ⟨_, _, _, rfl, rfl, rel_un hR h2 ?_ ?_ ?_ ?_ ?_ ?_ ?_ ?_ ?_ rfl ?_ rfl⟩
        · rw [si_w, si_w]
          refine rG_c (σ := zsi σ 6 (6 * c + k) (vN p3)) (w := wu (τ.1 1) (140 + 6 * c + k) (vN p3)) (fun a h1 h2 => si_row _ _ (by omega)) (fun j hj => wu_ne _ _ (by unfold iG at hj; omega)) (rG_fld hc hk6 hg)
        · rw [si_w, si_w]
          exact wG_c (fun j hj => wu_ne _ _ (by unfold iG at hj; omega)) (wG_fld hc hk6 hv hw)
        · intro j hj h15 _
          rw [si_w, si_w, wu_ne _ _ h15, wu_ne _ _ (by unfold iK at hj; omega)]
        · rw [si_w, wu_eq]
        · intro j hj
          rw [si_w, si_w, wu_ne _ _ (by unfold iS at hj; omega), wu_ne _ _ (by unfold iS at hj; omega)]
        · intro j hj
          rw [si_ne _ _ (Or.inr hj), si_ne _ _ (by omega)]
        · rw [si_eq]
        · intro a ha
          rw [si_row _ _ (by omega), si_row _ _ (by omega)]
        · rw [si_row _ _ (by omega), si_row _ _ (by omega)]
        · intro a ha
          rw [si_row _ _ ha, si_row _ _ ha]
      · rw [if_neg h2, if_neg h2]
        exact ⟨_, _, _, rfl, rfl, hR⟩
    · rw [if_neg h3, if_neg h3]
      exact ⟨_, _, _, rfl, rfl, hR⟩
theorem T_root {σ τ : zkS} (hR : zRel σ τ) (p1 : Int32) (p2 : Int32) : ∃ (r : Int32) (σ1 : zkS) (τ1 : zkS), fX7_root p1 p2 σ = some (r, σ1) ∧ fX8_root p1 p2 τ = some (r, τ1) ∧ zRel σ1 τ1 := by
  obtain ⟨⟨hg, hk, hs, hw, hm⟩, -⟩ := id hR
  unfold fX7_root fX8_root
  rw [root_eq, ite01, in_0 (b := 3) p1 3 (by decide), ite01]
  by_cases h1 : p1 < 0 ∨ nI 3 < p1
  · rw [if_pos h1, if_pos h1]
    exact ⟨_, _, _, rfl, rfl, hR⟩
  · rw [if_neg h1, if_neg h1]
    obtain ⟨q, hq, rfl⟩ := rng (by decide) h1
    have hq4 : q < 4 := by omega
    rw [ton7, ite10, show σ.1 2 1 = τ.1 1 1 from hg.2.1, show σ.1 8 0 = τ.1 1 2 from hk.1]
    have e8 : (if p2 = -1 then (fun (u3 : Unit) => zrd τ 1 346 2 (fun (v4 : Int32) => (if v4 = 1 then some ((-3 : Int32), τ) else zrd τ 1 346 (16 + nI q) (fun (v5 : Int32) => (if p2 = (-1) then zwr τ 1 346 (16 + nI q) (-5) (fun (s6 : zkS) => zwr s6 1 346 15 0 (fun (s7 : zkS) => some (v5, s7))) else zwr τ 1 346 (16 + nI q) p2 (fun (s8 : zkS) => zwr s8 1 346 15 0 (fun (s9 : zkS) => some (v5, s9)))))))) () else zb1 (fX8_isThere p2 τ) (fun (v10 : Int32) => (if v10 = 0 then some ((-1), τ) else (fun (u3 : Unit) => zrd τ 1 346 2 (fun (v4 : Int32) => (if v4 = 1 then some ((-3 : Int32), τ) else zrd τ 1 346 (16 + nI q) (fun (v5 : Int32) => (if p2 = (-1) then zwr τ 1 346 (16 + nI q) (-5) (fun (s6 : zkS) => zwr s6 1 346 15 0 (fun (s7 : zkS) => some (v5, s7))) else zwr τ 1 346 (16 + nI q) p2 (fun (s8 : zkS) => zwr s8 1 346 15 0 (fun (s9 : zkS) => some (v5, s9)))))))) ()))) = if p2 = -1 ∨ hasN (τ.1 1 1) p2 = true then (if τ.1 1 2 = 0 then some (τ.1 1 (16 + q), zsi (zsi τ 1 (16 + q) (vN p2)) 1 15 0) else some (-3, τ)) else some (-1, τ) := by
      simp only [there8, zb1_s, ite10, rd_2, wr_15, runs_01 hm, rd_16c hq4, wr_16c hq4]
      by_cases h : p2 = -1
      · rw [if_pos (show p2 = -1 ∨ _ from Or.inl h), show vN p2 = -5 from if_pos h]
        simp only [if_pos h]
      · rw [show vN p2 = p2 from if_neg h]
        simp only [if_neg h]
        cases e : hasN (τ.1 1 1) p2 with
        | false => rw [if_neg (by decide), if_neg (fun q => q.elim h (by decide))]
        | true => rw [if_pos rfl, if_pos (Or.inr rfl)]
    rw [jn, e8]
    by_cases h3 : p2 = -1 ∨ hasN (τ.1 1 1) p2 = true
    · rw [if_pos h3, if_pos h3]
      by_cases h2 : τ.1 1 2 = 0
      · rw [if_pos h2, if_pos h2]
        unfold fX0_heldByRoot fX0_putIntoRoot
        rw [root_eq, ite01, if_neg h1, rd_nI (i := q) hq4 (by decide), zb1_s, ite01, if_neg h1, wr_nI (i := q) hq4 (by decide), zb1_s, orE, show σ.1 (2 + 5) q = τ.1 1 (16 + q) from hg.2.2.2.2.2 q hq4]
        have hv := hC_v h3
        refine ⟨_, _, _, rfl, rfl, rel_un hR h2 ?_ ?_ ?_ ?_ ?_ ?_ ?_ ?_ ?_ rfl ?_ rfl⟩
        · rw [si_w, si_w]
          exact rG_c (σ := zsi σ 7 q (vN p2)) (w := wu (τ.1 1) (16 + q) (vN p2)) (fun a h1 h2 => si_row _ _ (by omega)) (fun j hj => wu_ne _ _ (by unfold iG at hj; omega)) (rG_root hq4 hg)
        · rw [si_w, si_w]
          exact wG_c (fun j hj => wu_ne _ _ (by unfold iG at hj; omega)) (wG_root hq4 hv hw)
        · intro j hj h15 h16
          rw [si_w, si_w, wu_ne _ _ h15, wu_ne _ _ (by omega)]
        · rw [si_w, wu_eq]
        · intro j hj
          rw [si_w, si_w, wu_ne _ _ (by unfold iS at hj; omega), wu_ne _ _ (by unfold iS at hj; omega)]
        · intro j hj
          rw [si_ne _ _ (Or.inr hj), si_ne _ _ (by omega)]
        · exact si_eq _ _ _ _
        · intro a ha
          show (zsi (zsi σ 7 q (vN p2)) 8 1 0).1 a = _
          rw [si_row _ _ (by omega), si_row _ _ (by omega)]
        · show (zsi (zsi σ 7 q (vN p2)) 8 1 0).1 0 = _
          rw [si_row _ _ (by omega), si_row _ _ (by omega)]
        · intro a ha
          rw [si_row _ _ ha, si_row _ _ ha]
      · rw [if_neg h2, if_neg h2]
        exact ⟨_, _, _, rfl, rfl, hR⟩
    · rw [if_neg h3, if_neg h3]
      exact ⟨_, _, _, rfl, rfl, hR⟩
theorem T_tag {σ τ : zkS} (hR : zRel σ τ) (p1 : Int32) (p2 : Int32) : ∃ (r : Int32) (σ1 : zkS) (τ1 : zkS), fX7_tag p1 p2 σ = some (r, σ1) ∧ fX8_tag p1 p2 τ = some (r, τ1) ∧ zRel σ1 τ1 := by
  obtain ⟨⟨hg, hk, hs, hw, hm⟩, -⟩ := id hR
  unfold fX7_tag fX8_tag
  rw [there7, ite10, there8, zb1_s, ite10, tag_eq, ite01, in_0 (b := 9) p2 9 (by decide), ite01, show σ.1 2 1 = τ.1 1 1 from hg.2.1, show σ.1 8 0 = τ.1 1 2 from hk.1, rd_2, runs_01 hm]
  cases e : hasN (τ.1 1 1) p1 with
  | false => exact ⟨_, _, _, rfl, rfl, hR⟩
  | true =>
    rw [if_pos rfl, if_pos rfl]
    by_cases h1 : p2 < 0 ∨ nI 9 < p2
    · rw [if_pos h1, if_pos h1]
      exact ⟨_, _, _, rfl, rfl, hR⟩
    · rw [if_neg h1, if_neg h1]
      by_cases h2 : τ.1 1 2 = 0
      · rw [if_pos h2, if_pos h2]
        obtain ⟨t, ht, rfl⟩ := rng (by decide) h1
        obtain ⟨c, hc, rfl, hb⟩ := hasN_of e
        rw [rd_44c hc, wr_44c hc, wr_15]
        unfold fX0_tagOf fX0_retag
        rw [there7, ite10, show σ.1 2 1 = τ.1 1 1 from hg.2.1, e, if_pos rfl, rd24 hc, zb1_s, ite10, if_pos rfl, wr24 hc, zb1_s, show σ.1 (2 + 2) c = τ.1 1 (44 + c) from (hg.2.2.2.1 c hc).2.1]
        refine ⟨_, _, _, rfl, rfl, rel_un hR h2 ?_ ?_ ?_ ?_ ?_ ?_ ?_ ?_ ?_ rfl ?_ rfl⟩
        · rw [si_w, si_w]
          exact rG_c (σ := zsi σ 4 c (nI t)) (w := wu (τ.1 1) (44 + c) (nI t)) (fun a h1 h2 => si_row _ _ (by omega)) (fun j hj => wu_ne _ _ (by unfold iG at hj; omega)) (rG_tag hc hg)
        · rw [si_w, si_w]
          exact wG_c (fun j hj => wu_ne _ _ (by unfold iG at hj; omega)) (wG_tag hc ht hw)
        · intro j hj h15 h16
          rw [si_w, si_w, wu_ne _ _ h15, wu_ne _ _ (by unfold iK at hj; omega)]
        · rw [si_w, wu_eq]
        · intro j hj
          rw [si_w, si_w, wu_ne _ _ (by unfold iS at hj; omega), wu_ne _ _ (by unfold iS at hj; omega)]
        · intro j hj
          show (zsi (zsi σ 4 c (nI t)) 8 1 0).1 8 j = _
          rw [si_ne _ _ (Or.inr hj), si_ne _ _ (by omega)]
        · exact si_eq _ _ _ _
        · intro a ha
          show (zsi (zsi σ 4 c (nI t)) 8 1 0).1 a = _
          rw [si_row _ _ (by omega), si_row _ _ (by omega)]
        · show (zsi (zsi σ 4 c (nI t)) 8 1 0).1 0 = _
          rw [si_row _ _ (by omega), si_row _ _ (by omega)]
        · intro a ha
          rw [si_row _ _ ha, si_row _ _ ha]
      · rw [if_neg h2, if_neg h2]
        exact ⟨_, _, _, rfl, rfl, hR⟩
