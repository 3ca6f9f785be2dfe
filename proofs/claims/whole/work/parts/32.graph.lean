/-! ===== fields ===== -/
def isF (w : Nat → Int32) (p i : Int32) : Bool := hasN (w 1) p && (decide (¬ i < 0) && decide (¬ w (68 + p.toNatClampNeg) ≤ i))
def fldN (w : Nat → Int32) (p i : Int32) : Int32 := w (140 + 6 * p.toNatClampNeg + i.toNatClampNeg)
theorem size_of {w : Nat → Int32} (hg : wG w) {c : Nat} (h : c < 24) : ∃ s, s ≤ 6 ∧ w (68 + c) = nI s := (hg.2.1 c h).2.2.1
theorem isF_of {w : Nat → Int32} (hg : wG w) {p i : Int32} (h : isF w p i = true) : ∃ c k, c < 24 ∧ k < 6 ∧ p = nI c ∧ i = nI k ∧ bt (w 1) c = true ∧ nI k < w (68 + c) := by
  unfold isF at h
  simp only [Bool.and_eq_true, decide_eq_true_eq] at h
  obtain ⟨h1, h2, h3⟩ := h
  obtain ⟨c, hc, rfl, hb⟩ := hasN_of h1
  obtain ⟨s, hs, es⟩ := size_of hg hc
  rw [nI_clamp (by omega), es] at h3
  rcases pk_ix i (n := s) (by omega) with q | q | ⟨k, hk, rfl⟩
  · exact absurd q h2
  · exact absurd q h3
  · exact ⟨c, k, hc, by omega, rfl, rfl, hb, by rw [es]; exact nI_lt hk (by omega)⟩
theorem isF_nI {w : Nat → Int32} {c k : Nat} (hc : c < 24) (hk : k < 2 ^ 31) : isF w (nI c) (nI k) = (bt (w 1) c && decide (¬ w (68 + c) ≤ nI k)) := by
  unfold isF
  rw [hasN_nI hc, decide_eq_true (nI_nneg hk), Bool.true_and, nI_clamp (by omega)]
theorem fldN_nI {w : Nat → Int32} {c k : Nat} (hc : c < 24) (hk : k < 6) : fldN w (nI c) (nI k) = w (140 + 6 * c + k) := by
  unfold fldN
  rw [nI_clamp (by omega), nI_clamp (by omega)]
theorem jn {γ β : Type} (T : γ) (B : γ → β) : zjn T B = B T := rfl
theorem rd24 {β : Type} {σ : zkS} {a c : Nat} {F : Int32 → Option β} (h : c < 24) : zrd σ a 24 (nI c) F = F (σ.1 a c) := rd_nI h (by decide)
theorem wr24 {β : Type} {σ : zkS} {a c : Nat} {v : Int32} {F : zkS → Option β} (h : c < 24) : zwr σ a 24 (nI c) v F = F (zsi σ a c v) := wr_nI h (by decide)
theorem size7 {σ : zkS} {b : Nat} {w : Nat → Int32} (h : rG σ b w) (p : Int32) : fX0_sizeOf b p σ = some (if hasN (w 1) p then w (68 + p.toNatClampNeg) else 0) := by
  unfold fX0_sizeOf
  rw [has_eq, ite10, h.2.1]
  cases e : hasN (w 1) p with
  | false => rw [if_neg (by decide), if_neg (by decide)]
  | true =>
    rw [if_pos rfl, if_pos rfl]
    obtain ⟨c, hc, rfl, hb⟩ := hasN_of e
    rw [rd24 hc, (h.2.2.2.1 c hc).2.2, nI_clamp (by omega)]
theorem isField7 {σ : zkS} {b : Nat} {w : Nat → Int32} (h : rG σ b w) (p i : Int32) : fX0_isField b p i σ = some (if isF w p i then 1 else 0) := by
  unfold fX0_isField
  simp only [jn, if_true]
  rcases ix24 p with q | q | ⟨c, hc, rfl⟩
  · rw [if_pos q]
    unfold isF
    rw [hasN_lt q, Bool.false_and]
    rfl
  · unfold isF
    rw [hasN_ge q, Bool.false_and]
    by_cases g : p < 0
    · rw [if_pos g]
      rfl
    · rw [if_neg g, if_pos q]
      rfl
  · rw [if_neg (nI_nneg (by omega)), if_neg (nI_n24 hc), bt_sh _ (by omega), ite10, h.2.1]
    unfold isF
    rw [hasN_nI hc, nI_clamp (by omega)]
    cases e : bt (w 1) c with
    | false => rfl
    | true =>
      rw [if_pos rfl, if_neg (by decide), rd24 hc, (h.2.2.2.1 c hc).2.2, Bool.true_and]
      by_cases g : i < 0
      · rw [if_pos g, decide_eq_false (fun q => q g), Bool.false_and]
        rfl
      · rw [if_neg g, decide_eq_true g, Bool.true_and]
        by_cases k : w (68 + c) ≤ i
        · rw [if_pos k, decide_eq_false (fun q => q k)]
          rfl
        · rw [if_neg k, decide_eq_true k]
          rfl
theorem sub1_lt {s : Nat} (hs : s < 2 ^ 30) (i : Int32) : (nI s - 1 < i) ↔ nI s ≤ i := by
  rw [Int32.lt_iff_toInt_lt, Int32.le_iff_toInt_le, show (nI s - 1).toInt = (s : Int) - (1 : Nat) from pk_sub_toInt hs (by decide), nI_toInt (by omega)]
  omega
theorem isField8 {τ : zkS} (hg : wG (τ.1 1)) (p i : Int32) : fX8_isField p i τ = some (if isF (τ.1 1) p i then 1 else 0) := by
  unfold fX8_isField
  rw [there8, zb1_s, ite10]
  unfold isF
  cases e : hasN (τ.1 1 1) p with
  | false => rfl
  | true =>
    rw [if_pos rfl, Bool.true_and]
    obtain ⟨c, hc, rfl, hb⟩ := hasN_of e
    rw [rd_68c hc, nI_clamp (by omega)]
    obtain ⟨s, hs, es⟩ := size_of hg hc
    rw [es, show (0 : Int64) = (0 : Int32).toInt64 from by decide, in_eq, ite01]
    by_cases g : i < 0
    · rw [if_pos (Or.inl g), decide_eq_false (fun q => q g), Bool.false_and]
      rfl
    · rw [decide_eq_true g, Bool.true_and]
      by_cases k : nI s ≤ i
      · rw [if_pos (Or.inr ((sub1_lt (by omega) i).mpr k)), decide_eq_false (fun q => q k)]
        rfl
      · rw [if_neg (fun q => q.elim g (fun q => k ((sub1_lt (by omega) i).mp q))), decide_eq_true k]
        rfl
theorem heldBy7 {σ : zkS} {b : Nat} {w : Nat → Int32} (h : rG σ b w) (hg : wG w) (p i : Int32) : fX0_heldBy b p i σ = some (if isF w p i then fldN w p i else -5) := by
  unfold fX0_heldBy
  rw [isField7 h, zb1_s, ite10]
  cases e : isF w p i with
  | false => rfl
  | true =>
    rw [if_pos rfl, if_pos rfl]
    obtain ⟨c, k, hc, hk, rfl, rfl, hb, hs⟩ := isF_of hg e
    rw [rd_hld hc hk, h.2.2.2.2.1 c k hc hb hk hs, fldN_nI hc hk]
theorem asn10 (P : Bool) : fX7_asNumber (if P then 1 else 0) = if P then 1 else 0 := by cases P <;> rfl
/-- is the field followed? by layout, tag and place -/
theorem fol7 {σ : zkS} {b : Nat} {w : Nat → Int32} (h : rG σ b w) (hg : wG w) (p i : Int32) : fX0_leadsTo b p i σ = some (if isF w p i then (if fX7_isFollowed (w (20 + p.toNatClampNeg)) (w (44 + p.toNatClampNeg)) i = 0 then -5 else fldN w p i) else -5) := by
  unfold fX0_leadsTo
  rw [isField7 h, zb1_s, ite10]
  cases e : isF w p i with
  | false => rfl
  | true =>
    rw [if_pos rfl, if_pos rfl]
    obtain ⟨c, k, hc, hk, rfl, rfl, hb, hs⟩ := isF_of hg e
    rw [rd24 hc, rd24 hc, (h.2.2.2.1 c hc).1, (h.2.2.2.1 c hc).2.1, rd_hld hc hk, h.2.2.2.2.1 c k hc hb hk hs, fldN_nI hc hk, nI_clamp (by omega)]
    split <;> rfl
theorem rem2 {n : Nat} (h : n < 2 ^ 31) : nI n - nI n / 2 * 2 = nI (n % 2) := pk_rem (d := 2) h (by decide) (by decide)
theorem nI_eq0 {n : Nat} (h : n < 2 ^ 31) : nI n = 0 ↔ n = 0 := nI_eq (b := 0) h (by decide)
theorem nI_eq1 {n : Nat} (h : n < 2 ^ 31) : nI n = 1 ↔ n = 1 := nI_eq (b := 1) h (by decide)
/-- the model's road to the same -/
theorem leads8 {τ : zkS} {u c k : Nat} (hg : wG (τ.1 u)) (hc : c < 24) (hk : k < 6) (hs : nI k < τ.1 u (68 + c)) : fX8_leads u (nI c) (nI k) τ = some (if fX7_isFollowed (τ.1 u (20 + c)) (τ.1 u (44 + c)) (nI k) = 0 then -5 else τ.1 u (140 + 6 * c + k)) := by
  unfold fX8_leads fX8_isFollowed
  rw [rd_20c hc]
  obtain ⟨⟨y, hy, ey⟩, ⟨t, ht, et⟩, -, h6⟩ := hg.2.1 c hc
  rw [rd_fld hc hk]
  simp only [jn, ey]
  unfold fX7_isFollowed
  simp only [rd_44c hc, et, rem2 (show k < 2 ^ 31 by omega), rem2 (show t < 2 ^ 31 by omega)]
  have hk2 := Nat.mod_two_eq_zero_or_one k
  have ht2 := Nat.mod_two_eq_zero_or_one t
  have lit : ∀ a b : Nat, a < 2 ^ 31 → b < 2 ^ 31 → (nI a = nI b ↔ a = b) := fun a b ha hb => nI_eq ha hb
  have e4 : (nI y = 4) ↔ y = 4 := lit y 4 (by omega) (by decide)
  have e5 : (nI y = 5) ↔ y = 5 := lit y 5 (by omega) (by decide)
  have e6 : (nI y = 6) ↔ y = 6 := lit y 6 (by omega) (by decide)
  simp only [e4, e5, e6, nI_eq0 (show k % 2 < 2 ^ 31 by omega), nI_eq1 (show k % 2 < 2 ^ 31 by omega), nI_eq0 (show t % 2 < 2 ^ 31 by omega), nI_eq1 (show t % 2 < 2 ^ 31 by omega), nI_eq0 (show k < 2 ^ 31 by omega), nI_eq1 (show k < 2 ^ 31 by omega)]
  rcases (show y = 4 ∨ y = 5 ∨ y = 6 ∨ (y ≠ 4 ∧ y ≠ 5 ∧ y ≠ 6) by omega) with rfl | rfl | rfl | ⟨n4, n5, n6⟩
  · rfl
  · rcases hk2 with h | h <;> rw [h] <;> rfl
  · rcases (show k = 0 ∨ k = 1 ∨ 2 ≤ k by omega) with rfl | rfl | hk
    · rfl
    · rcases ht2 with h | h <;> rw [h] <;> rfl
    · exfalso
      rw [h6 ey] at hs
      exact nI_nlt (a := k) (b := 2) hk (by omega) hs
  · simp [n4, n5, n6, zb1]
