/-! ===== what is told by hand ===== -/
def rSa (σ : zkS) (h : Nat) (w : Nat → Int32) : Prop := σ.1 h 0 = w 299 ∧ ∃ n, n ≤ 5 ∧ w 299 = nI n ∧ (∀ j, j < 3 * n → σ.1 (h + 1) j = w (284 + j)) ∧ ∀ k, k < n → (∃ c, c < 24 ∧ w (284 + 3 * k) = nI c) ∧ (∃ y, y ≤ 40 ∧ w (284 + 3 * k + 1) = nI y) ∧ (w (284 + 3 * k + 2) = 0 ∨ w (284 + 3 * k + 2) = 1)
def rSb (σ : zkS) (h : Nat) (w : Nat → Int32) : Prop := σ.1 h 0 = w 320 ∧ ∃ n, n ≤ 10 ∧ w 320 = nI n ∧ ∀ k, k < n → σ.1 (h + 1) (3 * k) = w (300 + 2 * k) ∧ σ.1 (h + 1) (3 * k + 1) = w (300 + 2 * k + 1) ∧ (w (300 + 2 * k) = 0 ∧ (∃ c i, c < 24 ∧ i < 6 ∧ w (300 + 2 * k + 1) = nI (10 * c + i)) ∨ w (300 + 2 * k) = 1 ∧ (∃ r, r < 4 ∧ w (300 + 2 * k + 1) = nI r) ∨ w (300 + 2 * k) = 2 ∧ ∃ c, c < 24 ∧ w (300 + 2 * k + 1) = nI c)
def rSc (σ : zkS) (h : Nat) (w : Nat → Int32) : Prop := σ.1 h 0 = w 345 ∧ ∃ n, n ≤ 8 ∧ w 345 = nI n ∧ (∀ j, j < 3 * n → σ.1 (h + 1) j = w (321 + j)) ∧ ∀ k, k < n → ∃ c i, c < 24 ∧ i < 6 ∧ w (321 + 3 * k) = nI c ∧ w (321 + 3 * k + 1) = nI i ∧ nI i < w (68 + c) ∧ nI c < w 0
theorem rS_3 {σ : zkS} {h : Nat} {w : Nat → Int32} : rS σ h w ↔ rSa σ h w ∧ rSb σ (h + 2) w ∧ rSc σ (h + 4) w := Iff.rfl
theorem rSa_c {σ σ' : zkS} {k : Nat} {w w' : Nat → Int32} (h0 : σ'.1 k 0 = σ.1 k 0) (h1 : σ'.1 (k + 1) = σ.1 (k + 1)) (h : ∀ j, 284 ≤ j → j < 300 → w' j = w j) (hr : rSa σ k w) : rSa σ' k w' := by
  obtain ⟨a1, n, a2, a3, a4, a5⟩ := hr
  refine ⟨by rw [h0, h 299 (by omega) (by omega)]; exact a1, n, a2, by rw [h 299 (by omega) (by omega)]; exact a3, fun j hj => by rw [h1, h (284 + j) (by omega) (by omega)]; exact a4 j hj, fun j hj => ?_⟩
  rw [h (284 + 3 * j) (by omega) (by omega), h (284 + 3 * j + 1) (by omega) (by omega), h (284 + 3 * j + 2) (by omega) (by omega)]
  exact a5 j hj
theorem rSb_c {σ σ' : zkS} {k : Nat} {w w' : Nat → Int32} (h0 : σ'.1 k 0 = σ.1 k 0) (h1 : σ'.1 (k + 1) = σ.1 (k + 1)) (h : ∀ j, 300 ≤ j → j < 321 → w' j = w j) (hr : rSb σ k w) : rSb σ' k w' := by
  obtain ⟨b1, m, b2, b3, b4⟩ := hr
  refine ⟨by rw [h0, h 320 (by omega) (by omega)]; exact b1, m, b2, by rw [h 320 (by omega) (by omega)]; exact b3, fun j hj => ?_⟩
  rw [h1, h (300 + 2 * j) (by omega) (by omega), h (300 + 2 * j + 1) (by omega) (by omega)]
  exact b4 j hj
theorem rSc_c {σ σ' : zkS} {k : Nat} {w w' : Nat → Int32} (h0 : σ'.1 k 0 = σ.1 k 0) (h1 : σ'.1 (k + 1) = σ.1 (k + 1)) (h : ∀ j, 321 ≤ j ∧ j < 346 ∨ j = 0 ∨ 68 ≤ j ∧ j < 92 → w' j = w j) (hr : rSc σ k w) : rSc σ' k w' := by
  obtain ⟨c1, l, c2, c3, c4, c5⟩ := hr
  refine ⟨by rw [h0, h 345 (by omega)]; exact c1, l, c2, by rw [h 345 (by omega)]; exact c3, fun j hj => by rw [h1, h (321 + j) (by omega)]; exact c4 j hj, fun j hj => ?_⟩
  obtain ⟨c, i, q1, q2, q3, q4, q5, q6⟩ := c5 j hj
  exact ⟨c, i, q1, q2, by rw [h (321 + 3 * j) (by omega)]; exact q3, by rw [h (321 + 3 * j + 1) (by omega)]; exact q4, by rw [h (68 + c) (by omega)]; exact q5, by rw [h 0 (by omega)]; exact q6⟩
theorem jn_v {β : Type} (p : Int32) (B : Int32 → β) : zjn B (fun J => if p = -1 then J (-5) else J p) = B (vN p) := by
  unfold zjn vN
  by_cases e : p = -1
  · rw [if_pos e]
    exact if_pos e
  · rw [if_neg e]
    exact if_neg e
theorem rel_now {σ σ' τ τ' : zkS} (hR : zRel σ τ) (ha : rAll σ' 1 (τ'.1 1)) (hσ : ∀ a, 17 ≤ a → σ'.1 a = σ.1 a) (h0 : σ'.1 0 = σ.1 0) (hj : σ'.2 = σ.2) (hτ : ∀ a, a ≠ 1 → τ'.1 a = τ.1 a) (hi : τ'.2 = τ.2) : zRel σ' τ' := by
  obtain ⟨-, i, x, t⟩ := hR
  exact ⟨ha, rI_c (fun a h1 h2 => hσ a (by omega)) (by rw [h0]) (by rw [hτ 0 (by omega)]) (hτ 3 (by omega)) i, rX_c (by rw [hσ 44 (by omega)]) (hσ 45 (by omega)) (by rw [hτ 0 (by omega)]) (hτ 4 (by omega)) x, rT_c (hσ 50 (by omega)) (hσ 51 (by omega)) (hτ 12 (by omega)) (hτ 13 (by omega)) hj hi t⟩
theorem rel_S {σ σ' τ τ' : zkS} (hR : zRel σ τ) (hs : rS σ' 11 (τ'.1 1)) (hσ : ∀ a, ¬ (11 ≤ a ∧ a ≤ 16) → σ'.1 a = σ.1 a) (hw : ∀ j, ¬ (284 ≤ j ∧ j < 346) → τ'.1 1 j = τ.1 1 j) (hj : σ'.2 = σ.2) (hτ : ∀ a, a ≠ 1 → τ'.1 a = τ.1 a) (hi : τ'.2 = τ.2) : zRel σ' τ' := by
  obtain ⟨g, k, s, w, m⟩ := hR.1
  exact rel_now hR ⟨rG_c (fun a h1 h2 => hσ a (by omega)) (fun j hj => hw j (by unfold iG at hj; omega)) g, rK_c (fun a h1 h2 => hσ a (by omega)) (fun j hj => hw j (by unfold iK at hj; omega)) k, hs, wG_c (fun j hj => hw j (by unfold iG at hj; omega)) w, wK_c (fun j hj => hw j (by unfold iK at hj; omega)) m⟩ (fun a h => hσ a (by omega)) (hσ 0 (by omega)) hj hτ hi
def t3 (n : Nat) (v1 v2 v3 : Int32) (f : Nat → Int32) (j : Nat) : Int32 := if j = 3 * n + 2 then v3 else if j = 3 * n + 1 then v2 else if j = 3 * n then v1 else f j
theorem add7 {b n : Nat} {v1 v2 v3 : Int32} {σ : zkS} (h : σ.1 b 0 = nI n) (hn : n < 10) : fX3_add b v1 v2 v3 σ = some (nI (n + 1), zsi (zsi (zsi (zsi σ (b + 1) (3 * n) v1) (b + 1) (3 * n + 1) v2) (b + 1) (3 * n + 2) v3) b 0 (nI (n + 1))) := by
  unfold fX3_add
  have e3 : nI n * 3 = nI (3 * n) := by rw [show (3 : Int32) = nI 3 from rfl, pk_mul, Nat.mul_comm]
  rw [h, if_neg (nI_nneg (by omega)), if_neg (show ¬ (10 : Int32) ≤ nI n from nI_ge (b := 10) hn (by decide)), e3, wr_nI (by omega) (by decide)]
  rw [show (zsi σ (b + 1) (3 * n) v1).1 b 0 = nI n from by rw [si_ne _ _ (by omega), h], e3, nI_1, wr_nI (by omega) (by decide)]
  rw [show (zsi (zsi σ (b + 1) (3 * n) v1) (b + 1) (3 * n + 1) v2).1 b 0 = nI n from by rw [si_ne _ _ (by omega), si_ne _ _ (by omega), h], e3, show nI (3 * n) + 2 = nI (3 * n + 2) from by rw [show (2 : Int32) = nI 2 from rfl, nI_add], wr_nI (by omega) (by decide)]
  unfold zpi
  rw [show (zsi (zsi (zsi σ (b + 1) (3 * n) v1) (b + 1) (3 * n + 1) v2) (b + 1) (3 * n + 2) v3).1 b 0 = nI n from by rw [si_ne _ _ (by omega), si_ne _ _ (by omega), si_ne _ _ (by omega), h], nI_1]
  dsimp only
  rw [si_eq]
theorem add7_r (b n : Nat) (v1 v2 v3 x : Int32) (σ : zkS) (j : Nat) : (zsi (zsi (zsi (zsi σ (b + 1) (3 * n) v1) (b + 1) (3 * n + 1) v2) (b + 1) (3 * n + 2) v3) b 0 x).1 (b + 1) j = t3 n v1 v2 v3 (σ.1 (b + 1)) j := by
  rw [si_ne _ _ (by omega)]
  unfold t3
  by_cases h2 : j = 3 * n + 2
  · rw [if_pos h2, h2, si_eq]
  rw [if_neg h2, si_ne _ _ (Or.inr h2)]
  by_cases h1 : j = 3 * n + 1
  · rw [if_pos h1, h1, si_eq]
  rw [if_neg h1, si_ne _ _ (Or.inr h1)]
  by_cases h0 : j = 3 * n
  · rw [if_pos h0, h0, si_eq]
  rw [if_neg h0, si_ne _ _ (Or.inr h0)]
theorem add7_o (b n : Nat) (v1 v2 v3 x : Int32) (σ : zkS) {a : Nat} (h0 : a ≠ b) (h1 : a ≠ b + 1) : (zsi (zsi (zsi (zsi σ (b + 1) (3 * n) v1) (b + 1) (3 * n + 1) v2) (b + 1) (3 * n + 2) v3) b 0 x).1 a = σ.1 a := by
  rw [si_row _ _ h0, si_row _ _ h1, si_row _ _ h1, si_row _ _ h1]
/-- three places of the model's row, and how many there are (at z) -/
theorem add8_r (u a z n : Nat) (v1 v2 v3 x : Int32) (τ : zkS) {j : Nat} (hz : a + j ≠ z) : (zsi (zsi (zsi (zsi τ u (a + 3 * n) v1) u (a + 3 * n + 1) v2) u (a + 3 * n + 2) v3) u z x).1 u (a + j) = t3 n v1 v2 v3 (fun j => τ.1 u (a + j)) j := by
  rw [si_ne _ _ (Or.inr hz)]
  unfold t3
  by_cases h2 : j = 3 * n + 2
  · rw [if_pos h2, h2, ← Nat.add_assoc, si_eq]
  rw [if_neg h2, si_ne _ _ (Or.inr (by omega))]
  by_cases h1 : j = 3 * n + 1
  · rw [if_pos h1, h1, ← Nat.add_assoc, si_eq]
  rw [if_neg h1, si_ne _ _ (Or.inr (by omega))]
  by_cases h0 : j = 3 * n
  · rw [if_pos h0, h0, si_eq]
  rw [if_neg h0, si_ne _ _ (Or.inr (by omega))]
theorem add8_o (u a z n : Nat) (v1 v2 v3 x : Int32) (τ : zkS) {j : Nat} (hz : j ≠ z) (h : j < a + 3 * n ∨ a + 3 * n + 2 < j) : (zsi (zsi (zsi (zsi τ u (a + 3 * n) v1) u (a + 3 * n + 1) v2) u (a + 3 * n + 2) v3) u z x).1 u j = τ.1 u j := by
  rw [si_ne _ _ (Or.inr hz), si_ne _ _ (Or.inr (by omega)), si_ne _ _ (Or.inr (by omega)), si_ne _ _ (Or.inr (by omega))]
theorem add8_w (u a z n : Nat) (v1 v2 v3 x : Int32) (τ : zkS) {b : Nat} (h : b ≠ u) : (zsi (zsi (zsi (zsi τ u (a + 3 * n) v1) u (a + 3 * n + 1) v2) u (a + 3 * n + 2) v3) u z x).1 b = τ.1 b := by
  rw [si_row _ _ h, si_row _ _ h, si_row _ _ h, si_row _ _ h]
theorem t3_lt {n j : Nat} {v1 v2 v3 : Int32} {f : Nat → Int32} (h : j < 3 * n) : t3 n v1 v2 v3 f j = f j := by
  unfold t3
  rw [if_neg (by omega), if_neg (by omega), if_neg (by omega)]
theorem t3_0 (n : Nat) (v1 v2 v3 : Int32) (f : Nat → Int32) : t3 n v1 v2 v3 f (3 * n) = v1 := by
  unfold t3
  rw [if_neg (by omega), if_neg (by omega), if_pos rfl]
theorem t3_1 (n : Nat) (v1 v2 v3 : Int32) (f : Nat → Int32) : t3 n v1 v2 v3 f (3 * n + 1) = v2 := by
  unfold t3
  rw [if_neg (by omega), if_pos rfl]
theorem t3_2 (n : Nat) (v1 v2 v3 : Int32) (f : Nat → Int32) : t3 n v1 v2 v3 f (3 * n + 2) = v3 := by
  unfold t3
  rw [if_pos rfl]
theorem t3_e {n j : Nat} {v1 v2 v3 : Int32} {f g : Nat → Int32} (h : ∀ j, j < 3 * n → f j = g j) (hj : j < 3 * (n + 1)) : t3 n v1 v2 v3 f j = t3 n v1 v2 v3 g j := by
  unfold t3
  by_cases h2 : j = 3 * n + 2
  · rw [if_pos h2, if_pos h2]
  by_cases h1 : j = 3 * n + 1
  · rw [if_neg h2, if_neg h2, if_pos h1, if_pos h1]
  by_cases h0 : j = 3 * n
  · rw [if_neg h2, if_neg h2, if_neg h1, if_neg h1, if_pos h0, if_pos h0]
  · rw [if_neg h2, if_neg h2, if_neg h1, if_neg h1, if_neg h0, if_neg h0]
    exact h j (by omega)
theorem x3 (a n : Nat) : nI a + 3 * nI n = nI (a + 3 * n) := by rw [show (3 : Int32) = nI 3 from rfl, pk_mul, nI_add]
theorem x2 (a n : Nat) : nI a + 2 * nI n = nI (a + 2 * n) := by rw [show (2 : Int32) = nI 2 from rfl, pk_mul, nI_add]
theorem flag_as (p : Int32) : fX8_flag p = fX7_asNumber p := rfl
theorem as_01 (p : Int32) : fX7_asNumber p = 0 ∨ fX7_asNumber p = 1 := by
  unfold fX7_asNumber
  by_cases h : p = 0
  · rw [if_pos h]; exact Or.inl rfl
  · rw [if_neg h]; exact Or.inr rfl
theorem T_see {σ τ : zkS} (hR : zRel σ τ) (p1 : Int32) (p2 : Int32) (p3 : Int32) : ∃ (r : Int32) (σ1 : zkS) (τ1 : zkS), fX7_see p1 p2 p3 σ = some (r, σ1) ∧ fX8_see p1 p2 p3 τ = some (r, τ1) ∧ zRel σ1 τ1 := by
  obtain ⟨⟨hg, hk, ⟨⟨ha, n, hn, hb, hc, hd⟩, hs2, hs3⟩, hw, hm⟩, -⟩ := id hR
  unfold fX7_see fX8_see
  by_cases h1 : p1 = -1
  · rw [if_pos h1, if_pos h1, wr_299]
    refine ⟨0, _, _, rfl, rfl, rel_S hR (rS_3.mpr ⟨⟨rfl, 0, by omega, rfl, fun j hj => by omega, fun k hk => by omega⟩, rSb_c (si_ne _ _ (by omega)) (si_row _ _ (by omega)) (fun j _ _ => si_ne _ _ (by omega)) hs2, rSc_c (si_ne _ _ (by omega)) (si_row _ _ (by omega)) (fun j _ => si_ne _ _ (by omega)) hs3⟩) (fun a h => si_row _ _ (by omega)) (fun j hj => si_ne _ _ (Or.inr (by omega))) rfl (fun a h => si_row _ _ h) rfl⟩
  rw [if_neg h1, if_neg h1, there7, ite10, there8, zb1_s, ite10, show σ.1 2 1 = τ.1 1 1 from hg.2.1]
  cases e : hasN (τ.1 1 1) p1 with
  | false => exact ⟨_, _, _, rfl, rfl, hR⟩
  | true =>
    rw [if_pos rfl, if_pos rfl, in_0 (b := 40) p2 40 (by decide), ite01]
    by_cases h2 : p2 < 0 ∨ nI 40 < p2
    · rw [if_pos h2]
      refine ⟨-2, σ, _, ?_, rfl, hR⟩
      by_cases g : p2 < 0
      · rw [if_pos g]
      · rw [if_neg g, if_neg]
        have := h2.resolve_left g
        rw [Int32.lt_iff_toInt_lt] at this
        rw [Int32.le_iff_toInt_le]
        have e : (nI 40).toInt = 40 := by decide
        have e2 : (40 : Int32).toInt = 40 := by decide
        omega
    · rw [if_neg h2, if_neg (fun q => h2 (Or.inl q))]
      obtain ⟨y, hy, rfl⟩ := rng (by decide) h2
      obtain ⟨c, hc', rfl, hbt⟩ := hasN_of e
      rw [if_pos (show nI y ≤ (40 : Int32) from nI_le (b := 40) hy (by decide)), rd_299, ha, hb]
      by_cases h5 : n = 5
      · subst h5
        rw [if_pos (by decide), if_pos (by decide)]
        exact ⟨_, _, _, rfl, rfl, hR⟩
      · rw [if_neg (show ¬ (5 : Int32) ≤ nI n from nI_ge (b := 5) (by omega) (by decide)), if_neg (show ¬ nI n = (5 : Int32) from fun q => h5 ((nI_eq (b := 5) (by omega) (by decide)).mp q)), add7 (n := n) (by rw [ha, hb]) (by omega), zb2_s]
        rw [show (284 : Int32) + 3 * nI n = nI (284 + 3 * n) from x3 284 n, wr_nI (by omega) (by decide), nI_1, wr_nI (by omega) (by decide), show nI (284 + 3 * n) + 2 = nI (284 + 3 * n + 2) from by rw [show (2 : Int32) = nI 2 from rfl, nI_add], wr_nI (by omega) (by decide), wr_299, nI_1, flag_as]
        refine ⟨_, _, _, rfl, rfl, rel_S hR ⟨⟨?_, n + 1, by omega, ?_, fun j hj => ?_, fun k hk' => ?_⟩, ?_, ?_⟩ (fun a h => add7_o 11 n _ _ _ _ _ (by omega) (by omega)) (fun j hj => add8_o 1 284 299 n _ _ _ _ _ (by omega) (by omega)) rfl (fun a h => add8_w 1 284 299 n _ _ _ _ _ h) rfl⟩
        · rw [si_eq, si_eq]
        · rw [si_eq]
        · rw [add7_r, add8_r _ _ _ _ _ _ _ _ _ (by omega)]
          exact t3_e hc hj
        · have er := fun j (hj : j < 15) => add8_r 1 284 299 n (nI c) (nI y) (fX7_asNumber p3) (nI (n + 1)) τ (j := j) (by omega)
          have e0 := er (3 * k) (by omega)
          have e1 := er (3 * k + 1) (by omega)
          have e2 := er (3 * k + 2) (by omega)
          rw [← Nat.add_assoc] at e1 e2
          rw [e0, e1, e2]
          by_cases e : k = n
          · subst e
            rw [t3_0, t3_1, t3_2]
            exact ⟨⟨c, hc', rfl⟩, ⟨y, hy, rfl⟩, as_01 p3⟩
          · rw [t3_lt (by omega), t3_lt (by omega), t3_lt (by omega)]
            exact hd k (by omega)
        · exact rSb_c (by rw [add7_o _ _ _ _ _ _ _ (by omega) (by omega)]) (add7_o _ _ _ _ _ _ _ (by omega) (by omega)) (fun j _ _ => add8_o _ _ _ _ _ _ _ _ _ (by omega) (by omega)) hs2
        · exact rSc_c (by rw [add7_o _ _ _ _ _ _ _ (by omega) (by omega)]) (add7_o _ _ _ _ _ _ _ (by omega) (by omega)) (fun j _ => add8_o _ _ _ _ _ _ _ _ _ (by omega) (by omega)) hs3
theorem T_book {σ τ : zkS} (hR : zRel σ τ) (p1 : Int32) (p2 : Int32) (p3 : Int32) : ∃ (r : Int32) (σ1 : zkS) (τ1 : zkS), fX7_book p1 p2 p3 σ = some (r, σ1) ∧ fX8_book p1 p2 p3 τ = some (r, τ1) ∧ zRel σ1 τ1 := by
  obtain ⟨⟨hg, hk, ⟨hs1, hs2, ⟨ha, n, hn, hb, hc, hd⟩⟩, hw, hm⟩, -⟩ := id hR
  unfold fX7_book fX8_book
  by_cases h1 : p1 = -1
  · rw [if_pos h1, if_pos h1, wr_345]
    refine ⟨0, _, _, rfl, rfl, rel_S hR (rS_3.mpr ⟨rSa_c (si_ne _ _ (by omega)) (si_row _ _ (by omega)) (fun j _ _ => si_ne _ _ (by omega)) hs1, rSb_c (si_ne _ _ (by omega)) (si_row _ _ (by omega)) (fun j _ _ => si_ne _ _ (by omega)) hs2, rfl, 0, by omega, rfl, fun j hj => by omega, fun k hk => by omega⟩) (fun a h => si_row _ _ (by omega)) (fun j hj => si_ne _ _ (Or.inr (by omega))) rfl (fun a h => si_row _ _ h) rfl⟩
  rw [if_neg h1, if_neg h1, isField7 hg, zb1_s, ite10, isField8 hw, zb1_s, ite10]
  cases e : isF (τ.1 1) p1 p2 with
  | false => exact ⟨_, _, _, rfl, rfl, hR⟩
  | true =>
    obtain ⟨c, i, hc', hi, rfl, rfl, hbt, hsz⟩ := isF_of hw e
    rw [if_pos rfl, if_pos rfl, ton7, ite10, show σ.1 2 1 = τ.1 1 1 from hg.2.1, jn]
    have e8 : (if p3 = -1 then (fun (u4 : Unit) => zrd τ 1 346 345 (fun (v5 : Int32) => (if v5 = 8 then some ((-4 : Int32), τ) else zwr τ 1 346 (321 + (3 * v5)) (nI c) (fun (s6 : zkS) => zwr s6 1 346 ((321 + (3 * v5)) + 1) (nI i) (fun (s7 : zkS) => zjn (fun (v9 : Int32) => zwr s7 1 346 ((321 + (3 * v5)) + 2) v9 (fun (s10 : zkS) => zwr s10 1 346 345 (v5 + 1) (fun (s11 : zkS) => some ((v5 + 1), s11)))) (fun (J8 : Int32 → Option (Int32 × zkS)) => (if p3 = (-1) then J8 (-5) else J8 p3))))))) () else zb1 (fX8_isThere p3 τ) (fun (v12 : Int32) => (if v12 = 0 then some ((-1), τ) else (fun (u4 : Unit) => zrd τ 1 346 345 (fun (v5 : Int32) => (if v5 = 8 then some ((-4 : Int32), τ) else zwr τ 1 346 (321 + (3 * v5)) (nI c) (fun (s6 : zkS) => zwr s6 1 346 ((321 + (3 * v5)) + 1) (nI i) (fun (s7 : zkS) => zjn (fun (v9 : Int32) => zwr s7 1 346 ((321 + (3 * v5)) + 2) v9 (fun (s10 : zkS) => zwr s10 1 346 345 (v5 + 1) (fun (s11 : zkS) => some ((v5 + 1), s11)))) (fun (J8 : Int32 → Option (Int32 × zkS)) => (if p3 = (-1) then J8 (-5) else J8 p3))))))) ()))) = if p3 = -1 ∨ hasN (τ.1 1 1) p3 = true then (if n = 8 then some (-4, τ) else some (nI (n + 1), zsi (zsi (zsi (zsi τ 1 (321 + 3 * n) (nI c)) 1 (321 + 3 * n + 1) (nI i)) 1 (321 + 3 * n + 2) (vN p3)) 1 345 (nI (n + 1)))) else some (-1, τ) := by
      have q8 : (zrd τ 1 346 345 (fun (v5 : Int32) => (if v5 = 8 then some ((-4 : Int32), τ) else zwr τ 1 346 (321 + (3 * v5)) (nI c) (fun (s6 : zkS) => zwr s6 1 346 ((321 + (3 * v5)) + 1) (nI i) (fun (s7 : zkS) => zjn (fun (v9 : Int32) => zwr s7 1 346 ((321 + (3 * v5)) + 2) v9 (fun (s10 : zkS) => zwr s10 1 346 345 (v5 + 1) (fun (s11 : zkS) => some ((v5 + 1), s11)))) (fun (J8 : Int32 → Option (Int32 × zkS)) => (if p3 = (-1) then J8 (-5) else J8 p3))))))) = if n = 8 then some (-4, τ) else some (nI (n + 1), zsi (zsi (zsi (zsi τ 1 (321 + 3 * n) (nI c)) 1 (321 + 3 * n + 1) (nI i)) 1 (321 + 3 * n + 2) (vN p3)) 1 345 (nI (n + 1))) := by
        rw [rd_345, hb]
        by_cases h8 : n = 8
        · subst h8
          rw [if_pos (by decide), if_pos rfl]
        · rw [if_neg (show ¬ nI n = (8 : Int32) from fun q => h8 ((nI_eq (b := 8) (by omega) (by decide)).mp q)), if_neg h8, show (321 : Int32) + 3 * nI n = nI (321 + 3 * n) from x3 321 n, wr_nI (by omega) (by decide), nI_1, wr_nI (by omega) (by decide), jn_v, show nI (321 + 3 * n) + 2 = nI (321 + 3 * n + 2) from by rw [show (2 : Int32) = nI 2 from rfl, nI_add], wr_nI (by omega) (by decide), wr_345, nI_1]
      simp only [q8, there8, zb1_s, ite10]
      by_cases h : p3 = -1
      · rw [if_pos h, if_pos (Or.inl h)]
      · rw [if_neg h]
        cases e : hasN (τ.1 1 1) p3 with
        | false => rw [if_neg (by decide), if_neg (fun q => q.elim h (by decide))]
        | true => rw [if_pos rfl, if_pos (Or.inr rfl)]
    rw [e8]
    by_cases h3 : p3 = -1 ∨ hasN (τ.1 1 1) p3 = true
    · rw [if_pos h3, if_pos h3, ha, hb]
      by_cases h8 : n = 8
      · subst h8
        rw [if_pos (by decide), if_pos rfl]
        exact ⟨_, _, _, rfl, rfl, hR⟩
      · rw [if_neg (show ¬ (8 : Int32) ≤ nI n from nI_ge (b := 8) (by omega) (by decide)), if_neg h8, add7 (n := n) (by rw [ha, hb]) (by omega), zb2_s, orE]
        have hb0 : ∀ i, bt (τ.1 1 1) i = true → nI i < τ.1 1 0 := by
          obtain ⟨⟨m, hm1, hm2, hm3, -⟩, -⟩ := hw
          intro i hi
          rw [hm2]
          exact nI_lt (hm3 i hi) (by omega)
        refine ⟨_, _, _, rfl, rfl, rel_S hR ⟨?_, ?_, ?_, n + 1, by omega, ?_, fun j hj => ?_, fun k hk' => ?_⟩ (fun a h => add7_o 15 n _ _ _ _ _ (by omega) (by omega)) (fun j hj => add8_o 1 321 345 n _ _ _ _ _ (by omega) (by omega)) rfl (fun a h => add8_w 1 321 345 n _ _ _ _ _ h) rfl⟩
        · exact rSa_c (by rw [add7_o _ _ _ _ _ _ _ (by omega) (by omega)]) (add7_o _ _ _ _ _ _ _ (by omega) (by omega)) (fun j _ _ => add8_o _ _ _ _ _ _ _ _ _ (by omega) (by omega)) hs1
        · exact rSb_c (by rw [add7_o _ _ _ _ _ _ _ (by omega) (by omega)]) (add7_o _ _ _ _ _ _ _ (by omega) (by omega)) (fun j _ _ => add8_o _ _ _ _ _ _ _ _ _ (by omega) (by omega)) hs2
        · rw [si_eq, si_eq]
        · rw [si_eq]
        · rw [add7_r, add8_r _ _ _ _ _ _ _ _ _ (by omega)]
          exact t3_e hc hj
        · by_cases e : k = n
          · subst e
            refine ⟨c, i, hc', hi, ?_, ?_, ?_, ?_⟩
            · rw [add8_r _ _ _ _ _ _ _ _ _ (by omega), t3_0]
            · have e1 := add8_r 1 321 345 k (nI c) (nI i) (vN p3) (nI (k + 1)) τ (j := 3 * k + 1) (by omega)
              rw [← Nat.add_assoc] at e1
              rw [e1, t3_1]
            · rw [add8_o _ _ _ _ _ _ _ _ _ (by omega) (by omega)]; exact hsz
            · rw [add8_o _ _ _ _ _ _ _ _ _ (by omega) (by omega)]; exact hb0 c hbt
          · obtain ⟨c, i, k1, k2, k3, k4, k5, k6⟩ := hd k (by omega)
            exact ⟨c, i, k1, k2, by rw [add8_o _ _ _ _ _ _ _ _ _ (by omega) (by omega)]; exact k3, by rw [add8_o _ _ _ _ _ _ _ _ _ (by omega) (by omega)]; exact k4, by rw [add8_o _ _ _ _ _ _ _ _ _ (by omega) (by omega)]; exact k5, by rw [add8_o _ _ _ _ _ _ _ _ _ (by omega) (by omega)]; exact k6⟩
    · rw [if_neg h3, if_neg h3]
      exact ⟨_, _, _, rfl, rfl, hR⟩
theorem plan8 {τ : zkS} (hw : wG (τ.1 1)) (p1 p2 : Int32) : fX8_isPlanned p1 p2 τ = some (if p1 = 0 then (if p2 < 0 then 0 else if isF (τ.1 1) (p2 / 10) (p2 - p2 / 10 * 10) then 1 else 0) else if p1 = 1 then (if p2 < 0 ∨ nI 3 < p2 then 0 else 1) else if p1 = 2 then (if hasN (τ.1 1 1) p2 then 1 else 0) else 0) := by
  unfold fX8_isPlanned
  simp only [jn]
  rw [in_0 (b := 3) p2 3 (by decide), there8, isField8 hw]
  by_cases h0 : p1 = 0
  · subst h0
    rw [if_pos rfl, if_pos rfl]
    by_cases h : p2 < 0
    · rw [if_pos h, if_pos h]
      rfl
    · rw [if_neg h, if_neg h, zb1_s, ite10]
      cases isF (τ.1 1) (p2 / 10) (p2 - p2 / 10 * 10) <;> rfl
  · rw [if_neg h0, if_neg h0]
    by_cases h1 : p1 = 1
    · subst h1
      rw [if_pos rfl, if_pos rfl, ite01]
      by_cases h : p2 < 0 ∨ nI 3 < p2
      · rw [if_pos h, if_pos h]
        rfl
      · rw [if_neg h, if_neg h]
    · rw [if_neg h1, if_neg h1]
      by_cases h2 : p1 = 2
      · rw [if_pos h2, if_pos h2, zb1_s, ite10]
        cases hasN (τ.1 1 1) p2 <;> rfl
      · rw [if_neg h2, if_neg h2]
theorem plan7 {σ τ : zkS} (hg : rG σ 2 (τ.1 1)) (p1 p2 : Int32) : fX7_isPlannable p1 p2 σ = some (if p1 = 0 then (if p2 < 0 then 0 else if isF (τ.1 1) (p2 / 10) (p2 - p2 / 10 * 10) then 1 else 0) else if p1 = 1 then (if p2 < 0 ∨ nI 3 < p2 then 0 else 1) else if p1 = 2 then (if hasN (τ.1 1 1) p2 then 1 else 0) else 0) := by
  unfold fX7_isPlannable
  rw [isField7 hg, zb1_s, ite10, root_eq, there7, show σ.1 2 1 = τ.1 1 1 from hg.2.1]
  by_cases h0 : p1 = 0
  · rw [if_pos h0, if_pos h0]
    by_cases h : p2 < 0
    · rw [if_pos h, if_pos h]
    · rw [if_neg h, if_neg h]
      cases isF (τ.1 1) (p2 / 10) (p2 - p2 / 10 * 10) <;> rfl
  · rw [if_neg h0, if_neg h0]
    by_cases h1 : p1 = 1
    · rw [if_pos h1, if_pos h1]
    · rw [if_neg h1, if_neg h1]
      by_cases h2 : p1 = 2
      · rw [if_pos h2, if_pos h2]
      · rw [if_neg h2, if_neg h2]
theorem T_plan {σ τ : zkS} (hR : zRel σ τ) (p1 : Int32) (p2 : Int32) : ∃ (r : Int32) (σ1 : zkS) (τ1 : zkS), fX7_plan p1 p2 σ = some (r, σ1) ∧ fX8_plan p1 p2 τ = some (r, τ1) ∧ zRel σ1 τ1 := by
  obtain ⟨⟨hg, hk, ⟨hs1, ⟨ha, n, hn, hb, hc⟩, hs3⟩, hw, hm⟩, -⟩ := id hR
  unfold fX7_plan fX8_plan
  by_cases h1 : p1 = -1
  · rw [if_pos h1, if_pos h1, wr_320]
    exact ⟨0, _, _, rfl, rfl, rel_S hR (rS_3.mpr ⟨rSa_c (si_ne _ _ (by omega)) (si_row _ _ (by omega)) (fun j _ _ => si_ne _ _ (by omega)) hs1, ⟨rfl, 0, by omega, rfl, fun k hk => by omega⟩, rSc_c (si_ne _ _ (by omega)) (si_row _ _ (by omega)) (fun j _ => si_ne _ _ (by omega)) hs3⟩) (fun a h => si_row _ _ (by omega)) (fun j hj => si_ne _ _ (Or.inr (by omega))) rfl (fun a h => si_row _ _ h) rfl⟩
  rw [if_neg h1, if_neg h1, plan7 hg, zb1_s, plan8 hw, zb1_s]
  generalize hq : (if p1 = 0 then (if p2 < 0 then (0 : Int32) else if isF (τ.1 1) (p2 / 10) (p2 - p2 / 10 * 10) then 1 else 0) else if p1 = 1 then (if p2 < 0 ∨ nI 3 < p2 then 0 else 1) else if p1 = 2 then (if hasN (τ.1 1 1) p2 then 1 else 0) else 0) = q
  by_cases h0 : q = 0
  · rw [if_pos h0, if_pos h0]
    exact ⟨_, _, _, rfl, rfl, hR⟩
  rw [if_neg h0, if_neg h0, rd_320, ha, hb]
  have hv : p1 = 0 ∧ (∃ c i, c < 24 ∧ i < 6 ∧ p2 = nI (10 * c + i)) ∨ p1 = 1 ∧ (∃ r, r < 4 ∧ p2 = nI r) ∨ p1 = 2 ∧ ∃ c, c < 24 ∧ p2 = nI c := by
    subst hq
    by_cases g0 : p1 = 0
    · rw [if_pos g0] at h0
      by_cases g : p2 < 0
      · rw [if_pos g] at h0
        exact absurd rfl h0
      · rw [if_neg g] at h0
        cases e : isF (τ.1 1) (p2 / 10) (p2 - p2 / 10 * 10) with
        | false => rw [e] at h0; exact absurd rfl h0
        | true =>
          obtain ⟨c, i, hc', hi, e1, e2, -, -⟩ := isF_of hw e
          obtain ⟨m, hm1, rfl⟩ := nI_of g
          rw [show (10 : Int32) = nI 10 from rfl, pk_div hm1 (by decide) (by decide)] at e1
          rw [show (10 : Int32) = nI 10 from rfl, pk_rem hm1 (by decide) (by decide)] at e2
          have f1 := (nI_eq (by omega) (by omega)).mp e1
          have f2 := (nI_eq (by omega) (by omega)).mp e2
          exact Or.inl ⟨g0, c, i, hc', hi, by rw [show m = 10 * c + i by omega]⟩
    · rw [if_neg g0] at h0
      by_cases g1 : p1 = 1
      · rw [if_pos g1] at h0
        by_cases g : p2 < 0 ∨ nI 3 < p2
        · rw [if_pos g] at h0
          exact absurd rfl h0
        · obtain ⟨r, hr, e⟩ := rng (by decide) g
          exact Or.inr (Or.inl ⟨g1, r, by omega, e⟩)
      · rw [if_neg g1] at h0
        by_cases g2 : p1 = 2
        · rw [if_pos g2] at h0
          cases e : hasN (τ.1 1 1) p2 with
          | false => rw [e] at h0; exact absurd rfl h0
          | true =>
            obtain ⟨c, hc', e1, -⟩ := hasN_of e
            exact Or.inr (Or.inr ⟨g2, c, hc', e1⟩)
        · rw [if_neg g2] at h0
          exact absurd rfl h0
  by_cases h10 : n = 10
  · subst h10
    rw [if_pos (by decide), if_pos (by decide)]
    exact ⟨_, _, _, rfl, rfl, hR⟩
  rw [if_neg (show ¬ (10 : Int32) ≤ nI n from nI_ge (b := 10) (by omega) (by decide)), if_neg (show ¬ nI n = (10 : Int32) from fun q => h10 ((nI_eq (b := 10) (by omega) (by decide)).mp q)), add7 (n := n) (by rw [ha, hb]) (by omega), zb2_s]
  rw [show (300 : Int32) + 2 * nI n = nI (300 + 2 * n) from x2 300 n, wr_nI (by omega) (by decide), nI_1, wr_nI (by omega) (by decide), wr_320, nI_1]
  have w0 : ∀ j, j ≠ 320 → j ≠ 300 + 2 * n → j ≠ 300 + 2 * n + 1 → (zsi (zsi (zsi τ 1 (300 + 2 * n) p1) 1 (300 + 2 * n + 1) p2) 1 320 (nI (n + 1))).1 1 j = τ.1 1 j := fun j q1 q2 q3 => by rw [si_ne _ _ (Or.inr q1), si_ne _ _ (Or.inr q3), si_ne _ _ (Or.inr q2)]
  refine ⟨_, _, _, rfl, rfl, rel_S hR (rS_3.mpr ⟨?_, ⟨?_, n + 1, by omega, ?_, fun k hk' => ?_⟩, ?_⟩) (fun a h => add7_o 13 n _ _ _ _ _ (by omega) (by omega)) (fun j hj => w0 j (by omega) (by omega) (by omega)) rfl (fun a h => by rw [si_row _ _ h, si_row _ _ h, si_row _ _ h]) rfl⟩
  · exact rSa_c (by rw [add7_o _ _ _ _ _ _ _ (by omega) (by omega)]) (add7_o _ _ _ _ _ _ _ (by omega) (by omega)) (fun j _ _ => w0 j (by omega) (by omega) (by omega)) hs1
  · rw [si_eq, si_eq]
  · rw [si_eq]
  · rw [add7_r, add7_r]
    by_cases e : k = n
    · subst e
      rw [t3_0, t3_1, si_ne _ _ (Or.inr (by omega)), si_ne _ _ (Or.inr (by omega)), si_eq, si_ne _ _ (Or.inr (by omega)), si_eq]
      exact ⟨rfl, rfl, hv⟩
    · rw [t3_lt (by omega), t3_lt (by omega), w0 _ (by omega) (by omega) (by omega), w0 _ (by omega) (by omega) (by omega)]
      exact hc k (by omega)
  · exact rSc_c (by rw [add7_o _ _ _ _ _ _ _ (by omega) (by omega)]) (add7_o _ _ _ _ _ _ _ (by omega) (by omega)) (fun j _ => w0 j (by omega) (by omega) (by omega)) hs3
theorem num7 {b n i k : Nat} {σ : zkS} (h : σ.1 b 0 = nI n) (hi : i < n) (hn : n ≤ 10) (hk : k < 3) : fX3_number b (nI i) (nI k) σ = some (σ.1 (b + 1) (3 * i + k)) := by
  unfold fX3_number
  simp only [jn]
  rw [h, if_neg (nI_nneg (by omega)), if_neg (nI_ge hi (by omega)), if_neg (show ¬ (10 : Int32) ≤ nI i from nI_ge (b := 10) (by omega) (by decide)), if_neg (nI_nneg (by omega)), if_neg (show ¬ (3 : Int32) ≤ nI k from nI_ge (b := 3) (by omega) (by decide)), if_neg (by decide), show nI i * 3 = nI (3 * i) from by rw [show (3 : Int32) = nI 3 from rfl, pk_mul, Nat.mul_comm], nI_add, rd_nI (by omega) (by decide)]
theorem looked_L {σ τ : zkS} (hR : zRel σ τ) {n : Nat} (hb : τ.1 1 345 = nI n) (hn : n ≤ 8) : ∀ m i, i ≤ n → n - i < m → ∃ r, fX7_looked_L2 m σ (nI i) (fun _ => some (-5)) = some r ∧ fX8_looked_L2 m τ (nI i) (fun _ => some (-5)) = some r := by
  obtain ⟨⟨hg, hk, ⟨-, -, ⟨ha, n', hn', hb', hc, hd⟩⟩, hw, hm⟩, -⟩ := id hR
  have e : n' = n := (nI_eq (by omega) (by omega)).mp (hb'.symm.trans hb)
  subst e
  have ha' : σ.1 15 0 = nI n' := ha.trans hb
  intro m
  induction m with
  | zero => intro i _ h; omega
  | succ m ih =>
    intro i h1 h2
    unfold fX7_looked_L2 fX8_looked_L2
    rw [rd_345, hb, ha']
    by_cases e : i = n'
    · subst e
      rw [if_pos (nI_le (Nat.le_refl i) (by omega)), if_pos (nI_le (Nat.le_refl i) (by omega))]
      exact ⟨_, rfl, rfl⟩
    rw [if_neg (nI_ge (by omega) (by omega)), if_neg (nI_ge (by omega) (by omega))]
    obtain ⟨c, f, hc', hf, k1, k2, k3, k4⟩ := hd i (by omega)
    have c0 : σ.1 16 (3 * i) = nI c := (hc (3 * i) (by omega)).trans k1
    have c1 : σ.1 16 (3 * i + 1) = nI f := (hc (3 * i + 1) (by omega)).trans k2
    have c2 : σ.1 16 (3 * i + 2) = τ.1 1 (321 + 3 * i + 2) := hc (3 * i + 2) (by omega)
    rw [show fX3_number 15 (nI i) 0 σ = _ from num7 (k := 0) ha' (by omega) (by omega) (by omega), zb1_s, show fX3_number 15 (nI i) 1 σ = _ from num7 (k := 1) ha' (by omega) (by omega) (by omega), zb1_s, show fX3_number 15 (nI i) 2 σ = _ from num7 (k := 2) ha' (by omega) (by omega) (by omega)]
    rw [show σ.1 (15 + 1) (3 * i + 0) = nI c from c0, show σ.1 (15 + 1) (3 * i + 1) = nI f from c1, show σ.1 (15 + 1) (3 * i + 2) = _ from c2]
    rw [isField7 hg, zb1_s, ite10, heldBy7 hg hw, zb1_s, zb1_s, show (321 : Int32) + 3 * nI i = nI (321 + 3 * i) from x3 321 i, rd_nI (by omega) (by decide), k1, there8, zb1_s, ite10, hasN_nI hc', isF_nI hc' (by omega), decide_eq_true (Int32.not_le.mpr k3), Bool.and_true]
    cases e : bt (τ.1 1 1) c with
    | false => exact ⟨_, rfl, rfl⟩
    | true =>
      rw [if_pos rfl, if_pos rfl, if_pos rfl, fldN_nI hc' hf, show nI (321 + 3 * i) + 1 = nI (321 + 3 * i + 1) from nI_1 _, rd_nI (by omega) (by decide), k2, rd_fld hc' hf, show nI (321 + 3 * i) + 2 = nI (321 + 3 * i + 2) from by rw [show (2 : Int32) = nI 2 from rfl, nI_add], rd_nI (by omega) (by decide)]
      by_cases g : τ.1 1 (140 + 6 * c + f) = τ.1 1 (321 + 3 * i + 2)
      · rw [if_pos g, if_pos g]
        simp only [zlt]
        rw [nI_1]
        exact ih (i + 1) (by omega) (by omega)
      · rw [if_neg g, if_neg g]
        exact ⟨_, rfl, rfl⟩
theorem T_looked {σ τ : zkS} (hR : zRel σ τ) : ∃ (r : Int32), fX7_looked σ = some r ∧ fX8_looked τ = some r ∧ zRel σ τ := by
  obtain ⟨⟨-, -, ⟨-, -, ⟨-, n, hn, hb, -⟩⟩, -⟩, -⟩ := id hR
  obtain ⟨r, h1, h2⟩ := looked_L hR hb hn zFU 0 (by omega) (by unfold zFU; omega)
  exact ⟨r, h1, h2, hR⟩
theorem lay7' {σ : zkS} {b : Nat} {w : Nat → Int32} (h : rG σ b w) (p : Int32) : fX0_layoutOf b p σ = some (if hasN (w 1) p then w (20 + p.toNatClampNeg) else -1) := by
  unfold fX0_layoutOf
  rw [there7, ite10, h.2.1]
  cases e : hasN (w 1) p with
  | false => rfl
  | true =>
    obtain ⟨c, hc, rfl, hb⟩ := hasN_of e
    rw [if_pos rfl, if_pos rfl, rd24 hc, (h.2.2.2.1 c hc).1, nI_clamp (by omega)]
theorem under_all : ∀ a, a < 7 → ∀ b, b < 7 → (zb1 (fX7_isUnder (nI a) (nI b)) (fun v3 => if v3 = 0 then some (-12) else some (nI a))) = (if nI b = 0 then some (nI a) else if nI b = nI a then some (nI a) else if nI b = 3 then (if nI a = 4 then some (nI a) else if nI b = 2 then (if nI a = 5 then some (nI a) else if nI b = 1 then (if nI a = 6 then some (nI a) else some (-12)) else some (-12)) else if nI b = 1 then (if nI a = 6 then some (nI a) else some (-12)) else some (-12)) else if nI b = 2 then (if nI a = 5 then some (nI a) else if nI b = 1 then (if nI a = 6 then some (nI a) else some (-12)) else some (-12)) else if nI b = 1 then (if nI a = 6 then some (nI a) else some (-12)) else some (-12)) := by decide +kernel
theorem under_some : ∀ a, a < 7 → ∀ b, b < 7 → (zb1 (fX7_isUnder (nI a) (nI b)) (fun v3 => if v3 = 0 then some (-12) else some (nI a))).isSome = true := by decide +kernel
theorem T_taken {σ τ : zkS} (hR : zRel σ τ) (p1 : Int32) (p2 : Int32) : ∃ (r : Int32), fX7_taken p1 p2 σ = some r ∧ fX8_taken p1 p2 τ = some r ∧ zRel σ τ := by
  obtain ⟨⟨hg, hk, hs, hw, hm⟩, -⟩ := id hR
  unfold fX7_taken fX8_taken
  rw [in_0 (b := 6) p2 6 (by decide), ite01]
  by_cases h1 : p2 < 0 ∨ nI 6 < p2
  · rw [if_pos h1]
    refine ⟨-2, ?_, rfl, hR⟩
    by_cases g : p2 < 0
    · rw [if_pos g]
    · rw [if_neg g, if_neg]
      have := h1.resolve_left g
      rw [Int32.lt_iff_toInt_lt] at this
      rw [Int32.le_iff_toInt_le]
      have e : (nI 6).toInt = 6 := by decide
      have e2 : (6 : Int32).toInt = 6 := by decide
      omega
  · rw [if_neg h1, if_neg (fun q => h1 (Or.inl q))]
    obtain ⟨b, hb, rfl⟩ := rng (by decide) h1
    rw [if_pos (show nI b ≤ (6 : Int32) from nI_le (b := 6) hb (by decide)), there7, ite10, there8, zb1_s, ite10, lay7' hg, zb1_s, zb1_s, show σ.1 2 1 = τ.1 1 1 from hg.2.1]
    cases e : hasN (τ.1 1 1) p1 with
    | false => exact ⟨_, rfl, rfl, hR⟩
    | true =>
      obtain ⟨c, hc, rfl, hbt⟩ := hasN_of e
      obtain ⟨a, ha, ea⟩ := (hw.2.1 c hc).1
      obtain ⟨r, hr⟩ := Option.isSome_iff_exists.mp (under_some a (by omega) b (by omega))
      rw [if_pos rfl, if_pos rfl, if_pos rfl, nI_clamp (by omega), ea, rd_20c hc, ea]
      simp only [jn, if_neg (show ¬ (1 : Int32) = 0 by decide), if_true]
      exact ⟨r, hr, (under_all a (by omega) b (by omega)).symm.trans hr, hR⟩
