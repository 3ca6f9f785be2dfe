/-! ===== one step of a marking ===== -/
theorem lat_L {t : zkS} {u : Nat} {K : zkS → Option zkS} : ∀ m i, i ≤ 24 → 24 - i < m → (∀ j, j < i → bt (t.1 u 13) j = false) → ((∀ j, j < 24 → bt (t.1 u 13) j = false) ∧ fX8_stepAtNone_L50 m u (nI i) t K = K t) ∨ ∃ k, k < 24 ∧ bt (t.1 u 13) k = true ∧ (∀ j, j < k → bt (t.1 u 13) j = false) ∧ fX8_stepAtNone_L50 m u (nI i) t K = some (zsi (zsi (zsi t u 13 (t.1 u 13 &&& ((1 <<< (nI k &&& 31)) ^^^ (-1)))) u 4 (nI k)) u (92 + k) 0) := by
  intro m
  induction m with
  | zero => intros; omega
  | succ m ih =>
    intro i h1 h2 h3
    unfold fX8_stepAtNone_L50
    by_cases e : i = 24
    · subst e
      rw [if_pos (by decide)]
      exact Or.inl ⟨h3, rfl⟩
    rw [if_neg (show ¬ (24 : Int32) ≤ nI i from nI_n24 (by omega)), rd_13, rd_13, bit8_eq _ (by omega), ite10]
    cases eb : bt (t.1 u 13) i with
    | false =>
      rw [if_neg (by decide)]
      simp only [zlt]
      rw [nI_1]
      refine ih (i + 1) (by omega) (by omega) (fun j hj => ?_)
      by_cases ej : j = i
      · rw [ej]; exact eb
      · exact h3 j (by omega)
    | true =>
      rw [if_pos rfl, wr_13, wr_4, wr_92c (by omega)]
      exact Or.inr ⟨i, by omega, eb, h3, rfl⟩
theorem holes {f : Nat → Nat} {n : Nat} (h1 : ∀ j, j < n → f j < 24) (h2 : ∀ i j, i < j → j < n → f i ≠ f j) : ∀ k, k ≤ n → k ≤ cn (fun x => decide (∃ j, j < k ∧ f j = x)) 24 := by
  intro k
  induction k with
  | zero => intro _; exact Nat.zero_le _
  | succ k ih =>
    intro hk
    have := ih (by omega)
    have := cn_lt (p := fun x => decide (∃ j, j < k ∧ f j = x)) (q := fun x => decide (∃ j, j < k + 1 ∧ f j = x)) (fun x q => by
      rw [decide_eq_true_eq] at q ⊢
      obtain ⟨j, q1, q2⟩ := q
      exact ⟨j, by omega, q2⟩) (i := f k) (decide_eq_false (fun q => by
      obtain ⟨j, q1, q2⟩ := q
      exact h2 j k q1 (by omega) q2)) (decide_eq_true ⟨k, by omega, rfl⟩) (n := 24) (h1 k (by omega))
    omega
theorem holes24 {f : Nat → Nat} {n : Nat} (h1 : ∀ j, j < n → f j < 24) (h2 : ∀ i j, i < j → j < n → f i ≠ f j) : n ≤ 24 := Nat.le_trans (holes h1 h2 n (Nat.le_refl n)) (cn_le _ 24)
/-- the class's step -/
def stp7 (b o : Nat) (s : zkS) : Option zkS := if s.1 b 4 = -5 then zb1 (fX2_setOut b o s) (fun s2 => some (zsi s2 b 6 (s2.1 b 6 + 1))) else zb1 (fX2_countOf b (s.1 b 4) s) (fun v5 => zb1 (fX0_sizeOf o (s.1 b 4) s) (fun v6 => if v6 ≤ v5 then zb1 (fX2_comeUp b s) (fun s7 => some (zsi s7 b 6 (s7.1 b 6 + 1))) else zb1 (fX2_goOn b o s) (fun s10 => some (zsi s10 b 6 (s10.1 b 6 + 1)))))
theorem run_1s (n b o : Nat) (x2 x4 : Int32) (s : zkS) (K : zkS → Option (Int32 × zkS)) : fX2_run_L8 (n + 1) b o x2 x4 s K = if x2 ≤ x4 then K s else if s.1 b 0 = 0 then K s else zb1 (stp7 b o s) (fun s' => fX2_run_L8 n b o x2 (x4 + 1) s' K) := by
  conv => lhs; unfold fX2_run_L8
  unfold stp7
  by_cases h1 : x2 ≤ x4
  · rw [if_pos h1, if_pos h1]
  rw [if_neg h1, if_neg h1]
  by_cases h2 : s.1 b 0 = 0
  · rw [if_pos h2, if_pos h2]
  rw [if_neg h2, if_neg h2]
  by_cases h3 : s.1 b 4 = -5
  · rw [if_pos h3, if_pos h3]
    cases fX2_setOut b o s <;> rfl
  rw [if_neg h3, if_neg h3]
  cases fX2_countOf b (s.1 b 4) s with
  | none => rfl
  | some v5 =>
    rw [zb1_s, zb1_s]
    cases fX0_sizeOf o (s.1 b 4) s with
    | none => rfl
    | some v6 =>
      rw [zb1_s, zb1_s]
      by_cases h4 : v6 ≤ v5
      · rw [if_pos h4, if_pos h4]
        cases fX2_comeUp b s <;> rfl
      · rw [if_neg h4, if_neg h4]
        cases fX2_goOn b o s <;> rfl
/-- a sum over the first n -/
def su (f : Nat → Nat) : Nat → Nat
  | 0 => 0
  | n + 1 => su f n + f n
theorem su_le {f g : Nat → Nat} : ∀ {n : Nat}, (∀ k, k < n → f k ≤ g k) → su f n ≤ su g n
  | 0, _ => Nat.le_refl _
  | n + 1, h => by
    have h1 := su_le (n := n) (fun k hk => h k (by omega))
    have h2 := h n (by omega)
    unfold su
    omega
theorem su_lt {f g : Nat → Nat} {i : Nat} (hi : f i < g i) : ∀ {n : Nat}, i < n → (∀ k, k < n → f k ≤ g k) → su f n < su g n
  | 0, h, _ => by omega
  | n + 1, h, hk => by
    unfold su
    by_cases e : i = n
    · subst e
      have := su_le (n := i) (fun k q => hk k (by omega))
      omega
    · have h1 := su_lt hi (n := n) (by omega) (fun k q => hk k (by omega))
      have h2 := hk n (by omega)
      omega
theorem su_b {f : Nat → Nat} {c : Nat} : ∀ {n : Nat}, (∀ k, k < n → f k ≤ c) → su f n ≤ n * c
  | 0, _ => Nat.zero_le _
  | n + 1, h => by
    have h1 := su_b (n := n) (fun k hk => h k (by omega))
    have h2 := h n (by omega)
    unfold su
    rw [Nat.succ_mul]
    omega
/-- at or on the way -/
def onW (w : Nat → Int32) (c : Nat) : Bool := decide (w 4 = nI c ∨ ∃ j, j < (w 6).toNatClampNeg ∧ w (116 + j) = nI c)
/-- what a cell may cost yet -/
def cst (w : Nat → Int32) (c : Nat) : Nat := if bt (w 12) c = false then (w (68 + c)).toNatClampNeg + 3 else if bt (w 13) c = true then (w (68 + c)).toNatClampNeg + 2 else (w (68 + c)).toNatClampNeg - (w (92 + c)).toNatClampNeg + (if onW w c = true then 1 else 0)
def msr (w : Nat → Int32) : Nat := (4 - (w 5).toNatClampNeg) + su (cst w) 24
