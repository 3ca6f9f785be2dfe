/-! ===== one step of a marking ===== -/
theorem lat_L {t : zkS} {u : Nat} {K : zkS → Option zkS} : ∀ m i, i ≤ 24 → 24 - i < m → (∀ j, j < i → bt (t.1 u 13) j = false) → ((∀ j, j < 24 → bt (t.1 u 13) j = false) ∧ fX8_stepAtNone_L50 m u (nI i) t K = K t) ∨ ∃ k, k < 24 ∧ bt (t.1 u 13) k = true ∧ (∀ j, j < k → bt (t.1 u 13) j = false) ∧ fX8_stepAtNone_L50 m u (nI i) t K = some (zsi (zsi (zsi t u 13 (t.1 u 13 &&& ((1 <<< (nI k &&& 31)) ^^^ (-1)))) u 4 (nI k)) u (92 + k) 0) := by
  intro m
  induction m with
  | zero => intros; omega
  | succ m ih =>
    intro i h1 h2 h3
    unfold fX8_stepAtNone_L50
    by_cases e : i = 24
    · subst e
      rw [if_pos (by decide)]
      exact Or.inl ⟨h3, rfl⟩
    rw [if_neg (show ¬ (24 : Int32) ≤ nI i from nI_n24 (by omega)), rd_13, rd_13, bit8_eq _ (by omega), ite10]
    cases eb : bt (t.1 u 13) i with
    | false =>
      rw [if_neg (by decide)]
      simp only [zlt]
      rw [nI_1]
      refine ih (i + 1) (by omega) (by omega) (fun j hj => ?_)
      by_cases ej : j = i
      · rw [ej]; exact eb
      · exact h3 j (by omega)
    | true =>
      rw [if_pos rfl, wr_13, wr_4, wr_92c (by omega)]
      exact Or.inr ⟨i, by omega, eb, h3, rfl⟩
