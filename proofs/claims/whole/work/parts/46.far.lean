/-! ===== how far ===== -/
theorem far7_L {σ : zkS} {w : Nat → Int32} (h43 : ∀ c, c < 24 → bs (σ.1 43 c) (eW w c)) {x4 : Int32} {K : Int32 → Option Int32} : ∀ m i x2, i ≤ 24 → 24 - i < m → ∃ x', fX1_farOf_L29 m σ x4 x2 (nI i) K = K x' ∧ ∀ j, j < 32 → (bt x' j = true ↔ bt x2 j = true ∨ ∃ c, i ≤ c ∧ bt x4 c = true ∧ eW w c j) := by
  intro m
  induction m with
  | zero => intros; omega
  | succ m ih =>
    intro i x2 h1 h2
    unfold fX1_farOf_L29
    by_cases e : i = 24
    · subst e
      rw [if_pos (by decide)]
      exact ⟨x2, rfl, fun j hj => ⟨Or.inl, fun q => q.elim id fun q => by obtain ⟨c, q1, -, q2, -⟩ := q; omega⟩⟩
    rw [if_neg (show ¬ (24 : Int32) ≤ nI i from nI_n24 (by omega)), has_eq, hasN_nI (by omega), ite10]
    simp only [zlt]
    rw [nI_1]
    cases eb : bt x4 i with
    | false =>
      rw [if_neg (by decide)]
      obtain ⟨x', k1, k2⟩ := ih (i + 1) (x2 ||| 0) (by omega) (by omega)
      refine ⟨x', k1, fun j hj => (k2 j hj).trans ?_⟩
      rw [b_or, b_0, Bool.or_false]
      refine ⟨fun q => q.imp id fun q => ?_, fun q => q.imp id fun q => ?_⟩
      · obtain ⟨c, q1, q2⟩ := q
        exact ⟨c, by omega, q2⟩
      · obtain ⟨c, q1, q2, q3⟩ := q
        have : c ≠ i := fun q => by rw [q, eb] at q2; cases q2
        exact ⟨c, by omega, q2, q3⟩
    | true =>
      rw [if_pos rfl, rd24 (by omega)]
      obtain ⟨x', k1, k2⟩ := ih (i + 1) (x2 ||| σ.1 43 i) (by omega) (by omega)
      refine ⟨x', k1, fun j hj => (k2 j hj).trans ?_⟩
      rw [b_or, Bool.or_eq_true, h43 i (by omega) j hj]
      refine ⟨fun q => ?_, fun q => ?_⟩
      · rcases q with (q | q) | ⟨c, q1, q2⟩
        · exact Or.inl q
        · exact Or.inr ⟨i, Nat.le_refl _, eb, q⟩
        · exact Or.inr ⟨c, by omega, q2⟩
      · rcases q with q | ⟨c, q1, q2, q3⟩
        · exact Or.inl (Or.inl q)
        · by_cases ec : c = i
          · subst ec
            exact Or.inl (Or.inr q3)
          · exact Or.inr ⟨c, by omega, q2, q3⟩
theorem far8_L1 {τ : zkS} {u c : Nat} (hg : wG (τ.1 u)) (hc : c < 24) {x5 : Int32} (h5 : bt x5 c = true → bt (τ.1 u 1) c = true) {K : Int32 → Option Int32} : ∀ m i x3, i ≤ 6 → 6 - i < m → ∃ x', fX8_far_L39 m u τ x5 (nI c) x3 (nI i) K = K x' ∧ ∀ j, j < 32 → (bt x' j = true ↔ bt x3 j = true ∨ (bt x5 c = true ∧ j < 24 ∧ ∃ i', i ≤ i' ∧ i' < 6 ∧ nI i' < τ.1 u (68 + c) ∧ ld (τ.1 u) c i' = nI j)) := by
  intro m
  induction m with
  | zero => intros; omega
  | succ m ih =>
    intro i x3 h1 h2
    unfold fX8_far_L39
    rw [bit8_eq _ (by omega), ite10]
    cases eb : bt x5 c with
    | false =>
      rw [if_neg (by decide)]
      exact ⟨x3, rfl, fun j hj => ⟨Or.inl, fun q => q.elim id (fun q => absurd q.1 (by decide))⟩⟩
    | true =>
      rw [if_pos rfl, rd_68c hc]
      obtain ⟨z, hz6, ez⟩ := size_of hg hc
      rw [ez]
      by_cases e : z ≤ i
      · rw [if_pos (nI_le e (by omega))]
        refine ⟨x3, rfl, fun j hj => ⟨Or.inl, fun q => q.elim id (fun q => ?_)⟩⟩
        obtain ⟨q1, q3, i', q4, q5, q6, q7⟩ := q
        have := (nI_ltI (by omega) (by omega)).mp q6
        omega
      · have hs : nI i < τ.1 u (68 + c) := by rw [ez]; exact nI_lt (by omega) (by omega)
        rw [if_neg (nI_ge (by omega) (by omega)), lead8 hg hc (by omega) hs, zb1_s]
        simp only [zlt]
        rw [nI_1]
        have hv := ld_hC hg hc (show i < 6 by omega) (h5 eb) hs
        rcases hv with qv | ⟨d, hd, ed, hbd⟩
        · rw [qv, if_pos (by decide)]
          obtain ⟨x', k1, k2⟩ := ih (i + 1) (x3 ||| 0) (by omega) (by omega)
          refine ⟨x', k1, fun j hj => (k2 j hj).trans ?_⟩
          rw [b_or, b_0, Bool.or_false]
          refine ⟨fun q => q.imp id fun q => ?_, fun q => q.imp id fun q => ?_⟩
          · obtain ⟨q1, q3, i', q4, q5⟩ := q
            rw [ez] at q5
            exact ⟨trivial, q3, i', by omega, q5⟩
          · obtain ⟨q1, q3, i', q4, q5, q6, q7⟩ := q
            refine ⟨eb, q3, i', ?_, q5, by rw [ez]; exact q6, q7⟩
            have : i' ≠ i := fun e => by
              rw [e, qv] at q7
              exact absurd (q7 ▸ (by decide : (-5 : Int32) < 0)) (nI_nneg (by omega))
            omega
        · rw [ed, if_neg (nI_nneg (by omega))]
          obtain ⟨x', k1, k2⟩ := ih (i + 1) (x3 ||| (1 <<< (nI d &&& 31))) (by omega) (by omega)
          refine ⟨x', k1, fun j hj => (k2 j hj).trans ⟨fun q => ?_, fun q => ?_⟩⟩
          · rw [b_or, Bool.or_eq_true, bs_one hd j hj] at q
            rcases q with (q | q) | q
            · exact Or.inl q
            · subst q
              exact Or.inr ⟨trivial, hd, i, Nat.le_refl _, by omega, by rw [← ez]; exact hs, ed⟩
            · obtain ⟨q1, q3, i', q4, q5⟩ := q
              rw [ez] at q5
              exact Or.inr ⟨trivial, q3, i', by omega, q5⟩
          · rw [b_or, Bool.or_eq_true, bs_one hd j hj]
            rcases q with q | ⟨q1, q3, i', q4, q5, q6, q7⟩
            · exact Or.inl (Or.inl q)
            · by_cases ei : i' = i
              · subst ei
                rw [ed] at q7
                exact Or.inl (Or.inr ((nI_eq (by omega) (by omega)).mp q7).symm)
              · exact Or.inr ⟨eb, q3, i', by omega, q5, by rw [ez]; exact q6, q7⟩
theorem far8_L2 {τ : zkS} {u : Nat} (hg : wG (τ.1 u)) {x5 : Int32} (h5 : ∀ c, c < 24 → bt x5 c = true → bt (τ.1 u 1) c = true) {K : Int32 → Option Int32} : ∀ m c x3, c ≤ 24 → 24 - c < m → ∃ x', fX8_far_L29 m u τ x5 x3 (nI c) K = K x' ∧ ∀ j, j < 32 → (bt x' j = true ↔ bt x3 j = true ∨ ∃ c', c ≤ c' ∧ bt x5 c' = true ∧ eW (τ.1 u) c' j) := by
  intro m
  induction m with
  | zero => intros; omega
  | succ m ih =>
    intro c x3 h1 h2
    unfold fX8_far_L29
    by_cases e : c = 24
    · subst e
      rw [if_pos (by decide)]
      refine ⟨x3, rfl, fun j hj => ⟨Or.inl, fun q => q.elim id (fun q => ?_)⟩⟩
      obtain ⟨c', q1, -, q2, -⟩ := q
      omega
    rw [if_neg (show ¬ (24 : Int32) ≤ nI c from nI_n24 (by omega))]
    obtain ⟨x1, k1, k2⟩ := far8_L1 hg (show c < 24 by omega) (h5 c (by omega)) (K := fun x10 => zlt (nI c + 1) (fun v11 => fX8_far_L29 m u τ x5 x10 v11 K)) zFU 0 x3 (by omega) (by unfold zFU; omega)
    rw [show (0 : Int32) = nI 0 from rfl, k1]
    simp only [zlt]
    rw [nI_1]
    obtain ⟨x', l1, l2⟩ := ih (c + 1) x1 (by omega) (by omega)
    refine ⟨x', l1, fun j hj => (l2 j hj).trans ⟨fun q => ?_, fun q => ?_⟩⟩
    · rcases q with q | ⟨c', q1, q2⟩
      · rcases (k2 j hj).mp q with q | ⟨q1, q3, i', q4, q5, q6, q7⟩
        · exact Or.inl q
        · exact Or.inr ⟨c, Nat.le_refl _, q1, by omega, q3, h5 c (by omega) q1, i', q5, q6, (fun q => nI_nneg (by omega : i' < 2 ^ 31) (by rw [q]; decide)), q7⟩
      · exact Or.inr ⟨c', by omega, q2⟩
    · rcases q with q | ⟨c', q1, q2, q3⟩
      · exact Or.inl ((k2 j hj).mpr (Or.inl q))
      · by_cases ec : c' = c
        · subst ec
          obtain ⟨r1, r2, r3, i', r4, r5, r6, r7⟩ := q3
          exact Or.inl ((k2 j hj).mpr (Or.inr ⟨q2, r2, i', by omega, r4, r5, r7⟩))
        · exact Or.inr ⟨c', by omega, q2, q3⟩
theorem far_L {σ τ : zkS} {u c : Nat} (hg : wG (τ.1 u)) (hl : ∀ c, c < 24 → bs (σ.1 43 c) (eW (τ.1 u) c)) (hc : c < 24) : ∀ m k x, k ≤ 24 → 25 - k < m → (∀ j, j < 32 → bt x j = true → j < 24 ∧ bt (τ.1 u 1) j = true) → (k + 1 ≤ cn (bt x) 24 ∨ (bt x c = false ∧ ∀ i j, bt x i = true → eW (τ.1 u) i j → bt x j = true)) →
    ∃ r, fX1_farOf_L7 m σ (nI c) x (nI k) (fun _ => some (-5)) = some r ∧ fX8_far_L7 m u τ (nI c) x (nI k) (fun _ => some (-5)) = some r ∧ (r = -5 ∨ ∃ n, n < 24 ∧ r = nI n) := by
  intro m
  induction m with
  | zero => intros; omega
  | succ m ih =>
    intro k x h1 h2 h3 h4
    obtain ⟨x7, p1, p2⟩ := far7_L hl (x4 := x) (K := fun x8 => zlt (nI k + 1) (fun v9 => fX1_farOf_L7 m σ (nI c) x8 v9 (fun _ => some (-5)))) zFU 0 x (by omega) (by unfold zFU; omega)
    obtain ⟨x8, q1, q2⟩ := far8_L2 hg (x5 := x) (fun c hc q => (h3 c (by omega) q).2) (K := fun x12 => zlt (nI k + 1) (fun v13 => fX8_far_L7 m u τ (nI c) x12 v13 (fun _ => some (-5)))) zFU 0 x (by omega) (by unfold zFU; omega)
    have e78 : x7 = x8 := bs_u p2 q2
    subst e78
    simp only [zlt, nI_1] at p1 q1
    unfold fX1_farOf_L7 fX8_far_L7
    simp only [zlt, nI_1]
    rw [if_neg (show ¬ (25 : Int32) ≤ nI k from nI_ge (b := 25) (by omega) (by decide)), bit8_eq _ (by omega), ite10, has_eq, hasN_nI hc, ite10]
    by_cases e : k = 24
    · subst e
      rw [if_pos (show (24 : Int32) ≤ nI 24 by decide)]
      rcases h4 with h4 | ⟨h4, -⟩
      · have := cn_le (bt x) 24
        omega
      · rw [h4, if_neg (by decide), show (0 : Int32) = nI 0 from rfl, q1]
        cases m with
        | zero => omega
        | succ m =>
          unfold fX8_far_L7
          rw [if_pos (by decide)]
          exact ⟨-5, rfl, rfl, Or.inl rfl⟩
    · rw [if_neg (show ¬ (24 : Int32) ≤ nI k from nI_n24 (by omega))]
      cases eb : bt x c with
      | true =>
        rw [if_pos rfl, if_pos rfl]
        exact ⟨_, rfl, rfl, Or.inr ⟨k, by omega, rfl⟩⟩
      | false =>
        rw [if_neg (by decide), if_neg (by decide), show (0 : Int32) = nI 0 from rfl, p1, q1]
        have n3 : ∀ j, j < 32 → bt x7 j = true → j < 24 ∧ bt (τ.1 u 1) j = true := fun j hj q => by
          rcases (p2 j hj).mp q with q | ⟨c', -, -, q⟩
          · exact h3 j hj q
          · exact ⟨q.2.1, eX_there hg q⟩
        refine ih (k + 1) x7 (by omega) (by omega) n3 ?_
        by_cases ex : x = x7
        · right
          refine ⟨by rw [← ex]; exact eb, fun i j qi qe => ?_⟩
          rw [← ex] at qi
          exact (p2 j (by have := qe.2.1; omega)).mpr (Or.inr ⟨i, by omega, qi, qe⟩)
        · have hs : ∀ j, bt x j = true → bt x7 j = true := fun j q => by
            rcases Nat.lt_or_ge j 32 with hj | hj
            · exact (p2 j hj).mpr (Or.inl q)
            · rw [b_big hj] at q
              cases q
          rcases h4 with h4 | ⟨-, h4⟩
          · left
            obtain ⟨j, hj, b1, b2⟩ := bits24 (fun j hj q => (h3 j hj q).1) (fun j hj q => (n3 j hj q).1) ex hs
            have := cn_lt (p := bt x) (q := bt x7) hs b1 b2 hj
            omega
          · exfalso
            refine ex (b_ext fun i hi => ?_)
            cases e : bt x i with
            | true => exact (hs i e).symm
            | false =>
              cases e2 : bt x7 i with
              | false => rfl
              | true =>
                rcases (p2 i hi).mp e2 with q | ⟨c', -, qc, q⟩
                · rw [e] at q; cases q
                · rw [h4 c' i qc q] at e; cases e
theorem far78 {σ τ : zkS} {u c : Nat} (hg : wG (τ.1 u)) (hl : lnk σ (τ.1 u)) (hc : c < 24) : ∃ r, fX1_farOf (nI c) σ = some r ∧ fX8_far u (nI c) τ = some r ∧ (r = -5 ∨ ∃ n, n < 24 ∧ r = nI n) := by
  unfold fX1_farOf fX8_far
  obtain ⟨f, ef, hf⟩ := rooted8 hg
  rw [ef, zb1_s, show σ.1 42 1 = f from bs_u hl.1 hf]
  refine far_L hg hl.2 hc zFU 0 f (by omega) (by unfold zFU; omega) (fun j hj q => ?_) ?_
  · have := (hf j hj).mp q
    exact ⟨this.1, rW_there hg this⟩
  · by_cases e : f = 0
    · right
      subst e
      exact ⟨b_0 c, fun i j q => by rw [b_0] at q; cases q⟩
    · left
      obtain ⟨k, hk, hb, -⟩ := least_bit e
      have := cn_lt (p := fun _ => false) (q := bt f) (fun _ q => by cases q) (i := k) rfl hb (n := 24) ((hf k hk).mp hb).1
      omega
/-- kept by a cell alone -/
theorem kept78 {σ τ : zkS} {c : Nat} (hg : wG (τ.1 1)) (hl : lnk σ (τ.1 1)) (hc : c < 24) : ∃ r, fX1_keptBy (nI c) σ = some r ∧ zb1 (fX8_reached 1 τ) (fun v18 => if fX8_bit v18 (nI c) = 0 then some (0, τ) else zb1 (fX8_reached 1 τ) (fun v20 => zb1 (fX8_rooted 1 τ) (fun v21 => zb1 (fX8_reach 1 v21 (nI c) τ) (fun v22 => some ((v20 &&& (v22 ^^^ (-1))), τ))))) = some (r, τ) := by
  unfold fX1_keptBy
  obtain ⟨x, ex, hx⟩ := reached7 hl
  obtain ⟨x', ex', hx'⟩ := reached8 hg
  have e := bs_u hx hx'
  subst e
  obtain ⟨f, ef, hf⟩ := rooted8 hg
  obtain ⟨y, ey, hy⟩ := reach8 hg hf (fun i q => ⟨q.1, rW_there hg q⟩) (p := c) (by omega)
  obtain ⟨y', ey', hy'⟩ := spread7 (σ := σ) (f := σ.1 42 1) (bar := fX7_bit (nI c)) (fun i j (q : eW (τ.1 1) i j) => ⟨q.1, q.2.1⟩) (fun i (q : rW (τ.1 1) i) => q.1) hl.1 (fun i hi => by rw [bit_bt hc, decide_eq_true_eq] : bs (fX7_bit (nI c)) (fun i => i = c)) hl.2
  have e := bs_u hy hy'
  subst e
  rw [ex, ex', zb1_s, zb1_s, has_eq, hasN_nI hc, ite10, bit8_eq _ (by omega), ite10, ey', zb1_s, zb1_s, ef, zb1_s, ey, zb1_s]
  cases bt x c with
  | false => exact ⟨_, rfl, rfl⟩
  | true => exact ⟨_, rfl, rfl⟩
