/-! ===== the model's way to what is reached ===== -/
theorem bs_one {d : Nat} (hd : d < 24) : bs (1 <<< (nI d &&& 31)) (fun j => j = d) := fun i hi => by
  rw [bt_one (by omega), decide_eq_true_eq]
theorem rooted_L {τ : zkS} {u : Nat} (hg : wG (τ.1 u)) : ∀ m i x, i ≤ 4 → 4 - i < m → bs x (fun j => j < 24 ∧ ∃ r, r < i ∧ τ.1 u (16 + r) = nI j) → ∃ x', fX8_rooted_L4 m u τ x (nI i) (fun x => some x) = some x' ∧ bs x' (rW (τ.1 u)) := by
  intro m
  induction m with
  | zero => intros; omega
  | succ m ih =>
    intro i x h1 h2 h3
    unfold fX8_rooted_L4
    by_cases e : i = 4
    · subst e
      rw [if_pos (by decide)]
      exact ⟨x, rfl, h3⟩
    rw [if_neg (show ¬ (4 : Int32) ≤ nI i from nI_ge (b := 4) (by omega) (by decide)), rd_16c (by omega), rd_16c (by omega)]
    simp only [zlt]
    rw [nI_1]
    have nx : ∀ y, bs y (fun j => j < 24 ∧ τ.1 u (16 + i) = nI j) → ∃ x', fX8_rooted_L4 m u τ (x ||| y) (nI (i + 1)) (fun x => some x) = some x' ∧ bs x' (rW (τ.1 u)) := fun y hy => by
      refine ih (i + 1) _ (by omega) (by omega) (bs_iff (bs_or h3 hy) fun j hj => ⟨fun q => ?_, fun q => ?_⟩)
      · rcases q with ⟨q1, r, q3, q4⟩ | ⟨q1, q2⟩
        · exact ⟨q1, r, by omega, q4⟩
        · exact ⟨q1, i, by omega, q2⟩
      · obtain ⟨q1, r, q3, q4⟩ := q
        by_cases er : r = i
        · subst er
          exact Or.inr ⟨q1, q4⟩
        · exact Or.inl ⟨q1, r, by omega, q4⟩
    rcases hg.2.2.2 i (by omega) with q | ⟨d, hd, ed, hbd⟩
    · rw [q, if_pos (by decide)]
      exact nx 0 (bs_iff bs_0 fun j hj => ⟨fun q => q.elim, fun q2 => by
        rw [q] at q2
        exact absurd (q2.2 ▸ (by decide : (-5 : Int32) < 0)) (nI_nneg (by omega))⟩)
    · rw [ed, if_neg (nI_nneg (by omega))]
      exact nx _ (bs_iff (bs_one hd) fun j hj => ⟨fun q => ⟨by omega, by rw [ed, q]⟩, fun q => by
        rw [ed] at q
        exact ((nI_eq (by omega) (by omega)).mp q.2).symm⟩)
theorem rooted8 {τ : zkS} {u : Nat} (hg : wG (τ.1 u)) : ∃ x, fX8_rooted u τ = some x ∧ bs x (rW (τ.1 u)) := by
  unfold fX8_rooted
  exact rooted_L hg zFU 0 0 (by omega) (by unfold zFU; omega) (bs_iff bs_0 fun j hj => ⟨fun q => q.elim, fun q => by obtain ⟨q1, r, q3, q4⟩ := q; omega⟩)
theorem lead8 {τ : zkS} {u c k : Nat} (hg : wG (τ.1 u)) (hc : c < 24) (hk : k < 6) (hs : nI k < τ.1 u (68 + c)) : fX8_leads u (nI c) (nI k) τ = some (ld (τ.1 u) c k) := leads8 hg hc hk hs
/-- one cell's edges added -/
theorem reach_L1 {τ : zkS} {u c : Nat} (hg : wG (τ.1 u)) (hc : c < 24) {x5 : Int32} (h5 : bt x5 c = true → bt (τ.1 u 1) c = true) {p : Nat} (hp : p ≤ 24) {K : Int32 → Option Int32} : ∀ m i x3, i ≤ 6 → 6 - i < m → ∃ x', fX8_reach_L42 m u τ (nI p) x5 (nI c) x3 (nI i) K = K x' ∧ ∀ j, j < 32 → (bt x' j = true ↔ bt x3 j = true ∨ (bt x5 c = true ∧ j ≠ p ∧ j < 24 ∧ ∃ i', i ≤ i' ∧ i' < 6 ∧ nI i' < τ.1 u (68 + c) ∧ ld (τ.1 u) c i' = nI j)) := by
  intro m
  induction m with
  | zero => intros; omega
  | succ m ih =>
    intro i x3 h1 h2
    unfold fX8_reach_L42
    rw [bit8_eq _ (by omega), ite10]
    cases eb : bt x5 c with
    | false =>
      rw [if_neg (by decide)]
      exact ⟨x3, rfl, fun j hj => ⟨Or.inl, fun q => q.elim id (fun q => absurd q.1 (by decide))⟩⟩
    | true =>
      rw [if_pos rfl, rd_68c hc]
      obtain ⟨z, hz6, ez⟩ := size_of hg hc
      rw [ez]
      by_cases e : z ≤ i
      · rw [if_pos (nI_le e (by omega))]
        refine ⟨x3, rfl, fun j hj => ⟨Or.inl, fun q => q.elim id (fun q => ?_)⟩⟩
        obtain ⟨q1, q2, q3, i', q4, q5, q6, q7⟩ := q
        have := (nI_ltI (by omega) (by omega)).mp q6
        omega
      · have hs : nI i < τ.1 u (68 + c) := by rw [ez]; exact nI_lt (by omega) (by omega)
        rw [if_neg (nI_ge (by omega) (by omega)), lead8 hg hc (by omega) hs, zb1_s]
        simp only [zlt]
        rw [nI_1]
        have hv := ld_hC hg hc (show i < 6 by omega) (h5 eb) hs
        have skip : (∀ j, j < 24 → j ≠ p → ld (τ.1 u) c i ≠ nI j) → ∃ x', fX8_reach_L42 m u τ (nI p) x5 (nI c) x3 (nI (i + 1)) K = K x' ∧ ∀ j, j < 32 → (bt x' j = true ↔ bt x3 j = true ∨ (True ∧ j ≠ p ∧ j < 24 ∧ ∃ i', i ≤ i' ∧ i' < 6 ∧ nI i' < nI z ∧ ld (τ.1 u) c i' = nI j)) := fun hn => by
          obtain ⟨x', k1, k2⟩ := ih (i + 1) x3 (by omega) (by omega)
          refine ⟨x', k1, fun j hj => (k2 j hj).trans ⟨fun q => q.imp id fun q => ?_, fun q => q.imp id fun q => ?_⟩⟩
          · obtain ⟨q1, q2, q3, i', q4, q5⟩ := q
            rw [ez] at q5
            exact ⟨trivial, q2, q3, i', by omega, q5⟩
          · obtain ⟨q1, q2, q3, i', q4, q5, q6, q7⟩ := q
            refine ⟨eb, q2, q3, i', ?_, q5, by rw [ez]; exact q6, q7⟩
            have : i' ≠ i := fun q => hn j q3 q2 (by rw [← q]; exact q7)
            omega
        rcases hv with q | ⟨d, hd, ed, hbd⟩
        · rw [q, if_pos (by decide)]
          exact skip fun j hj _ q2 => by
            rw [q] at q2
            exact absurd (q2 ▸ (by decide : (-5 : Int32) < 0)) (nI_nneg (by omega))
        · rw [ed, if_neg (nI_nneg (by omega))]
          by_cases edp : d = p
          · rw [if_pos (by rw [edp])]
            exact skip fun j hj hjp q2 => by
              rw [ed] at q2
              exact hjp (((nI_eq (by omega) (by omega)).mp q2).symm.trans edp)
          · rw [if_neg (fun q => edp ((nI_eq (by omega) (by omega)).mp q))]
            obtain ⟨x', k1, k2⟩ := ih (i + 1) (x3 ||| (1 <<< (nI d &&& 31))) (by omega) (by omega)
            refine ⟨x', k1, fun j hj => (k2 j hj).trans ⟨fun q => ?_, fun q => ?_⟩⟩
            · rw [b_or, Bool.or_eq_true, bs_one hd j hj] at q
              rcases q with (q | q) | q
              · exact Or.inl q
              · subst q
                exact Or.inr ⟨trivial, edp, hd, i, Nat.le_refl _, by omega, by rw [← ez]; exact hs, ed⟩
              · obtain ⟨q1, q2, q3, i', q4, q5⟩ := q
                rw [ez] at q5
                exact Or.inr ⟨trivial, q2, q3, i', by omega, q5⟩
            · rw [b_or, Bool.or_eq_true, bs_one hd j hj]
              rcases q with q | ⟨q1, q2, q3, i', q4, q5, q6, q7⟩
              · exact Or.inl (Or.inl q)
              · by_cases ei : i' = i
                · subst ei
                  rw [ed] at q7
                  exact Or.inl (Or.inr ((nI_eq (by omega) (by omega)).mp q7).symm)
                · exact Or.inr ⟨eb, q2, q3, i', by omega, q5, by rw [ez]; exact q6, q7⟩
/-- one round over all cells -/
theorem reach_L2 {τ : zkS} {u : Nat} (hg : wG (τ.1 u)) {x5 : Int32} (h5 : ∀ c, c < 24 → bt x5 c = true → bt (τ.1 u 1) c = true) {p : Nat} (hp : p ≤ 24) {K : Int32 → Option Int32} : ∀ m c x3, c ≤ 24 → 24 - c < m → ∃ x', fX8_reach_L32 m u τ (nI p) x5 x3 (nI c) K = K x' ∧ ∀ j, j < 32 → (bt x' j = true ↔ bt x3 j = true ∨ (j ≠ p ∧ ∃ c', c ≤ c' ∧ bt x5 c' = true ∧ eW (τ.1 u) c' j)) := by
  intro m
  induction m with
  | zero => intros; omega
  | succ m ih =>
    intro c x3 h1 h2
    unfold fX8_reach_L32
    by_cases e : c = 24
    · subst e
      rw [if_pos (by decide)]
      refine ⟨x3, rfl, fun j hj => ⟨Or.inl, fun q => q.elim id (fun q => ?_)⟩⟩
      obtain ⟨-, c', q1, -, q2, -⟩ := q
      omega
    rw [if_neg (show ¬ (24 : Int32) ≤ nI c from nI_n24 (by omega))]
    obtain ⟨x1, k1, k2⟩ := reach_L1 hg (show c < 24 by omega) (h5 c (by omega)) hp (K := fun x10 => zlt (nI c + 1) (fun v11 => fX8_reach_L32 m u τ (nI p) x5 x10 v11 K)) zFU 0 x3 (by omega) (by unfold zFU; omega)
    rw [show (0 : Int32) = nI 0 from rfl, k1]
    simp only [zlt]
    rw [nI_1]
    obtain ⟨x', l1, l2⟩ := ih (c + 1) x1 (by omega) (by omega)
    refine ⟨x', l1, fun j hj => (l2 j hj).trans ⟨fun q => ?_, fun q => ?_⟩⟩
    · rcases q with q | ⟨q0, c', q1, q2⟩
      · rcases (k2 j hj).mp q with q | ⟨q1, q2, q3, i', q4, q5, q6, q7⟩
        · exact Or.inl q
        · exact Or.inr ⟨q2, c, Nat.le_refl _, q1, by omega, q3, h5 c (by omega) q1, i', q5, q6, (fun q => nI_nneg (by omega : i' < 2 ^ 31) (by rw [q]; decide)), q7⟩
      · exact Or.inr ⟨q0, c', by omega, q2⟩
    · rcases q with q | ⟨q0, c', q1, q2, q3⟩
      · exact Or.inl ((k2 j hj).mpr (Or.inl q))
      · by_cases ec : c' = c
        · subst ec
          obtain ⟨r1, r2, r3, i', r4, r5, r6, r7⟩ := q3
          exact Or.inl ((k2 j hj).mpr (Or.inr ⟨q2, q0, r2, i', by omega, r4, r5, r7⟩))
        · exact Or.inr ⟨q0, c', by omega, q2, q3⟩
theorem cn_lt {p q : Nat → Bool} (hs : ∀ k, p k = true → q k = true) {i : Nat} (hp : p i = false) (hq : q i = true) : ∀ {n : Nat}, i < n → cn p n < cn q n
  | 0, h => by omega
  | n + 1, h => by
    have le : ∀ m, cn p m ≤ cn q m := fun m => by
      induction m with
      | zero => exact Nat.le_refl _
      | succ m ih =>
        unfold cn
        by_cases e : p m = true
        · rw [if_pos e, if_pos (hs m e)]; omega
        · rw [if_neg e]; split <;> omega
    unfold cn
    by_cases e : i = n
    · subst e
      have := le i
      rw [hp, hq, if_neg (by decide), if_pos rfl]
      omega
    · have := cn_lt hs hp hq (n := n) (by omega)
      by_cases ep : p n = true
      · rw [if_pos ep, if_pos (hs n ep)]; omega
      · rw [if_neg ep]; split <;> omega
theorem bits24 {x : Int32} (h : ∀ j, j < 32 → bt x j = true → j < 24) {y : Int32} (h' : ∀ j, j < 32 → bt y j = true → j < 24) (hne : x ≠ y) (hs : ∀ j, bt x j = true → bt y j = true) : ∃ j, j < 24 ∧ bt x j = false ∧ bt y j = true := by
  refine Classical.byContradiction fun q => hne (b_ext fun i hi => ?_)
  cases e : bt x i with
  | true => exact (hs i e).symm
  | false =>
    cases e2 : bt y i with
    | false => rfl
    | true => exact absurd ⟨i, h' i hi e2, e, e2⟩ q
theorem reach_L3 {τ : zkS} {u : Nat} (hg : wG (τ.1 u)) {F : Nat → Prop} {p : Nat} (hp : p ≤ 24) : ∀ m x, 24 - cn (bt x) 24 < m → (∀ j, j < 32 → bt x j = true → j < 24 ∧ bt (τ.1 u 1) j = true ∧ rch (eW (τ.1 u)) F (fun i => i = p) j) → (∀ j, F j → j ≠ p → bt x j = true) → ∃ x', fX8_reach_L21 (m + 1) u τ (nI p) x 1 (fun x => some x) = some x' ∧ bs x' (rch (eW (τ.1 u)) F (fun i => i = p)) := by
  intro m
  induction m with
  | zero => intros; omega
  | succ m ih =>
    intro x h1 h2 h3
    unfold fX8_reach_L21
    rw [if_neg (by decide)]
    obtain ⟨x1, k1, k2⟩ := reach_L2 hg (x5 := x) (fun c hc q => (h2 c (by omega) q).2.1) hp (K := fun x12 => if x12 = x then fX8_reach_L21 (m + 1) u τ (nI p) x12 0 (fun x => some x) else fX8_reach_L21 (m + 1) u τ (nI p) x12 1 (fun x => some x)) zFU 0 x (by omega) (by unfold zFU; omega)
    simp only [show nI 0 = (0 : Int32) from rfl] at k1
    rw [k1]
    have n2 : ∀ j, j < 32 → bt x1 j = true → j < 24 ∧ bt (τ.1 u 1) j = true ∧ rch (eW (τ.1 u)) F (fun i => i = p) j := fun j hj q => by
      rcases (k2 j hj).mp q with q | ⟨q0, c', q1, q2, q3⟩
      · exact h2 j hj q
      · exact ⟨q3.2.1, eX_there hg q3, rch_step (h2 c' (by have := q3.1; omega) q2).2.2 q3 q0⟩
    by_cases e : x1 = x
    · rw [if_pos e]
      unfold fX8_reach_L21
      rw [if_pos rfl]
      refine ⟨x1, rfl, fun i hi => ⟨fun q => (n2 i hi q).2.2, fun q => ?_⟩⟩
      refine rch_min (P := fun i => bt x1 i = true) (fun i f nb => by rw [e]; exact h3 i f nb) (fun i j pi e' nb => ?_) q
      rw [e] at pi
      exact (k2 j (by have := e'.2.1; omega)).mpr (Or.inr ⟨nb, i, by omega, pi, e'⟩)
    · rw [if_neg e]
      have hs : ∀ j, bt x j = true → bt x1 j = true := fun j q => by
        rcases Nat.lt_or_ge j 32 with hj | hj
        · exact (k2 j hj).mpr (Or.inl q)
        · rw [b_big hj] at q
          cases q
      obtain ⟨j, hj, b1, b2⟩ := bits24 (fun j hj q => (h2 j hj q).1) (fun j hj q => (n2 j hj q).1) (fun q => e q.symm) hs
      have := cn_lt (p := bt x) (q := bt x1) hs b1 b2 hj
      have := cn_le (bt x1) 24
      exact ih x1 (by omega) n2 (fun j f nb => hs j (h3 j f nb))
theorem reach8 {τ : zkS} {u : Nat} (hg : wG (τ.1 u)) {F : Nat → Prop} {f : Int32} (hf : bs f F) (hF : ∀ i, F i → i < 24 ∧ bt (τ.1 u 1) i = true) {p : Nat} (hp : p ≤ 24) : ∃ x, fX8_reach u f (nI p) τ = some x ∧ bs x (rch (eW (τ.1 u)) F (fun i => i = p)) := by
  unfold fX8_reach
  simp only [jn]
  have go : ∀ v, bs v (fun i => F i ∧ i ≠ p) → ∃ x, fX8_reach_L21 zFU u τ (nI p) v 1 (fun x => some x) = some x ∧ bs x (rch (eW (τ.1 u)) F (fun i => i = p)) := fun v hv => by
    refine reach_L3 hg hp 3999 v (by omega) (fun j hj q => ?_) (fun j q1 q2 => (hv j (by have := (hF j q1).1; omega)).mpr ⟨q1, q2⟩)
    obtain ⟨q1, q2⟩ := (hv j hj).mp q
    exact ⟨(hF j q1).1, (hF j q1).2, rch_base q1 q2⟩
  by_cases e : p = 24
  · subst e
    rw [if_pos (by decide)]
    refine go f (bs_iff hf fun i hi => ⟨fun q => ⟨q, by have := (hF i q).1; omega⟩, fun q => q.1⟩)
  · rw [if_neg (show ¬ (24 : Int32) ≤ nI p from nI_n24 (by omega))]
    refine go _ fun i hi => ?_
    rw [b_and, bt_not _ hi, bt_one (by omega), Bool.and_eq_true, hf i hi, Bool.not_eq_true', decide_eq_false_iff_not]
theorem rch_24 {E : Nat → Nat → Prop} {F : Nat → Prop} (hE : ∀ i j, E i j → j < 24) (hF : ∀ i, F i → i < 24) (i : Nat) : rch E F (fun i => i = 24) i ↔ rch E F (fun _ => False) i :=
  ⟨fun h => rch_min (fun i f _ => rch_base f id) (fun i j q e _ => rch_step q e id) h, fun h => rch_min (fun i f _ => rch_base f (by have := hF i f; omega)) (fun i j q e _ => rch_step q e (by have := hE i j e; omega)) h⟩
theorem reached8 {τ : zkS} {u : Nat} (hg : wG (τ.1 u)) : ∃ x, fX8_reached u τ = some x ∧ bs x (rch (eW (τ.1 u)) (rW (τ.1 u)) (fun _ => False)) := by
  unfold fX8_reached
  obtain ⟨f, ef, hf⟩ := rooted8 hg
  obtain ⟨x, ex, hx⟩ := reach8 hg hf (fun i q => ⟨q.1, rW_there hg q⟩) (p := 24) (by omega)
  rw [ef, zb1_s, show (24 : Int32) = nI 24 from rfl, ex, zb1_s]
  exact ⟨x, rfl, bs_iff hx fun i _ => rch_24 (fun i j q => q.2.1) (fun i q => q.1) i⟩
