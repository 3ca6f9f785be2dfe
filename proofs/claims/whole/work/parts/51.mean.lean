/-! ===== how far: nowhere just when not reached ===== -/
theorem far_R {σ : zkS} {w : Nat → Int32} {c : Nat} (hl : ∀ c, c < 24 → bs (σ.1 43 c) (eW w c)) (hc : c < 24) : ∀ m k x, k ≤ 24 → 24 - k < m → (∀ j, j < 32 → bt x j = true → j < 24 ∧ rch (eW w) (rW w) (fun _ => False) j) → (∀ j, rW w j → bt x j = true) → (k + 1 ≤ cn (bt x) 24 ∨ (bt x c = false ∧ ∀ i j, bt x i = true → eW w i j → bt x j = true)) →
    (fX1_farOf_L7 m σ (nI c) x (nI k) (fun _ => some (-5)) = some (-5) ↔ ¬ rch (eW w) (rW w) (fun _ => False) c) := by
  intro m
  induction m with
  | zero => intros; omega
  | succ m ih =>
    intro k x h1 h2 h3 h5 h4
    obtain ⟨x7, p1, p2⟩ := far7_L hl (x4 := x) (K := fun x8 => zlt (nI k + 1) (fun v9 => fX1_farOf_L7 m σ (nI c) x8 v9 (fun _ => some (-5)))) zFU 0 x (by omega) (by unfold zFU; omega)
    simp only [zlt, nI_1] at p1
    unfold fX1_farOf_L7
    simp only [zlt, nI_1]
    rw [has_eq, hasN_nI hc, ite10]
    by_cases e : k = 24
    · subst e
      rw [if_pos (show (24 : Int32) ≤ nI 24 by decide)]
      rcases h4 with h4 | ⟨h4, h6⟩
      · have := cn_le (bt x) 24
        omega
      · refine ⟨fun _ q => ?_, fun _ => rfl⟩
        have := rch_min (P := fun i => bt x i = true) (fun i f _ => h5 i f) (fun i j p e _ => h6 i j p e) q
        rw [h4] at this
        cases this
    · rw [if_neg (show ¬ (24 : Int32) ≤ nI k from nI_n24 (by omega))]
      cases eb : bt x c with
      | true =>
        rw [if_pos rfl]
        refine ⟨fun q => ?_, fun q => absurd (h3 c (by omega) eb).2 q⟩
        exact absurd ((Option.some.inj q) ▸ (by decide : (-5 : Int32) < 0)) (nI_nneg (by omega))
      | false =>
        rw [if_neg (by decide), show (0 : Int32) = nI 0 from rfl, p1]
        have hs : ∀ j, bt x j = true → bt x7 j = true := fun j q => by
          rcases Nat.lt_or_ge j 32 with hj | hj
          · exact (p2 j hj).mpr (Or.inl q)
          · rw [b_big hj] at q
            cases q
        have n3 : ∀ j, j < 32 → bt x7 j = true → j < 24 ∧ rch (eW w) (rW w) (fun _ => False) j := fun j hj q => by
          rcases (p2 j hj).mp q with q | ⟨c', -, qc, q⟩
          · exact h3 j hj q
          · exact ⟨q.2.1, rch_step (h3 c' (by have := q.1; omega) qc).2 q id⟩
        refine ih (k + 1) x7 (by omega) (by omega) n3 (fun j f => hs j (h5 j f)) ?_
        by_cases ex : x = x7
        · right
          refine ⟨by rw [← ex]; exact eb, fun i j qi qe => ?_⟩
          rw [← ex] at qi
          exact (p2 j (by have := qe.2.1; omega)).mpr (Or.inr ⟨i, by omega, qi, qe⟩)
        · rcases h4 with h4 | ⟨-, h4⟩
          · left
            obtain ⟨j, hj, b1, b2⟩ := bits24 (fun j hj q => (h3 j hj q).1) (fun j hj q => (n3 j hj q).1) ex hs
            have := cn_lt (p := bt x) (q := bt x7) hs b1 b2 hj
            omega
          · exfalso
            refine ex (b_ext fun i hi => ?_)
            cases e : bt x i with
            | true => exact (hs i e).symm
            | false =>
              cases e2 : bt x7 i with
              | false => rfl
              | true =>
                rcases (p2 i hi).mp e2 with q | ⟨c', -, qc, q⟩
                · rw [e] at q; cases q
                · rw [h4 c' i qc q] at e; cases e
theorem far_R0 {σ : zkS} {w : Nat → Int32} (hl : lnk σ w) {c : Nat} (hc : c < 24) : fX1_farOf (nI c) σ = some (-5) ↔ ¬ rch (eW w) (rW w) (fun _ => False) c := by
  unfold fX1_farOf
  refine far_R hl.2 hc zFU 0 _ (by omega) (by unfold zFU; omega) (fun j hj q => ?_) (fun j q => (hl.1 j (by have := q.1; omega)).mpr q) ?_
  · have := (hl.1 j hj).mp q
    exact ⟨this.1, rch_base this id⟩
  · by_cases e : σ.1 42 1 = 0
    · right
      rw [e]
      exact ⟨b_0 c, fun i j q => by rw [b_0] at q; cases q⟩
    · left
      obtain ⟨k, hk, hb, -⟩ := least_bit e
      have := cn_lt (p := fun _ => false) (q := bt (σ.1 42 1)) (fun _ q => by cases q) (i := k) rfl hb (n := 24) ((hl.1 k hk).mp hb).1
      omega
theorem T_mean {σ τ : zkS} (hR : zRel σ τ) (p1 : Int32) : ∃ (r : Int64) (σ1 : zkS), fX7_mean p1 σ = some (r, σ1) ∧ fX8_mean p1 τ = some r ∧ zRel σ1 τ := by
  obtain ⟨⟨hg, hk, hs, hw, hm⟩, -⟩ := id hR
  unfold fX7_mean fX8_mean
  obtain ⟨s, es, hl, hsa, hs2⟩ := read7 (b := 2) (by omega) hg hw
  have hR' : zRel s τ := zRel_c (fun a h1 h2 => hsa a (by omega) (by omega)) (by rw [hsa 0 (by omega) (by omega)]) (by rw [hsa 44 (by omega) (by omega)]) (hsa 45 (by omega) (by omega)) (hsa 50 (by omega) (by omega)) (hsa 51 (by omega) (by omega)) hs2 rfl rfl rfl rfl rfl rfl rfl rfl hR
  obtain ⟨x, ex, hx⟩ := reached7 hl
  obtain ⟨y, ey, hy⟩ := reached8 (u := 1) hw
  have := bs_u hx hy
  subst this
  have hfar : ∀ c, c < 24 → (fX1_farOf (nI c) s = some (-5) ↔ bt x c = false) := fun c hc => (far_R0 hl hc).trans (by
    have := hx c (by omega)
    cases e : bt x c with
    | false => exact ⟨fun _ => rfl, fun _ q => by rw [this.mpr q] at e; cases e⟩
    | true => exact ⟨fun q => absurd (this.mp e) q, fun q => by cases q⟩)
  obtain ⟨a, ha, k7, k8⟩ := mean_L hw hl hx hfar (K7 := fun x5 => zb1 (fX1_reached s) (fun v6 => zb1 (fX7_fraction x5 (fJ6_bitCount_0f7a4 v6) p1) (fun v8 => some (v8, s)))) (K8 := fun x9 => zb1 (fX8_lowest x9 ((fJ6_bitCount_0f7a4 x).toInt64) p1) (fun v11 => some v11)) zFU 0 0 (by omega) (by unfold zFU; omega) (by omega)
  simp only [show nI 0 = (0 : Int32) from rfl, show lN 0 = (0 : Int64) from rfl] at k7 k8
  rw [es, zb1_s, k7, ex, zb1_s, ey, zb1_s, in_0 (b := 1) p1 1 (by decide), ite01]
  by_cases hp : p1 < 0 ∨ nI 1 < p1
  · rw [if_pos hp, frac7_p _ _ _ hp, zb1_s]
    exact ⟨_, _, rfl, rfl, hR'⟩
  rw [if_neg hp]
  by_cases h0 : x = 0
  · subst h0
    rw [if_pos rfl, frac7_0 _ (by decide), zb1_s]
    exact ⟨_, _, rfl, rfl, hR'⟩
  · rw [if_neg h0, k8]
    obtain ⟨b, hb0, hb, eb⟩ := cnt_pos h0
    rw [eb, nI_l (by omega), frac7 (by omega) (by omega) hb0 hp, low8 (by omega) (by omega) hb0, zb1_s, zb1_s]
    exact ⟨_, _, rfl, rfl, hR'⟩
