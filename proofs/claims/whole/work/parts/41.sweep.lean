/-! ===== a sweep ===== -/
def szW (w : Nat → Int32) : Prop := ∀ c, c < 24 → ∃ s, s ≤ 6 ∧ w (68 + c) = nI s
theorem isF_of' {w : Nat → Int32} (hg : szW w) {p i : Int32} (h : isF w p i = true) : ∃ c k, c < 24 ∧ k < 6 ∧ p = nI c ∧ i = nI k ∧ bt (w 1) c = true ∧ nI k < w (68 + c) := by
  unfold isF at h
  simp only [Bool.and_eq_true, decide_eq_true_eq] at h
  obtain ⟨h1, h2, h3⟩ := h
  obtain ⟨c, hc, rfl, hb⟩ := hasN_of h1
  obtain ⟨s, hs, es⟩ := hg c hc
  rw [nI_clamp (by omega), es] at h3
  rcases pk_ix i (n := s) (by omega) with q | q | ⟨k, hk, rfl⟩
  · exact absurd q h2
  · exact absurd q h3
  · exact ⟨c, k, hc, by omega, rfl, rfl, hb, by rw [es]; exact nI_lt hk (by omega)⟩
theorem heldBy7' {σ : zkS} {b : Nat} {w : Nat → Int32} (h : rG σ b w) (hg : szW w) (p i : Int32) : fX0_heldBy b p i σ = some (if isF w p i then fldN w p i else -5) := by
  unfold fX0_heldBy
  rw [isField7 h, zb1_s, ite10]
  cases e : isF w p i with
  | false => rfl
  | true =>
    rw [if_pos rfl, if_pos rfl]
    obtain ⟨c, k, hc, hk, rfl, rfl, hb, hs⟩ := isF_of' hg e
    rw [rd_hld hc hk, h.2.2.2.2.1 c k hc hb hk hs, fldN_nI hc hk]
theorem szW_of {w : Nat → Int32} (h : wG w) : szW w := fun _ hc => size_of h hc
/-- what stays in a field -/
def kp (s v : Int32) : Int32 := if hasN s v then v else -5
theorem put7 {σ : zkS} {b : Nat} {w : Nat → Int32} (h : rG σ b w) {c i : Nat} (hc : c < 24) (hi : i < 6) (hF : isF w (nI c) (nI i) = true) (v : Int32) : fX0_putInto b (nI c) (nI i) v σ = some (zsi σ (b + 4) (6 * c + i) v) ∧ rG (zsi σ (b + 4) (6 * c + i) v) b (wu w (140 + 6 * c + i) v) := by
  unfold fX0_putInto
  rw [isField7 h, hF, zb1_s, if_pos rfl, if_neg (by decide), wr_hld hc hi]
  exact ⟨rfl, rG_fld hc hi h⟩
theorem keep_L1 {c : Nat} (hc : c < 24) {K : zkS → Option (Int32 × zkS)} : ∀ m i (s : zkS) (w : Nat → Int32), i ≤ 6 → 6 - i < m → rG s 2 w → szW w → ∃ s' w', fX0_keepOnly_L30 m 2 (nI c) (nI i) s K = K s' ∧ rG s' 2 w' ∧ (∀ j, ¬ (140 + 6 * c + i ≤ j ∧ j < 140 + 6 * c + 6) → w' j = w j) ∧ (∀ x, i ≤ x → x < 6 → isF w (nI c) (nI x) = true → w' (140 + 6 * c + x) = kp (w 1) (w (140 + 6 * c + x))) ∧ (∀ a, a ≠ 6 → s'.1 a = s.1 a) ∧ s'.2 = s.2 := by
  intro m
  induction m with
  | zero => intros; omega
  | succ m ih =>
    intro i s w h1 h2 hg hz
    unfold fX0_keepOnly_L30
    rw [size7 hg, zb1_s, hasN_nI hc, nI_clamp (by omega)]
    obtain ⟨z, hz6, ez⟩ := hz c hc
    by_cases e : (if bt (w 1) c = true then w (68 + c) else 0) ≤ nI i
    · rw [if_pos e]
      refine ⟨s, w, rfl, hg, fun j _ => rfl, fun x hx hx6 hF => ?_, fun a _ => rfl, rfl⟩
      exfalso
      obtain ⟨c', k, hc', hk, e1, e2, hb, hs⟩ := isF_of' hz hF
      have ec : c = c' := (nI_eq (by omega) (by omega)).mp e1
      have ek : x = k := (nI_eq (by omega) (by omega)).mp e2
      subst ec
      subst ek
      rw [if_pos hb, ez] at e
      rw [ez] at hs
      have := (nI_ltI (by omega) (by omega)).mp hs
      have := (nI_leI (by omega) (by omega)).mp e
      omega
    · rw [if_neg e]
      have hF : bt (w 1) c = true ∧ i < z := by
        cases eb : bt (w 1) c with
        | false =>
          rw [eb, if_neg (by decide)] at e
          exact absurd (show nI 0 ≤ nI i from nI_le (by omega) (by omega)) e
        | true =>
          rw [eb, if_pos rfl, ez] at e
          exact ⟨rfl, Nat.lt_of_not_le (fun q => e (nI_le q (by omega)))⟩
      have hi6 : i < 6 := by omega
      have hF' : isF w (nI c) (nI i) = true := by
        rw [isF_nI hc (by omega), hF.1, Bool.true_and, ez, decide_eq_true (nI_ge hF.2 (by omega))]
      rw [heldBy7' hg hz, hF', if_pos rfl, zb1_s, fldN_nI hc hi6, there7, ite10, hg.2.1]
      simp only [zlt]
      rw [nI_1]
      cases eh : hasN (w 1) (w (140 + 6 * c + i)) with
      | false =>
        rw [if_neg (by decide)]
        obtain ⟨ep, hg'⟩ := put7 hg hc hi6 hF' (-5)
        rw [ep, zb1_s]
        have hz' : szW (wu w (140 + 6 * c + i) (-5)) := fun c' hc' => by rw [wu_ne _ _ (by omega)]; exact hz c' hc'
        obtain ⟨s', w', q1, q2, q3, q4, q5, q6⟩ := ih (i + 1) _ _ (by omega) (by omega) hg' hz'
        refine ⟨s', w', q1, q2, fun j hj => ?_, fun x hx hx6 hFx => ?_, fun a ha => ?_, q6⟩
        · rw [q3 j (by omega), wu_ne _ _ (by omega)]
        · by_cases ex : x = i
          · subst ex
            rw [q3 _ (by omega), wu_eq]
            unfold kp
            rw [eh]
            rfl
          · rw [q4 x (by omega) hx6 ?_, wu_ne _ _ (by omega), wu_ne _ _ (by omega)]
            rw [isF_nI hc (by omega)] at hFx ⊢
            rw [wu_ne _ _ (by omega), wu_ne _ _ (by omega)]
            exact hFx
        · rw [q5 a ha, si_row _ _ (by omega)]
      | true =>
        rw [if_pos rfl]
        obtain ⟨s', w', q1, q2, q3, q4, q5, q6⟩ := ih (i + 1) _ _ (by omega) (by omega) hg hz
        refine ⟨s', w', q1, q2, fun j hj => q3 j (by omega), fun x hx hx6 hFx => ?_, q5, q6⟩
        by_cases ex : x = i
        · subst ex
          rw [q3 _ (by omega)]
          unfold kp
          rw [eh, if_pos rfl]
        · exact q4 x (by omega) hx6 hFx
theorem keep_L2 {K : zkS → Option (Int32 × zkS)} : ∀ m c (s : zkS) (w : Nat → Int32), c ≤ 24 → 24 - c < m → rG s 2 w → szW w → ∃ s' w', fX0_keepOnly_L21 m 2 (nI c) s K = K s' ∧ rG s' 2 w' ∧ (∀ j, ¬ (140 + 6 * c ≤ j ∧ j < 284) → w' j = w j) ∧ (∀ c' x, c ≤ c' → c' < 24 → x < 6 → isF w (nI c') (nI x) = true → w' (140 + 6 * c' + x) = kp (w 1) (w (140 + 6 * c' + x))) ∧ (∀ a, a ≠ 6 → s'.1 a = s.1 a) ∧ s'.2 = s.2 := by
  intro m
  induction m with
  | zero => intros; omega
  | succ m ih =>
    intro c s w h1 h2 hg hz
    unfold fX0_keepOnly_L21
    by_cases e : c = 24
    · subst e
      rw [if_pos (by decide)]
      exact ⟨s, w, rfl, hg, fun j _ => rfl, fun c' x q1 q2 => by omega, fun a _ => rfl, rfl⟩
    · rw [if_neg (show ¬ (24 : Int32) ≤ nI c from nI_n24 (by omega))]
      obtain ⟨s1, w1, q1, q2, q3, q4, q5, q6⟩ := keep_L1 (show c < 24 by omega) (K := fun s11 => zlt (nI c + 1) (fun v12 => fX0_keepOnly_L21 m 2 v12 s11 K)) zFU 0 s w (by omega) (by unfold zFU; omega) hg hz
      rw [show (0 : Int32) = nI 0 from rfl, q1]
      simp only [zlt]
      rw [nI_1]
      have e68 : ∀ j, j < 140 → w1 j = w j := fun j hj => q3 j (by omega)
      have hz1 : szW w1 := fun c' hc' => by rw [e68 _ (by omega)]; exact hz c' hc'
      obtain ⟨s', w', k1, k2, k3, k4, k5, k6⟩ := ih (c + 1) s1 w1 (by omega) (by omega) q2 hz1
      have eF : ∀ c' x, c' < 24 → x < 6 → isF w1 (nI c') (nI x) = isF w (nI c') (nI x) := fun c' x hc' hx => by
        rw [isF_nI hc' (by omega), isF_nI hc' (by omega), e68 1 (by omega), e68 (68 + c') (by omega)]
      refine ⟨s', w', k1, k2, fun j hj => ?_, fun c' x c1 c2 hx hF => ?_, fun a ha => (k5 a ha).trans (q5 a ha), k6.trans q6⟩
      · rw [k3 j (by omega), q3 j (by omega)]
      · by_cases ec : c' = c
        · subst ec
          rw [k3 _ (by omega)]
          exact q4 x (by omega) hx hF
        · rw [k4 c' x (by omega) c2 hx (by rw [eF c' x c2 hx]; exact hF), e68 1 (by omega), q3 _ (by omega)]
/-- the model's way to a field -/
def sm (x v : Int32) : Int32 := if v < 0 then v else if fX8_bit x v = 0 then v else -5
theorem swp_L1 {x : Int32} {K : zkS → Option (Int32 × zkS)} : ∀ m i (t : zkS), i ≤ 144 → 144 - i < m → ∃ t', fX8_sweep_L48 m x (nI i) t K = K t' ∧ (∀ j, i ≤ j → j < 144 → t'.1 1 (140 + j) = sm x (t.1 1 (140 + j))) ∧ (∀ j, ¬ (140 + i ≤ j ∧ j < 284) → t'.1 1 j = t.1 1 j) ∧ (∀ a, a ≠ 1 → t'.1 a = t.1 a) ∧ t'.2 = t.2 := by
  intro m
  induction m with
  | zero => intros; omega
  | succ m ih =>
    intro i t h1 h2
    unfold fX8_sweep_L48
    by_cases e : i = 144
    · subst e
      rw [if_pos (by decide)]
      exact ⟨t, rfl, fun j _ _ => by omega, fun j _ => rfl, fun a _ => rfl, rfl⟩
    rw [if_neg (show ¬ (144 : Int32) ≤ nI i from nI_ge (b := 144) (by omega) (by decide))]
    simp only [rd_140c (show i < 144 by omega), wr_140c (show i < 144 by omega), zlt, nI_1]
    have fin : ∀ v, v = sm x (t.1 1 (140 + i)) → ∃ t', fX8_sweep_L48 m x (nI (i + 1)) (zsi t 1 (140 + i) v) K = K t' ∧ (∀ j, i ≤ j → j < 144 → t'.1 1 (140 + j) = sm x (t.1 1 (140 + j))) ∧ (∀ j, ¬ (140 + i ≤ j ∧ j < 284) → t'.1 1 j = t.1 1 j) ∧ (∀ a, a ≠ 1 → t'.1 a = t.1 a) ∧ t'.2 = t.2 := by
      intro v hv
      obtain ⟨t', q1, q2, q3, q4, q5⟩ := ih (i + 1) (zsi t 1 (140 + i) v) (by omega) (by omega)
      refine ⟨t', q1, fun j j1 j2 => ?_, fun j hj => ?_, fun a ha => ?_, q5⟩
      · by_cases ej : j = i
        · subst ej
          rw [q3 _ (by omega), si_eq, hv]
        · rw [q2 j (by omega) j2, si_ne _ _ (Or.inr (by omega))]
      · rw [q3 j (by omega), si_ne _ _ (Or.inr (by omega))]
      · rw [q4 a ha, si_row _ _ ha]
    by_cases g : t.1 1 (140 + i) < 0
    · rw [if_pos g]
      exact fin _ (by unfold sm; rw [if_pos g])
    · rw [if_neg g]
      by_cases g2 : fX8_bit x (t.1 1 (140 + i)) = 0
      · rw [if_pos g2]
        exact fin _ (by unfold sm; rw [if_neg g, if_pos g2])
      · rw [if_neg g2]
        exact fin _ (by unfold sm; rw [if_neg g, if_neg g2])
theorem swp_L2 {x : Int32} {c : Nat} (hc : c < 24) {K : zkS → Option (Int32 × zkS)} : ∀ m i (t : zkS), i ≤ 6 → 6 - i < m → ∃ t', fX8_sweep_L126 m x (nI c) (nI i) t K = K t' ∧ (∀ j, ¬ (bt x c = true ∧ 140 + 6 * c + i ≤ j ∧ j < 140 + 6 * c + 6) → t'.1 1 j = t.1 1 j) ∧ (∀ a, a ≠ 1 → t'.1 a = t.1 a) ∧ t'.2 = t.2 := by
  intro m
  induction m with
  | zero => intros; omega
  | succ m ih =>
    intro i t h1 h2
    unfold fX8_sweep_L126
    rw [bit8_eq _ (by omega), ite10]
    cases eb : bt x c with
    | false =>
      rw [if_neg (by decide)]
      exact ⟨t, rfl, fun j _ => rfl, fun a _ => rfl, rfl⟩
    | true =>
      rw [if_pos rfl]
      by_cases e : i = 6
      · subst e
        rw [if_pos (by decide)]
        exact ⟨t, rfl, fun j _ => rfl, fun a _ => rfl, rfl⟩
      rw [if_neg (show ¬ (6 : Int32) ≤ nI i from nI_ge (b := 6) (by omega) (by decide)), wr_fld hc (by omega)]
      simp only [zlt]
      rw [nI_1]
      obtain ⟨t', q1, q2, q3, q4⟩ := ih (i + 1) (zsi t 1 (140 + 6 * c + i) (-5)) (by omega) (by omega)
      refine ⟨t', q1, fun j hj => ?_, fun a ha => ?_, q4⟩
      · have hj' : ¬ (140 + 6 * c + i ≤ j ∧ j < 140 + 6 * c + 6) := fun q => hj ⟨trivial, q⟩
        rw [q2 j (fun q => by omega), si_ne _ _ (Or.inr (by omega))]
      · rw [q3 a ha, si_row _ _ ha]
theorem swp_L3 {x : Int32} {K : zkS → Option (Int32 × zkS)} : ∀ m c (t : zkS), c ≤ 24 → 24 - c < m → ∃ t', fX8_sweep_L118 m x (nI c) t K = K t' ∧ (∀ j, ¬ (140 ≤ j ∧ j < 284 ∧ bt x ((j - 140) / 6) = true) → t'.1 1 j = t.1 1 j) ∧ (∀ a, a ≠ 1 → t'.1 a = t.1 a) ∧ t'.2 = t.2 := by
  intro m
  induction m with
  | zero => intros; omega
  | succ m ih =>
    intro c t h1 h2
    unfold fX8_sweep_L118
    by_cases e : c = 24
    · subst e
      rw [if_pos (by decide)]
      exact ⟨t, rfl, fun j _ => rfl, fun a _ => rfl, rfl⟩
    rw [if_neg (show ¬ (24 : Int32) ≤ nI c from nI_n24 (by omega))]
    obtain ⟨t1, q1, q2, q3, q4⟩ := swp_L2 (x := x) (show c < 24 by omega) (K := fun s26 => zlt (nI c + 1) (fun v27 => fX8_sweep_L118 m x v27 s26 K)) zFU 0 t (by omega) (by unfold zFU; omega)
    rw [show (0 : Int32) = nI 0 from rfl, q1]
    simp only [zlt]
    rw [nI_1]
    obtain ⟨t', k1, k2, k3, k4⟩ := ih (c + 1) t1 (by omega) (by omega)
    refine ⟨t', k1, fun j hj => ?_, fun a ha => (k3 a ha).trans (q3 a ha), k4.trans q4⟩
    rw [k2 j hj, q2 j (fun q => hj ⟨by omega, by omega, by rw [show (j - 140) / 6 = c by omega]; exact q.1⟩)]
theorem T_sweep {σ τ : zkS} (hR : zRel σ τ) : ∃ (r : Int32) (σ1 : zkS) (τ1 : zkS), fX7_sweep σ = some (r, σ1) ∧ fX8_sweep τ = some (r, τ1) ∧ zRel σ1 τ1 := by
  obtain ⟨⟨hg, hk, hs, hw, hm⟩, -⟩ := id hR
  unfold fX7_sweep fX8_sweep
  rw [rd_15, show σ.1 8 1 = τ.1 1 15 from hk.2.1]
  by_cases h : τ.1 1 15 = 0
  · rw [if_pos h, if_pos h]
    exact ⟨_, _, _, rfl, rfl, hR⟩
  rw [if_neg h, if_neg h, rd_1, rd_12]
  have hcl := hm.2.1.resolve_left h
  have g1 : σ.1 2 1 = τ.1 1 1 := hg.2.1
  have g2 : σ.1 8 2 = τ.1 1 12 := hk.2.2.1
  obtain ⟨m1, m2, m3, m4, m5, m6, m7⟩ := id hm
  obtain ⟨n1, n2, n3⟩ := m6 hcl
  unfold fX0_keepOnly
  simp only [zlt, zpi, g1, g2, rd_1, rd_12, wr_1]
  -- what is there, and marked
  have hT : ∀ i, bt (τ.1 1 1 &&& τ.1 1 12) i = bt (τ.1 1 12) i := fun i => by
    rw [b_and]
    cases e : bt (τ.1 1 12) i with
    | false => rw [Bool.and_false]
    | true => rw [m3 i e]; rfl
  have hX : ∀ i, i < 32 → bt (τ.1 1 1 &&& (τ.1 1 12 ^^^ (-1))) i = (bt (τ.1 1 1) i && !bt (τ.1 1 12) i) := fun i hi => by rw [b_and, bt_not _ hi]
  -- the class
  have hg0 : rG (zsi σ 2 1 (τ.1 1 1 &&& τ.1 1 12)) 2 (wu (τ.1 1) 1 (τ.1 1 1 &&& τ.1 1 12)) := by
    obtain ⟨g0, g1, g2, g3, g4, g5⟩ := hg
    refine ⟨g0, rfl, g2, fun c hc => ?_, fun c i hc hb hi hsz => ?_, fun r hr => ?_⟩
    · rw [wu_ne _ _ (by omega), wu_ne _ _ (by omega), wu_ne _ _ (by omega), si_row _ _ (by omega), si_row _ _ (by omega), si_row _ _ (by omega)]
      exact g3 c hc
    · rw [wu_ne _ _ (by omega), si_row _ _ (by omega)]
      rw [wu_ne _ _ (by omega)] at hsz
      rw [wu_eq, hT] at hb
      exact g4 c i hc (m3 c hb) hi hsz
    · rw [wu_ne _ _ (by omega), si_row _ _ (by omega)]
      exact g5 r hr
  have hz0 : szW (wu (τ.1 1) 1 (τ.1 1 1 &&& τ.1 1 12)) := fun c hc => by rw [wu_ne _ _ (by omega)]; exact size_of hw hc
  obtain ⟨s', w', q1, q2, q3, q4, q5, q6⟩ := keep_L2 (K := fun s13 => some (fJ6_bitCount_0f7a4 (τ.1 1 1 &&& (τ.1 1 12 ^^^ (-1))), s13)) zFU 0 _ _ (by omega) (by unfold zFU; omega) hg0 hz0
  obtain ⟨t1, k1, k2, k3, k4, k5⟩ := swp_L1 (x := τ.1 1 1 &&& (τ.1 1 12 ^^^ (-1))) (K := fun s20 => fX8_sweep_L118 zFU (τ.1 1 1 &&& (τ.1 1 12 ^^^ (-1))) 0 s20 (fun s28 => zwr s28 1 346 12 0 (fun s29 => zwr s29 1 346 15 0 (fun s30 => some (fJ6_bitCount_0f7a4 (τ.1 1 1 &&& (τ.1 1 12 ^^^ (-1))), s30))))) zFU 0 (zsi τ 1 1 (τ.1 1 1 &&& τ.1 1 12)) (by omega) (by unfold zFU; omega)
  obtain ⟨t2, l1, l2, l3, l4⟩ := swp_L3 (x := τ.1 1 1 &&& (τ.1 1 12 ^^^ (-1))) (K := fun s28 => zwr s28 1 346 12 0 (fun s29 => zwr s29 1 346 15 0 (fun s30 => some (fJ6_bitCount_0f7a4 (τ.1 1 1 &&& (τ.1 1 12 ^^^ (-1))), s30)))) zFU 0 t1 (by omega) (by unfold zFU; omega)
  simp only [show nI 0 = (0 : Int32) from rfl] at q1 k1 l1
  rw [q1, k1, l1, wr_12, wr_15, zb2_s]
  -- the rows in the end
  have e0 : ∀ j, ¬ (140 ≤ j ∧ j < 284) → t2.1 1 j = wu (τ.1 1) 1 (τ.1 1 1 &&& τ.1 1 12) j := fun j hj => by
    rw [l2 j (fun q => hj ⟨q.1, q.2.1⟩), k3 j (by omega), si_w]
  have ew : ∀ j, ¬ (140 ≤ j ∧ j < 284) → w' j = wu (τ.1 1) 1 (τ.1 1 1 &&& τ.1 1 12) j := fun j hj => q3 j (by omega)
  have ef : ∀ c i, c < 24 → i < 6 → bt (τ.1 1 12) c = true → nI i < τ.1 1 (68 + c) → t2.1 1 (140 + 6 * c + i) = w' (140 + 6 * c + i) ∧ hC (τ.1 1 12) (t2.1 1 (140 + 6 * c + i)) := by
    intro c i hc hi hb hsz
    have hx : bt (τ.1 1 1 &&& (τ.1 1 12 ^^^ (-1))) c = false := by rw [hX c (by omega), hb, Bool.not_true, Bool.and_false]
    have hF : isF (wu (τ.1 1) 1 (τ.1 1 1 &&& τ.1 1 12)) (nI c) (nI i) = true := by
      rw [isF_nI hc (by omega), wu_eq, hT, hb, wu_ne _ _ (by omega), Bool.true_and, decide_eq_true (Int32.not_le.mpr hsz)]
    rw [q4 c i (by omega) hc hi hF, l2 _ (fun q => by rw [show (140 + 6 * c + i - 140) / 6 = c by omega, hx] at q; exact absurd q.2.2 (by decide)), show 140 + 6 * c + i = 140 + (6 * c + i) by omega, k2 (6 * c + i) (by omega) (by omega), si_w, wu_eq, wu_ne _ _ (by omega)]
    have hv := hw.2.2.1 c i hc (m3 c hb) hi hsz
    rw [show 140 + 6 * c + i = 140 + (6 * c + i) by omega] at hv
    unfold sm kp
    rcases hv with ev | ⟨d, hd, ev, hbd⟩
    · rw [ev, if_pos (by decide), hasN_lt (by decide)]
      exact ⟨rfl, Or.inl rfl⟩
    · rw [ev, if_neg (nI_nneg (by omega)), bit8_eq _ (by omega), ite10, hX d (by omega), hbd, hasN_nI hd, hT]
      cases em : bt (τ.1 1 12) d with
      | false => exact ⟨rfl, Or.inl rfl⟩
      | true => exact ⟨rfl, Or.inr ⟨d, hd, rfl, em⟩⟩
  have r2 : ∀ j, j ≠ 12 → j ≠ 15 → (zsi (zsi t2 1 12 0) 1 15 0).1 1 j = t2.1 1 j := fun j j1 j2 => by rw [si_ne _ _ (Or.inr j2), si_ne _ _ (Or.inr j1)]
  have s2 : ∀ a, a ≠ 8 → (zsi (zsi s' 8 2 0) 8 1 0).1 a = s'.1 a := fun a ha => by rw [si_row _ _ ha, si_row _ _ ha]
  have s3 : ∀ a, a ≠ 6 → a ≠ 2 → s'.1 a = σ.1 a := fun a ha hb => by rw [q5 a ha, si_row _ _ hb]
  have e1 : (zsi (zsi t2 1 12 0) 1 15 0).1 1 1 = (τ.1 1 1 &&& τ.1 1 12) := by rw [r2 1 (by omega) (by omega), e0 1 (by omega), wu_eq]
  have eo : ∀ j, ¬ (140 ≤ j ∧ j < 284) → j ≠ 1 → j ≠ 12 → j ≠ 15 → (zsi (zsi t2 1 12 0) 1 15 0).1 1 j = τ.1 1 j := fun j j1 j2 j3 j4 => by rw [r2 j j3 j4, e0 j j1, wu_ne _ _ j2]
  refine ⟨_, zsi (zsi s' 8 2 0) 8 1 0, _, rfl, rfl, rel_now hR ⟨?_, ?_, ?_, ⟨?_, fun c hc => ?_, fun c i hc hb hi hsz => ?_, fun r hr => ?_⟩, ?_⟩ (fun a ha => by rw [s2 a (by omega), s3 a (by omega) (by omega)]) (by rw [s2 0 (by omega), s3 0 (by omega) (by omega)]) ?_ (fun a ha => ?_) ?_⟩
  · obtain ⟨g0, g1, g2, g3, g4, g5⟩ := q2
    refine ⟨?_, ?_, ?_, fun c hc => ?_, fun c i hc hb hi hsz => ?_, fun r hr => ?_⟩
    · rw [s2 _ (by omega), r2 0 (by omega) (by omega), e0 0 (by omega), ← ew 0 (by omega)]; exact g0
    · rw [s2 _ (by omega), r2 1 (by omega) (by omega), e0 1 (by omega), ← ew 1 (by omega)]; exact g1
    · rw [s2 _ (by omega), r2 14 (by omega) (by omega), e0 14 (by omega), ← ew 14 (by omega)]; exact g2
    · rw [s2 _ (by omega), s2 _ (by omega), s2 _ (by omega), r2 _ (by omega) (by omega), r2 _ (by omega) (by omega), r2 _ (by omega) (by omega), e0 _ (by omega), e0 _ (by omega), e0 _ (by omega), ← ew _ (by omega), ← ew _ (by omega), ← ew _ (by omega)]
      exact g3 c hc
    · rw [e1, hT] at hb
      rw [eo (68 + c) (by omega) (by omega) (by omega) (by omega)] at hsz
      rw [s2 _ (by omega), r2 _ (by omega) (by omega), (ef c i hc hi hb hsz).1]
      exact g4 c i hc (by rw [ew 1 (by omega), wu_eq, hT]; exact hb) hi (by rw [ew (68 + c) (by omega), wu_ne _ _ (by omega)]; exact hsz)
    · rw [s2 _ (by omega), r2 _ (by omega) (by omega), e0 _ (by omega), ← ew _ (by omega)]; exact g5 r hr
  · obtain ⟨x0, x1, x2, x3, x4, x5, x6, x7, x8, x9, x10, x11, x12, x13⟩ := hk
    have es : ∀ j, j ≠ 1 → j ≠ 2 → (zsi (zsi s' 8 2 0) 8 1 0).1 8 j = σ.1 8 j := fun j j1 j2 => by rw [si_ne _ _ (Or.inr j1), si_ne _ _ (Or.inr j2), s3 8 (by omega) (by omega)]
    have o : ∀ j, 2 ≤ j → j < 12 ∨ j = 13 ∨ 92 ≤ j ∧ j < 140 → (zsi (zsi t2 1 12 0) 1 15 0).1 1 j = τ.1 1 j := fun j j1 j2 => eo j (by omega) (by omega) (by omega) (by omega)
    refine ⟨by rw [es 0 (by omega) (by omega), o 2 (by omega) (by omega)]; exact x0, rfl, rfl, by rw [es 3 (by omega) (by omega), o 13 (by omega) (by omega)]; exact x3, by rw [es 6 (by omega) (by omega), o 7 (by omega) (by omega)]; exact x4, by rw [es 7 (by omega) (by omega), o 3 (by omega) (by omega)]; exact x5, by rw [es 8 (by omega) (by omega), o 5 (by omega) (by omega)]; exact x6, by rw [es 9 (by omega) (by omega), o 8 (by omega) (by omega)]; exact x7, by rw [es 10 (by omega) (by omega), o 9 (by omega) (by omega)]; exact x8, by rw [es 11 (by omega) (by omega), o 10 (by omega) (by omega)]; exact x9, by rw [es 12 (by omega) (by omega), o 11 (by omega) (by omega)]; exact x10, fun q => ?_, fun q => ?_, fun c hc hP => ?_⟩
    · rw [o 2 (by omega) (by omega), n1] at q
      exact absurd q (by decide)
    · rw [es 4 (by omega) (by omega), es 5 (by omega) (by omega), o 3 (by omega) (by omega)]
      exact x12 n1
    · rw [s2 _ (by omega), s3 _ (by omega) (by omega), o _ (by omega) (by omega)]
      exact x13 c hc hP
  · exact rS_c (fun a h1 h2 => by rw [s2 a (by omega), s3 a (by omega) (by omega)]) (fun j hj => eo j (by unfold iS at hj; omega) (by unfold iS at hj; omega) (by unfold iS at hj; omega) (by unfold iS at hj; omega)) hs
  · obtain ⟨n, hn, h0, h1, h2⟩ := hw.1
    refine ⟨n, hn, by rw [eo 0 (by omega) (by omega) (by omega) (by omega)]; exact h0, fun i hi => ?_, fun i hi => ?_⟩
    · rw [e1, hT] at hi
      exact h1 i (m3 i hi)
    · rw [eo 14 (by omega) (by omega) (by omega) (by omega)] at hi
      exact h2 i hi
  · rw [eo (20 + c) (by omega) (by omega) (by omega) (by omega), eo (44 + c) (by omega) (by omega) (by omega) (by omega), eo (68 + c) (by omega) (by omega) (by omega) (by omega)]
    exact hw.2.1 c hc
  · rw [e1, hT] at hb
    rw [eo (68 + c) (by omega) (by omega) (by omega) (by omega)] at hsz
    rw [e1, r2 _ (by omega) (by omega)]
    exact hC_m (fun i hi => by rw [hT]; exact hi) (ef c i hc hi hb hsz).2
  · rw [eo (16 + r) (by omega) (by omega) (by omega) (by omega), e1]
    exact hC_m (fun i hi => by rw [hT]; exact hi) (n3 r hr)
  · refine ⟨Or.inl ?_, Or.inl rfl, fun i hi => ?_, fun i hi => ?_, fun c hc => ?_, fun q => ?_, fun q => ?_⟩
    · rw [eo 2 (by omega) (by omega) (by omega) (by omega)]; exact n1
    · rw [show (zsi (zsi t2 1 12 0) 1 15 0).1 1 12 = 0 from rfl, b_0] at hi
      cases hi
    · rw [eo 13 (by omega) (by omega) (by omega) (by omega), n2, b_0] at hi
      cases hi
    · rw [eo (92 + c) (by omega) (by omega) (by omega) (by omega), eo 0 (by omega) (by omega) (by omega) (by omega)]
      exact m5 c hc
    · rw [show (zsi (zsi t2 1 12 0) 1 15 0).1 1 15 = 0 from rfl] at q
      exact absurd q (by decide)
    · rw [eo 2 (by omega) (by omega) (by omega) (by omega), n1] at q
      exact absurd q (by decide)
  · exact q6
  · rw [si_row _ _ ha, si_row _ _ ha, l3 a ha, k4 a ha, si_row _ _ ha]
  · exact l4.trans k5
