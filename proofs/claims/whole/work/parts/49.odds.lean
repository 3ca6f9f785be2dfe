/-! ===== fractions ===== -/
theorem gcd_top {a b d : Nat} (hb : 0 < b) (ha : a % d = 0) (hd : b % d = 0) (hm : ∀ e, d < e → e ≤ b → ¬ (a % e = 0 ∧ b % e = 0)) (hd0 : 0 < d) : Nat.gcd a b = d := by
  have h1 : d ∣ Nat.gcd a b := Nat.dvd_gcd (Nat.dvd_of_mod_eq_zero ha) (Nat.dvd_of_mod_eq_zero hd)
  have h2 : Nat.gcd a b ≤ b := Nat.le_of_dvd hb (Nat.gcd_dvd_right a b)
  have h3 := Nat.le_of_dvd (Nat.gcd_pos_of_pos_right a hb) h1
  rcases Nat.lt_or_ge d (Nat.gcd a b) with g | g
  · exact absurd ⟨Nat.mod_eq_zero_of_dvd (Nat.gcd_dvd_left a b), Nat.mod_eq_zero_of_dvd (Nat.gcd_dvd_right a b)⟩ (hm _ g h2)
  · omega
theorem zrm_n {β : Type} {a d : Nat} (ha : a < 2 ^ 31) (h0 : 0 < d) (hd : d < 2 ^ 31) {F : Int32 → Option β} : zrm (nI a) (nI d) F = F (nI (a % d)) := by
  unfold zrm
  rw [if_neg (nI_ne0 h0 hd), pk_rem ha h0 hd]
theorem frac_L {a b v : Nat} (ha : a < 4000) (hb : b < 3000) (h0 : 0 < b) (hv : v < 4000) : ∀ m d, d ≤ b → d < m → (∀ e, d < e → e ≤ b → ¬ (a % e = 0 ∧ b % e = 0)) → fX7_fraction_L30 m (nI a) (nI b) (nI v) (nI d) (fun _ => some ((nI v).toInt64)) = some (lN (v / Nat.gcd a b)) := by
  intro m
  induction m with
  | zero => intros; omega
  | succ m ih =>
    intro d h1 h2 h3
    unfold fX7_fraction_L30
    by_cases e : d ≤ 1
    · rw [if_pos (show nI d ≤ (1 : Int32) from nI_le (b := 1) e (by decide)), nI_l (by omega)]
      have : Nat.gcd a b = 1 := gcd_top h0 (Nat.mod_one a) (Nat.mod_one b) (fun e' q1 q2 => h3 e' (by omega) q2) (by omega)
      rw [this, Nat.div_one]
    rw [if_neg (show ¬ nI d ≤ (1 : Int32) from nI_ge (a := 1) (by omega) (by omega)), zrm_n (by omega) (by omega) (by omega), zrm_n (by omega) (by omega) (by omega)]
    have nx : fX7_fraction_L30 m (nI a) (nI b) (nI v) (nI (d - 1)) (fun _ => some ((nI v).toInt64)) = some (lN (v / Nat.gcd a b)) ∨ (a % d = 0 ∧ b % d = 0) := by
      by_cases q : a % d = 0 ∧ b % d = 0
      · exact Or.inr q
      · refine Or.inl (ih (d - 1) (by omega) (by omega) (fun e' q1 q2 => ?_))
        by_cases ee : e' = d
        · rw [ee]; exact q
        · exact h3 e' (by omega) q2
    have hm1 : nI d + (-1) = nI (d - 1) := by
      have := pk_m1 (d - 1)
      rw [show d - 1 + 1 = d by omega] at this
      exact this
    simp only [zlt]
    rw [hm1]
    by_cases q1 : a % d = 0
    · rw [if_pos (show nI (a % d) = 0 from by rw [q1]; rfl)]
      by_cases q2 : b % d = 0
      · rw [if_pos (show nI (b % d) = 0 from by rw [q2]; rfl)]
        unfold zdv
        rw [if_neg (nI_ne0 (by omega) (by omega)), pk_div (by omega) (by omega) (by omega)]
        dsimp only
        rw [nI_l (Nat.lt_of_le_of_lt (Nat.div_le_self _ _) (by omega)), gcd_top h0 q1 q2 h3 (by omega)]
      · rw [if_neg (show ¬ nI (b % d) = 0 from nI_ne0 (by omega) (by have := Nat.mod_le b d; omega))]
        exact nx.resolve_right (fun q => q2 q.2)
    · rw [if_neg (show ¬ nI (a % d) = 0 from nI_ne0 (by omega) (by have := Nat.mod_le a d; omega))]
      exact nx.resolve_right (fun q => q1 q.1)
theorem frac7 {a b : Nat} (ha : a < 4000) (hb : b < 3000) (h0 : 0 < b) {p : Int32} (hp : ¬ (p < 0 ∨ nI 1 < p)) : fX7_fraction (nI a) (nI b) p = some (lN ((if p = 0 then a else b) / Nat.gcd a b)) := by
  unfold fX7_fraction
  obtain ⟨q, hq, rfl⟩ := rng (by decide) hp
  rw [if_neg (nI_nle h0 (by omega)), if_neg (nI_nneg (by omega)), if_pos (show nI q ≤ (1 : Int32) from nI_le (b := 1) hq (by decide)), jn]
  have go : ∀ v, v < 4000 → fX7_fraction_L30 zFU (nI a) (nI b) (nI v) (nI b) (fun _ => some ((nI v).toInt64)) = some (lN (v / Nat.gcd a b)) := fun v hv => frac_L ha hb h0 hv zFU b (Nat.le_refl _) (by unfold zFU; omega) (fun e q1 q2 => by omega)
  by_cases e : nI q = 0
  · rw [if_pos e, if_pos e]
    exact go a ha
  · rw [if_neg e, if_neg e]
    exact go b (by omega)
theorem frac7_0 {a : Nat} (b : Int32) (hb : b ≤ 0) (p : Int32) : fX7_fraction (nI a) b p = some (-9223372036854775808) := by
  unfold fX7_fraction
  rw [if_pos hb]
theorem frac7_p (x b p : Int32) (hp : p < 0 ∨ nI 1 < p) : fX7_fraction x b p = some (-9223372036854775808) := by
  unfold fX7_fraction
  by_cases h : b ≤ 0
  · rw [if_pos h]
  rw [if_neg h]
  by_cases g : p < 0
  · rw [if_pos g]
  rw [if_neg g, if_neg]
  have := hp.resolve_left g
  rw [Int32.lt_iff_toInt_lt] at this
  rw [Int32.le_iff_toInt_le]
  have e : (nI 1).toInt = 1 := by decide
  have e2 : (1 : Int32).toInt = 1 := by decide
  omega
theorem cmp_0 (x y : Int64) : lg_cmp x y = 0 ↔ x = y := by
  unfold lg_cmp
  by_cases h : y < x
  · rw [if_pos h]
    refine ⟨fun q => absurd q (by decide), fun q => ?_⟩
    rw [q, Int64.lt_iff_toInt_lt] at h
    omega
  · rw [if_neg h]
    by_cases e : x = y
    · rw [if_pos e]
      exact ⟨fun _ => e, fun _ => rfl⟩
    · rw [if_neg e]
      exact ⟨fun q => absurd q (by decide), fun q => absurd q e⟩
theorem lowest_L {K : Int64 → Option Int64} : ∀ m a b, b < m → a < 2 ^ 40 → b < 2 ^ 40 → fX8_lowest_L6 m (lN a) (lN b) K = K (lN (Nat.gcd a b)) := by
  intro m
  induction m with
  | zero => intros; omega
  | succ m ih =>
    intro a b h1 h2 h3
    unfold fX8_lowest_L6
    by_cases e : b = 0
    · subst e
      rw [if_pos (show lg_cmp (lN 0) 0 = 0 from (cmp_0 _ _).mpr rfl), Nat.gcd_zero_right]
    · have e0 : ¬ lg_cmp (lN b) 0 = 0 := fun q => e ((pk_lEQ (b := 0) (by omega) (by omega)).mp ((cmp_0 _ _).mp q))
      have e1 : ¬ lN b = 0 := fun q => e ((pk_lEQ (b := 0) (by omega) (by omega)).mp q)
      have hl := Nat.mod_lt a (Nat.pos_of_ne_zero e)
      rw [if_neg e0]
      unfold zrmL
      rw [if_neg e1, pk_lRem (by omega) (by omega) (by omega)]
      dsimp only
      rw [ih b (a % b) (by omega) h3 (by omega), Nat.gcd_comm b (a % b), ← Nat.gcd_rec, Nat.gcd_comm b a]
theorem low8 {a b : Nat} (ha : a < 3000) (hb : b < 3000) (h0 : 0 < b) (p : Int32) : fX8_lowest (lN a) (lN b) p = some (lN ((if p = 0 then a else b) / Nat.gcd a b)) := by
  unfold fX8_lowest
  rw [lowest_L zFU a b (by unfold zFU; omega) (by omega) (by omega)]
  have hg := Nat.gcd_pos_of_pos_right a h0
  have hg2 : Nat.gcd a b ≤ b := Nat.le_of_dvd h0 (Nat.gcd_dvd_right a b)
  have e1 : ¬ lN (Nat.gcd a b) = 0 := fun q => by
    have := (pk_lEQ (b := 0) (by omega) (by omega)).mp q
    omega
  unfold zdvL
  by_cases e : p = 0
  · rw [if_pos e, if_pos e, if_neg e1, pk_lDiv (by omega) hg (by omega)]
  · rw [if_neg e, if_neg e, if_neg e1, pk_lDiv (by omega) hg (by omega)]
/-! the odds that a cell stays reached -/
theorem asn_has (x : Int32) {q : Nat} (hq : q < 24) : fX7_asNumber (fX7_has x (nI q)) = nI (if bt x q then 1 else 0) := by
  rw [has_eq, hasN_nI hq]
  cases bt x q <;> rfl
theorem odds_L1 {σ τ : zkS} (hr : rG σ 2 (τ.1 1)) (hg : wG (τ.1 1)) (hl : lnk σ (τ.1 1)) {q : Nat} (hq : q < 24) {c : Nat} (hc : c < 24) {K7 : Int32 → Int32 → zkS → Option (Int64 × zkS)} {K8 : Int64 → Int64 → zkS → Option (Int64 × zkS)} : ∀ m i a b, i ≤ 6 → 6 - i < m → b ≤ a → ∃ a' b', a' ≤ a + 6 - i ∧ b' ≤ a' ∧ fX7_odds_L47 m (nI q) (nI c) (nI a) (nI b) (nI i) σ K7 = K7 (nI a') (nI b') σ ∧ fX8_odds_L40 m (nI q) (nI c) (lN a) (lN b) (nI i) τ K8 = K8 (lN a') (lN b') τ := by
  intro m
  induction m with
  | zero => intros; omega
  | succ m ih =>
    intro i a b h1 h2 h3
    unfold fX7_odds_L47 fX8_odds_L40
    rw [size7n hr hc, zb1_s, isField8 hg, zb1_s, ite10, fol7 hr hg, zb1_s]
    rcases fld78 hr hg hc h1 with ⟨f1, f2, f3, f4, f5⟩ | ⟨f1, f2⟩
    · rw [if_neg f3, f1, if_pos rfl, if_pos rfl, nI_clamp (by omega), fldN_nI hc f2, lead8 hg hc f2 f5, zb1_s]
      have e0 : (if fX7_isFollowed (τ.1 1 (20 + c)) (τ.1 1 (44 + c)) (nI i) = 0 then -5 else τ.1 1 (140 + 6 * c + i)) = ld (τ.1 1) c i := rfl
      rw [e0]
      simp only [zlt]
      rw [nI_1]
      rcases ld_hC hg hc f2 f4 f5 with qv | ⟨d, hd, ed, hbd⟩
      · rw [qv, if_pos rfl, if_pos (by decide)]
        obtain ⟨a', b', k1, k2, k3⟩ := ih (i + 1) a b (by omega) (by omega) h3
        exact ⟨a', b', by omega, k2, k3⟩
      · rw [ed, if_neg (fun z => nI_nneg (show d < 2 ^ 31 by omega) (by rw [z]; decide)), if_neg (nI_nneg (by omega))]
        obtain ⟨y8, e8, hy8⟩ := cut8 (τ := τ) hg hc f2 hq
        obtain ⟨y7, e7, hy7⟩ := cut7 (b := 2) (by omega) hr hg hl hc f2
        have := bs_u hy7 hy8
        subst this
        rw [e7, e8, zb2_s, zb2_s, asn_has _ hq, ite10, nI_1, lN_1]
        cases ey : bt y7 q with
        | false =>
          rw [if_neg (by decide), if_neg (by decide), show nI b + nI 0 = nI b from nI_add b 0, show lN b + 0 = lN b from lN_add b 0]
          obtain ⟨a', b', k1, k2, k3⟩ := ih (i + 1) (a + 1) b (by omega) (by omega) (by omega)
          exact ⟨a', b', by omega, k2, k3⟩
        | true =>
          rw [if_pos rfl, if_pos rfl, show nI b + nI 1 = nI (b + 1) from nI_add b 1, lN_1]
          obtain ⟨a', b', k1, k2, k3⟩ := ih (i + 1) (a + 1) (b + 1) (by omega) (by omega) (by omega)
          exact ⟨a', b', by omega, k2, k3⟩
    · rw [if_pos f2, f1]
      exact ⟨a, b, by omega, h3, rfl, rfl⟩
theorem odds_L2 {σ τ : zkS} (hr : rG σ 2 (τ.1 1)) (hg : wG (τ.1 1)) (hl : lnk σ (τ.1 1)) {q : Nat} (hq : q < 24) {K7 : Int32 → Int32 → zkS → Option (Int64 × zkS)} {K8 : Int64 → Int64 → zkS → Option (Int64 × zkS)} : ∀ m c a b, c ≤ 24 → 24 - c < m → b ≤ a → a ≤ 6 * c → ∃ a' b', a' ≤ 144 ∧ b' ≤ a' ∧ fX7_odds_L37 m (nI q) (nI a) (nI b) (nI c) σ K7 = K7 (nI a') (nI b') σ ∧ fX8_odds_L30 m (nI q) (lN a) (lN b) (nI c) τ K8 = K8 (lN a') (lN b') τ := by
  intro m
  induction m with
  | zero => intros; omega
  | succ m ih =>
    intro c a b h1 h2 h3 h4
    unfold fX7_odds_L37 fX8_odds_L30
    by_cases e : c = 24
    · subst e
      rw [if_pos (by decide), if_pos (by decide)]
      exact ⟨a, b, by omega, h3, rfl, rfl⟩
    rw [if_neg (show ¬ (24 : Int32) ≤ nI c from nI_n24 (by omega)), if_neg (show ¬ (24 : Int32) ≤ nI c from nI_n24 (by omega))]
    obtain ⟨a1, b1, k1, k2, k3, k4⟩ := odds_L1 hr hg hl hq (show c < 24 by omega) (K7 := fun x15 x16 s17 => zlt (nI c + 1) (fun v18 => fX7_odds_L37 m (nI q) x15 x16 v18 s17 K7)) (K8 := fun x15 x16 s17 => zlt (nI c + 1) (fun v18 => fX8_odds_L30 m (nI q) x15 x16 v18 s17 K8)) zFU 0 a b (by omega) (by unfold zFU; omega) h3
    rw [show (0 : Int32) = nI 0 from rfl, k3, k4]
    simp only [zlt]
    rw [nI_1]
    exact ih (c + 1) a1 b1 (by omega) (by omega) k2 (by omega)
theorem T_odds {σ τ : zkS} (hR : zRel σ τ) (p1 : Int32) (p2 : Int32) : ∃ (r : Int64) (σ1 : zkS) (τ1 : zkS), fX7_odds p1 p2 σ = some (r, σ1) ∧ fX8_odds p1 p2 τ = some (r, τ1) ∧ zRel σ1 τ1 := by
  obtain ⟨⟨hg, hk, hs, hw, hm⟩, -⟩ := id hR
  unfold fX7_odds fX8_odds
  rw [there7, ite10, there8, zb1_s, ite10, show σ.1 2 1 = τ.1 1 1 from hg.2.1]
  cases e : hasN (τ.1 1 1) p1 with
  | false => exact ⟨_, _, _, rfl, rfl, hR⟩
  | true =>
    obtain ⟨c, hc, rfl, hbt⟩ := hasN_of e
    rw [if_pos rfl, if_pos rfl, in_0 (b := 1) p2 1 (by decide), ite01]
    obtain ⟨s, es, hl, hsa, hs2⟩ := read7 (b := 2) (by omega) hg hw
    have hR' : zRel s τ := zRel_c (fun a h1 h2 => hsa a (by omega) (by omega)) (by rw [hsa 0 (by omega) (by omega)]) (by rw [hsa 44 (by omega) (by omega)]) (hsa 45 (by omega) (by omega)) (hsa 50 (by omega) (by omega)) (hsa 51 (by omega) (by omega)) hs2 rfl rfl rfl rfl rfl rfl rfl rfl hR
    have hg' : rG s 2 (τ.1 1) := hR'.1.1
    obtain ⟨a, b, ha, hb, k7, k8⟩ := odds_L2 hg' hw hl hc (K7 := fun x19 x20 s21 => zb1 (fX7_fraction x20 x19 p2) (fun v22 => some (v22, s21))) (K8 := fun x19 x20 s21 => if lg_cmp x19 0 = 0 then some ((-9223372036854775808), s21) else zb1 (fX8_lowest x20 x19 p2) (fun v22 => some (v22, s21))) zFU 0 0 0 (by omega) (by unfold zFU; omega) (by omega) (by omega)
    simp only [show nI 0 = (0 : Int32) from rfl, show lN 0 = (0 : Int64) from rfl] at k7 k8
    rw [es, zb1_s, k7, k8]
    by_cases hp : p2 < 0 ∨ nI 1 < p2
    · rw [if_pos hp, frac7_p _ _ _ hp, zb1_s]
      exact ⟨_, _, _, rfl, rfl, hR'⟩
    rw [if_neg hp]
    by_cases h0 : a = 0
    · subst h0
      rw [if_pos (show lg_cmp (lN 0) 0 = 0 from (cmp_0 _ _).mpr rfl), frac7_0 _ (by decide), zb1_s]
      exact ⟨_, _, _, rfl, rfl, hR'⟩
    · rw [if_neg (show ¬ lg_cmp (lN a) 0 = 0 from fun q => h0 ((pk_lEQ (b := 0) (by omega) (by omega)).mp ((cmp_0 _ _).mp q))), frac7 (by omega) (by omega) (by omega) hp, low8 (by omega) (by omega) (by omega), zb1_s, zb1_s]
      exact ⟨_, _, _, rfl, rfl, hR'⟩
