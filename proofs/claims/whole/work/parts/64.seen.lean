/-! ===== what was seen; fits, can ===== -/
theorem wr_16 {β : Type} {σ : zkS} {a : Nat} {v : Int32} {F : zkS → Option β} : zwr σ a 346 16 v F = F (zsi σ a 16 v) := wr_nI (i := 16) (by decide) (by decide)
theorem see_pl (k i : Nat) : (284 : Int32) + 3 * nI k + nI i = nI (284 + 3 * k + i) := by
  show nI 284 + nI 3 * nI k + nI i = _
  rw [pk_mul, nI_add, nI_add]
theorem seenB_L {s t : zkS} (hs : rSa s 11 (t.1 2)) {n : Nat} (hn : n ≤ 5) (e : t.1 2 299 = nI n) {x3 x2 : Int32} (e2 : x2 = t.1 2 12) : ∀ m k, k ≤ n → n - k < m →
    (fX7_isAsSeenBehind_L2 m s x3 x2 (nI k) (fun _ => some 1) = some 1 ∧ ∀ K, fX8_isSeen_L16 m 2 t x3 (nI k) K = K ()) ∨ (fX7_isAsSeenBehind_L2 m s x3 x2 (nI k) (fun _ => some 1) = some 0 ∧ ∀ K, fX8_isSeen_L16 m 2 t x3 (nI k) K = some (0, t)) := by
  obtain ⟨a1, n', a2, a3, a4, a5⟩ := hs
  have en : n' = n := (nI_eq (by omega) (by omega)).mp (a3.symm.trans e)
  subst en
  have b0 : s.1 11 0 = nI n' := a1.trans a3
  intro m
  induction m with
  | zero => intros; omega
  | succ m ih =>
    intro k h1 h2
    unfold fX7_isAsSeenBehind_L2 fX8_isSeen_L16
    rw [b0]
    by_cases g : k = n'
    · subst g
      rw [if_pos (nI_le (Nat.le_refl _) (by omega))]
      refine Or.inl ⟨rfl, fun K => ?_⟩
      rw [rd_299, e, if_pos (nI_le (Nat.le_refl _) (by omega))]
    have hk : k < n' := by omega
    obtain ⟨⟨c, hc, ec⟩, ⟨y, hy, ey⟩, ef⟩ := a5 k hk
    have r0 : s.1 12 (3 * k + 0) = nI c := (a4 (3 * k + 0) (by omega)).trans ec
    have r1 : s.1 12 (3 * k + 1) = t.1 2 (284 + 3 * k + 1) := a4 (3 * k + 1) (by omega)
    have r2 : s.1 12 (3 * k + 2) = t.1 2 (284 + 3 * k + 2) := a4 (3 * k + 2) (by omega)
    have p0 : (284 : Int32) + 3 * nI k = nI (284 + 3 * k) := (Int32.add_zero _).symm.trans (see_pl k 0)
    have p1 : (284 : Int32) + 3 * nI k + 1 = nI (284 + 3 * k + 1) := see_pl k 1
    have p2 : (284 : Int32) + 3 * nI k + 2 = nI (284 + 3 * k + 2) := see_pl k 2
    simp only [zlt]
    rw [if_neg (nI_ge hk (by omega)), show fX3_number 11 (nI k) 0 s = _ from num7 (k := 0) b0 hk (by omega) (by omega), zb1_s, show fX3_number 11 (nI k) 1 s = _ from num7 (k := 1) b0 hk (by omega) (by omega), zb1_s, show fX3_number 11 (nI k) 2 s = _ from num7 (k := 2) b0 hk (by omega) (by omega), zb1_s, r0, r1, r2, nI_1, e2]
    have m0 : ∀ {β : Type} (F : Int32 → Option β), zrd t 2 346 (284 + 3 * nI k) F = F (nI c) := fun F => by rw [p0, rd_nI (by omega) (by decide), ec]
    have m1 : ∀ {β : Type} (F : Int32 → Option β), zrd t 2 346 (284 + 3 * nI k + 1) F = F (t.1 2 (284 + 3 * k + 1)) := fun F => by rw [p1, rd_nI (by omega) (by decide)]
    have m2 : ∀ {β : Type} (F : Int32 → Option β), zrd t 2 346 (284 + 3 * nI k + 2) F = F (t.1 2 (284 + 3 * k + 2)) := fun F => by rw [p2, rd_nI (by omega) (by decide)]
    have nx := ih (k + 1) (by omega) (by omega)
    rw [e2] at nx
    by_cases q : t.1 2 (284 + 3 * k + 1) = x3
    · by_cases q2 : t.1 2 (284 + 3 * k + 2) = fX7_asNumber (fX7_has (t.1 2 12) (nI c))
      · rw [if_pos q, if_pos q2]
        rcases nx with ⟨n1, n2⟩ | ⟨n1, n2⟩
        · refine Or.inl ⟨n1, fun K => ?_⟩
          rw [rd_299, e, if_neg (nI_ge hk (by omega)), m1, if_pos q, rd_12, m0, m2, flag_bit hc, if_pos q2.symm]
          exact n2 K
        · refine Or.inr ⟨n1, fun K => ?_⟩
          rw [rd_299, e, if_neg (nI_ge hk (by omega)), m1, if_pos q, rd_12, m0, m2, flag_bit hc, if_pos q2.symm]
          exact n2 K
      · rw [if_pos q, if_neg q2]
        refine Or.inr ⟨rfl, fun K => ?_⟩
        rw [rd_299, e, if_neg (nI_ge hk (by omega)), m1, if_pos q, rd_12, m0, m2, flag_bit hc, if_neg (fun h => q2 h.symm)]
    · rw [if_neg q]
      rcases nx with ⟨n1, n2⟩ | ⟨n1, n2⟩
      · refine Or.inl ⟨n1, fun K => ?_⟩
        rw [rd_299, e, if_neg (nI_ge hk (by omega)), m1, if_neg q]
        exact n2 K
      · refine Or.inr ⟨n1, fun K => ?_⟩
        rw [rd_299, e, if_neg (nI_ge hk (by omega)), m1, if_neg q]
        exact n2 K
theorem seen_L : ∀ m x (s t : zkS), x ≤ 41 → 41 - x < m → rnR False 39 33 2 s t → rSa s 11 (t.1 2) → ∃ r s' t', fX7_isAsSeen_L10 m 33 (nI x) s (fun s7 => some (1, s7)) = some (r, s') ∧ fX8_isSeen_L7 m 2 (nI x) t (fun s15 => some (1, s15)) = some (r, t') ∧ frm 39 2 s t s' t' := by
  intro m
  induction m with
  | zero => intros; omega
  | succ m ih =>
    intro x s t h1 h2 hR hs
    unfold fX7_isAsSeen_L10 fX8_isSeen_L7
    by_cases e : x = 41
    · subst e
      rw [if_pos (by decide), if_pos (by decide)]
      exact ⟨_, _, _, rfl, rfl, frm_0 _ _ _ _⟩
    have e8 : ¬ (40 : Int32) < nI x := nI_nlt (a := 40) (by omega) (by decide)
    rw [if_neg e8, if_neg e8]
    unfold fX7_isAsSeenBehind
    obtain ⟨-, n, hn, en, -⟩ := id hs
    rcases seenB_L hs hn en (x3 := nI x) (x2 := s.1 39 2) hR.2.1.2.2.1 zFU 0 (by omega) (by unfold zFU; omega) with ⟨n1, n2⟩ | ⟨n1, n2⟩
    · rw [show (0 : Int32) = nI 0 from rfl, n1, n2, zb1_s, if_neg (by decide)]
      obtain ⟨s1, t1, k, q1, q2, q3, q4⟩ := run_goes (N := 1) (by omega) (by omega) hR
      rw [show fX2_run 39 33 1 s = _ from q1, show fX8_goes 2 1 t = _ from q2, zb2_s, zb2_s]
      simp only [zlt]
      rw [nI_1]
      obtain ⟨r, s', t', i1, i2, i3⟩ := ih (x + 1) s1 t1 (by omega) (by omega) q3 (rSa_c (by rw [q4.1 11 (by omega) (by omega) (by omega)]) (q4.1 12 (by omega) (by omega) (by omega)) (fun j j1 j2 => q4.2.2.2.2.1 j (Or.inr (by unfold iS; omega))) hs)
      exact ⟨r, s', t', i1, i2, frm_t q4 i3⟩
    · rw [show (0 : Int32) = nI 0 from rfl, n1, n2, zb1_s, if_pos (show (0 : Int32) = nI 0 from rfl)]
      exact ⟨_, _, _, rfl, rfl, frm_0 _ _ _ _⟩
theorem seen_rel {s t : zkS} {lim : Nat} (hl : lim ≤ 8) (hr : rG s 33 (t.1 2)) (hs : rSa s 11 (t.1 2)) (hg : wG (t.1 2)) (hm : wC (t.1 2)) : ∃ r s' t', fX7_isAsSeen 33 (nI lim) s = some (r, s') ∧ fX8_isSeen 2 (nI lim) t = some (r, t') ∧ (∀ a, a ≠ 39 → a ≠ 40 → a ≠ 41 → s'.1 a = s.1 a) ∧ s'.2 = s.2 ∧ (∀ a, a ≠ 2 → t'.1 a = t.1 a) ∧ t'.2 = t.2 := by
  obtain ⟨t1, e1, hR, a1, a2, b1, b2, b3⟩ := begun (o := 33) (by omega) hl hr hg hm
  obtain ⟨r, s', t', q1, q2, q3⟩ := seen_L zFU 0 (fX2_start 39 (nI lim) s) t1 (by omega) (by unfold zFU; omega) hR (rSa_c (by rw [a1 11 (by omega)]) (a1 12 (by omega)) (fun j j1 j2 => by rw [b3]; exact stW_ne (by omega) (by omega)) hs)
  refine ⟨r, s', t', q1, ?_, fun a h0 h1 h2 => by rw [q3.1 a h0 h1 h2, a1 a h0], q3.2.1.trans a2, fun a h => (q3.2.2.1 a h).trans (b1 a h), q3.2.2.2.1.trans b2⟩
  unfold fX8_isSeen
  rw [e1]
  exact q2
/-- the scratch of a trial -/
def scr (σ τ s t : zkS) : Prop := (∀ a, a ≤ 32 ∨ 44 ≤ a → s.1 a = σ.1 a) ∧ s.2 = σ.2 ∧ (∀ a, a ≠ 2 → t.1 a = τ.1 a) ∧ t.2 = τ.2
theorem fits_L {σ τ : zkS} (hR : zRel σ τ) {lim : Nat} (hl : lim ≤ 8) {K7 K8 : Int32 → zkS → Option (Int32 × zkS)} : ∀ m x (acc : Int32) (s t : zkS), x ≤ 24 → 24 - x < m → (∃ v, rG s 33 (wu (τ.1 1) 16 v)) → scr σ τ s t → ∃ r s' t', fX7_fits_L44 m (nI lim) acc (nI x) s K7 = K7 r s' ∧ fX8_fits_L32 m (nI lim) acc (nI x) t K8 = K8 r t' ∧ scr σ τ s' t' := by
  obtain ⟨⟨hg, hk, hs, hw, hm⟩, -⟩ := id hR
  intro m
  induction m with
  | zero => intros; omega
  | succ m ih =>
    intro x acc s t h1 h2 ⟨v, hr⟩ hc
    unfold fX7_fits_L44 fX8_fits_L32
    by_cases e : x = 24
    · subst e
      rw [if_pos (by decide), if_pos (by decide)]
      exact ⟨_, _, _, rfl, rfl, hc⟩
    have hx : x < 24 := by omega
    have e8 : ¬ (24 : Int32) ≤ nI x := nI_n24 hx
    rw [if_neg e8, if_neg e8]
    have ep : fX0_putIntoRoot 33 0 (nI x) s = some (zsi s 38 0 (nI x)) := by
      unfold fX0_putIntoRoot
      rw [if_neg (by decide)]
      exact wr_nI (i := 0) (by decide) (by decide)
    have hr2 : rG (zsi s 38 0 (nI x)) 33 (wu (τ.1 1) 16 (nI x)) := rG_w (fun j _ => by
      unfold wu
      by_cases g : j = 16
      · rw [if_pos g, if_pos (show j = 16 + 0 from g)]
      · rw [if_neg g, if_neg (show ¬ j = 16 + 0 from g), if_neg g]) (rG_root (q := 0) (v := nI x) (by omega) hr)
    have hc2 : scr σ τ (zsi s 38 0 (nI x)) t := ⟨fun a ha => by rw [si_row _ _ (by omega), hc.1 a ha], hc.2.1, hc.2.2.1, hc.2.2.2⟩
    have t1 : t.1 1 = τ.1 1 := hc.2.2.1 1 (by omega)
    rw [ep, zb1_s, there7, there8, zb1_s, show (zsi s 38 0 (nI x)).1 2 = s.1 2 from si_row _ _ (by omega), hc.1 2 (by omega), show σ.1 2 1 = τ.1 1 1 from hg.2.1, t1, hasN_nI hx]
    simp only [zlt]
    rw [nI_1]
    cases eb : bt (τ.1 1 1) x with
    | false =>
      rw [if_neg (show ¬ false = true by decide), if_pos rfl]
      exact ih (x + 1) acc _ t (by omega) (by omega) ⟨nI x, hr2⟩ hc2
    | true =>
      rw [if_pos (show true = true from rfl), if_neg (show ¬ (1 : Int32) = 0 by decide)]
      obtain ⟨u, eu, gu, uu, vu⟩ := copies8 (u := 1) (v := 2) (by decide) t
      rw [eu, zb1_s, wr_16]
      have w2 : ∀ j, j < 346 → (zsi u 2 16 (nI x)).1 2 j = wu (τ.1 1) 16 (nI x) j := fun j hj => by
        rw [si_w]
        unfold wu
        by_cases g : j = 16
        · rw [if_pos g, if_pos g]
        · rw [if_neg g, if_neg g, gu j hj, t1]
      have hg2 : wG (wu (τ.1 1) 16 (nI x)) := wG_root (q := 0) (by omega) (Or.inr ⟨x, hx, rfl, eb⟩) hw
      obtain ⟨r, s', t', q1, q2, q3, q4, q5, q6⟩ := seen_rel (s := zsi s 38 0 (nI x)) (t := zsi u 2 16 (nI x)) hl (rG_w w2 hr2) (rSa_c (σ := σ) (w := τ.1 1) (by rw [si_row _ _ (by omega), hc.1 11 (by omega)]) (by rw [si_row _ _ (by omega), hc.1 12 (by omega)]) (fun j j1 j2 => by rw [w2 j (by omega), wu_ne _ _ (by omega)]) hs.1) (wG_c (fun j hj => w2 j (by unfold iG at hj; omega)) hg2) (fun c hc => by rw [w2 (92 + c) (by omega), w2 0 (by omega), wu_ne _ _ (by omega), wu_ne _ _ (by omega)]; exact hm.2.2.2.2.1 c hc)
      have hr3 : rG s' 33 (wu (τ.1 1) 16 (nI x)) := rG_c (fun a h1 h2 => q3 a (by omega) (by omega) (by omega)) (fun _ _ => rfl) hr2
      have hc3 : scr σ τ s' t' := ⟨fun a ha => by rw [q3 a (by omega) (by omega) (by omega), hc2.1 a ha], q4.trans hc2.2.1, fun a ha => by rw [q5 a ha, si_row _ _ ha, uu a ha, hc.2.2.1 a ha], by rw [q6, si_2, vu, hc.2.2.2]⟩
      rw [q1, q2, zb2_s, zb2_s]
      by_cases g : r = 0
      · rw [if_pos g, if_pos g, Int32.or_zero]
        exact ih (x + 1) acc s' t' (by omega) (by omega) ⟨nI x, hr3⟩ hc3
      · rw [if_neg g, if_neg g, bit_nI hx]
        exact ih (x + 1) _ s' t' (by omega) (by omega) ⟨nI x, hr3⟩ hc3
theorem scr_z {σ τ s t : zkS} (hR : zRel σ τ) (h : scr σ τ s t) : zRel s t := zRel_t hR h.1 h.2.1 h.2.2.1 h.2.2.2
theorem T_fits {σ τ : zkS} (hR : zRel σ τ) (p1 : Int32) : ∃ (r : Int32) (σ1 : zkS) (τ1 : zkS), fX7_fits p1 σ = some (r, σ1) ∧ fX8_fits p1 τ = some (r, τ1) ∧ zRel σ1 τ1 := by
  obtain ⟨⟨hg, hk, hs, hw, hm⟩, -⟩ := id hR
  unfold fX7_fits fX8_fits
  rw [in_0 (b := 8) p1 8 (by decide), ite01, lim_eq, ite01]
  by_cases h1 : p1 < 0 ∨ nI 8 < p1
  · rw [if_pos h1, if_pos h1]
    exact ⟨_, _, _, rfl, rfl, hR⟩
  rw [if_neg h1, if_neg h1, rd_2, runs_01 hm, show σ.1 8 0 = τ.1 1 2 from hk.1]
  by_cases h : τ.1 1 2 = 0
  · rw [if_pos h, if_pos h]
    obtain ⟨lim, hl, rfl⟩ := rng (by decide) h1
    obtain ⟨s, es, fs, us, vs⟩ := copyG (b := 33) (o := 2) (by omega) σ
    rw [es, zb1_s]
    obtain ⟨r, s', t', q1, q2, q3⟩ := fits_L hR hl (K7 := fun x13 s14 => some (x13, s14)) (K8 := fun x14 s15 => some (x14, s15)) zFU 0 0 s τ (by omega) (by unfold zFU; omega) ⟨τ.1 1 16, rG_w (fun j _ => by
      unfold wu
      by_cases g : j = 16
      · rw [if_pos g, g]
      · rw [if_neg g]) (fs _ hg)⟩ ⟨fun a ha => us a (by omega), vs, fun _ _ => rfl, rfl⟩
    exact ⟨r, s', t', q1, q2, scr_z hR q3⟩
  · rw [if_neg h, if_neg h]
    exact ⟨_, _, _, rfl, rfl, hR⟩
theorem can_L {σ τ : zkS} (hR : zRel σ τ) {lim a : Nat} (hl : lim ≤ 8) (ha : a < 24) (hb : bt (τ.1 1 1) a = true) {K7 K8 : Int32 → Int32 → zkS → Option (Int32 × zkS)} : ∀ m i (x4 x5 : Int32) (s t : zkS), i ≤ 10 → i < m → (∃ v, rG s 33 (wu (τ.1 1) (44 + a) v)) → scr σ τ s t → ∃ y4 y5 s' t', fX7_can_L76 m (nI a) (nI lim) x4 x5 (nI i - 1) s K7 = K7 y4 y5 s' ∧ fX8_can_L59 m (nI a) (nI lim) x4 x5 (nI i - 1) t K8 = K8 y4 y5 t' ∧ scr σ τ s' t' := by
  obtain ⟨⟨hg, hk, hs, hw, hm⟩, -⟩ := id hR
  intro m
  induction m with
  | zero => intros; omega
  | succ m ih =>
    intro i x4 x5 s t h1 h2 ⟨v, hr⟩ hc
    unfold fX7_can_L76 fX8_can_L59
    rcases Nat.eq_zero_or_pos i with h0 | h0
    · subst h0
      rw [if_pos (by decide), if_pos (by decide)]
      exact ⟨_, _, _, _, rfl, rfl, hc⟩
    obtain ⟨j, rfl⟩ : ∃ j, i = j + 1 := ⟨i - 1, by omega⟩
    have ej : nI (j + 1) - 1 = nI j := pk_sub (b := 1) (by omega)
    have t1 : t.1 1 = τ.1 1 := hc.2.2.1 1 (by omega)
    have ep : fX0_retag 33 (nI a) (nI j) s = some (zsi s 35 a (nI j)) := by
      unfold fX0_retag
      rw [there7, hr.2.1, wu_ne _ _ (by omega), hasN_nI ha, hb, if_pos rfl, if_neg (by decide)]
      exact wr24 ha
    have hr2 : rG (zsi s 35 a (nI j)) 33 (wu (τ.1 1) (44 + a) (nI j)) := rG_w (fun k _ => by
      unfold wu
      by_cases g : k = 44 + a
      · rw [if_pos g, if_pos g]
      · rw [if_neg g, if_neg g, if_neg g]) (rG_tag (v := nI j) ha hr)
    rw [ej, if_neg (nI_nneg (by omega)), if_neg (nI_nneg (by omega)), ep, zb1_s]
    obtain ⟨u, eu, gu, uu, vu⟩ := copies8 (u := 1) (v := 2) (by decide) t
    simp only [zlt]
    rw [eu, zb1_s, wr_44c ha, show nI j + -1 = nI j - 1 from (Int32.sub_eq_add_neg _ _).symm]
    have w2 : ∀ k, k < 346 → (zsi u 2 (44 + a) (nI j)).1 2 k = wu (τ.1 1) (44 + a) (nI j) k := fun k hk => by
      rw [si_w]
      unfold wu
      by_cases g : k = 44 + a
      · rw [if_pos g, if_pos g]
      · rw [if_neg g, if_neg g, gu k hk, t1]
    have hg2 : wG (wu (τ.1 1) (44 + a) (nI j)) := wG_tag ha (by omega) hw
    obtain ⟨r, s', t', q1, q2, q3, q4, q5, q6⟩ := seen_rel (s := zsi s 35 a (nI j)) (t := zsi u 2 (44 + a) (nI j)) hl (rG_w w2 hr2) (rSa_c (σ := σ) (w := τ.1 1) (by rw [si_row _ _ (by omega), hc.1 11 (by omega)]) (by rw [si_row _ _ (by omega), hc.1 12 (by omega)]) (fun j j1 j2 => by rw [w2 j (by omega), wu_ne _ _ (by omega)]) hs.1) (wG_c (fun j hj => w2 j (by unfold iG at hj; omega)) hg2) (fun c hc => by rw [w2 (92 + c) (by omega), w2 0 (by omega), wu_ne _ _ (by omega), wu_ne _ _ (by omega)]; exact hm.2.2.2.2.1 c hc)
    have hr3 : rG s' 33 (wu (τ.1 1) (44 + a) (nI j)) := rG_c (fun a h1 h2 => q3 a (by omega) (by omega) (by omega)) (fun _ _ => rfl) hr2
    have hc3 : scr σ τ s' t' := ⟨fun a ha => by rw [q3 a (by omega) (by omega) (by omega), si_row _ _ (by omega), hc.1 a ha], by rw [q4, si_2, hc.2.1], fun a ha => by rw [q5 a ha, si_row _ _ ha, uu a ha, hc.2.2.1 a ha], by rw [q6, si_2, vu, hc.2.2.2]⟩
    rw [q1, q2, zb2_s, zb2_s]
    by_cases g : r = 0
    · rw [if_pos g, if_pos g]
      exact ih j x4 x5 s' t' (by omega) (by omega) ⟨nI j, hr3⟩ hc3
    · rw [if_neg g, if_neg g]
      exact ih j _ _ s' t' (by omega) (by omega) ⟨nI j, hr3⟩ hc3
theorem T_can {σ τ : zkS} (hR : zRel σ τ) (p1 : Int32) (p2 : Int32) (p3 : Int32) : ∃ (r : Int32) (σ1 : zkS) (τ1 : zkS), fX7_can p1 p2 p3 σ = some (r, σ1) ∧ fX8_can p1 p2 p3 τ = some (r, τ1) ∧ zRel σ1 τ1 := by
  obtain ⟨⟨hg, hk, hs, hw, hm⟩, -⟩ := id hR
  unfold fX7_can fX8_can
  rw [there7, there8, zb1_s, show σ.1 2 1 = τ.1 1 1 from hg.2.1, ite10, ite10, in_0 (b := 1) p3 1 (by decide), ite01, in_0 (b := 8) p2 8 (by decide), ite01, show (if p3 ≤ (1 : Int32) then _ else _) = (if p3 ≤ nI 1 then _ else _) from rfl, rng_if, lim_eq, ite01]
  cases e : hasN (τ.1 1 1) p1 with
  | false => exact ⟨_, _, _, rfl, rfl, hR⟩
  | true =>
    rw [if_pos rfl, if_pos rfl]
    obtain ⟨a, ha, rfl, hb⟩ := hasN_of e
    by_cases h3 : p3 < 0 ∨ nI 1 < p3
    · rw [if_pos h3, if_pos h3]
      exact ⟨_, _, _, rfl, rfl, hR⟩
    rw [if_neg h3, if_neg h3]
    by_cases h1 : p2 < 0 ∨ nI 8 < p2
    · rw [if_pos h1, if_pos h1]
      exact ⟨_, _, _, rfl, rfl, hR⟩
    rw [if_neg h1, if_neg h1, rd_2, runs_01 hm, show σ.1 8 0 = τ.1 1 2 from hk.1]
    by_cases h : τ.1 1 2 = 0
    · rw [if_pos h, if_pos h]
      obtain ⟨lim, hl, rfl⟩ := rng (by decide) h1
      obtain ⟨s, es, fs, us, vs⟩ := copyG (b := 33) (o := 2) (by omega) σ
      rw [es, zb1_s]
      obtain ⟨y4, y5, s', t', q1, q2, q3⟩ := can_L hR hl ha hb (K7 := fun x11 x12 s13 => (if p3 = 0 then some (x11, s13) else some (x12, s13))) (K8 := fun x13 x14 s15 => (if p3 = 0 then some (x13, s15) else some (x14, s15))) zFU 10 0 (-5) s τ (by omega) (by unfold zFU; omega) ⟨τ.1 1 (44 + a), rG_w (fun j _ => by
        unfold wu
        by_cases g : j = 44 + a
        · rw [if_pos g, g]
        · rw [if_neg g]) (fs _ hg)⟩ ⟨fun a ha => us a (by omega), vs, fun _ _ => rfl, rfl⟩
      rw [show nI 10 - 1 = (9 : Int32) by decide] at q1 q2
      rw [q1, q2]
      by_cases g : p3 = 0
      · rw [if_pos g, if_pos g]
        exact ⟨_, s', t', rfl, rfl, scr_z hR q3⟩
      · rw [if_neg g, if_neg g]
        exact ⟨_, s', t', rfl, rfl, scr_z hR q3⟩
    · rw [if_neg h, if_neg h]
      exact ⟨_, _, _, rfl, rfl, hR⟩
