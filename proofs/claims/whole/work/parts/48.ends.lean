/-! ===== the end of a plan ===== -/
theorem zRel_t {σ σ' τ τ' : zkS} (hR : zRel σ τ) (h1 : ∀ a, a ≤ 32 ∨ 44 ≤ a → σ'.1 a = σ.1 a) (h2 : σ'.2 = σ.2) (k1 : ∀ a, a ≠ 2 → τ'.1 a = τ.1 a) (k2 : τ'.2 = τ.2) : zRel σ' τ' :=
  zRel_c (fun a _ h => h1 a (Or.inl h)) (by rw [h1 0 (by omega)]) (by rw [h1 44 (by omega)]) (h1 45 (by omega)) (h1 50 (by omega)) (h1 51 (by omega)) h2 (k1 1 (by decide)) (k1 3 (by decide)) (by rw [k1 0 (by decide)]) (by rw [k1 0 (by decide)]) (k1 4 (by decide)) (k1 12 (by decide)) (k1 13 (by decide)) k2 hR
/-- a row that may have another tag where no cell is -/
def agr (w v : Nat → Int32) : Prop := ∀ j, v j = w j ∨ ∃ c, c < 24 ∧ j = 44 + c ∧ bt (w 1) c = false
theorem agr_e {w v : Nat → Int32} (h : agr w v) {j : Nat} (hj : j < 44 ∨ 68 ≤ j) : v j = w j := (h j).resolve_right fun ⟨c, hc, e, _⟩ => by omega
theorem agr_ld {w v : Nat → Int32} (h : agr w v) {c i : Nat} (hc : c < 24) (hb : bt (w 1) c = true) : ld v c i = ld w c i := by
  unfold ld
  rw [agr_e h (j := 20 + c) (by omega), agr_e h (j := 140 + 6 * c + i) (by omega), (h (44 + c)).resolve_right fun ⟨c', hc', e, hb'⟩ => by
    have : c = c' := by omega
    rw [this] at hb
    rw [hb] at hb'
    cases hb']
theorem agr_E {w v : Nat → Int32} (h : agr w v) (i j : Nat) : eW v i j ↔ eW w i j := by
  refine ⟨fun q => ?_, fun q => ?_⟩
  · obtain ⟨q1, q2, q3, k, hk, q4, q5, q6⟩ := q
    rw [agr_e h (j := 1) (by omega)] at q3
    rw [agr_e h (j := 68 + i) (by omega)] at q4
    rw [agr_ld h q1 q3] at q6
    exact ⟨q1, q2, q3, k, hk, q4, q5, q6⟩
  · obtain ⟨q1, q2, q3, k, hk, q4, q5, q6⟩ := q
    exact ⟨q1, q2, by rw [agr_e h (j := 1) (by omega)]; exact q3, k, hk, by rw [agr_e h (j := 68 + i) (by omega)]; exact q4, q5, by rw [agr_ld h q1 q3]; exact q6⟩
theorem agr_R {w v : Nat → Int32} (h : agr w v) (j : Nat) : rW v j ↔ rW w j := by
  refine ⟨fun q => ⟨q.1, ?_⟩, fun q => ⟨q.1, ?_⟩⟩
  · obtain ⟨r, hr, e⟩ := q.2
    exact ⟨r, hr, by rw [agr_e h (j := 16 + r) (by omega)] at e; exact e⟩
  · obtain ⟨r, hr, e⟩ := q.2
    exact ⟨r, hr, by rw [agr_e h (j := 16 + r) (by omega)]; exact e⟩
theorem agr_u {w v : Nat → Int32} (h : agr w v) {k : Nat} {x : Int32} (hk : k ≠ 1) : agr (wu w k x) (wu v k x) := fun j => by
  by_cases e : j = k
  · rw [e, wu_eq, wu_eq]
    exact Or.inl rfl
  · rw [wu_ne _ _ e, wu_ne _ _ e, wu_ne w _ hk.symm]
    exact h j
theorem agr_d {w v : Nat → Int32} (h : agr w v) {c : Nat} {x : Int32} (hc : c < 24) (hb : bt (w 1) c = false) : agr w (wu v (44 + c) x) := fun j => by
  by_cases e : j = 44 + c
  · exact Or.inr ⟨c, hc, e, hb⟩
  · rw [wu_ne _ _ e]
    exact h j
theorem rG_dead {σ : zkS} {b : Nat} {w : Nat → Int32} {c i : Nat} {v : Int32} (hc : c < 24) (hi : i < 6) (hn : isF w (nI c) (nI i) = false) (hr : rG σ b w) : rG σ b (wu w (140 + 6 * c + i) v) := by
  obtain ⟨g0, g1, g2, g3, g4, g5⟩ := hr
  refine ⟨by rw [wu_ne _ _ (by omega)]; exact g0, by rw [wu_ne _ _ (by omega)]; exact g1, by rw [wu_ne _ _ (by omega)]; exact g2, fun c' hc' => by rw [wu_ne _ _ (by omega), wu_ne _ _ (by omega), wu_ne _ _ (by omega)]; exact g3 c' hc', fun c' i' hc' hb hi' hs => ?_, fun r hr => by rw [wu_ne _ _ (by omega)]; exact g5 r hr⟩
  rw [wu_ne _ _ (by omega)] at hb hs
  by_cases e : c' = c ∧ i' = i
  · obtain ⟨rfl, rfl⟩ := e
    rw [isF_nI hc (by omega), hb, Bool.true_and, decide_eq_false_iff_not] at hn
    exact absurd hs (fun q => hn (Int32.not_le.mpr q))
  · rw [wu_ne _ _ (by omega)]
    exact g4 c' i' hc' hb hi' hs
theorem ends_L {σ0 τ0 : zkS} (hR : zRel σ0 τ0) {n : Nat} (hn : n ≤ 10) (hb : τ0.1 1 320 = nI n) {K7 K8 : zkS → Option (Int32 × zkS)} : ∀ m k (s t : zkS) (w : Nat → Int32), k ≤ n → n - k < m → (∀ a, ¬ (33 ≤ a ∧ a ≤ 38) → s.1 a = σ0.1 a) → s.2 = σ0.2 → (∀ a, a ≠ 2 → t.1 a = τ0.1 a) → t.2 = τ0.2 → rG s 33 w → wG w → wG (t.1 2) → agr w (t.1 2) →
    ∃ s' t' w', fX7_ends_L16 m (nI k) s K7 = K7 s' ∧ fX8_ends_L13 m (nI k) t K8 = K8 t' ∧ (∀ a, ¬ (33 ≤ a ∧ a ≤ 38) → s'.1 a = σ0.1 a) ∧ s'.2 = σ0.2 ∧ (∀ a, a ≠ 2 → t'.1 a = τ0.1 a) ∧ t'.2 = τ0.2 ∧ rG s' 33 w' ∧ wG w' ∧ wG (t'.1 2) ∧ agr w' (t'.1 2) := by
  intro m
  induction m with
  | zero => intros; omega
  | succ m ih =>
    intro k s t w h1 h2 hs hs2 ht ht2 hr hg hv ha
    obtain ⟨⟨-, -, ⟨-, ⟨pa, n', hn', pb, pc⟩, -⟩, -, -⟩, -⟩ := id hR
    have en : n' = n := (nI_eq (by omega) (by omega)).mp (pb.symm.trans hb)
    subst en
    have p0 : s.1 13 0 = nI n' := by rw [hs 13 (by omega)]; exact pa.trans hb
    unfold fX7_ends_L16 fX8_ends_L13
    rw [p0, rd_320, ht 1 (by decide), hb]
    by_cases e : k = n'
    · subst e
      rw [if_pos (nI_le (Nat.le_refl k) (by omega)), if_pos (nI_le (Nat.le_refl k) (by omega))]
      exact ⟨s, t, w, rfl, rfl, hs, hs2, ht, ht2, hr, hg, hv, ha⟩
    rw [if_neg (nI_ge (by omega) (by omega)), if_neg (nI_ge (by omega) (by omega))]
    obtain ⟨c0, c1, hkind⟩ := pc k (by omega)
    rw [show fX3_number 13 (nI k) 1 s = _ from num7 (k := 1) p0 (by omega) (by omega) (by omega), zb1_s, show fX3_number 13 (nI k) 0 s = _ from num7 (k := 0) p0 (by omega) (by omega) (by omega), zb1_s, hs (13 + 1) (by omega), show σ0.1 (13 + 1) (3 * k + 0) = _ from c0, show σ0.1 (13 + 1) (3 * k + 1) = _ from c1]
    rw [show (300 : Int32) + 2 * nI k = nI (300 + 2 * k) from x2 300 k, rd_nI (by omega) (by decide), show nI (300 + 2 * k) + 1 = nI (300 + 2 * k + 1) from nI_1 _, rd_nI (by omega) (by decide), ht 1 (by decide)]
    simp only [zlt]
    rw [show nI k + 1 = nI (k + 1) from nI_1 k]
    rcases hkind with ⟨ek, c, i, hc, hi, ev⟩ | ⟨ek, r, hr4, ev⟩ | ⟨ek, c, hc, ev⟩
    · rw [ek, ev, if_pos rfl, if_pos rfl, show nI (10 * c + i) / 10 = nI c from by rw [show (10 : Int32) = nI 10 from rfl, pk_div (by omega) (by decide) (by decide), show (10 * c + i) / 10 = c by omega], show nI (10 * c + i) - nI c * 10 = nI i from by rw [show (10 : Int32) = nI 10 from rfl, pk_mul, pk_sub (by omega), show 10 * c + i - c * 10 = i by omega], wr_fld hc hi]
      have ht' : ∀ a, a ≠ 2 → (zsi t 2 (140 + 6 * c + i) (-5)).1 a = τ0.1 a := fun a q => by rw [si_row _ _ q, ht a q]
      have hv' : wG ((zsi t 2 (140 + 6 * c + i) (-5)).1 2) := by rw [si_w]; exact wG_fld hc hi (Or.inl rfl) hv
      have hg' : wG (wu w (140 + 6 * c + i) (-5)) := wG_fld hc hi (Or.inl rfl) hg
      have ha' : agr (wu w (140 + 6 * c + i) (-5)) ((zsi t 2 (140 + 6 * c + i) (-5)).1 2) := by rw [si_w]; exact agr_u ha (by omega)
      cases eF : isF w (nI c) (nI i) with
      | true =>
        obtain ⟨e1, e2⟩ := put7 hr hc hi eF (-5)
        rw [e1, zb1_s]
        exact ih (k + 1) _ _ _ (by omega) (by omega) (fun a q => by rw [si_row _ _ (by omega), hs a q]) hs2 ht' ht2 e2 hg' hv' ha'
      | false =>
        have e1 : fX0_putInto 33 (nI c) (nI i) (-5) s = some s := by
          unfold fX0_putInto
          rw [isField7 hr, eF, zb1_s]
          rfl
        rw [e1, zb1_s]
        exact ih (k + 1) _ _ _ (by omega) (by omega) hs hs2 ht' ht2 (rG_dead hc hi eF hr) hg' hv' ha'
    · rw [ek, ev, if_neg (by decide), if_pos rfl, if_neg (by decide), if_pos rfl, if_pos rfl, wr_16c hr4]
      have e1 : fX0_putIntoRoot 33 (nI r) (-5) s = some (zsi s (33 + 5) r (-5)) := by
        unfold fX0_putIntoRoot
        rw [root_eq, ite01, if_neg (fun q => q.elim (nI_nneg (by omega)) (nI_nlt (by omega) (by decide))), wr_nI hr4 (by decide)]
      rw [e1, zb1_s]
      exact ih (k + 1) _ _ _ (by omega) (by omega) (fun a q => by rw [si_row _ _ (by omega), hs a q]) hs2 (fun a q => by rw [si_row _ _ q, ht a q]) ht2 (rG_root hr4 hr) (wG_root hr4 (Or.inl rfl) hg) (by rw [si_w]; exact wG_root hr4 (Or.inl rfl) hv) (by rw [si_w]; exact agr_u ha (by omega))
    · rw [ek, ev, if_neg (by decide), if_neg (by decide), if_neg (by decide), if_neg (by decide), if_neg (by decide), wr_44c hc]
      have hv' : wG ((zsi t 2 (44 + c) 0).1 2) := by rw [si_w]; exact wG_tag (t := 0) hc (by omega) hv
      have ht' : ∀ a, a ≠ 2 → (zsi t 2 (44 + c) 0).1 a = τ0.1 a := fun a q => by rw [si_row _ _ q, ht a q]
      unfold fX0_retag
      rw [there7, ite10, hr.2.1, hasN_nI hc]
      cases eb : bt (w 1) c with
      | true =>
        rw [if_pos rfl, wr24 hc, zb1_s]
        exact ih (k + 1) _ _ _ (by omega) (by omega) (fun a q => by rw [si_row _ _ (by omega), hs a q]) hs2 ht' ht2 (rG_tag (v := 0) hc hr) (wG_tag (t := 0) hc (by omega) hg) hv' (by rw [si_w]; exact agr_u ha (by omega))
      | false =>
        rw [if_neg (by decide), zb1_s]
        exact ih (k + 1) _ _ _ (by omega) (by omega) hs hs2 ht' ht2 hr hg hv' (by rw [si_w]; exact agr_d ha hc eb)
theorem T_ends {σ τ : zkS} (hR : zRel σ τ) : ∃ (r : Int32) (σ1 : zkS) (τ1 : zkS), fX7_ends σ = some (r, σ1) ∧ fX8_ends τ = some (r, τ1) ∧ zRel σ1 τ1 := by
  obtain ⟨⟨hg, hk, ⟨-, ⟨pa, n, hn, pb, pc⟩, -⟩, hw, hm⟩, -⟩ := id hR
  unfold fX7_ends fX8_ends
  obtain ⟨s, es, fs, us, vs⟩ := copyG (b := 33) (o := 2) (by omega) σ
  obtain ⟨t, et, gt, ut, vt⟩ := copies8 (u := 1) (v := 2) (by decide) τ
  rw [es, et, zb1_s, zb1_s]
  have hw2 : wG (t.1 2) := wG_c (fun j hj => gt j (by unfold iG at hj; omega)) hw
  have hr2 : rG s 33 (t.1 2) := rG_w gt (fs _ hg)
  obtain ⟨s', t', w', e7, e8, hs, hs2, ht, ht2, hr', hg', hv', ha'⟩ := ends_L hR hn pb (K7 := fun s11 => zb1 (fX1_readFrom 33 s11) (fun s12 => zb1 (fX1_reached s12) (fun v13 => some (v13, s12)))) (K8 := fun s16 => zb1 (fX8_reached 2 s16) (fun v17 => some (v17, s16))) zFU 0 s t (t.1 2) (by omega) (by unfold zFU; omega) us vs ut vt hr2 hw2 hw2 (fun j => Or.inl rfl)
  rw [show (0 : Int32) = nI 0 from rfl, e7, e8]
  obtain ⟨s2, er, hl, a2, b2⟩ := read7 (b := 33) (by omega) hr' hg'
  obtain ⟨x, ex, hx⟩ := reached7 hl
  obtain ⟨y, ey, hy⟩ := reached8 (u := 2) hv'
  have := bs_u hx (bs_iff hy fun i _ => rch_c (agr_E ha') (agr_R ha') i)
  subst this
  rw [er, zb1_s, ex, zb1_s, ey, zb1_s]
  exact ⟨x, s2, t', rfl, rfl, zRel_t hR (fun a q => by rw [a2 a (by omega) (by omega), hs a (by omega)]) (by rw [b2, hs2]) ht ht2⟩
