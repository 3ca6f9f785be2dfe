/-! ===== a field cut ===== -/
def cutW (w : Nat → Int32) (c i : Nat) : Nat → Int32 := wu w (140 + 6 * c + i) (-5)
theorem cutW_G {w : Nat → Int32} (hg : wG w) {c i : Nat} (hc : c < 24) (hi : i < 6) : wG (cutW w c i) := wG_fld hc hi (Or.inl rfl) hg
theorem cutW_r {w : Nat → Int32} {c i : Nat} (j : Nat) : rW (cutW w c i) j ↔ rW w j := by
  unfold rW cutW
  refine ⟨fun q => ⟨q.1, ?_⟩, fun q => ⟨q.1, ?_⟩⟩
  · obtain ⟨r, hr, e⟩ := q.2
    exact ⟨r, hr, by rw [wu_ne _ _ (by omega)] at e; exact e⟩
  · obtain ⟨r, hr, e⟩ := q.2
    exact ⟨r, hr, by rw [wu_ne _ _ (by omega)]; exact e⟩
theorem cutW_e {w : Nat → Int32} {c i : Nat} (hc : c < 24) (hi : i < 6) (c' j : Nat) : eW (cutW w c i) c' j ↔ if c' = c then eX w (nI i) c j else eW w c' j := by
  have nl : ∀ k, k < 6 → ¬ nI k = -1 := fun k hk q => nI_nneg (show k < 2 ^ 31 by omega) (by rw [q]; decide)
  have ne : ∀ x k, x < 24 → k < 6 → ¬ (x = c ∧ k = i) → ld (cutW w c i) x k = ld w x k := fun x k hx hk hn => by
    unfold ld cutW
    rw [wu_ne _ _ (by omega), wu_ne _ _ (by omega), wu_ne _ _ (by omega)]
  have eq : ld (cutW w c i) c i = -5 := by
    unfold ld cutW
    rw [wu_eq]
    split <;> rfl
  have e1 : cutW w c i 1 = w 1 := wu_ne _ _ (by omega)
  have e68 : ∀ x, x < 24 → cutW w c i (68 + x) = w (68 + x) := fun x hx => wu_ne _ _ (by omega)
  by_cases ec : c' = c
  · rw [if_pos ec]
    subst ec
    refine ⟨fun q => ?_, fun q => ?_⟩
    · obtain ⟨q1, q2, q3, k, hk, q4, q5, q6⟩ := q
      rw [e1] at q3
      rw [e68 _ hc] at q4
      by_cases ek : k = i
      · subst ek
        rw [eq] at q6
        exact absurd (q6 ▸ (by decide : (-5 : Int32) < 0)) (nI_nneg (by omega))
      · rw [ne _ _ hc hk (fun q => ek q.2)] at q6
        exact ⟨q1, q2, q3, k, hk, q4, fun q => ek ((nI_eq (by omega) (by omega)).mp q), q6⟩
    · obtain ⟨q1, q2, q3, k, hk, q4, q5, q6⟩ := q
      refine ⟨q1, q2, by rw [e1]; exact q3, k, hk, by rw [e68 _ hc]; exact q4, nl k hk, ?_⟩
      rw [ne _ _ hc hk (fun q => q5 (by rw [q.2]))]
      exact q6
  · rw [if_neg ec]
    refine ⟨fun q => ?_, fun q => ?_⟩
    · obtain ⟨q1, q2, q3, k, hk, q4, q5, q6⟩ := q
      rw [e1] at q3
      rw [e68 _ q1] at q4
      rw [ne _ _ q1 hk (fun q => ec q.1)] at q6
      exact ⟨q1, q2, q3, k, hk, q4, q5, q6⟩
    · obtain ⟨q1, q2, q3, k, hk, q4, q5, q6⟩ := q
      exact ⟨q1, q2, by rw [e1]; exact q3, k, hk, by rw [e68 _ q1]; exact q4, q5, by rw [ne _ _ q1 hk (fun q => ec q.1)]; exact q6⟩
theorem si_back (σ : zkS) (a k : Nat) (v : Int32) : zsi (zsi σ a k v) a k (σ.1 a k) = σ := by
  refine Prod.ext (funext fun a' => funext fun k' => ?_) rfl
  show (if a' = a ∧ k' = k then σ.1 a k else if a' = a ∧ k' = k then v else σ.1 a' k') = σ.1 a' k'
  by_cases h : a' = a ∧ k' = k
  · rw [if_pos h, h.1, h.2]
  · rw [if_neg h, if_neg h]
theorem rch_c {E E' : Nat → Nat → Prop} {F F' : Nat → Prop} (h : ∀ i j, E i j ↔ E' i j) (hF : ∀ i, F i ↔ F' i) (i : Nat) : rch E F (fun _ => False) i ↔ rch E' F' (fun _ => False) i :=
  ⟨fun q => rch_min (fun i f n => rch_base ((hF i).mp f) n) (fun i j r e n => rch_step r ((h i j).mp e) n) q, fun q => rch_min (fun i f n => rch_base ((hF i).mpr f) n) (fun i j r e n => rch_step r ((h i j).mpr e) n) q⟩
/-- reached when a field is cut: both worlds, each back as it was -/
theorem cut7 {σ : zkS} {b : Nat} (hb : b + 5 < 42) {w : Nat → Int32} (hr : rG σ b w) (hg : wG w) (hl : lnk σ w) {c i : Nat} (hc : c < 24) (hi : i < 6) : ∃ x, fX1_reachedWithout b (nI c) (nI i) σ = some (x, σ) ∧ bs x (rch (eW (cutW w c i)) (rW (cutW w c i)) (fun _ => False)) := by
  unfold fX1_reachedWithout
  obtain ⟨v, ev, hv⟩ := links7 hr hg hc (nI i)
  rw [if_neg (fun q => by have := bit_bt hc c; rw [q, b_0] at this; simp at this), rd24 hc, ev, zb1_s, wr24 hc]
  obtain ⟨x, ex, hx⟩ := spread7 (σ := zsi σ 43 c v) (E := eW (cutW w c i)) (F := rW w) (B := fun _ => False) (f := (zsi σ 43 c v).1 42 1) (bar := 0) (fun i j q => ⟨q.1, q.2.1⟩) (fun i (q : rW w i) => q.1) (by rw [si_ne _ _ (by omega)]; exact hl.1) bs_0 (fun c' hc' => bs_iff (P := fun j => if c' = c then eX w (nI i) c j else eW w c' j) (by
    by_cases ec : c' = c
    · subst ec
      rw [si_eq]
      exact bs_iff hv fun j _ => by rw [if_pos rfl]
    · rw [si_ne _ _ (Or.inr ec)]
      exact bs_iff (hl.2 c' hc') fun j _ => by rw [if_neg ec]) fun j _ => (cutW_e hc hi c' j).symm)
  rw [ex, zb1_s, wr24 hc, si_back]
  exact ⟨x, rfl, bs_iff hx fun j _ => rch_c (fun i j => Iff.rfl) (fun j => (cutW_r j).symm) j⟩
theorem cut8 {τ : zkS} (hg : wG (τ.1 1)) {c i q : Nat} (hc : c < 24) (hi : i < 6) (hq : q < 24) : ∃ x, fX8_isReachedCut (nI c) (nI i) (nI q) τ = some (if bt x q then 1 else 0, τ) ∧ bs x (rch (eW (cutW (τ.1 1) c i)) (rW (cutW (τ.1 1) c i)) (fun _ => False)) := by
  unfold fX8_isReachedCut
  rw [rd_fld hc hi, wr_fld hc hi]
  have e : (zsi τ 1 (140 + 6 * c + i) (-5)).1 1 = cutW (τ.1 1) c i := si_w _ _ _ _
  obtain ⟨x, ex, hx⟩ := reached8 (τ := zsi τ 1 (140 + 6 * c + i) (-5)) (u := 1) (by rw [e]; exact cutW_G hg hc hi)
  rw [e] at hx
  rw [ex, zb1_s]
  simp only [zlt]
  rw [wr_fld hc hi, bit8_eq _ (by omega), si_back]
  refine ⟨x, ?_, hx⟩
  unfold zck
  cases bt x q <;> rfl
theorem cut_none {w : Nat → Int32} {c i : Nat} (hc : c < 24) (hi : i < 6) (hn : ¬ rch (eW w) (rW w) (fun _ => False) c) (j : Nat) : rch (eW (cutW w c i)) (rW (cutW w c i)) (fun _ => False) j ↔ rch (eW w) (rW w) (fun _ => False) j := by
  refine ⟨fun q => ?_, fun q => ?_⟩
  · refine rch_min (fun j f n => rch_base ((cutW_r j).mp f) n) (fun x y r e n => rch_step r ?_ n) q
    have := (cutW_e hc hi x y).mp e
    by_cases ex : x = c
    · rw [ex] at r
      exact absurd r hn
    · rw [if_neg ex] at this
      exact this
  · have : rch (eW w) (rW w) (fun _ => False) j ∧ rch (eW (cutW w c i)) (rW (cutW w c i)) (fun _ => False) j := rch_min (P := fun j => rch (eW w) (rW w) (fun _ => False) j ∧ rch (eW (cutW w c i)) (rW (cutW w c i)) (fun _ => False) j) (fun j f n => ⟨rch_base f n, rch_base ((cutW_r j).mpr f) n⟩) (fun x y r e n => ⟨rch_step r.1 e n, rch_step r.2 ((cutW_e hc hi x y).mpr (by
      by_cases ex : x = c
      · rw [ex] at r
        exact absurd r.1 hn
      · rw [if_neg ex]
        exact e)) n⟩) q
    exact this.2
/-- the class's and the model's walk over fields end together -/
theorem fld78 {σ τ : zkS} {b : Nat} (hr : rG σ b (τ.1 1)) (hg : wG (τ.1 1)) {c i : Nat} (hc : c < 24) (hi : i ≤ 6) : (isF (τ.1 1) (nI c) (nI i) = true ∧ i < 6 ∧ ¬ (if hasN (τ.1 1 1) (nI c) then τ.1 1 (68 + c) else 0) ≤ nI i ∧ bt (τ.1 1 1) c = true ∧ nI i < τ.1 1 (68 + c)) ∨ (isF (τ.1 1) (nI c) (nI i) = false ∧ (if hasN (τ.1 1 1) (nI c) then τ.1 1 (68 + c) else 0) ≤ nI i) := by
  obtain ⟨z, hz6, ez⟩ := size_of hg hc
  rw [isF_nI hc (by omega), hasN_nI hc, ez]
  cases eb : bt (τ.1 1 1) c with
  | false => exact Or.inr ⟨rfl, by rw [if_neg (by decide)]; exact nI_le (a := 0) (by omega) (by omega)⟩
  | true =>
    by_cases e : z ≤ i
    · exact Or.inr ⟨by rw [decide_eq_false (fun q => q (nI_le e (by omega)))]; rfl, by rw [if_pos rfl]; exact nI_le e (by omega)⟩
    · exact Or.inl ⟨by rw [decide_eq_true (nI_ge (by omega) (by omega))]; rfl, by omega, by rw [if_pos rfl]; exact nI_ge (by omega) (by omega), rfl, nI_lt (by omega) (by omega)⟩
theorem size7n {σ : zkS} {b : Nat} {w : Nat → Int32} (h : rG σ b w) {c : Nat} (hc : c < 24) : fX0_sizeOf b (nI c) σ = some (if hasN (w 1) (nI c) then w (68 + c) else 0) := by
  rw [size7 h, nI_clamp (by omega)]
section CUT
variable {σ τ : zkS} {x : Int32} {q : Nat}
theorem cut_L1 (hr : rG σ 2 (τ.1 1)) (hg : wG (τ.1 1)) (hl : lnk σ (τ.1 1)) (hx : bs x (rch (eW (τ.1 1)) (rW (τ.1 1)) (fun _ => False))) (hq : q < 24) (hxq : bt x q = true) {c : Nat} (hc : c < 24) {K7 K8 : zkS → Option (Int32 × zkS)} {G : Prop} (hK : ∀ r, K7 σ = some (r, σ) ∧ K8 τ = some (r, τ) → G) :
    ∀ m i, i ≤ 6 → 6 - i < m → (∃ r, fX1_cutOf_L29 m 2 (nI q) x (nI c) (nI i) σ K7 = some (r, σ) ∧ fX8_cut_L27 m (nI q) (nI c) (nI i) τ K8 = some (r, τ)) ∨ (fX1_cutOf_L29 m 2 (nI q) x (nI c) (nI i) σ K7 = K7 σ ∧ fX8_cut_L27 m (nI q) (nI c) (nI i) τ K8 = K8 τ) := by
  intro m
  induction m with
  | zero => intros; omega
  | succ m ih =>
    intro i h1 h2
    unfold fX1_cutOf_L29 fX8_cut_L27
    rw [size7n hr hc, zb1_s, isField8 hg, zb1_s, ite10]
    rcases fld78 hr hg hc h1 with ⟨f1, f2, f3, f4, f5⟩ | ⟨f1, f2⟩
    · rw [if_neg f3, f1, if_pos rfl, has_eq, hasN_nI hc, ite10]
      obtain ⟨y8, e8, hy8⟩ := cut8 (τ := τ) hg hc f2 hq
      rw [e8, zb2_s, ite10]
      simp only [zlt]
      rw [nI_1]
      cases eb : bt x c with
      | false =>
        have hn : ¬ rch (eW (τ.1 1)) (rW (τ.1 1)) (fun _ => False) c := fun z => by rw [(hx c (by omega)).mpr z] at eb; cases eb
        have : bt y8 q = true := (hy8 q (by omega)).mpr ((cut_none hc f2 hn q).mpr ((hx q (by omega)).mp hxq))
        rw [if_neg (by decide), this, if_pos rfl]
        exact ih (i + 1) (by omega) (by omega)
      | true =>
        obtain ⟨y7, e7, hy7⟩ := cut7 (b := 2) (by omega) hr hg hl hc f2
        have := bs_u hy7 hy8
        subst this
        rw [if_pos rfl, e7, zb2_s, has_eq, hasN_nI hq, ite10]
        cases ey : bt y7 q with
        | false => exact Or.inl ⟨_, rfl, rfl⟩
        | true =>
          rw [if_pos rfl, if_pos rfl]
          exact ih (i + 1) (by omega) (by omega)
    · rw [if_pos f2, f1]
      exact Or.inr ⟨rfl, rfl⟩
theorem cut_L2 (hr : rG σ 2 (τ.1 1)) (hg : wG (τ.1 1)) (hl : lnk σ (τ.1 1)) (hx : bs x (rch (eW (τ.1 1)) (rW (τ.1 1)) (fun _ => False))) (hq : q < 24) (hxq : bt x q = true) : ∀ m c, c ≤ 24 → 24 - c < m → ∃ r, fX1_cutOf_L19 m 2 (nI q) x (nI c) σ (fun s => some (-5, s)) = some (r, σ) ∧ fX8_cut_L19 m (nI q) (nI c) τ (fun s => some (-5, s)) = some (r, τ) := by
  intro m
  induction m with
  | zero => intros; omega
  | succ m ih =>
    intro c h1 h2
    unfold fX1_cutOf_L19 fX8_cut_L19
    by_cases e : c = 24
    · subst e
      rw [if_pos (by decide), if_pos (by decide)]
      exact ⟨_, rfl, rfl⟩
    rw [if_neg (show ¬ (24 : Int32) ≤ nI c from nI_n24 (by omega)), if_neg (show ¬ (24 : Int32) ≤ nI c from nI_n24 (by omega))]
    rcases cut_L1 (x := x) hr hg hl hx hq hxq (show c < 24 by omega) (K7 := fun s12 => zlt (nI c + 1) (fun v13 => fX1_cutOf_L19 m 2 (nI q) x v13 s12 (fun s => some (-5, s)))) (K8 := fun s9 => zlt (nI c + 1) (fun v10 => fX8_cut_L19 m (nI q) v10 s9 (fun s => some (-5, s)))) (G := True) (fun _ _ => trivial) zFU 0 (by omega) (by unfold zFU; omega) with ⟨r, r1, r2⟩ | ⟨r1, r2⟩
    · exact ⟨r, r1, r2⟩
    · rw [show (0 : Int32) = nI 0 from rfl, r1, r2]
      simp only [zlt]
      rw [nI_1]
      exact ih (c + 1) (by omega) (by omega)
end CUT
theorem cut78 {σ τ : zkS} (hr : rG σ 2 (τ.1 1)) (hg : wG (τ.1 1)) (hl : lnk σ (τ.1 1)) {q : Nat} (hq : q < 24) : ∃ r, fX1_cutOf 2 (nI q) σ = some (r, σ) ∧ fX8_cut (nI q) τ = some (r, τ) := by
  unfold fX1_cutOf fX8_cut
  obtain ⟨x, ex, hx⟩ := reached7 hl
  obtain ⟨x', ex', hx'⟩ := reached8 hg
  have e := bs_u hx hx'
  subst e
  rw [ex, ex', zb1_s, zb1_s, has_eq, hasN_nI hq, ite10, bit8_eq _ (by omega), ite10]
  cases e : bt x q with
  | false => exact ⟨_, rfl, rfl⟩
  | true =>
    rw [if_pos rfl, if_pos rfl]
    exact cut_L2 hr hg hl hx hq e zFU 0 (by omega) (by unfold zFU; omega)
/-! holders, and the bits of a size -/
theorem hold_L1 {σ τ : zkS} (hr : rG σ 2 (τ.1 1)) (hg : wG (τ.1 1)) (p : Int32) {c : Nat} (hc : c < 24) {K7 K8 : Int32 → Option Int32} : ∀ m i x, i ≤ 6 → 6 - i < m → ∃ x', fX0_holders_L13 m 2 σ p (nI c) x (nI i) K7 = K7 x' ∧ fX8_holders_L13 m τ p (nI c) x (nI i) K8 = K8 x' := by
  intro m
  induction m with
  | zero => intros; omega
  | succ m ih =>
    intro i x h1 h2
    unfold fX0_holders_L13 fX8_holders_L13
    rw [size7n hr hc, zb1_s, isField8 hg, zb1_s, ite10, heldBy7 hr hg, zb1_s]
    rcases fld78 hr hg hc h1 with ⟨f1, f2, f3, f4, f5⟩ | ⟨f1, f2⟩
    · rw [if_neg f3, f1, if_pos rfl, if_pos rfl, rd_fld hc f2, fldN_nI hc f2]
      simp only [zlt]
      rw [nI_1]
      by_cases e : τ.1 1 (140 + 6 * c + i) = p
      · rw [if_pos e, if_pos e]
        exact ih (i + 1) _ (by omega) (by omega)
      · rw [if_neg e, if_neg e]
        exact ih (i + 1) _ (by omega) (by omega)
    · rw [if_pos f2, f1]
      exact ⟨x, rfl, rfl⟩
theorem hold_L2 {σ τ : zkS} (hr : rG σ 2 (τ.1 1)) (hg : wG (τ.1 1)) (p : Int32) : ∀ m c x, c ≤ 24 → 24 - c < m → ∃ r, fX0_holders_L4 m 2 σ p x (nI c) (fun x => some x) = some r ∧ fX8_holders_L4 m τ p x (nI c) (fun x => some x) = some r := by
  intro m
  induction m with
  | zero => intros; omega
  | succ m ih =>
    intro c x h1 h2
    unfold fX0_holders_L4 fX8_holders_L4
    by_cases e : c = 24
    · subst e
      rw [if_pos (by decide), if_pos (by decide)]
      exact ⟨_, rfl, rfl⟩
    rw [if_neg (show ¬ (24 : Int32) ≤ nI c from nI_n24 (by omega)), if_neg (show ¬ (24 : Int32) ≤ nI c from nI_n24 (by omega))]
    obtain ⟨x', e7, e8⟩ := hold_L1 hr hg p (show c < 24 by omega) (K7 := fun x9 => zlt (nI c + 1) (fun v10 => fX0_holders_L4 m 2 σ p x9 v10 (fun x => some x))) (K8 := fun x7 => zlt (nI c + 1) (fun v8 => fX8_holders_L4 m τ p x7 v8 (fun x => some x))) zFU 0 x (by omega) (by unfold zFU; omega)
    rw [show (0 : Int32) = nI 0 from rfl, e7, e8]
    simp only [zlt]
    rw [nI_1]
    exact ih (c + 1) _ (by omega) (by omega)
theorem bits_all : ∀ z, z < 7 → fX7_bitsFor (nI z) = fX8_bits (nI z) ∧ (fX7_bitsFor (nI z)).isSome = true := by decide +kernel
theorem T_of {σ τ : zkS} (hR : zRel σ τ) (p1 : Int32) (p2 : Int32) : ∃ (r : Int32) (σ1 : zkS) (τ1 : zkS), fX7_of p1 p2 σ = some (r, σ1) ∧ fX8_of p1 p2 τ = some (r, τ1) ∧ zRel σ1 τ1 := by
  obtain ⟨⟨hg, hk, hs, hw, hm⟩, -⟩ := id hR
  unfold fX7_of fX8_of
  rw [there7, ite10, there8, zb1_s, ite10, show σ.1 2 1 = τ.1 1 1 from hg.2.1]
  cases e : hasN (τ.1 1 1) p1 with
  | false => exact ⟨_, _, _, rfl, rfl, hR⟩
  | true =>
    obtain ⟨c, hc, rfl, hbt⟩ := hasN_of e
    rw [if_pos rfl, if_pos rfl]
    obtain ⟨s, es, hl, hsa, hs2⟩ := read7 (b := 2) (by omega) hg hw
    have hR' : zRel s τ := zRel_c (fun a h1 h2 => hsa a (by omega) (by omega)) (by rw [hsa 0 (by omega) (by omega)]) (by rw [hsa 44 (by omega) (by omega)]) (hsa 45 (by omega) (by omega)) (hsa 50 (by omega) (by omega)) (hsa 51 (by omega) (by omega)) hs2 rfl rfl rfl rfl rfl rfl rfl rfl hR
    have hg' : rG s 2 (τ.1 1) := hR'.1.1
    by_cases h0 : p2 = 0
    · rw [if_pos h0, if_pos h0, lay7' hg, zb1_s, e, if_pos rfl, rd_20c hc, nI_clamp (by omega)]
      exact ⟨_, _, _, rfl, rfl, hR⟩
    rw [if_neg h0, if_neg h0]
    by_cases h1 : p2 = 1
    · rw [if_pos h1, if_pos h1]
      unfold fX0_tagOf
      rw [there7, show σ.1 2 1 = τ.1 1 1 from hg.2.1, e, if_pos rfl, if_neg (by decide), rd24 hc, zb1_s, rd_44c hc, show σ.1 (2 + 2) c = _ from (hg.2.2.2.1 c hc).2.1]
      exact ⟨_, _, _, rfl, rfl, hR⟩
    rw [if_neg h1, if_neg h1]
    by_cases h2 : p2 = 2
    · rw [if_pos h2, if_pos h2, size7n hg hc, zb1_s, e, if_pos rfl, rd_68c hc]
      exact ⟨_, _, _, rfl, rfl, hR⟩
    rw [if_neg h2, if_neg h2]
    by_cases h3 : p2 = 3
    · rw [if_pos h3, if_pos h3, rd_12, flag_bit hc, show σ.1 8 2 = τ.1 1 12 from hk.2.2.1]
      exact ⟨_, _, _, rfl, rfl, hR⟩
    rw [if_neg h3, if_neg h3]
    by_cases h4 : p2 = 4
    · rw [if_pos h4, if_pos h4, cnt7 hc, zb1_s, rd_92c hc, show σ.1 (8 + 2) c = τ.1 1 (92 + c) from hk.2.2.2.2.2.2.2.2.2.2.2.2.2 c hc trivial]
      exact ⟨_, _, _, rfl, rfl, hR⟩
    rw [if_neg h4, if_neg h4]
    by_cases h5 : p2 = 5
    · rw [if_pos h5, if_pos h5, rd_13, flag_bit hc, show σ.1 8 3 = τ.1 1 13 from hk.2.2.2.1]
      exact ⟨_, _, _, rfl, rfl, hR⟩
    rw [if_neg h5, if_neg h5]
    by_cases h6 : p2 = 6
    · rw [if_pos h6, if_pos h6, rd_14, flag_bit hc, show σ.1 2 2 = τ.1 1 14 from hg.2.2.1]
      exact ⟨_, _, _, rfl, rfl, hR⟩
    rw [if_neg h6, if_neg h6]
    by_cases h7 : p2 = 7
    · rw [if_pos h7, if_pos h7]
      obtain ⟨r, r1, r2⟩ := hold_L2 hg hw (nI c) zFU 0 0 (by omega) (by unfold zFU; omega)
      unfold fX0_holders fX8_holders
      rw [show (0 : Int32) = nI 0 from rfl] at *
      rw [r1, r2, zb1_s, zb1_s]
      exact ⟨_, _, _, rfl, rfl, hR⟩
    rw [if_neg h7, if_neg h7]
    unfold fX7_wayTo
    rw [es, zb1_s]
    by_cases h8 : p2 = 8
    · rw [if_pos h8, if_pos h8, if_pos h8]
      obtain ⟨r, r1, r2, -⟩ := far78 hw hl hc
      rw [r1, r2, zb1_s, zb1_s]
      exact ⟨_, _, _, rfl, rfl, hR'⟩
    rw [if_neg h8, if_neg h8, if_neg h8]
    by_cases h9 : p2 = 9
    · rw [if_pos h9, if_pos h9, if_pos h9]
      obtain ⟨x, ex, hx⟩ := spread7 (σ := s) (f := fX7_bit (nI c)) (bar := 0) (F := fun i => i = c) (fun i j (q : eW (τ.1 1) i j) => ⟨q.1, q.2.1⟩) (fun i q => by omega) (fun i hi => by rw [bit_bt hc, decide_eq_true_eq]) bs_0 hl.2
      obtain ⟨x', ex', hx'⟩ := reach8 (F := fun i => i = c) hw (bs_one hc) (fun i q => ⟨by omega, by rw [q]; exact hbt⟩) (p := 24) (by omega)
      have := bs_u hx (bs_iff hx' fun i _ => rch_24 (fun i j q => q.2.1) (fun i q => by omega) i)
      subst this
      rw [ex, show (24 : Int32) = nI 24 from rfl, ex', zb1_s, zb1_s]
      exact ⟨_, _, _, rfl, rfl, hR'⟩
    rw [if_neg h9, if_neg h9, if_neg h9]
    by_cases h10 : p2 = 10
    · rw [if_pos h10, if_pos h10, if_pos h10]
      obtain ⟨r, r1, r2⟩ := kept78 hw hl hc
      rw [r1, r2, zb1_s]
      exact ⟨_, _, _, rfl, rfl, hR'⟩
    rw [if_neg h10, if_neg h10, if_neg h10]
    by_cases h11 : p2 = 11
    · rw [if_pos h11, if_pos h11, if_pos h11]
      obtain ⟨r, r1, r2⟩ := cut78 hg' hw hl hc
      rw [r1, r2, zb2_s, zb2_s]
      exact ⟨_, _, _, rfl, rfl, hR'⟩
    rw [if_neg h11, if_neg h11, if_neg h11]
    by_cases h12 : p2 = 12
    · rw [if_pos h12, if_pos h12, size7n hg hc, zb1_s, e, if_pos rfl, rd_68c hc]
      obtain ⟨z, hz, ez⟩ := size_of hw hc
      obtain ⟨b1, b2⟩ := bits_all z (by omega)
      obtain ⟨r, hr⟩ := Option.isSome_iff_exists.mp b2
      rw [ez, ← b1, hr, zb1_s, zb1_s]
      exact ⟨_, _, _, rfl, rfl, hR⟩
    rw [if_neg h12, if_neg h12]
    exact ⟨_, _, _, rfl, rfl, hR'⟩
