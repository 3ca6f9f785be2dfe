/-! ===== the step's cases at a cell ===== -/
/-- how it stands at a cell -/
def wAt (w : Nat → Int32) (a lim nx d q z : Nat) : Prop := a < 24 ∧ w 4 = nI a ∧ lim ≤ 8 ∧ w 3 = nI lim ∧ nx ≤ 4 ∧ w 5 = nI nx ∧ d < 24 ∧ w 6 = nI d ∧ (∀ r, r < nx → hC (w 12) (w (16 + r))) ∧ bt (w 12) a = true ∧ bt (w 13) a = false ∧ bt (w 1) a = true ∧ q ≤ 6 ∧ w (92 + a) = nI q ∧ z ≤ 6 ∧ w (68 + a) = nI z ∧ q ≤ z ∧
  (∀ j, j < d → ∃ x qx zx, x < 24 ∧ w (116 + j) = nI x ∧ bt (w 12) x = true ∧ bt (w 13) x = false ∧ w (92 + x) = nI qx ∧ w (68 + x) = nI zx ∧ qx < zx ∧ zx ≤ 6 ∧ x ≠ a) ∧ ∀ i j, i < j → j < d → w (116 + i) ≠ w (116 + j)
theorem wAt_of {w : Nat → Int32} (hg : wG w) (hm : wK w) (h2 : w 2 = 1) {a : Nat} (ha : a < 24) (h4 : w 4 = nI a) : ∃ lim nx d q z, wAt w a lim nx d q z := by
  obtain ⟨m1, m2, m3, m4, m5, m6, m7⟩ := hm
  obtain ⟨lim, nx, d, hl, e3, hnx, e5, hd, e6, hr, hat, hway, hdis⟩ := m7 h2
  rcases hat with ⟨h, -⟩ | ⟨a', ha', ea, b1, b2, b3⟩
  · rw [h4] at h
    exact absurd (h.symm ▸ (by decide : (-5 : Int32) < 0)) (nI_nneg (by omega))
  have e : a' = a := (nI_eq (by omega) (by omega)).mp (ea.symm.trans h4)
  subst e
  obtain ⟨⟨q, hq, eq⟩, -⟩ := m5 a' ha'
  obtain ⟨z, hz, ez⟩ := size_of hg ha'
  refine ⟨lim, nx, d, q, z, ha', h4, hl, e3, hnx, e5, hd, e6, hr, b1, b2, m3 a' b1, hq, eq, hz, ez, ?_, fun j hj => ?_, hdis⟩
  · rw [eq, ez] at b3
    rcases Nat.lt_or_ge z q with g | g
    · exact absurd b3 (nI_ge g (by omega))
    · exact g
  · obtain ⟨x, hx, ex, x1, x2, x3, x4⟩ := hway j hj
    obtain ⟨⟨qx, hqx, eqx⟩, -⟩ := m5 x hx
    obtain ⟨zx, hzx, ezx⟩ := size_of hg hx
    refine ⟨x, qx, zx, hx, ex, x1, x2, eqx, ezx, ?_, hzx, fun e => x4 (by rw [ex, h4, e])⟩
    rw [eqx, ezx] at x3
    rcases Nat.lt_or_ge qx zx with g | g
    · exact g
    · exact absurd x3 (nI_nlt g (by omega))
/-- up to none -/
theorem pD {w w' : Nat → Int32} (hg : wG w) (hm : wK w) (h2 : w 2 = 1) {a lim nx q z : Nat} (hA : wAt w a lim nx 0 q z) (n4 : w' 4 = -5) (hne : ∀ j, ¬ (7 ≤ j ∧ j ≤ 11) → j ≠ 4 → w' j = w j) : wK w' ∧ msr w' < msr w := by
  have c0 := clean_0 hm h2
  obtain ⟨m1, m2, m3, m4, m5, m6, m7⟩ := hm
  obtain ⟨ha, h4, hl, e3, hnx, e5, hd, e6, hr, b12, b13, b1, hq, e92, hz, e68, hqz, hway, hdis⟩ := hA
  have n0 := hne 0 (by omega) (by omega)
  have n1 := hne 1 (by omega) (by omega)
  have n5 := hne 5 (by omega) (by omega)
  have n6 := hne 6 (by omega) (by omega)
  have n12 := hne 12 (by omega) (by omega)
  have n13 := hne 13 (by omega) (by omega)
  have n15 := hne 15 (by omega) (by omega)
  have n68 := fun c (hc : c < 24) => hne (68 + c) (by omega) (by omega)
  have n92 := fun c (hc : c < 24) => hne (92 + c) (by omega) (by omega)
  refine ⟨⟨Or.inr ((hne 2 (by omega) (by omega)).trans h2), Or.inl (n15.trans c0), fun i h => ?_, fun i h => ?_, fun c hc => ?_, fun q => ?_, fun _ => ⟨lim, nx, 0, hl, (hne 3 (by omega) (by omega)).trans e3, hnx, n5.trans e5, by omega, n6.trans e6, fun r hr' => ?_, Or.inl ⟨n4, rfl⟩, fun j hj => by omega, fun i j _ hj => by omega⟩⟩, ?_⟩
  · rw [n12] at h; rw [n1]; exact m3 i h
  · rw [n13] at h; rw [n12]; exact m4 i h
  · rw [n0, n92 c hc]; exact m5 c hc
  · rw [n15, c0] at q; exact absurd q (by decide)
  · rw [hne (16 + r) (by omega) (by omega), n12]; exact hr r hr'
  · have no : ∀ c, c < 24 → ¬ onW w' c = true := fun c hc h => by
      rw [onW_iff (by omega) (n6.trans e6), n4] at h
      rcases h with h | ⟨j, hj, -⟩
      · exact absurd (h ▸ (by decide : (-5 : Int32) < 0)) (nI_nneg (by omega))
      · omega
    have hlt : cst w' a < cst w a := by
      rw [cst_on b12 b13 e68 hz e92 hq ((onW_iff hd e6).mpr (Or.inl h4)), cst_off (by rw [n12]; exact b12) (by rw [n13]; exact b13) ((n68 a ha).trans e68) hz ((n92 a ha).trans e92) hq (no a ha)]
      omega
    exact msr_lt hnx hnx e5 (n5.trans e5) (Nat.le_refl _) (fun c hc => cst_le (n68 c hc) (by rw [n12]) (by rw [n13]) (fun _ _ => n92 c hc) (fun _ _ h => absurd h (no c hc))) (Or.inr ⟨a, ha, hlt⟩)
/-- up to a cell -/
theorem pE {w w' : Nat → Int32} (hg : wG w) (hm : wK w) (h2 : w 2 = 1) {a lim nx e q z x : Nat} (hA : wAt w a lim nx (e + 1) q z) (hx : x < 24) (ex : w (116 + e) = nI x) (n4 : w' 4 = nI x) (n6 : w' 6 = nI e) (n92 : w' (92 + x) = w (92 + x) + 1) (hne : ∀ j, ¬ (7 ≤ j ∧ j ≤ 11) → j ≠ 4 → j ≠ 6 → j ≠ 92 + x → w' j = w j) : wK w' ∧ msr w' < msr w := by
  have c0 := clean_0 hm h2
  obtain ⟨m1, m2, m3, m4, m5, m6, m7⟩ := hm
  obtain ⟨ha, h4, hl, e3, hnx, e5, hd, e6, hr, b12, b13, b1, hq, e92, hz, e68, hqz, hway, hdis⟩ := hA
  obtain ⟨x', qx, zx, hx', ex', x12, x13, xq, xz, hqx, hzx, -⟩ := hway e (by omega)
  have exx : x' = x := (nI_eq (by omega) (by omega)).mp (ex'.symm.trans ex)
  subst exx
  have n0 := hne 0 (by omega) (by omega) (by omega) (by omega)
  have n1 := hne 1 (by omega) (by omega) (by omega) (by omega)
  have n5 := hne 5 (by omega) (by omega) (by omega) (by omega)
  have n12 := hne 12 (by omega) (by omega) (by omega) (by omega)
  have n13 := hne 13 (by omega) (by omega) (by omega) (by omega)
  have n15 := hne 15 (by omega) (by omega) (by omega) (by omega)
  have n68 := fun c (hc : c < 24) => hne (68 + c) (by omega) (by omega) (by omega) (by omega)
  have n92' := fun c (hc : c < 24) (h : c ≠ x') => hne (92 + c) (by omega) (by omega) (by omega) (by omega)
  have n116 := fun j => hne (116 + j) (by omega) (by omega) (by omega) (by omega)
  have nq : w' (92 + x') = nI (qx + 1) := by rw [n92, xq, nI_1]
  refine ⟨⟨Or.inr ((hne 2 (by omega) (by omega) (by omega) (by omega)).trans h2), Or.inl (n15.trans c0), fun i h => ?_, fun i h => ?_, fun c hc => ?_, fun q => ?_, fun _ => ⟨lim, nx, e, hl, (hne 3 (by omega) (by omega) (by omega) (by omega)).trans e3, hnx, n5.trans e5, by omega, n6, fun r hr' => ?_, Or.inr ⟨x', hx, n4, ?_, ?_, ?_⟩, fun j hj => ?_, fun i j hij hj => ?_⟩⟩, ?_⟩
  · rw [n12] at h; rw [n1]; exact m3 i h
  · rw [n13] at h; rw [n12]; exact m4 i h
  · rw [n0]
    by_cases g : c = x'
    · subst g
      exact ⟨⟨qx + 1, by omega, nq⟩, fun h => absurd (there_lt hg (m3 c x12)).2 h⟩
    · rw [n92' c hc g]; exact m5 c hc
  · rw [n15, c0] at q; exact absurd q (by decide)
  · rw [hne (16 + r) (by omega) (by omega) (by omega) (by omega), n12]; exact hr r hr'
  · rw [n12]; exact x12
  · rw [n13]; exact x13
  · rw [nq, n68 x' hx, xz]; exact nI_le (by omega) (by omega)
  · obtain ⟨y, qy, zy, hy, ey, y12, y13, yq, yz, hqy, hzy, -⟩ := hway j (by omega)
    have hne' := hdis j e hj (by omega)
    have hyx : y ≠ x' := fun g => hne' (by rw [ey, ex, g])
    refine ⟨y, hy, (n116 j).trans ey, by rw [n12]; exact y12, by rw [n13]; exact y13, ?_, ?_⟩
    · rw [n92' y hy hyx, n68 y hy, yq, yz]; exact nI_lt hqy (by omega)
    · rw [n116 j, n4, ← ex]; exact hne'
  · rw [n116 i, n116 j]; exact hdis i j hij (by omega)
  · have hlt : cst w' x' < cst w x' := by
      rw [cst_on x12 x13 xz hzx xq (by omega) ((onW_iff hd e6).mpr (Or.inr ⟨e, by omega, ex⟩))]
      have := cst_m1 (w := w') (c := x') (by rw [n12]; exact x12) (by rw [n13]; exact x13) ((n68 x' hx).trans xz) hzx nq (by omega)
      omega
    refine msr_lt hnx hnx e5 (n5.trans e5) (Nat.le_refl _) (fun c hc => ?_) (Or.inr ⟨x', hx, hlt⟩)
    by_cases g : c = x'
    · subst g
      exact Nat.le_of_lt hlt
    · refine cst_le (n68 c hc) (by rw [n12]) (by rw [n13]) (fun _ _ => n92' c hc g) (fun _ _ h => ?_)
      rw [onW_iff (by omega) n6, n4] at h
      rw [onW_iff hd e6]
      rcases h with h | ⟨j, hj, ej⟩
      · exact absurd ((nI_eq (by omega) (by omega)).mp h).symm g
      · exact Or.inr ⟨j, by omega, (n116 j).symm.trans ej⟩
/-- a field that leads nowhere new -/
theorem pF {w w' : Nat → Int32} (hg : wG w) (hm : wK w) (h2 : w 2 = 1) {a lim nx d q z : Nat} (hA : wAt w a lim nx d q z) (hlt : q < z) (n92 : w' (92 + a) = w (92 + a) + 1) (hne : ∀ j, ¬ (7 ≤ j ∧ j ≤ 11) → j ≠ 92 + a → w' j = w j) : wK w' ∧ msr w' < msr w := by
  have c0 := clean_0 hm h2
  obtain ⟨m1, m2, m3, m4, m5, m6, m7⟩ := hm
  obtain ⟨ha, h4, hl, e3, hnx, e5, hd, e6, hr, b12, b13, b1, hq, e92, hz, e68, hqz, hway, hdis⟩ := hA
  have n0 := hne 0 (by omega) (by omega)
  have n1 := hne 1 (by omega) (by omega)
  have n4 := hne 4 (by omega) (by omega)
  have n5 := hne 5 (by omega) (by omega)
  have n6 := hne 6 (by omega) (by omega)
  have n12 := hne 12 (by omega) (by omega)
  have n13 := hne 13 (by omega) (by omega)
  have n15 := hne 15 (by omega) (by omega)
  have n68 := fun c (hc : c < 24) => hne (68 + c) (by omega) (by omega)
  have n92' := fun c (hc : c < 24) (h : c ≠ a) => hne (92 + c) (by omega) (by omega)
  have n116 := fun j => hne (116 + j) (by omega) (by omega)
  have nq : w' (92 + a) = nI (q + 1) := by rw [n92, e92, nI_1]
  refine ⟨⟨Or.inr ((hne 2 (by omega) (by omega)).trans h2), Or.inl (n15.trans c0), fun i h => ?_, fun i h => ?_, fun c hc => ?_, fun q => ?_, fun _ => ⟨lim, nx, d, hl, (hne 3 (by omega) (by omega)).trans e3, hnx, n5.trans e5, hd, n6.trans e6, fun r hr' => ?_, Or.inr ⟨a, ha, n4.trans h4, ?_, ?_, ?_⟩, fun j hj => ?_, fun i j hij hj => ?_⟩⟩, ?_⟩
  · rw [n12] at h; rw [n1]; exact m3 i h
  · rw [n13] at h; rw [n12]; exact m4 i h
  · rw [n0]
    by_cases g : c = a
    · subst g
      exact ⟨⟨q + 1, by omega, nq⟩, fun h => absurd (there_lt hg b1).2 h⟩
    · rw [n92' c hc g]; exact m5 c hc
  · rw [n15, c0] at q; exact absurd q (by decide)
  · rw [hne (16 + r) (by omega) (by omega), n12]; exact hr r hr'
  · rw [n12]; exact b12
  · rw [n13]; exact b13
  · rw [nq, n68 a ha, e68]; exact nI_le (by omega) (by omega)
  · obtain ⟨y, qy, zy, hy, ey, y12, y13, yq, yz, hqy, hzy, hya⟩ := hway j hj
    refine ⟨y, hy, (n116 j).trans ey, by rw [n12]; exact y12, by rw [n13]; exact y13, ?_, ?_⟩
    · rw [n92' y hy hya, n68 y hy, yq, yz]; exact nI_lt hqy (by omega)
    · rw [n116 j, n4, ey, h4]; exact fun g => hya ((nI_eq (by omega) (by omega)).mp g)
  · rw [n116 i, n116 j]; exact hdis i j hij hj
  · have hlt : cst w' a < cst w a := by
      rw [cst_on b12 b13 e68 hz e92 hq ((onW_iff hd e6).mpr (Or.inl h4))]
      have := cst_m1 (w := w') (c := a) (by rw [n12]; exact b12) (by rw [n13]; exact b13) ((n68 a ha).trans e68) hz nq (by omega)
      omega
    refine msr_lt hnx hnx e5 (n5.trans e5) (Nat.le_refl _) (fun c hc => ?_) (Or.inr ⟨a, ha, hlt⟩)
    by_cases g : c = a
    · subst g
      exact Nat.le_of_lt hlt
    · refine cst_le (n68 c hc) (by rw [n12]) (by rw [n13]) (fun _ _ => n92' c hc g) (fun _ _ h => ?_)
      rw [onW_iff hd (n6.trans e6), n4] at h
      rw [onW_iff hd e6]
      rcases h with h | ⟨j, hj, ej⟩
      · exact Or.inl h
      · exact Or.inr ⟨j, hj, (n116 j).symm.trans ej⟩
/-- the way is short enough for one more -/
theorem way_24 {w : Nat → Int32} {a lim nx d q z f : Nat} (hA : wAt w a lim nx d q z) (hf : f < 24) (hn : bt (w 12) f = false) : d + 1 < 24 := by
  obtain ⟨ha, h4, hl, e3, hnx, e5, hd, e6, hr, b12, b13, b1, hq, e92, hz, e68, hqz, hway, hdis⟩ := hA
  have hfa : f ≠ a := fun e => by rw [e, b12] at hn; cases hn
  have hw : ∀ j, j < d → (w (116 + j)).toNatClampNeg < 24 ∧ (w (116 + j)).toNatClampNeg ≠ a ∧ (w (116 + j)).toNatClampNeg ≠ f ∧ w (116 + j) = nI (w (116 + j)).toNatClampNeg := fun j hj => by
    obtain ⟨x, qx, zx, hx, ex, x12, -, -, -, -, -, hxa⟩ := hway j hj
    rw [ex, nI_clamp (by omega)]
    exact ⟨hx, hxa, (fun e => by rw [e, hn] at x12; cases x12), rfl⟩
  have := holes24 (f := fun j => if j < d then (w (116 + j)).toNatClampNeg else if j = d then a else f) (n := d + 2) (fun j hj => by
    show (if j < d then (w (116 + j)).toNatClampNeg else if j = d then a else f) < 24
    by_cases g : j < d
    · rw [if_pos g]; exact (hw j g).1
    · rw [if_neg g]
      by_cases g2 : j = d
      · rw [if_pos g2]; exact ha
      · rw [if_neg g2]; exact hf) (fun i j hij hj => by
    show (if i < d then (w (116 + i)).toNatClampNeg else if i = d then a else f) ≠ (if j < d then (w (116 + j)).toNatClampNeg else if j = d then a else f)
    by_cases gi : i < d
    · rw [if_pos gi]
      by_cases gj : j < d
      · rw [if_pos gj]
        intro e
        exact hdis i j hij gj (by rw [(hw i gi).2.2.2, (hw j gj).2.2.2, e])
      · rw [if_neg gj]
        by_cases g2 : j = d
        · rw [if_pos g2]; exact (hw i gi).2.1
        · rw [if_neg g2]; exact (hw i gi).2.2.1
    · rw [if_neg gi, if_pos (show i = d by omega), if_neg (show ¬ j < d by omega), if_neg (show ¬ j = d by omega)]
      exact fun e => hfa e.symm)
  omega
/-- down -/
theorem pG {w w' : Nat → Int32} (hg : wG w) (hm : wK w) (h2 : w 2 = 1) {a lim nx d q z f : Nat} (hA : wAt w a lim nx d q z) (hlt : q < z) (hf : f < 24) (hb : bt (w 1) f = true) (hn : bt (w 12) f = false) (n12 : w' 12 = w 12 ||| (1 <<< (nI f &&& 31))) (n92 : w' (92 + f) = 0) (n116 : w' (116 + d) = nI a) (n6 : w' 6 = nI (d + 1)) (n4 : w' 4 = nI f) (hne : ∀ j, ¬ (7 ≤ j ∧ j ≤ 11) → j ≠ 12 → j ≠ 92 + f → j ≠ 116 + d → j ≠ 6 → j ≠ 4 → w' j = w j) : wK w' ∧ msr w' < msr w := by
  have hd1 := way_24 hA hf hn
  have c0 := clean_0 hm h2
  obtain ⟨m1, m2, m3, m4, m5, m6, m7⟩ := hm
  obtain ⟨ha, h4, hl, e3, hnx, e5, hd, e6, hr, b12, b13, b1, hq, e92, hz, e68, hqz, hway, hdis⟩ := hA
  have hfa : f ≠ a := fun e => by rw [e, b12] at hn; cases hn
  have hmf : ∀ x, bt (w 12) x = true → x ≠ f := fun x h e => by rw [e, hn] at h; cases h
  have n0 := hne 0 (by omega) (by omega) (by omega) (by omega) (by omega) (by omega)
  have n1 := hne 1 (by omega) (by omega) (by omega) (by omega) (by omega) (by omega)
  have n5 := hne 5 (by omega) (by omega) (by omega) (by omega) (by omega) (by omega)
  have n13 := hne 13 (by omega) (by omega) (by omega) (by omega) (by omega) (by omega)
  have n15 := hne 15 (by omega) (by omega) (by omega) (by omega) (by omega) (by omega)
  have n68 := fun c (hc : c < 24) => hne (68 + c) (by omega) (by omega) (by omega) (by omega) (by omega) (by omega)
  have n92' := fun c (hc : c < 24) (h : c ≠ f) => hne (92 + c) (by omega) (by omega) (by omega) (by omega) (by omega) (by omega)
  have n116' := fun j (h : j ≠ d) => hne (116 + j) (by omega) (by omega) (by omega) (by omega) (by omega) (by omega)
  have hl13 : bt (w 13) f = false := by
    cases e : bt (w 13) f with
    | false => rfl
    | true => exact absurd ((m4 f e).symm.trans hn) (by decide)
  obtain ⟨y, hy, ey⟩ := size_of hg hf
  refine ⟨⟨Or.inr ((hne 2 (by omega) (by omega) (by omega) (by omega) (by omega) (by omega)).trans h2), Or.inl (n15.trans c0), fun i h => ?_, fun i h => ?_, fun c hc => ?_, fun q => ?_, fun _ => ⟨lim, nx, d + 1, hl, (hne 3 (by omega) (by omega) (by omega) (by omega) (by omega) (by omega)).trans e3, hnx, n5.trans e5, hd1, n6, fun r hr' => ?_, Or.inr ⟨f, hf, n4, ?_, ?_, ?_⟩, fun j hj => ?_, fun i j hij hj => ?_⟩⟩, ?_⟩
  · rw [n1]
    by_cases e : i = f
    · rw [e]; exact hb
    · rw [n12, bt_inn hf e] at h; exact m3 i h
  · rw [n13] at h; rw [n12]; exact bt_in1 hf (m4 i h)
  · rw [n0]
    by_cases e : c = f
    · subst e
      exact ⟨⟨0, by omega, n92⟩, fun _ => n92⟩
    · rw [n92' c hc e]; exact m5 c hc
  · rw [n15, c0] at q; exact absurd q (by decide)
  · rw [hne (16 + r) (by omega) (by omega) (by omega) (by omega) (by omega) (by omega), n12]
    exact hC_mono (fun i h => bt_in1 hf h) (hr r hr')
  · rw [n12]; exact bt_inf hf
  · rw [n13]; exact hl13
  · rw [n92, n68 f hf, ey]; exact nI_le (a := 0) (by omega) (by omega)
  · by_cases g : j = d
    · subst g
      refine ⟨a, ha, n116, by rw [n12]; exact bt_in1 hf b12, by rw [n13]; exact b13, ?_, ?_⟩
      · rw [n92' a ha hfa.symm, n68 a ha, e92, e68]; exact nI_lt hlt (by omega)
      · rw [n116, n4]; exact fun e => hfa ((nI_eq (by omega) (by omega)).mp e).symm
    · obtain ⟨x, qx, zx, hx, ex, x12, x13, xq, xz, hqx, hzx, hxa⟩ := hway j (by omega)
      refine ⟨x, hx, (n116' j g).trans ex, by rw [n12]; exact bt_in1 hf x12, by rw [n13]; exact x13, ?_, ?_⟩
      · rw [n92' x hx (hmf x x12), n68 x hx, xq, xz]; exact nI_lt hqx (by omega)
      · rw [n116' j g, n4, ex]; exact fun e => hmf x x12 ((nI_eq (by omega) (by omega)).mp e)
  · rw [n116' i (by omega)]
    by_cases g : j = d
    · subst g
      obtain ⟨x, qx, zx, hx, ex, -, -, -, -, -, -, hxa⟩ := hway i hij
      rw [n116, ex]
      exact fun e => hxa ((nI_eq (by omega) (by omega)).mp e)
    · rw [n116' j g]; exact hdis i j hij (by omega)
  · have hlt : cst w' f < cst w f := by
      rw [cst_un hn ey hy]
      have := cst_m1 (w := w') (c := f) (by rw [n12]; exact bt_inf hf) (by rw [n13]; exact hl13) ((n68 f hf).trans ey) hy (q := 0) n92 (by omega)
      omega
    refine msr_lt hnx hnx e5 (n5.trans e5) (Nat.le_refl _) (fun c hc => ?_) (Or.inr ⟨f, hf, hlt⟩)
    by_cases g : c = f
    · subst g
      exact Nat.le_of_lt hlt
    · refine cst_le (n68 c hc) (by rw [n12, bt_inn hf g]) (by rw [n13]) (fun _ _ => n92' c hc g) (fun _ _ h => ?_)
      rw [onW_iff hd1 n6, n4] at h
      rw [onW_iff hd e6]
      rcases h with h | ⟨j, hj, ej⟩
      · exact absurd ((nI_eq (by omega) (by omega)).mp h).symm g
      · by_cases g2 : j = d
        · subst g2
          exact Or.inl (h4.trans (n116.symm.trans ej))
        · exact Or.inr ⟨j, by omega, (n116' j g2).symm.trans ej⟩
/-- put off -/
theorem pH {w w' : Nat → Int32} (hg : wG w) (hm : wK w) (h2 : w 2 = 1) {a lim nx d q z f : Nat} (hA : wAt w a lim nx d q z) (hlt : q < z) (hf : f < 24) (hb : bt (w 1) f = true) (hn : bt (w 12) f = false) (n12 : w' 12 = w 12 ||| (1 <<< (nI f &&& 31))) (n13 : w' 13 = w 13 ||| (1 <<< (nI f &&& 31))) (n92 : w' (92 + f) = 0) (n92a : w' (92 + a) = w (92 + a) + 1) (hne : ∀ j, ¬ (7 ≤ j ∧ j ≤ 11) → j ≠ 12 → j ≠ 13 → j ≠ 92 + f → j ≠ 92 + a → w' j = w j) : wK w' ∧ msr w' < msr w := by
  have c0 := clean_0 hm h2
  obtain ⟨m1, m2, m3, m4, m5, m6, m7⟩ := hm
  obtain ⟨ha, h4, hl, e3, hnx, e5, hd, e6, hr, b12, b13, b1, hq, e92, hz, e68, hqz, hway, hdis⟩ := hA
  have hfa : f ≠ a := fun e => by rw [e, b12] at hn; cases hn
  have hmf : ∀ x, bt (w 12) x = true → x ≠ f := fun x h e => by rw [e, hn] at h; cases h
  have n0 := hne 0 (by omega) (by omega) (by omega) (by omega) (by omega)
  have n1 := hne 1 (by omega) (by omega) (by omega) (by omega) (by omega)
  have n4 := hne 4 (by omega) (by omega) (by omega) (by omega) (by omega)
  have n5 := hne 5 (by omega) (by omega) (by omega) (by omega) (by omega)
  have n6 := hne 6 (by omega) (by omega) (by omega) (by omega) (by omega)
  have n15 := hne 15 (by omega) (by omega) (by omega) (by omega) (by omega)
  have n68 := fun c (hc : c < 24) => hne (68 + c) (by omega) (by omega) (by omega) (by omega) (by omega)
  have n92' := fun c (hc : c < 24) (h : c ≠ f) (h' : c ≠ a) => hne (92 + c) (by omega) (by omega) (by omega) (by omega) (by omega)
  have n116 := fun j => hne (116 + j) (by omega) (by omega) (by omega) (by omega) (by omega)
  have nq : w' (92 + a) = nI (q + 1) := by rw [n92a, e92, nI_1]
  obtain ⟨y, hy, ey⟩ := size_of hg hf
  refine ⟨⟨Or.inr ((hne 2 (by omega) (by omega) (by omega) (by omega) (by omega)).trans h2), Or.inl (n15.trans c0), fun i h => ?_, fun i h => ?_, fun c hc => ?_, fun q => ?_, fun _ => ⟨lim, nx, d, hl, (hne 3 (by omega) (by omega) (by omega) (by omega) (by omega)).trans e3, hnx, n5.trans e5, hd, n6.trans e6, fun r hr' => ?_, Or.inr ⟨a, ha, n4.trans h4, ?_, ?_, ?_⟩, fun j hj => ?_, fun i j hij hj => ?_⟩⟩, ?_⟩
  · rw [n1]
    by_cases e : i = f
    · rw [e]; exact hb
    · rw [n12, bt_inn hf e] at h; exact m3 i h
  · rw [n12]
    by_cases e : i = f
    · rw [e]; exact bt_inf hf
    · rw [n13, bt_inn hf e] at h; exact bt_in1 hf (m4 i h)
  · rw [n0]
    by_cases e : c = f
    · subst e
      exact ⟨⟨0, by omega, n92⟩, fun _ => n92⟩
    · by_cases g : c = a
      · subst g
        exact ⟨⟨q + 1, by omega, nq⟩, fun h => absurd (there_lt hg b1).2 h⟩
      · rw [n92' c hc e g]; exact m5 c hc
  · rw [n15, c0] at q; exact absurd q (by decide)
  · rw [hne (16 + r) (by omega) (by omega) (by omega) (by omega) (by omega), n12]
    exact hC_mono (fun i h => bt_in1 hf h) (hr r hr')
  · rw [n12]; exact bt_in1 hf b12
  · rw [n13, bt_inn hf hfa.symm]; exact b13
  · rw [nq, n68 a ha, e68]; exact nI_le (by omega) (by omega)
  · obtain ⟨x, qx, zx, hx, ex, x12, x13, xq, xz, hqx, hzx, hxa⟩ := hway j hj
    refine ⟨x, hx, (n116 j).trans ex, by rw [n12]; exact bt_in1 hf x12, by rw [n13, bt_inn hf (hmf x x12)]; exact x13, ?_, ?_⟩
    · rw [n92' x hx (hmf x x12) hxa, n68 x hx, xq, xz]; exact nI_lt hqx (by omega)
    · rw [n116 j, n4, ex, h4]; exact fun e => hxa ((nI_eq (by omega) (by omega)).mp e)
  · rw [n116 i, n116 j]; exact hdis i j hij hj
  · have hlt : cst w' f < cst w f := by
      rw [cst_un hn ey hy, cst_la (by rw [n12]; exact bt_inf hf) (by rw [n13]; exact bt_inf hf) ((n68 f hf).trans ey) hy]
      omega
    refine msr_lt hnx hnx e5 (n5.trans e5) (Nat.le_refl _) (fun c hc => ?_) (Or.inr ⟨f, hf, hlt⟩)
    by_cases g : c = f
    · subst g
      exact Nat.le_of_lt hlt
    · by_cases g2 : c = a
      · subst g2
        rw [cst_on b12 b13 e68 hz e92 hq ((onW_iff hd e6).mpr (Or.inl h4))]
        have := cst_m1 (w := w') (c := c) (by rw [n12]; exact bt_in1 hf b12) (by rw [n13, bt_inn hf g]; exact b13) ((n68 c hc).trans e68) hz nq (by omega)
        omega
      · refine cst_le (n68 c hc) (by rw [n12, bt_inn hf g]) (by rw [n13, bt_inn hf g]) (fun _ _ => n92' c hc g g2) (fun _ _ h => ?_)
        rw [onW_iff hd (n6.trans e6), n4] at h
        rw [onW_iff hd e6]
        rcases h with h | ⟨j, hj, ej⟩
        · exact Or.inl h
        · exact Or.inr ⟨j, hj, (n116 j).symm.trans ej⟩
