/-! ===== the step's cases: what the model's row says ===== -/
theorem bt_in {x : Int32} {f : Nat} (hf : f < 24) (c : Nat) : bt (x ||| (1 <<< (nI f &&& 31))) c = (bt x c || decide (c = f)) := by
  rw [b_or, bt_one (by omega)]
theorem bt_in1 {x : Int32} {f c : Nat} (hf : f < 24) (h : bt x c = true) : bt (x ||| (1 <<< (nI f &&& 31))) c = true := by
  rw [bt_in hf, h, Bool.true_or]
theorem bt_inf {x : Int32} {f : Nat} (hf : f < 24) : bt (x ||| (1 <<< (nI f &&& 31))) f = true := by
  rw [bt_in hf, decide_eq_true rfl, Bool.or_true]
theorem bt_inn {x : Int32} {f c : Nat} (hf : f < 24) (h : c ≠ f) : bt (x ||| (1 <<< (nI f &&& 31))) c = bt x c := by
  rw [bt_in hf, decide_eq_false h, Bool.or_false]
theorem bt_out1 {x : Int32} {f c : Nat} (h : bt (x &&& ((1 <<< (nI f &&& 31)) ^^^ (-1))) c = true) : bt x c = true := by
  rw [b_and] at h
  cases e : bt x c with
  | true => rfl
  | false => rw [e, Bool.false_and] at h; cases h
theorem bt_outf {x : Int32} {f : Nat} (hf : f < 24) : bt (x &&& ((1 <<< (nI f &&& 31)) ^^^ (-1))) f = false := by
  rw [b_and, bt_not _ (by omega), bt_one (by omega), decide_eq_true rfl]
  cases bt x f <;> rfl
theorem bt_outn {x : Int32} {f c : Nat} (hf : f < 24) (hc : c < 24) (h : c ≠ f) : bt (x &&& ((1 <<< (nI f &&& 31)) ^^^ (-1))) c = bt x c := by
  rw [b_and, bt_not _ (by omega), bt_one (by omega), decide_eq_false h]
  cases bt x c <;> rfl
theorem hC_mono {s s' v : Int32} (h : ∀ i, bt s i = true → bt s' i = true) (q : hC s v) : hC s' v := by
  rcases q with q | ⟨d, hd, e, hb⟩
  · exact Or.inl q
  · exact Or.inr ⟨d, hd, e, h d hb⟩
theorem onW_iff {w : Nat → Int32} {d c : Nat} (hd : d < 24) (h6 : w 6 = nI d) : onW w c = true ↔ (w 4 = nI c ∨ ∃ j, j < d ∧ w (116 + j) = nI c) := by
  unfold onW
  rw [decide_eq_true_eq, h6, nI_clamp (by omega)]
theorem cst_un {w : Nat → Int32} {c z : Nat} (h : bt (w 12) c = false) (h68 : w (68 + c) = nI z) (hz : z ≤ 6) : cst w c = z + 3 := by
  unfold cst
  rw [if_pos h, h68, nI_clamp (by omega)]
theorem cst_la {w : Nat → Int32} {c z : Nat} (h : bt (w 12) c = true) (h' : bt (w 13) c = true) (h68 : w (68 + c) = nI z) (hz : z ≤ 6) : cst w c = z + 2 := by
  unfold cst
  rw [if_neg (show ¬ bt (w 12) c = false by rw [h]; decide), if_pos h', h68, nI_clamp (by omega)]
theorem cst_ma {w : Nat → Int32} {c z q : Nat} (h : bt (w 12) c = true) (h' : bt (w 13) c = false) (h68 : w (68 + c) = nI z) (hz : z ≤ 6) (h92 : w (92 + c) = nI q) (hq : q ≤ 6) : cst w c = z - q + (if onW w c = true then 1 else 0) := by
  unfold cst
  rw [if_neg (show ¬ bt (w 12) c = false by rw [h]; decide), if_neg (show ¬ bt (w 13) c = true by rw [h']; decide), h68, h92, nI_clamp (by omega), nI_clamp (by omega)]
theorem cst_on {w : Nat → Int32} {c z q : Nat} (h : bt (w 12) c = true) (h' : bt (w 13) c = false) (h68 : w (68 + c) = nI z) (hz : z ≤ 6) (h92 : w (92 + c) = nI q) (hq : q ≤ 6) (ho : onW w c = true) : cst w c = z - q + 1 := by
  rw [cst_ma h h' h68 hz h92 hq, if_pos ho]
theorem cst_off {w : Nat → Int32} {c z q : Nat} (h : bt (w 12) c = true) (h' : bt (w 13) c = false) (h68 : w (68 + c) = nI z) (hz : z ≤ 6) (h92 : w (92 + c) = nI q) (hq : q ≤ 6) (ho : ¬ onW w c = true) : cst w c = z - q := by
  rw [cst_ma h h' h68 hz h92 hq, if_neg ho, Nat.add_zero]
theorem cst_m1 {w : Nat → Int32} {c z q : Nat} (h : bt (w 12) c = true) (h' : bt (w 13) c = false) (h68 : w (68 + c) = nI z) (hz : z ≤ 6) (h92 : w (92 + c) = nI q) (hq : q ≤ 6) : cst w c ≤ z - q + 1 := by
  by_cases ho : onW w c = true
  · rw [cst_on h h' h68 hz h92 hq ho]; exact Nat.le_refl _
  · rw [cst_off h h' h68 hz h92 hq ho]; exact Nat.le_succ _
theorem cst_le {w w' : Nat → Int32} {c : Nat} (h68 : w' (68 + c) = w (68 + c)) (h12 : bt (w' 12) c = bt (w 12) c) (h13 : bt (w' 13) c = bt (w 13) c) (h92 : bt (w 12) c = true → bt (w 13) c = false → w' (92 + c) = w (92 + c)) (ho : bt (w 12) c = true → bt (w 13) c = false → onW w' c = true → onW w c = true) : cst w' c ≤ cst w c := by
  unfold cst
  rw [h12, h13, h68]
  cases e12 : bt (w 12) c with
  | false => rw [if_pos (show false = false from rfl), if_pos (show false = false from rfl)]; exact Nat.le_refl _
  | true =>
    rw [if_neg (show ¬ true = false by decide), if_neg (show ¬ true = false by decide)]
    cases e13 : bt (w 13) c with
    | true => rw [if_pos (show true = true from rfl), if_pos (show true = true from rfl)]; exact Nat.le_refl _
    | false =>
      rw [if_neg (show ¬ false = true by decide), if_neg (show ¬ false = true by decide), h92 e12 e13]
      by_cases o : onW w' c = true
      · rw [if_pos o, if_pos (ho e12 e13 o)]; exact Nat.le_refl _
      · rw [if_neg o]; exact Nat.add_le_add_left (Nat.zero_le _) _
theorem msr_lt {w w' : Nat → Int32} {nx nx' : Nat} (hn : nx ≤ 4) (hn' : nx' ≤ 4) (h5 : w 5 = nI nx) (h5' : w' 5 = nI nx') (hle : nx ≤ nx') (h : ∀ c, c < 24 → cst w' c ≤ cst w c) (hs : nx < nx' ∨ ∃ c, c < 24 ∧ cst w' c < cst w c) : msr w' < msr w := by
  unfold msr
  rw [h5, h5', nI_clamp (by omega), nI_clamp (by omega)]
  rcases hs with q | ⟨c, hc, q⟩
  · have := su_le (n := 24) h
    omega
  · have := su_lt q hc h
    omega
theorem clean_0 {w : Nat → Int32} (hm : wK w) (h2 : w 2 = 1) : w 15 = 0 := by
  rcases hm.2.1 with h | h
  · exact h
  · exact absurd ((hm.2.2.2.2.2.1 h).1.symm.trans h2) (by decide)
theorem there_lt {w : Nat → Int32} (hg : wG w) {c : Nat} (h : bt (w 1) c = true) : c < 24 ∧ nI c < w 0 := by
  obtain ⟨⟨n, hn, h0, h1, -⟩, -⟩ := hg
  have := h1 c h
  exact ⟨by omega, by rw [h0]; exact nI_lt this (by omega)⟩
/-- a root that brings nothing -/
theorem pA {w w' : Nat → Int32} (hg : wG w) (hm : wK w) (h2 : w 2 = 1) (h4 : w 4 = -5) {nx : Nat} (hnx : nx < 4) (h5 : w 5 = nI nx) (hroot : hC (w 12) (w (16 + nx))) (n5 : w' 5 = nI (nx + 1)) (hne : ∀ j, ¬ (7 ≤ j ∧ j ≤ 11) → j ≠ 5 → w' j = w j) : wK w' ∧ msr w' < msr w := by
  have c0 := clean_0 hm h2
  obtain ⟨m1, m2, m3, m4, m5, m6, m7⟩ := hm
  obtain ⟨lim, nx', d, hl, e3, hnx', e5, hd, e6, hr, hat, hway, hdis⟩ := m7 h2
  have en : nx' = nx := (nI_eq (by omega) (by omega)).mp (e5.symm.trans h5)
  subst en
  have d0 : d = 0 := by
    rcases hat with h | ⟨a, ha, ea, -⟩
    · exact h.2
    · rw [h4] at ea
      exact absurd (ea ▸ (by decide : (-5 : Int32) < 0)) (nI_nneg (by omega))
  subst d0
  have n0 := hne 0 (by omega) (by omega)
  have n1 := hne 1 (by omega) (by omega)
  have n12 := hne 12 (by omega) (by omega)
  have n13 := hne 13 (by omega) (by omega)
  have n4 := hne 4 (by omega) (by omega)
  have n6 := hne 6 (by omega) (by omega)
  refine ⟨⟨Or.inr ((hne 2 (by omega) (by omega)).trans h2), Or.inl ((hne 15 (by omega) (by omega)).trans c0), fun i h => ?_, fun i h => ?_, fun c hc => ?_, fun q => ?_, fun _ => ⟨lim, nx' + 1, 0, hl, (hne 3 (by omega) (by omega)).trans e3, by omega, n5, by omega, n6.trans e6, fun r hr' => ?_, Or.inl ⟨n4.trans h4, rfl⟩, fun j hj => by omega, fun i j _ hj => by omega⟩⟩, ?_⟩
  · rw [n12] at h; rw [n1]; exact m3 i h
  · rw [n13] at h; rw [n12]; exact m4 i h
  · rw [hne (92 + c) (by omega) (by omega), n0]; exact m5 c hc
  · rw [hne 15 (by omega) (by omega), c0] at q; exact absurd q (by decide)
  · rw [hne (16 + r) (by omega) (by omega), n12]
    by_cases e : r = nx'
    · rw [e]; exact hroot
    · exact hr r (by omega)
  · refine msr_lt (by omega) (by omega) h5 n5 (by omega) (fun c hc => cst_le (hne _ (by omega) (by omega)) (by rw [n12]) (by rw [n13]) (fun _ _ => hne _ (by omega) (by omega)) (fun _ _ h => ?_)) (Or.inl (by omega))
    rw [onW_iff (by omega) (n6.trans e6)] at h
    rw [onW_iff (by omega) e6]
    rcases h with h | ⟨j, hj, -⟩
    · exact Or.inl (n4.symm.trans h)
    · omega
/-- a root that holds a new cell -/
theorem pB {w w' : Nat → Int32} (hg : wG w) (hm : wK w) (h2 : w 2 = 1) (h4 : w 4 = -5) {nx f : Nat} (hnx : nx < 4) (h5 : w 5 = nI nx) (hf : f < 24) (hroot : w (16 + nx) = nI f) (hb : bt (w 1) f = true) (hn : bt (w 12) f = false) (n5 : w' 5 = nI (nx + 1)) (n12 : w' 12 = w 12 ||| (1 <<< (nI f &&& 31))) (n4 : w' 4 = nI f) (n92 : w' (92 + f) = 0) (hne : ∀ j, ¬ (7 ≤ j ∧ j ≤ 11) → j ≠ 5 → j ≠ 12 → j ≠ 4 → j ≠ 92 + f → w' j = w j) : wK w' ∧ msr w' < msr w := by
  have c0 := clean_0 hm h2
  obtain ⟨m1, m2, m3, m4, m5, m6, m7⟩ := hm
  obtain ⟨lim, nx', d, hl, e3, hnx', e5, hd, e6, hr, hat, hway, hdis⟩ := m7 h2
  have en : nx' = nx := (nI_eq (by omega) (by omega)).mp (e5.symm.trans h5)
  subst en
  have d0 : d = 0 := by
    rcases hat with h | ⟨a, ha, ea, -⟩
    · exact h.2
    · rw [h4] at ea
      exact absurd (ea ▸ (by decide : (-5 : Int32) < 0)) (nI_nneg (by omega))
  subst d0
  have n0 := hne 0 (by omega) (by omega) (by omega) (by omega) (by omega)
  have n1 := hne 1 (by omega) (by omega) (by omega) (by omega) (by omega)
  have n13 := hne 13 (by omega) (by omega) (by omega) (by omega) (by omega)
  have n15 := hne 15 (by omega) (by omega) (by omega) (by omega) (by omega)
  have n6 := hne 6 (by omega) (by omega) (by omega) (by omega) (by omega)
  have n68 := fun c (hc : c < 24) => hne (68 + c) (by omega) (by omega) (by omega) (by omega) (by omega)
  have hl13 : bt (w 13) f = false := by
    cases e : bt (w 13) f with
    | false => rfl
    | true => exact absurd ((m4 f e).symm.trans hn) (by decide)
  obtain ⟨z, hz, ez⟩ := size_of hg hf
  refine ⟨⟨Or.inr ((hne 2 (by omega) (by omega) (by omega) (by omega) (by omega)).trans h2), Or.inl (n15.trans c0), fun i h => ?_, fun i h => ?_, fun c hc => ?_, fun q => ?_, fun _ => ⟨lim, nx' + 1, 0, hl, (hne 3 (by omega) (by omega) (by omega) (by omega) (by omega)).trans e3, by omega, n5, by omega, n6.trans e6, fun r hr' => ?_, Or.inr ⟨f, hf, n4, ?_, ?_, ?_⟩, fun j hj => by omega, fun i j _ hj => by omega⟩⟩, ?_⟩
  · rw [n1]
    by_cases e : i = f
    · rw [e]; exact hb
    · rw [n12, bt_inn hf e] at h; exact m3 i h
  · rw [n13] at h; rw [n12]; exact bt_in1 hf (m4 i h)
  · rw [n0]
    by_cases e : c = f
    · subst e
      exact ⟨⟨0, by omega, n92⟩, fun _ => n92⟩
    · rw [hne (92 + c) (by omega) (by omega) (by omega) (by omega) (by omega)]; exact m5 c hc
  · rw [n15, c0] at q; exact absurd q (by decide)
  · rw [hne (16 + r) (by omega) (by omega) (by omega) (by omega) (by omega), n12]
    by_cases e : r = nx'
    · rw [e, hroot]
      exact Or.inr ⟨f, hf, rfl, bt_inf hf⟩
    · exact hC_mono (fun i h => bt_in1 hf h) (hr r (by omega))
  · rw [n12]; exact bt_inf hf
  · rw [n13]; exact hl13
  · rw [n92, n68 f hf, ez]; exact nI_le (a := 0) (by omega) (by omega)
  · refine msr_lt (by omega) (by omega) h5 n5 (by omega) (fun c hc => ?_) (Or.inl (by omega))
    by_cases e : c = f
    · subst e
      rw [cst_un hn ez hz]
      have := cst_m1 (w := w') (c := c) (by rw [n12]; exact bt_inf hf) (by rw [n13]; exact hl13) ((n68 c hf).trans ez) hz (q := 0) n92 (by omega)
      omega
    · refine cst_le (n68 c hc) (by rw [n12, bt_inn hf e]) (by rw [n13]) (fun _ _ => hne _ (by omega) (by omega) (by omega) (by omega) (by omega)) (fun _ _ h => ?_)
      rw [onW_iff (by omega) (n6.trans e6)] at h
      rcases h with h | ⟨j, hj, -⟩
      · exact absurd ((nI_eq (by omega) (by omega)).mp (n4.symm.trans h)).symm e
      · omega
/-- one that is later -/
theorem pC {w w' : Nat → Int32} (hg : wG w) (hm : wK w) (h2 : w 2 = 1) (h4 : w 4 = -5) {k : Nat} (hk : k < 24) (hb : bt (w 13) k = true) (n13 : w' 13 = w 13 &&& ((1 <<< (nI k &&& 31)) ^^^ (-1))) (n4 : w' 4 = nI k) (n92 : w' (92 + k) = 0) (hne : ∀ j, ¬ (7 ≤ j ∧ j ≤ 11) → j ≠ 13 → j ≠ 4 → j ≠ 92 + k → w' j = w j) : wK w' ∧ msr w' < msr w := by
  have c0 := clean_0 hm h2
  obtain ⟨m1, m2, m3, m4, m5, m6, m7⟩ := hm
  obtain ⟨lim, nx, d, hl, e3, hnx, e5, hd, e6, hr, hat, hway, hdis⟩ := m7 h2
  have d0 : d = 0 := by
    rcases hat with h | ⟨a, ha, ea, -⟩
    · exact h.2
    · rw [h4] at ea
      exact absurd (ea ▸ (by decide : (-5 : Int32) < 0)) (nI_nneg (by omega))
  subst d0
  have n0 := hne 0 (by omega) (by omega) (by omega) (by omega)
  have n1 := hne 1 (by omega) (by omega) (by omega) (by omega)
  have n5 := hne 5 (by omega) (by omega) (by omega) (by omega)
  have n12 := hne 12 (by omega) (by omega) (by omega) (by omega)
  have n15 := hne 15 (by omega) (by omega) (by omega) (by omega)
  have n6 := hne 6 (by omega) (by omega) (by omega) (by omega)
  have n68 := fun c (hc : c < 24) => hne (68 + c) (by omega) (by omega) (by omega) (by omega)
  obtain ⟨z, hz, ez⟩ := size_of hg hk
  refine ⟨⟨Or.inr ((hne 2 (by omega) (by omega) (by omega) (by omega)).trans h2), Or.inl (n15.trans c0), fun i h => ?_, fun i h => ?_, fun c hc => ?_, fun q => ?_, fun _ => ⟨lim, nx, 0, hl, (hne 3 (by omega) (by omega) (by omega) (by omega)).trans e3, hnx, n5.trans e5, by omega, n6.trans e6, fun r hr' => ?_, Or.inr ⟨k, hk, n4, ?_, ?_, ?_⟩, fun j hj => by omega, fun i j _ hj => by omega⟩⟩, ?_⟩
  · rw [n12] at h; rw [n1]; exact m3 i h
  · rw [n13] at h; rw [n12]; exact m4 i (bt_out1 h)
  · rw [n0]
    by_cases e : c = k
    · subst e
      exact ⟨⟨0, by omega, n92⟩, fun _ => n92⟩
    · rw [hne (92 + c) (by omega) (by omega) (by omega) (by omega)]; exact m5 c hc
  · rw [n15, c0] at q; exact absurd q (by decide)
  · rw [hne (16 + r) (by omega) (by omega) (by omega) (by omega), n12]; exact hr r hr'
  · rw [n12]; exact m4 k hb
  · rw [n13]; exact bt_outf hk
  · rw [n92, n68 k hk, ez]; exact nI_le (a := 0) (by omega) (by omega)
  · have hlt : cst w' k < cst w k := by
      rw [cst_la (m4 k hb) hb ez hz]
      have := cst_m1 (w := w') (c := k) (by rw [n12]; exact m4 k hb) (by rw [n13]; exact bt_outf hk) ((n68 k hk).trans ez) hz (q := 0) n92 (by omega)
      omega
    refine msr_lt hnx hnx e5 (n5.trans e5) (Nat.le_refl _) (fun c hc => ?_) (Or.inr ⟨k, hk, hlt⟩)
    by_cases e : c = k
    · subst e
      exact Nat.le_of_lt hlt
    · refine cst_le (n68 c hc) (by rw [n12]) (by rw [n13, bt_outn hk hc e]) (fun _ _ => hne _ (by omega) (by omega) (by omega) (by omega)) (fun _ _ h => ?_)
      rw [onW_iff (by omega) (n6.trans e6)] at h
      rcases h with h | ⟨j, hj, -⟩
      · exact absurd ((nI_eq (by omega) (by omega)).mp (n4.symm.trans h)).symm e
      · omega
