/-! ===== build: how the two stand in the end ===== -/
theorem zRel_f {σ σ' τ τ' : zkS} (hR : zRel σ τ) (h1 : ∀ a, a ≤ 32 → σ'.1 a = σ.1 a) (h44 : σ'.1 44 0 = nI 0) (h50 : σ'.1 50 = σ.1 50) (h51 : σ'.1 51 = σ.1 51) (h2 : σ'.2 = σ.2) (k1 : τ'.1 1 = τ.1 1) (k3 : τ'.1 3 = τ.1 3) (k03 : τ'.1 0 3 = τ.1 0 3) (k05 : τ'.1 0 5 = nI 0) (k12 : τ'.1 12 = τ.1 12) (k13 : τ'.1 13 = τ.1 13) (k2 : τ'.2 = τ.2) : zRel σ' τ' := by
  obtain ⟨a, b, -, d⟩ := hR
  refine ⟨?_, rI_c (fun a _ h => h1 a h) (by rw [h1 0 (by omega)]) k03 k3 b, ⟨0, by omega, h44, k05, fun k hk => by omega⟩, rT_c h50 h51 k12 k13 h2 k2 d⟩
  rw [k1]
  exact rAll_c (fun a _ h => h1 a (by omega)) a
theorem rel_build {σ τ σ' τ' : zkS} (hR : zRel σ τ) {c0 N : Nat} {ly tg mn : Nat → Nat} (h0 : τ.1 1 0 = nI c0) (hle : c0 + N ≤ 24) (h2 : τ.1 1 2 = 0)
    (hG : rG σ' 2 (τ'.1 1)) (a8 : σ'.1 8 1 = 0 ∧ ∀ j, j ≠ 1 → σ'.1 8 j = σ.1 8 j) (a9 : ∀ a, 9 ≤ a → a ≤ 32 → σ'.1 a = σ.1 a) (a0 : σ'.1 0 2 = σ.1 0 2) (a44 : σ'.1 44 0 = nI 0) (a50 : σ'.1 50 = σ.1 50) (a51 : σ'.1 51 = σ.1 51) (ab : σ'.2 = σ.2)
    (b0 : τ'.1 1 0 = nI (c0 + N)) (b1 : ∀ i, bt (τ'.1 1 1) i = (bt (τ.1 1 1) i || decide (c0 ≤ i ∧ i < c0 + N))) (b15 : τ'.1 1 15 = 0) (hl : ∀ v, v < N → ly v ≤ 3 ∧ tg v ≤ 9 ∧ mn v ≤ 6)
    (bn : ∀ v, v < N → τ'.1 1 (20 + (c0 + v)) = nI (ly v) ∧ τ'.1 1 (44 + (c0 + v)) = nI (tg v) ∧ τ'.1 1 (68 + (c0 + v)) = nI (mn v) ∧ τ'.1 1 (92 + (c0 + v)) = 0)
    (bf : ∀ v i, v < N → i < mn v → hC (τ'.1 1 1) (τ'.1 1 (140 + 6 * (c0 + v) + i))) (br : ∀ r, r < 4 → hC (τ'.1 1 1) (τ'.1 1 (16 + r)))
    (bo : ∀ j, j ≠ 0 → j ≠ 1 → j ≠ 15 → ¬ (16 ≤ j ∧ j < 20) → ¬ (20 + c0 ≤ j ∧ j < 20 + (c0 + N)) → ¬ (44 + c0 ≤ j ∧ j < 44 + (c0 + N)) → ¬ (68 + c0 ≤ j ∧ j < 68 + (c0 + N)) → ¬ (92 + c0 ≤ j ∧ j < 92 + (c0 + N)) → ¬ (140 + 6 * c0 ≤ j ∧ j < 140 + 6 * (c0 + N)) → τ'.1 1 j = τ.1 1 j)
    (t3 : τ'.1 0 3 = τ.1 0 3) (t5 : τ'.1 0 5 = nI 0) (r3 : τ'.1 3 = τ.1 3) (r12 : τ'.1 12 = τ.1 12) (r13 : τ'.1 13 = τ.1 13) (bq : τ'.2 = τ.2) : zRel σ' τ' := by
  obtain ⟨⟨⟨g0, g1, g2, g3, g4, g5⟩, hk, hs, hw, hm⟩, hI, -, hT⟩ := hR
  obtain ⟨⟨n', hn', w0, w1, w2⟩, w3, w4, w5⟩ := hw
  have e : n' = c0 := (nI_eq (by omega) (by omega)).mp (w0.symm.trans h0)
  subst e
  obtain ⟨m1, m2, m3, m4, m5, m6, m7⟩ := hm
  have hup : ∀ i, bt (τ.1 1 1) i = true → bt (τ'.1 1 1) i = true := fun i hi => by rw [b1, hi, Bool.true_or]
  have hbt : ∀ i, bt (τ'.1 1 1) i = true → bt (τ.1 1 1) i = true ∧ i < n' ∨ n' ≤ i ∧ i < n' + N := fun i hi => by
    rw [b1, Bool.or_eq_true, decide_eq_true_eq] at hi
    rcases hi with q | q
    · exact Or.inl ⟨q, w1 i q⟩
    · exact Or.inr q
  have e92 : ∀ c, c < 24 → n' ≤ c → τ.1 1 (92 + c) = 0 := fun c hc hcn => (m5 c hc).2 (by rw [h0]; exact nI_nlt hcn (by omega))
  have bs : ∀ j, j ≠ 0 → j ≠ 1 → j ≠ 15 → j < 16 ∨ 116 ≤ j ∧ j < 140 ∨ 284 ≤ j → τ'.1 1 j = τ.1 1 j := fun j j0 j1 j15 h => bo j j0 j1 j15 (by omega) (by omega) (by omega) (by omega) (by omega) (by omega)
  have bl : ∀ c, c < n' → τ'.1 1 (20 + c) = τ.1 1 (20 + c) ∧ τ'.1 1 (44 + c) = τ.1 1 (44 + c) ∧ τ'.1 1 (68 + c) = τ.1 1 (68 + c) := fun c hc => ⟨bo _ (by omega) (by omega) (by omega) (by omega) (by omega) (by omega) (by omega) (by omega) (by omega), bo _ (by omega) (by omega) (by omega) (by omega) (by omega) (by omega) (by omega) (by omega) (by omega), bo _ (by omega) (by omega) (by omega) (by omega) (by omega) (by omega) (by omega) (by omega) (by omega)⟩
  have bu : ∀ c, c < 24 → n' + N ≤ c → τ'.1 1 (20 + c) = τ.1 1 (20 + c) ∧ τ'.1 1 (44 + c) = τ.1 1 (44 + c) ∧ τ'.1 1 (68 + c) = τ.1 1 (68 + c) := fun c hc hcn => ⟨bo _ (by omega) (by omega) (by omega) (by omega) (by omega) (by omega) (by omega) (by omega) (by omega), bo _ (by omega) (by omega) (by omega) (by omega) (by omega) (by omega) (by omega) (by omega) (by omega), bo _ (by omega) (by omega) (by omega) (by omega) (by omega) (by omega) (by omega) (by omega) (by omega)⟩
  have b92 : ∀ c, c < 24 → τ'.1 1 (92 + c) = τ.1 1 (92 + c) := fun c hc => by
    by_cases q : n' ≤ c ∧ c < n' + N
    · obtain ⟨v, rfl⟩ : ∃ v, c = n' + v := ⟨c - n', by omega⟩
      rw [(bn v (by omega)).2.2.2, e92 _ hc (by omega)]
    · exact bo _ (by omega) (by omega) (by omega) (by omega) (by omega) (by omega) (by omega) (by omega) (by omega)
  refine ⟨⟨hG, ?_, ?_, ⟨⟨n' + N, hle, b0, fun i hi => ?_, fun i hi => ?_⟩, fun c hc => ?_, fun c i hc hb hi hsz => ?_, br⟩, ?_, ?_, ?_, ?_, fun c hc => ?_, fun q => ?_, fun q => ?_⟩, rI_c (fun a h1 h2 => a9 a (by omega) h2) a0 t3 r3 hI, ⟨0, by omega, a44, t5, fun k hk => by omega⟩, rT_c a50 a51 r12 r13 ab bq hT⟩
  · have k2 := rK_un (σ' := σ') (w' := wu (τ.1 1) 15 0) a8.2 a8.1 (a9 9 (by omega) (by omega)) (a9 10 (by omega) (by omega)) (fun j _ h15 _ => wu_ne _ _ h15) (wu_eq _ _ _) hk
    obtain ⟨x0, x1, x2, x3, x4, x5, x6, x7, x8, x9, x10, x11, x12, x13⟩ := k2
    have bw : ∀ j, 2 ≤ j → j < 14 ∨ 92 ≤ j ∧ j < 140 → τ'.1 1 j = wu (τ.1 1) 15 0 j := fun j j1 j2 => by
      rw [wu_ne _ _ (by omega)]
      by_cases ej : 92 ≤ j ∧ j < 116
      · have := b92 (j - 92) (by omega)
        rw [show 92 + (j - 92) = j by omega] at this
        exact this
      · exact bs j (by omega) (by omega) (by omega) (by omega)
    unfold rK
    rw [bw 2 (by omega) (by omega), b15, bw 12 (by omega) (by omega), bw 13 (by omega) (by omega), bw 7 (by omega) (by omega), bw 3 (by omega) (by omega), bw 5 (by omega) (by omega), bw 8 (by omega) (by omega), bw 9 (by omega) (by omega), bw 10 (by omega) (by omega), bw 11 (by omega) (by omega), bw 4 (by omega) (by omega), bw 6 (by omega) (by omega)]
    exact ⟨x0, x1, x2, x3, x4, x5, x6, x7, x8, x9, x10, fun q => ⟨(x11 q).1, (x11 q).2.1, fun j j1 j2 => by rw [bw (116 + j) (by omega) (by omega)]; exact (x11 q).2.2 j j1 j2⟩, x12, fun c hc hP => by rw [bw (92 + c) (by omega) (by omega)]; exact x13 c hc hP⟩
  · obtain ⟨s1, s2, s3⟩ := rS_3.mp hs
    have bw : ∀ j, 284 ≤ j → τ'.1 1 j = τ.1 1 j := fun j _ => bs j (by omega) (by omega) (by omega) (by omega)
    refine rS_3.mpr ⟨rSa_c (by rw [a9 _ (by omega) (by omega)]) (a9 _ (by omega) (by omega)) (fun j j1 _ => bw j j1) s1, rSb_c (by rw [a9 _ (by omega) (by omega)]) (a9 _ (by omega) (by omega)) (fun j _ _ => bw j (by omega)) s2, ?_⟩
    obtain ⟨c1, l, c2, c3, c4, c5⟩ := s3
    refine ⟨by rw [a9 _ (by omega) (by omega), bw 345 (by omega)]; exact c1, l, c2, by rw [bw 345 (by omega)]; exact c3, fun j hj => by rw [a9 _ (by omega) (by omega), bw _ (by omega)]; exact c4 j hj, fun k hk => ?_⟩
    obtain ⟨c, i, q1, q2, q3, q4, q5, q6⟩ := c5 k hk
    rw [h0] at q6
    have := (nI_ltI (by omega) (by omega)).mp q6
    exact ⟨c, i, q1, q2, by rw [bw _ (by omega)]; exact q3, by rw [bw _ (by omega)]; exact q4, by rw [(bl c this).2.2]; exact q5, by rw [b0]; exact nI_lt (by omega) (by omega)⟩
  · rcases hbt i hi with h | h <;> omega
  · rw [bs 14 (by omega) (by omega) (by omega) (by omega)] at hi
    have := w2 i hi
    omega
  · by_cases q : n' ≤ c ∧ c < n' + N
    · obtain ⟨v, rfl⟩ : ∃ v, c = n' + v := ⟨c - n', by omega⟩
      obtain ⟨v1, v2, v3, -⟩ := bn v (by omega)
      obtain ⟨l1, l2, l3⟩ := hl v (by omega)
      rw [v1, v2, v3]
      exact ⟨⟨ly v, by omega, rfl⟩, ⟨tg v, by omega, rfl⟩, ⟨mn v, by omega, rfl⟩, fun w => absurd ((nI_eq (b := 6) (by omega) (by decide)).mp w) (by omega)⟩
    · have : τ'.1 1 (20 + c) = τ.1 1 (20 + c) ∧ τ'.1 1 (44 + c) = τ.1 1 (44 + c) ∧ τ'.1 1 (68 + c) = τ.1 1 (68 + c) := by
        by_cases q2 : c < n'
        · exact bl c q2
        · exact bu c hc (by omega)
      rw [this.1, this.2.1, this.2.2]
      exact w3 c hc
  · rcases hbt c hb with ⟨h, hlt⟩ | h
    · rw [(bl c hlt).2.2] at hsz
      rw [bo (140 + 6 * c + i) (by omega) (by omega) (by omega) (by omega) (by omega) (by omega) (by omega) (by omega) (by omega)]
      exact hC_m hup (w4 c i hc h hi hsz)
    · obtain ⟨v, rfl⟩ : ∃ v, c = n' + v := ⟨c - n', by omega⟩
      rw [(bn v (by omega)).2.2.1] at hsz
      exact bf v i (by omega) ((nI_ltI (by omega) (by have := (hl v (by omega)).2.2; omega)).mp hsz)
  · rw [bs 2 (by omega) (by omega) (by omega) (by omega)]; exact m1
  · exact Or.inl b15
  · rw [bs 12 (by omega) (by omega) (by omega) (by omega)]
    exact fun i hi => hup i (m3 i hi)
  · rw [bs 12 (by omega) (by omega) (by omega) (by omega), bs 13 (by omega) (by omega) (by omega) (by omega)]
    exact m4
  · rw [b92 c hc]
    refine ⟨(m5 c hc).1, fun q => (m5 c hc).2 (fun q2 => q ?_)⟩
    rw [h0] at q2
    rw [b0]
    have := (nI_ltI (by omega) (by omega)).mp q2
    exact nI_lt (by omega) (by omega)
  · rw [b15] at q
    exact absurd q (by decide)
  · rw [bs 2 (by omega) (by omega) (by omega) (by omega), h2] at q
    exact absurd q (by decide)
/-- the trial graph, when the text is through -/
theorem fin_G {c0 N dn e : Nat} {x1 : Int32} {σ0 s t : zkS} {vo ho ly tg mn : Nat → Nat} {w0 w : Nat → Int32} {r : Nat} (h : PR c0 x1 σ0 s t N 0 vo ho ly tg mn dn e) (he : N ≤ e) (h0 : w0 0 = nI c0) (hle : c0 + N ≤ 24) (hg0 : rG σ0 33 w0) (hw0 : wG w0) (hA : apS c0 N w0 w (t.1 11) ly tg mn) (hr : r < 4) (R : Int32) {s' : zkS} (hs' : ∀ a, 33 ≤ a → a ≤ 37 → s'.1 a = s.1 a) (h38 : ∀ j, s'.1 38 j = if j = r then R else s.1 38 j) : rG s' 33 (wu (wu w (16 + r) R) 15 0) := by
  obtain ⟨⟨-, -, -, -, -, -, g7, g8⟩, -, -, ⟨-, -, o3⟩, hb, hs⟩ := h
  obtain ⟨A0, A1, A2, A3⟩ := hA
  obtain ⟨b1, b2, b3, b4, b5, -, b7⟩ := hb hle
  obtain ⟨k0, k1, k2, k3, k4, k5⟩ := hg0
  obtain ⟨⟨n', hn', v0, v1, v2⟩, v3, v4, v5⟩ := hw0
  have en : n' = c0 := (nI_eq (by omega) (by omega)).mp (v0.symm.trans h0)
  subst en
  have hcl : ∀ v, v < N → szO (ly v) (mn v) = mn v := fun v hv => (g8 v hv (by omega) (fun l hl => by omega)).symm
  have W : ∀ j, j ≠ 15 → ¬ (16 ≤ j ∧ j < 20) → wu (wu w (16 + r) R) 15 0 j = w j := fun j j1 j2 => by rw [wu_ne _ _ j1, wu_ne _ _ (by omega)]
  have Wo : ∀ j, j ≠ 0 → j ≠ 1 → j ≠ 15 → ¬ (16 ≤ j ∧ j < 20) → ¬ (20 + n' ≤ j ∧ j < 20 + (n' + N)) → ¬ (44 + n' ≤ j ∧ j < 44 + (n' + N)) → ¬ (68 + n' ≤ j ∧ j < 68 + (n' + N)) → ¬ (92 + n' ≤ j ∧ j < 92 + (n' + N)) → ¬ (140 + 6 * n' ≤ j ∧ j < 140 + 6 * (n' + N)) → wu (wu w (16 + r) R) 15 0 j = w0 j := fun j j0 j1 j15 j16 p1 p2 p3 p4 p5 => by rw [W j j15 j16, A3 j j0 j1 j15 p1 p2 p3 p4 p5]
  refine ⟨?_, ?_, ?_, fun c hc => ?_, fun c i hc hb' hi hsz => ?_, fun q hq => ?_⟩
  · rw [hs' 33 (by omega) (by omega), hs.1, W 0 (by omega) (by omega), A0]
    by_cases q : n' + N < 24
    · rw [if_pos q]
    · rw [if_neg q, show n' + N = 24 by omega]
  · rw [hs' 33 (by omega) (by omega), W 1 (by omega) (by omega)]
    refine b_ext (fun i hi => ?_)
    rw [b1, A1, k1]
  · rw [hs' 33 (by omega) (by omega), hs.2.1, Wo 14 (by omega) (by omega) (by omega) (by omega) (by omega) (by omega) (by omega) (by omega) (by omega)]
    exact k2
  · rw [hs' 34 (by omega) (by omega), hs' 35 (by omega) (by omega), hs' 36 (by omega) (by omega)]
    by_cases q : n' ≤ c ∧ c < n' + N
    · obtain ⟨v, rfl⟩ : ∃ v, c = n' + v := ⟨c - n', by omega⟩
      obtain ⟨a1, a2, a3, -⟩ := A2 v (by omega)
      have hv : v < N := by omega
      rw [W _ (by omega) (by omega), W _ (by omega) (by omega), W _ (by omega) (by omega), a1, a2, a3, (b4 v hv).1, (b4 v hv).2, b5 v hv (fun l hl => by omega), hcl v hv]
      exact ⟨rfl, rfl, rfl⟩
    · rw [(b2 c q).1, (b2 c q).2.1, (b2 c q).2.2, Wo _ (by omega) (by omega) (by omega) (by omega) (by omega) (by omega) (by omega) (by omega) (by omega), Wo _ (by omega) (by omega) (by omega) (by omega) (by omega) (by omega) (by omega) (by omega) (by omega), Wo _ (by omega) (by omega) (by omega) (by omega) (by omega) (by omega) (by omega) (by omega) (by omega)]
      exact k3 c hc
  · rw [W 1 (by omega) (by omega), A1, Bool.or_eq_true, decide_eq_true_eq] at hb'
    rw [hs' 37 (by omega) (by omega)]
    rcases hb' with hb' | hb'
    · have hlt := v1 c hb'
      rw [Wo (68 + c) (by omega) (by omega) (by omega) (by omega) (by omega) (by omega) (by omega) (by omega) (by omega)] at hsz
      rw [b3 _ (by omega), Wo _ (by omega) (by omega) (by omega) (by omega) (by omega) (by omega) (by omega) (by omega) (by omega)]
      exact k4 c i hc hb' hi hsz
    · obtain ⟨v, rfl⟩ : ∃ v, c = n' + v := ⟨c - n', by omega⟩
      have hv : v < N := by omega
      obtain ⟨a1, a2, a3, a4, a5⟩ := A2 v hv
      rw [W _ (by omega) (by omega), a3] at hsz
      have him := (nI_ltI (by omega) (by have := (g7 v hv).2.2; omega)).mp hsz
      rw [b7 v i hv him, W _ (by omega) (by omega), a5 i him, told_tl (o3 v i hv him) hle]
  · rw [show s'.1 (33 + 5) q = _ from h38 q]
    by_cases g : q = r
    · rw [if_pos g, g, wu_ne _ _ (by omega), wu_eq]
    · rw [if_neg g, hs.2.2.1, wu_ne _ _ (by omega), wu_ne _ _ (by omega), A3 _ (by omega) (by omega) (by omega) (by omega) (by omega) (by omega) (by omega) (by omega)]
      exact k5 q hq
