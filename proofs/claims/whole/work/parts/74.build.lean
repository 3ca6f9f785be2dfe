/-! ===== build ===== -/
theorem T_build {σ τ : zkS} (hR : zRel σ τ) (p1 : Int32) : ∃ (r : Int32) (σ1 : zkS) (τ1 : zkS), fX7_build p1 σ = some (r, σ1) ∧ fX8_build p1 τ = some (r, τ1) ∧ zRel σ1 τ1 := by
  obtain ⟨⟨hg, hk, hs, hw, hm⟩, hI, ⟨n, hn, x44, x05, hT⟩, -⟩ := id hR
  unfold fX7_build fX8_build
  rw [root_eq, ite01, in_0 (b := 3) p1 3 (by decide), ite01]
  by_cases h1 : p1 < 0 ∨ nI 3 < p1
  · rw [if_pos h1, if_pos h1]
    exact ⟨_, _, _, rfl, rfl, hR⟩
  rw [if_neg h1, if_neg h1, rd_2, runs_01 hm, show σ.1 8 0 = τ.1 1 2 from hk.1]
  by_cases h2 : τ.1 1 2 = 0
  case neg =>
    rw [if_neg h2, if_neg h2]
    exact ⟨_, _, _, rfl, rfl, hR⟩
  rw [if_pos h2, if_pos h2]
  obtain ⟨r, hr, rfl⟩ := rng (by decide) h1
  obtain ⟨c0, hc0, w0, wb1, wb2⟩ := hw.1
  obtain ⟨s, es, fs, us, vs⟩ := copyG (b := 33) (o := 2) (by omega) σ
  rw [es, zb1_s]
  have hr33 : rG s 33 (τ.1 1) := fs _ hg
  have hx1 : s.1 2 1 = τ.1 1 1 := by rw [us 2 (by omega)]; exact hg.2.1
  -- the starts
  have s3r : ∀ a, a ≠ 44 → (zsi (zsi (zsi s 44 1 0) 44 7 0) 44 8 1).1 a = s.1 a := fun a ha => by rw [si_r _ _ ha, si_r _ _ ha, si_r _ _ ha]
  have t6r : ∀ a, a ≠ 0 → (zsi (zsi (zsi (zsi τ 0 5 0) 0 13 0) 0 14 0) 0 16 0).1 a = τ.1 a := fun a ha => by rw [si_r _ _ ha, si_r _ _ ha, si_r _ _ ha, si_r _ _ ha]
  have start : OUTR c0 (s.1 2 1) s 0 (zsi (zsi (zsi s 44 1 0) 44 7 0) 44 8 1) (zsi (zsi (zsi (zsi τ 0 5 0) 0 13 0) 0 14 0) 0 16 0) := by
    refine ⟨0, 0, 0, 0, fun _ => 0, fun _ => 0, fun _ => 0, fun _ => 0, fun _ => 0, by omega, by omega, ⟨⟨by omega, Or.inl rfl, fun l hl => by omega, fun l l' _ hl => by omega, fun l hl => by omega, fun l hl => by omega, fun v hv => by omega, fun v hv => by omega⟩, ⟨?_, ?_, si_eq _ _ _ _, fun l hl => by omega, fun v hv => by omega⟩, ⟨?_, ?_, fun l hl => by omega⟩, ⟨fun q => by omega, fun q => by omega, fun v i hv => by omega⟩, fun hle => ⟨fun i => ?_, fun j hj => ?_, fun j hj => ?_, fun v hv => by omega, fun v hv => by omega, fun l hl => by omega, fun v i hv => by omega⟩, ⟨?_, ?_, ?_, fun c hc hb => ?_⟩⟩, Or.inr ⟨si_eq _ _ _ _, fun _ => rfl, fun l hl => by omega⟩⟩
    · rw [si_b _ _ (by omega), si_b _ _ (by omega), si_eq]; rfl
    · rw [si_b _ _ (by omega), si_eq]; rfl
    · rw [si_b _ _ (by omega), si_b _ _ (by omega), si_eq]; rfl
    · rw [si_b _ _ (by omega), si_eq]; rfl
    · rw [s3r 33 (by omega), decide_eq_false (by omega), Bool.or_false]
    · rw [s3r 34 (by omega), s3r 35 (by omega), s3r 36 (by omega)]; exact ⟨rfl, rfl, rfl⟩
    · rw [s3r 37 (by omega)]
    · rw [s3r 33 (by omega), show s.1 33 0 = _ from hr33.1, w0]
      by_cases q : c0 + 0 < 24
      · rw [if_pos q]; rfl
      · rw [if_neg q, show c0 = 24 by omega]
    · rw [s3r 33 (by omega)]
    · rw [s3r 38 (by omega)]
    · rw [s3r 36 (by omega), show s.1 36 c = _ from (hr33.2.2.2.1 c hc).2.2]
      obtain ⟨z, hz, ez⟩ := size_of hw hc
      exact ⟨z, hz, ez⟩
  obtain ⟨s9, t9, f7, f8, hres⟩ := read_T hn (K7 := fun s9 => (if (s9.1 44 7) = 0 then (if (s9.1 44 8) = 0 then some ((-1), s9) else some ((s9.1 44 0), s9)) else some ((s9.1 44 0), s9))) (K8 := fun s12 => (if (s12.1 0 16) = 0 then some (((-10) - (τ.1 0 5)), s12) else zrd s12 1 346 0 (fun (v13 : Int32) => (if (v13 + (s12.1 0 13)) ≤ 24 then fX8_build_L119 zFU v13 0 s12 (fun s28 => zwr s28 1 346 (16 + nI r) (fX8_told (s28.1 0 15) v13) (fun (s30 : zkS) => zwr s30 1 346 15 0 (fun (s31 : zkS) => some ((s31.1 0 13), s31)))) else some ((-4), s12))))) zFU 0 (zsi (zsi (zsi s 44 1 0) 44 7 0) 44 8 1) (zsi (zsi (zsi (zsi τ 0 5 0) 0 13 0) 0 14 0) 0 16 0) (by omega) (by unfold zFU; omega) (by rw [si_b _ _ (by omega), si_b _ _ (by omega), si_b _ _ (by omega), us 44 (by omega)]; exact x44) (fun j hj => by rw [s3r 45 (by omega), us 45 (by omega), t6r 4 (by omega)]; exact hT j hj) (by rw [t6r 1 (by omega)]; exact hx1) start
  -- what the reading leaves as it was
  have S9 : ∀ a, ¬ (33 ≤ a ∧ a ≤ 38) → a ≠ 44 → ¬ (46 ≤ a ∧ a ≤ 48) → s9.1 a = σ.1 a := fun a a1 a2 a3 => by rw [f7.1 a a1 a2 a3, s3r a a2, us a (by omega)]
  have S2 : s9.2 = σ.2 := f7.2.2.trans vs
  have S440 : s9.1 44 0 = nI n := by rw [f7.2.1 0 (by omega) (by omega) (by omega) (by omega), si_b _ _ (by omega), si_b _ _ (by omega), si_b _ _ (by omega), us 44 (by omega)]; exact x44
  have T9 : ∀ a, a ≠ 0 → ¬ (5 ≤ a ∧ a ≤ 11) → t9.1 a = τ.1 a := fun a a1 a2 => by rw [f8.1 a a1 a2, t6r a a1]
  have T05 : t9.1 0 5 = nI 0 := by rw [f8.2.1 5 (by omega), si_b _ _ (by omega), si_b _ _ (by omega), si_b _ _ (by omega), si_eq]; rfl
  have T03 : t9.1 0 3 = τ.1 0 3 := by rw [f8.2.1 3 (by omega), si_b _ _ (by omega), si_b _ _ (by omega), si_b _ _ (by omega), si_b _ _ (by omega)]
  have T2 : t9.2 = τ.2 := f8.2.2
  have hz : zRel (zsi s9 44 0 0) t9 := zRel_f hR (fun a ha => by rw [si_r _ _ (by omega), S9 a (by omega) (by omega) (by omega)]) (si_eq _ _ _ _) (by rw [si_r _ _ (by omega), S9 50 (by omega) (by omega) (by omega)]) (by rw [si_r _ _ (by omega), S9 51 (by omega) (by omega) (by omega)]) S2 (T9 1 (by omega) (by omega)) (T9 3 (by omega) (by omega)) T03 T05 (T9 12 (by omega) (by omega)) (T9 13 (by omega) (by omega)) T2
  have e7 : ∀ {x : Int32}, fX6_readInto_L17 zFU 33 (s.1 2 1) (nI 0) (zsi (zsi (zsi s 44 1 0) 44 7 0) 44 8 1) (fun s9 => (if (s9.1 44 7) = 0 then (if (s9.1 44 8) = 0 then some ((-1), s9) else some ((s9.1 44 0), s9)) else some ((s9.1 44 0), s9))) = some (x, s9) → fX6_readInto 33 (s.1 2 1) s = some (x, s9) := fun h => h
  have e8 : ∀ {X : Option (Int32 × zkS)}, fX8_build_L54 zFU (nI n) (nI 0) (zsi (zsi (zsi (zsi τ 0 5 0) 0 13 0) 0 14 0) 0 16 0) (fun s12 => (if (s12.1 0 16) = 0 then some (((-10) - (τ.1 0 5)), s12) else zrd s12 1 346 0 (fun (v13 : Int32) => (if (v13 + (s12.1 0 13)) ≤ 24 then fX8_build_L119 zFU v13 0 s12 (fun s28 => zwr s28 1 346 (16 + nI r) (fX8_told (s28.1 0 15) v13) (fun (s30 : zkS) => zwr s30 1 346 15 0 (fun (s31 : zkS) => some ((s31.1 0 13), s31)))) else some ((-4), s12))))) = X → zpi τ 0 5 0 (fun (s3 : zkS) => zpi s3 0 13 0 (fun (s4 : zkS) => zpi s4 0 14 0 (fun (s5 : zkS) => zpi s5 0 16 0 (fun (s6 : zkS) => fX8_build_L54 zFU (τ.1 0 5) 0 s6 (fun (s12 : zkS) => (if (s12.1 0 16) = 0 then some (((-10) - (τ.1 0 5)), s12) else zrd s12 1 346 0 (fun (v13 : Int32) => (if (v13 + (s12.1 0 13)) ≤ 24 then fX8_build_L119 zFU v13 0 s12 (fun (s28 : zkS) => zwr s28 1 346 (16 + nI r) (fX8_told (s28.1 0 15) v13) (fun (s30 : zkS) => zwr s30 1 346 15 0 (fun (s31 : zkS) => some ((s31.1 0 13), s31)))) else some ((-4), s12))))))))) = X := fun h => by
    rw [← h]
    unfold zpi
    dsimp only
    rw [x05]
    rfl
  have flt : ∀ j, j ≤ 100 → fX6_readInto 33 (s.1 2 1) s = some (nI j, s9) → zb2 (fX6_readInto 33 (s.1 2 1) s) (fun (v3 : Int32) (s4 : zkS) => zpi s4 44 0 0 (fun (s5 : zkS) => (if v3 < 0 then (if ((s5.1 2 0) + (s5.1 44 1)) ≤ 24 then zb1 (fX0_putIntoRoot 33 (nI r) (s5.1 44 2) s5) (fun (s6 : zkS) => zb1 (fX0_copyFrom 2 33 s6) (fun (s7 : zkS) => zpi s7 8 1 0 (fun (s8 : zkS) => some ((s8.1 44 1), s8)))) else some ((-4), s5)) else some (((-10) - v3), s5)))) = some (-10 - nI j, zsi s9 44 0 0) := fun j hj h => by
    rw [h, zb2_s]
    unfold zpi
    dsimp only
    rw [if_neg (nI_nneg (by omega))]
  rcases hres with ⟨j, hj, q7, q8⟩ | ⟨q7, q8, hO⟩
  · exact ⟨_, _, _, flt j (by omega) (e7 q7), e8 q8, hz⟩
  obtain ⟨N, D, dn, e, vo, ho, ly, tg, mn, hNn, he, hP, hwn⟩ := hO
  have hP' := hP
  obtain ⟨gI', ⟨m13, m14, m16, -⟩, ⟨c1, c7, -⟩, ⟨-, o2, o3⟩, -, hS⟩ := hP'
  by_cases hdn : dn = 0
  · -- it ends too early
    have q7' : fX6_readInto 33 (s.1 2 1) s = some (nI n, s9) := e7 (q7.trans (by
      show (if (s9.1 44 7) = 0 then (if (s9.1 44 8) = 0 then some ((-1), s9) else some ((s9.1 44 0), s9)) else some ((s9.1 44 0), s9)) = _
      rw [c7, S440]
      by_cases hD : D = 0
      · rw [hD, if_pos (show nI 0 = 0 from rfl)]
        rcases hwn with ⟨-, q, -⟩ | ⟨q, -⟩
        · have := q hD
          omega
        · rw [q, if_neg (by decide)]
      · rw [if_neg (fun q => hD ((nI_eq0 (by have := gI'.1; omega)).mp q))]))
    refine ⟨_, _, _, flt n hn q7', e8 (q8.trans ?_), hz⟩
    show (if (t9.1 0 16) = 0 then _ else _) = _
    rw [m16, hdn, if_pos (show nI 0 = 0 from rfl), x05]
  -- it is a graph
  have hdn1 : dn = 1 ∧ D = 0 := by
    rcases gI'.2.1 with q | q
    · exact absurd q hdn
    · exact q
  obtain ⟨rfl, rfl⟩ := hdn1
  have w8 : s9.1 44 8 = 0 := by
    rcases hwn with ⟨q, -⟩ | ⟨-, q, -⟩
    · exact q
    · have := q rfl
      omega
  have q7' : fX6_readInto 33 (s.1 2 1) s = some (-1, s9) := e7 (q7.trans (by
    show (if (s9.1 44 7) = 0 then (if (s9.1 44 8) = 0 then some ((-1), s9) else some ((s9.1 44 0), s9)) else some ((s9.1 44 0), s9)) = _
    rw [c7, if_pos (show nI 0 = 0 from rfl), w8, if_pos rfl]))
  have z20 : (zsi s9 44 0 0).1 2 0 = nI c0 := by rw [si_r _ _ (by omega), S9 2 (by omega) (by omega) (by omega), show σ.1 2 0 = τ.1 1 0 from hg.1, w0]
  have z441 : (zsi s9 44 0 0).1 44 1 = nI N := by rw [si_b _ _ (by omega), c1]
  have t10 : t9.1 1 = τ.1 1 := T9 1 (by omega) (by omega)
  rw [q7', zb2_s]
  by_cases hle : c0 + N ≤ 24
  case neg =>
    refine ⟨-4, zsi s9 44 0 0, t9, ?_, e8 (q8.trans ?_), hz⟩
    · unfold zpi
      dsimp only
      rw [if_pos (by decide), z20, z441, nI_add, if_neg (show ¬ nI (c0 + N) ≤ (24 : Int32) from nI_ge (a := 24) (by omega) (by omega))]
    · show (if (t9.1 0 16) = 0 then _ else _) = _
      rw [m16, if_neg (show ¬ nI 1 = 0 by decide), rd_0, t10, w0, m13, nI_add, if_neg (show ¬ nI (c0 + N) ≤ (24 : Int32) from nI_ge (a := 24) (by omega) (by omega))]
  -- the model's row
  obtain ⟨m1, m2, m3, m4, m5, m6, m7⟩ := hm
  have hb12 : ∀ i, bt (τ.1 1 12) i = true ∨ bt (τ.1 1 13) i = true ∨ bt (τ.1 1 14) i = true → i < c0 := fun i hi => by
    rcases hi with q | q | q
    · exact wb1 i (m3 i q)
    · exact wb1 i (m3 i (m4 i q))
    · exact wb2 i q
  have hl := gI'.2.2.2.2.2.2.1
  obtain ⟨tA, eA, hA, rA, rA2⟩ := app_L (K := fun s28 => zwr s28 1 346 (16 + nI r) (fX8_told (s28.1 0 15) (nI c0)) (fun (s30 : zkS) => zwr s30 1 346 15 0 (fun (s31 : zkS) => some ((s31.1 0 13), s31)))) hle hb12 hl zFU 0 t9 (by omega) (by unfold zFU; omega) m13 rfl hP.2.1.2.2.2.2 (by
    rw [t10]
    refine ⟨w0, fun i => ?_, fun u hu => by omega, fun j _ _ _ _ _ _ _ _ => rfl⟩
    rw [decide_eq_false (by omega), Bool.or_false])
  have hv15 := (o2 rfl).2
  have e28 : fX8_told (tA.1 0 15) (nI c0) = tl c0 (t9.1 0 15) := by rw [rA 0 (by omega), told_tl hv15 hle]
  have hr4 : r < 4 := by omega
  -- the class's graph
  have hR38 : ∀ j, (zsi (zsi s9 44 0 0) 38 r (tl c0 (t9.1 0 15))).1 38 j = if j = r then tl c0 (t9.1 0 15) else s9.1 38 j := fun j => by
    by_cases g : j = r
    · rw [if_pos g, g, si_eq]
    · rw [if_neg g, si_b _ _ g, si_r _ _ (by omega)]
  have hG33 : rG (zsi (zsi s9 44 0 0) 38 r (tl c0 (t9.1 0 15))) 33 (wu (wu (tA.1 1) (16 + r) (tl c0 (t9.1 0 15))) 15 0) := fin_G hP he w0 hle hr33 hw (t10 ▸ hA) hr4 (tl c0 (t9.1 0 15)) (fun a a1 a2 => by rw [si_r _ _ (by omega), si_r _ _ (by omega)]) hR38
  obtain ⟨s7, es7, fs7, us7, vs7⟩ := copyG (b := 2) (o := 33) (by omega) (zsi (zsi s9 44 0 0) 38 r (tl c0 (t9.1 0 15)))
  have hG2 := fs7 _ hG33
  have ep : fX0_putIntoRoot 33 (nI r) ((zsi s9 44 0 0).1 44 2) (zsi s9 44 0 0) = some (zsi (zsi s9 44 0 0) 38 r (tl c0 (t9.1 0 15))) := by
    unfold fX0_putIntoRoot
    rw [root_eq, ite01, if_neg h1, si_b _ _ (show 2 ≠ 0 by omega), (o2 rfl).1]
    exact wr_nI hr4 (by decide)
  have S7 : ∀ a, ¬ (2 ≤ a ∧ a ≤ 7) → a ≠ 38 → a ≠ 44 → s7.1 a = s9.1 a := fun a a1 a2 a3 => by rw [us7 a a1, si_r _ _ a2, si_r _ _ a3]
  have z8 : (zsi s7 8 1 0).1 44 1 = nI N := by rw [si_r _ _ (by omega), us7 44 (by omega), si_r _ _ (by omega), z441]
  refine ⟨nI N, zsi s7 8 1 0, zsi (zsi tA 1 (16 + r) (tl c0 (t9.1 0 15))) 1 15 0, ?_, e8 (q8.trans ?_), ?_⟩
  · unfold zpi
    dsimp only
    rw [if_pos (by decide), z20, z441, nI_add, if_pos (show nI (c0 + N) ≤ (24 : Int32) from nI_le (b := 24) hle (by decide)), ep, zb1_s, es7, zb1_s, z8]
  · show (if (t9.1 0 16) = 0 then _ else _) = _
    rw [m16, if_neg (show ¬ nI 1 = 0 by decide), rd_0, t10, w0, m13, nI_add, if_pos (show nI (c0 + N) ≤ (24 : Int32) from nI_le (b := 24) hle (by decide))]
    refine Eq.trans eA ?_
    show zwr tA 1 346 (16 + nI r) (fX8_told (tA.1 0 15) (nI c0)) _ = _
    rw [e28, wr_16c hr4, wr_15, si_r _ _ (show 0 ≠ 1 by decide), si_r _ _ (show 0 ≠ 1 by decide), rA 0 (by omega), m13]
  · have eW : (zsi (zsi tA 1 (16 + r) (tl c0 (t9.1 0 15))) 1 15 0).1 1 = wu (wu (tA.1 1) (16 + r) (tl c0 (t9.1 0 15))) 15 0 := by rw [si_w, si_w]
    have hA' : apS c0 N (τ.1 1) (tA.1 1) (t9.1 11) ly tg mn := hA
    obtain ⟨A0, A1, A2, A3⟩ := hA'
    have W : ∀ j, j ≠ 15 → ¬ (16 ≤ j ∧ j < 20) → (zsi (zsi tA 1 (16 + r) (tl c0 (t9.1 0 15))) 1 15 0).1 1 j = tA.1 1 j := fun j j1 j2 => by rw [si_b _ _ j1, si_b _ _ (by omega)]
    have hup : ∀ i, bt (s.1 2 1) i = true → bt (tA.1 1 1) i = true := fun i hi => by rw [A1, ← hx1, hi, Bool.true_or]
    have hnewb : ∀ v, v < N → bt (tA.1 1 1) (c0 + v) = true := fun v hv => by rw [A1, decide_eq_true (by omega), Bool.or_true]
    refine rel_build hR w0 hle h2 (ly := ly) (tg := tg) (mn := mn) ?_ ⟨si_eq _ _ _ _, fun j hj => ?_⟩ (fun a a1 a2 => ?_) ?_ ?_ ?_ ?_ ?_ ?_ (fun i => ?_) (si_eq _ _ _ _) hl (fun v hv => ?_) (fun v i hv hi => ?_) (fun q hq => ?_) (fun j j0 j1 j15 j16 p1 p2 p3 p4 p5 => ?_) ?_ ?_ ?_ ?_ ?_ ?_
    · rw [eW]
      exact rG_c (fun a h1 h2 => si_r _ _ (by omega)) (fun _ _ => rfl) hG2
    · rw [si_b _ _ hj, S7 8 (by omega) (by omega) (by omega), S9 8 (by omega) (by omega) (by omega)]
    · rw [si_r _ _ (by omega), S7 a (by omega) (by omega) (by omega), S9 a (by omega) (by omega) (by omega)]
    · rw [si_r _ _ (by omega), S7 0 (by omega) (by omega) (by omega), S9 0 (by omega) (by omega) (by omega)]
    · rw [si_r _ _ (by omega), us7 44 (by omega), si_r _ _ (by omega), si_eq]; rfl
    · rw [si_r _ _ (by omega), S7 50 (by omega) (by omega) (by omega), S9 50 (by omega) (by omega) (by omega)]
    · rw [si_r _ _ (by omega), S7 51 (by omega) (by omega) (by omega), S9 51 (by omega) (by omega) (by omega)]
    · rw [si_2, vs7, si_2, si_2, S2]
    · rw [W 0 (by omega) (by omega), A0]
    · rw [W 1 (by omega) (by omega), A1]
    · obtain ⟨a1, a2, a3, a4, -⟩ := A2 v hv
      exact ⟨(W _ (by omega) (by omega)).trans a1, (W _ (by omega) (by omega)).trans a2, (W _ (by omega) (by omega)).trans a3, (W _ (by omega) (by omega)).trans a4⟩
    · rw [W 1 (by omega) (by omega), W _ (by omega) (by omega), (A2 v hv).2.2.2.2 i hi, told_tl (o3 v i hv hi) hle]
      exact tl_hC (o3 v i hv hi) hle hup hnewb
    · rw [W 1 (by omega) (by omega), si_b _ _ (by omega)]
      by_cases g : q = r
      · rw [g, si_eq]
        exact tl_hC hv15 hle hup hnewb
      · rw [si_b _ _ (by omega), A3 (16 + q) (by omega) (by omega) (by omega) (by omega) (by omega) (by omega) (by omega) (by omega)]
        exact hC_m (fun i hi => by rw [A1, hi, Bool.true_or]) (hw.2.2.2 q hq)
    · rw [W j j15 j16, A3 j j0 j1 j15 p1 p2 p3 p4 p5]
    · rw [si_r _ _ (by omega), si_r _ _ (by omega), rA 0 (by omega), T03]
    · rw [si_r _ _ (by omega), si_r _ _ (by omega), rA 0 (by omega), T05]
    · rw [si_r _ _ (by omega), si_r _ _ (by omega), rA 3 (by omega), T9 3 (by omega) (by omega)]
    · rw [si_r _ _ (by omega), si_r _ _ (by omega), rA 12 (by omega), T9 12 (by omega) (by omega)]
    · rw [si_r _ _ (by omega), si_r _ _ (by omega), rA 13 (by omega), T9 13 (by omega) (by omega)]
    · rw [si_2, si_2, rA2, T2]
