/-! ===== a count of bits is nought for nought alone ===== -/
theorem i_nat (x : Int32) : ∃ n, n < 2 ^ 32 ∧ x = nI n := ⟨x.toBitVec.toNat, x.toBitVec.isLt, by
  apply Int32.toBitVec_inj.mp
  apply BitVec.eq_of_toNat_eq
  rw [pk_tn x.toBitVec.isLt]⟩
theorem m_and {a m : Nat} (ha : a < 2 ^ 32) (hm : m < 2 ^ 32) : nI a &&& nI m = nI (a &&& m) := by
  apply Int32.toBitVec_inj.mp
  apply BitVec.eq_of_toNat_eq
  rw [Int32.toBitVec_and, BitVec.toNat_and, pk_tn ha, pk_tn hm, pk_tn (Nat.lt_of_le_of_lt Nat.and_le_left ha)]
theorem m_shr {a k : Nat} (ha : a < 2 ^ 32) (s : Int32) (hs : ((s.toUInt32 &&& Int32.toUInt32 31).toBitVec % 32).toNat = k) : ((nI a).toUInt32 >>> (s.toUInt32 &&& Int32.toUInt32 31)).toInt32 = nI (a / 2 ^ k) := pk_ushrN ha s k hs
theorem and_0 {a m k : Nat} (h : a &&& m = 0) (hm : m / 2 ^ k % 16 = 15) : a / 2 ^ k % 16 = 0 := by
  apply Nat.eq_of_testBit_eq
  intro i
  rw [Nat.zero_testBit]
  by_cases hi : i < 4
  · have e1 : (a / 2 ^ k % 16).testBit i = a.testBit (k + i) := by
      rw [show (16 : Nat) = 2 ^ 4 from rfl, Nat.testBit_mod_two_pow, Nat.testBit_div_two_pow, decide_eq_true hi, Bool.true_and, Nat.add_comm]
    have e2 : m.testBit (k + i) = true := by
      have : (m / 2 ^ k % 16).testBit i = m.testBit (k + i) := by
        rw [show (16 : Nat) = 2 ^ 4 from rfl, Nat.testBit_mod_two_pow, Nat.testBit_div_two_pow, decide_eq_true hi, Bool.true_and, Nat.add_comm]
      rw [← this, hm]
      exact (by decide : ∀ i, i < 4 → (15 : Nat).testBit i = true) i hi
    have e3 : (a &&& m).testBit (k + i) = false := by rw [h, Nat.zero_testBit]
    rw [Nat.testBit_and, e2, Bool.and_true] at e3
    rw [e1, e3]
  · rw [show (16 : Nat) = 2 ^ 4 from rfl, Nat.testBit_mod_two_pow, decide_eq_false hi, Bool.false_and]
theorem and_15 {a m k : Nat} (hm : m / 2 ^ k % 16 = 15) : (a &&& m) / 2 ^ k % 16 = a / 2 ^ k % 16 := by
  apply Nat.eq_of_testBit_eq
  intro i
  rw [show (16 : Nat) = 2 ^ 4 from rfl, Nat.testBit_mod_two_pow, Nat.testBit_mod_two_pow, Nat.testBit_div_two_pow, Nat.testBit_div_two_pow, Nat.testBit_and]
  by_cases hi : i < 4
  · have : (m / 2 ^ k % 16).testBit i = m.testBit (i + k) := by
      rw [show (16 : Nat) = 2 ^ 4 from rfl, Nat.testBit_mod_two_pow, Nat.testBit_div_two_pow, decide_eq_true hi, Bool.true_and]
    rw [← this, hm, (by decide : ∀ i, i < 4 → (15 : Nat).testBit i = true) i hi, Bool.and_true]
  · rw [decide_eq_false hi, Bool.false_and, Bool.false_and]
theorem and_n {a m k : Nat} (hm : m / 2 ^ k % 16 = 0) : (a &&& m) / 2 ^ k % 16 = 0 := by
  apply Nat.eq_of_testBit_eq
  intro i
  rw [Nat.zero_testBit, show (16 : Nat) = 2 ^ 4 from rfl, Nat.testBit_mod_two_pow, Nat.testBit_div_two_pow, Nat.testBit_and]
  by_cases hi : i < 4
  · have : (m / 2 ^ k % 16).testBit i = m.testBit (i + k) := by
      rw [show (16 : Nat) = 2 ^ 4 from rfl, Nat.testBit_mod_two_pow, Nat.testBit_div_two_pow, decide_eq_true hi, Bool.true_and]
    rw [← this, hm, Nat.zero_testBit, Bool.and_false, Bool.and_false]
  · rw [decide_eq_false hi, Bool.false_and]
/-- nibble by nibble, a mask of 3s -/
theorem and_3 {a k : Nat} (hk : k < 8) : (a &&& 858993459) / 2 ^ (4 * k) % 16 = a / 2 ^ (4 * k) % 4 := by
  apply Nat.eq_of_testBit_eq
  intro i
  rw [show (16 : Nat) = 2 ^ 4 from rfl, show (4 : Nat) = 2 ^ 2 from rfl, Nat.testBit_mod_two_pow, Nat.testBit_mod_two_pow, Nat.testBit_div_two_pow, Nat.testBit_div_two_pow, Nat.testBit_and]
  by_cases hi : i < 4
  · have : ∀ k, k < 8 → ∀ i, i < 4 → (858993459 : Nat).testBit (i + 4 * k) = decide (i < 2) := by decide
    rw [show 2 ^ 2 * k = 4 * k from rfl, this k hk i hi, decide_eq_true (p := i < 2 ^ 2) (by omega), Bool.true_and]
    cases a.testBit (i + 4 * k) <;> cases decide (i < 2) <;> rfl
  · rw [decide_eq_false (p := i < 2 ^ 2) (by omega), decide_eq_false (p := i < 2) (by omega), Bool.false_and, Bool.false_and]
theorem d16 {n R : Nat} (h : n < 16) : (n + 16 * R) / 16 = R ∧ (n + 16 * R) % 16 = n := by omega
theorem nib8 (N : Nat) (h : N < 4294967296) : ∃ d0 d1 d2 d3 d4 d5 d6 d7 : Nat, d0 < 16 ∧ d1 < 16 ∧ d2 < 16 ∧ d3 < 16 ∧ d4 < 16 ∧ d5 < 16 ∧ d6 < 16 ∧ d7 < 16 ∧ N = d0 + 16 * (d1 + 16 * (d2 + 16 * (d3 + 16 * (d4 + 16 * (d5 + 16 * (d6 + 16 * d7)))))) := by
  have m : ∀ x : Nat, x % 16 < 16 := fun x => Nat.mod_lt _ (by decide)
  have l1 : N / 16 < 268435456 := Nat.div_lt_of_lt_mul h
  have l2 : N / 16 / 16 < 16777216 := Nat.div_lt_of_lt_mul l1
  have l3 : N / 16 / 16 / 16 < 1048576 := Nat.div_lt_of_lt_mul l2
  have l4 : N / 16 / 16 / 16 / 16 < 65536 := Nat.div_lt_of_lt_mul l3
  have l5 : N / 16 / 16 / 16 / 16 / 16 < 4096 := Nat.div_lt_of_lt_mul l4
  have l6 : N / 16 / 16 / 16 / 16 / 16 / 16 < 256 := Nat.div_lt_of_lt_mul l5
  have l7 : N / 16 / 16 / 16 / 16 / 16 / 16 / 16 < 16 := Nat.div_lt_of_lt_mul l6
  exact ⟨_, _, _, _, _, _, _, _, m N, m (N / 16), m (N / 16 / 16), m (N / 16 / 16 / 16), m (N / 16 / 16 / 16 / 16), m (N / 16 / 16 / 16 / 16 / 16), m (N / 16 / 16 / 16 / 16 / 16 / 16), l7, by simp only [Nat.mod_add_div]⟩
/-- a number's nibbles, read off -/
theorem nib_rd {d0 d1 d2 d3 d4 d5 d6 d7 : Nat} (h0 : d0 < 16) (h1 : d1 < 16) (h2 : d2 < 16) (h3 : d3 < 16) (h4 : d4 < 16) (h5 : d5 < 16) (h6 : d6 < 16) (h7 : d7 < 16) {N : Nat} (e : N = d0 + 16 * (d1 + 16 * (d2 + 16 * (d3 + 16 * (d4 + 16 * (d5 + 16 * (d6 + 16 * d7))))))) : N / 2 ^ 0 % 16 = d0 ∧ N / 2 ^ 4 % 16 = d1 ∧ N / 2 ^ 8 % 16 = d2 ∧ N / 2 ^ 12 % 16 = d3 ∧ N / 2 ^ 16 % 16 = d4 ∧ N / 2 ^ 20 % 16 = d5 ∧ N / 2 ^ 24 % 16 = d6 ∧ N / 2 ^ 28 % 16 = d7 := by
  have k : ∀ a : Nat, N / 2 ^ (a + 4) = N / 2 ^ a / 16 := fun a => by rw [Nat.pow_add, Nat.div_div_eq_div_mul]
  have f0 : N / 2 ^ 0 = d0 + 16 * (d1 + 16 * (d2 + 16 * (d3 + 16 * (d4 + 16 * (d5 + 16 * (d6 + 16 * d7)))))) := by rw [Nat.pow_zero, Nat.div_one]; exact e
  have f1 : N / 2 ^ 4 = d1 + 16 * (d2 + 16 * (d3 + 16 * (d4 + 16 * (d5 + 16 * (d6 + 16 * d7))))) := by rw [k 0, f0]; exact (d16 h0).1
  have f2 : N / 2 ^ 8 = d2 + 16 * (d3 + 16 * (d4 + 16 * (d5 + 16 * (d6 + 16 * d7)))) := by rw [k 4, f1]; exact (d16 h1).1
  have f3 : N / 2 ^ 12 = d3 + 16 * (d4 + 16 * (d5 + 16 * (d6 + 16 * d7))) := by rw [k 8, f2]; exact (d16 h2).1
  have f4 : N / 2 ^ 16 = d4 + 16 * (d5 + 16 * (d6 + 16 * d7)) := by rw [k 12, f3]; exact (d16 h3).1
  have f5 : N / 2 ^ 20 = d5 + 16 * (d6 + 16 * d7) := by rw [k 16, f4]; exact (d16 h4).1
  have f6 : N / 2 ^ 24 = d6 + 16 * d7 := by rw [k 20, f5]; exact (d16 h5).1
  have f7 : N / 2 ^ 28 = d7 := by rw [k 24, f6]; exact (d16 h6).1
  rw [f0, f1, f2, f3, f4, f5, f6, f7]
  exact ⟨(d16 h0).2, (d16 h1).2, (d16 h2).2, (d16 h3).2, (d16 h4).2, (d16 h5).2, (d16 h6).2, Nat.mod_eq_of_lt h7⟩
theorem v1_zero {V : Nat} (hV : V < 2 ^ 32) (hA : (V &&& 858993459) = 0) (hB : (V / 4 &&& 858993459) = 0) : V = 0 := by
  apply Nat.eq_of_testBit_eq
  intro j
  rw [Nat.zero_testBit]
  by_cases hj : j < 32
  · have m1 : ∀ j, j < 32 → (858993459 : Nat).testBit j = true ∨ (2 ≤ j ∧ (858993459 : Nat).testBit (j - 2) = true) := by decide
    rcases m1 j hj with h | ⟨h2, h⟩
    · have := congrArg (fun x => Nat.testBit x j) hA
      rw [Nat.testBit_and, h, Bool.and_true, Nat.zero_testBit] at this
      exact this
    · have := congrArg (fun x => Nat.testBit x (j - 2)) hB
      rw [Nat.testBit_and, h, Bool.and_true, Nat.zero_testBit, show (4 : Nat) = 2 ^ 2 from rfl, Nat.testBit_div_two_pow, Nat.sub_add_cancel h2] at this
      exact this
  · exact Nat.testBit_lt_two_pow (Nat.lt_of_lt_of_le hV (Nat.pow_le_pow_right (by decide) (by omega)))
theorem nib_3 {V A : Nat} (hA : A = (V &&& 858993459)) : ∃ a0 a1 a2 a3 a4 a5 a6 a7 : Nat, a0 < 4 ∧ a1 < 4 ∧ a2 < 4 ∧ a3 < 4 ∧ a4 < 4 ∧ a5 < 4 ∧ a6 < 4 ∧ a7 < 4 ∧ A = a0 + 16 * (a1 + 16 * (a2 + 16 * (a3 + 16 * (a4 + 16 * (a5 + 16 * (a6 + 16 * a7)))))) := by
  have al : A < 4294967296 := Nat.lt_of_le_of_lt (hA ▸ Nat.and_le_right) (by decide)
  obtain ⟨d0, d1, d2, d3, d4, d5, d6, d7, h0, h1, h2, h3, h4, h5, h6, h7, e⟩ := nib8 A al
  obtain ⟨r0, r1, r2, r3, r4, r5, r6, r7⟩ := nib_rd h0 h1 h2 h3 h4 h5 h6 h7 e
  have ak : ∀ k, k < 8 → A / 2 ^ (4 * k) % 16 < 4 := fun k hk => by rw [hA, and_3 hk]; exact Nat.mod_lt _ (by decide)
  exact ⟨d0, d1, d2, d3, d4, d5, d6, d7, r0 ▸ ak 0 (by omega), r1 ▸ ak 1 (by omega), r2 ▸ ak 2 (by omega), r3 ▸ ak 3 (by omega), r4 ▸ ak 4 (by omega), r5 ▸ ak 5 (by omega), r6 ▸ ak 6 (by omega), r7 ▸ ak 7 (by omega), e⟩
theorem le6 {a b : Nat} (h : a < 4) (k : b < 4) : a + b ≤ 6 := by omega
theorem le12 {a b : Nat} (h : a ≤ 6) (k : b ≤ 6) : a + b ≤ 12 := by omega
theorem lt16 {a b : Nat} (h : a ≤ 6) (k : b ≤ 6) : a + b < 16 := by omega
theorem nib_s {n0 n1 n2 n3 n4 n5 n6 n7 V S W : Nat} (h : n0 ≤ 6 ∧ n1 ≤ 6 ∧ n2 ≤ 6 ∧ n3 ≤ 6 ∧ n4 ≤ 6 ∧ n5 ≤ 6 ∧ n6 ≤ 6 ∧ n7 ≤ 6) (e : V = n0 + 16 * (n1 + 16 * (n2 + 16 * (n3 + 16 * (n4 + 16 * (n5 + 16 * (n6 + 16 * n7))))))) (hS : S = V + V / 16) (hW : W = (S &&& 252645135)) : S < 2 ^ 32 ∧ W = (n0 + n1) + 256 * ((n2 + n3) + 256 * ((n4 + n5) + 256 * (n6 + n7))) := by
  have e16 : V / 16 = n1 + 16 * (n2 + 16 * (n3 + 16 * (n4 + 16 * (n5 + 16 * (n6 + 16 * n7))))) := by rw [e]; exact (d16 (Nat.lt_of_le_of_lt h.1 (by decide))).1
  have es : S = (n0 + n1) + 16 * ((n1 + n2) + 16 * ((n2 + n3) + 16 * ((n3 + n4) + 16 * ((n4 + n5) + 16 * ((n5 + n6) + 16 * ((n6 + n7) + 16 * n7)))))) := by
    rw [hS, e16, e]
    clear hS hW e e16 h
    omega
  have sl : S < 2 ^ 32 := by
    clear hS hW e e16
    omega
  refine ⟨sl, ?_⟩
  obtain ⟨g0, g1, g2, g3, g4, g5, g6, g7⟩ := h
  obtain ⟨r0, r1, r2, r3, r4, r5, r6, r7⟩ := nib_rd (lt16 g0 g1) (lt16 g1 g2) (lt16 g2 g3) (lt16 g3 g4) (lt16 g4 g5) (lt16 g5 g6) (lt16 g6 g7) (Nat.lt_of_le_of_lt g7 (by decide)) es
  have wl : W < 4294967296 := Nat.lt_of_le_of_lt (hW ▸ Nat.and_le_right) (by decide)
  obtain ⟨d0, d1, d2, d3, d4, d5, d6, d7, h0, h1, h2, h3, h4, h5, h6, h7, ew⟩ := nib8 W wl
  obtain ⟨w0, w1, w2, w3, w4, w5, w6, w7⟩ := nib_rd h0 h1 h2 h3 h4 h5 h6 h7 ew
  have c0 : d0 = n0 + n1 := by rw [← w0, ← r0, hW]; exact and_15 (by decide)
  have c2 : d2 = n2 + n3 := by rw [← w2, ← r2, hW]; exact and_15 (by decide)
  have c4 : d4 = n4 + n5 := by rw [← w4, ← r4, hW]; exact and_15 (by decide)
  have c6 : d6 = n6 + n7 := by rw [← w6, ← r6, hW]; exact and_15 (by decide)
  have c1 : d1 = 0 := by rw [← w1, hW]; exact and_n (by decide)
  have c3 : d3 = 0 := by rw [← w3, hW]; exact and_n (by decide)
  have c5 : d5 = 0 := by rw [← w5, hW]; exact and_n (by decide)
  have c7 : d7 = 0 := by rw [← w7, hW]; exact and_n (by decide)
  rw [ew, c0, c1, c2, c3, c4, c5, c6, c7]
  clear hS hW e e16 es sl r0 r1 r2 r3 r4 r5 r6 r7 wl w0 w1 w2 w3 w4 w5 w6 w7 ew
  omega
theorem d256 {n R : Nat} (h : n < 256) : (n + 256 * R) / 256 = R := by omega
theorem byt_s {m0 m1 m2 m3 W T U : Nat} (h : m0 ≤ 12 ∧ m1 ≤ 12 ∧ m2 ≤ 12 ∧ m3 ≤ 12) (e : W = m0 + 256 * (m1 + 256 * (m2 + 256 * m3))) (hT : T = W + W / 256) (hU : U = T + T / 65536) : T < 2 ^ 32 ∧ U < 2 ^ 32 ∧ U % 64 = m0 + m1 + m2 + m3 := by
  have e1 : W / 256 = m1 + 256 * (m2 + 256 * m3) := by rw [e]; exact d256 (by omega)
  have et : T = (m0 + m1) + 256 * ((m1 + m2) + 256 * ((m2 + m3) + 256 * m3)) := by
    rw [hT, e1, e]
    omega
  have e2 : T / 65536 = (m2 + m3) + 256 * m3 := by
    rw [show (65536 : Nat) = 256 * 256 from rfl, ← Nat.div_div_eq_div_mul, et, d256 (by omega), d256 (by omega)]
  have eu : U = (m0 + m1 + m2 + m3) + 64 * (4 * ((m1 + m2) + m3 + 256 * ((m2 + m3) + 256 * m3))) := by
    rw [hU, e2, et]
    omega
  refine ⟨?_, ?_, ?_⟩
  · rw [et]
    omega
  · rw [eu]
    omega
  · rw [eu, Nat.add_mul_mod_self_left, Nat.mod_eq_of_lt (by omega)]
theorem cnt_nat {X : Nat} (hX : X < 2 ^ 32) (h0 : 0 < X) : ∃ U, 0 < U % 64 ∧ U < 2 ^ 32 ∧ fJ6_bitCount_0f7a4 (nI X) = nI (U % 64) := by
  have y1 : (X / 2 &&& 1431655765) ≤ X / 2 := Nat.and_le_left
  obtain ⟨V1, hV1⟩ : ∃ V, V = X - (X / 2 &&& 1431655765) := ⟨_, rfl⟩
  have v1 : 0 < V1 ∧ V1 < 2 ^ 32 := by omega
  obtain ⟨A, hA⟩ : ∃ V, V = (V1 &&& 858993459) := ⟨_, rfl⟩
  obtain ⟨B, hB⟩ : ∃ V, V = (V1 / 4 &&& 858993459) := ⟨_, rfl⟩
  obtain ⟨V2, hV2⟩ : ∃ V, V = A + B := ⟨_, rfl⟩
  have v2 : 0 < V2 := by
    refine Nat.pos_of_ne_zero fun q => ?_
    have qa : A = 0 := by omega
    have qb : B = 0 := by omega
    have := v1_zero v1.2 (hA ▸ qa) (hB ▸ qb)
    omega
  have a1 : A ≤ 858993459 := by rw [hA]; exact Nat.and_le_right
  have b1 : B ≤ 858993459 := by rw [hB]; exact Nat.and_le_right
  obtain ⟨a0, a1', a2, a3, a4, a5, a6, a7, k0, k1, k2, k3, k4, k5, k6, k7, ea⟩ := nib_3 hA
  obtain ⟨b0, b1', b2, b3, b4, b5, b6, b7, l0, l1, l2, l3, l4, l5, l6, l7, eb⟩ := nib_3 hB
  have e2 : V2 = (a0 + b0) + 16 * ((a1' + b1') + 16 * ((a2 + b2) + 16 * ((a3 + b3) + 16 * ((a4 + b4) + 16 * ((a5 + b5) + 16 * ((a6 + b6) + 16 * (a7 + b7))))))) := by
    rw [hV2, ea, eb]
    clear hX h0 y1 hV1 v1 hA hB hV2 v2 a1 b1 ea eb
    omega
  obtain ⟨S, hS⟩ : ∃ V, V = V2 + V2 / 16 := ⟨_, rfl⟩
  obtain ⟨V3, hV3⟩ : ∃ V, V = (S &&& 252645135) := ⟨_, rfl⟩
  obtain ⟨sl, e3⟩ := nib_s ⟨le6 k0 l0, le6 k1 l1, le6 k2 l2, le6 k3 l3, le6 k4 l4, le6 k5 l5, le6 k6 l6, le6 k7 l7⟩ e2 hS hV3
  obtain ⟨T, hT⟩ : ∃ V, V = V3 + V3 / 256 := ⟨_, rfl⟩
  obtain ⟨U, hU⟩ : ∃ V, V = T + T / 65536 := ⟨_, rfl⟩
  obtain ⟨tl, ul, eu⟩ := byt_s ⟨le12 (le6 k0 l0) (le6 k1 l1), le12 (le6 k2 l2) (le6 k3 l3), le12 (le6 k4 l4) (le6 k5 l5), le12 (le6 k6 l6) (le6 k7 l7)⟩ e3 hT hU
  have w3 : V3 < 2 ^ 32 := Nat.lt_of_le_of_lt (hV3 ▸ Nat.and_le_right) (by decide)
  have w2 : V2 < 2 ^ 32 := by
    clear ea eb e2 e3 eu
    omega
  refine ⟨U, ?_, ul, ?_⟩
  · rw [eu]
    refine Nat.pos_of_ne_zero fun q => ?_
    have z : a0 = 0 ∧ b0 = 0 ∧ a1' = 0 ∧ b1' = 0 ∧ a2 = 0 ∧ b2 = 0 ∧ a3 = 0 ∧ b3 = 0 ∧ a4 = 0 ∧ b4 = 0 ∧ a5 = 0 ∧ b5 = 0 ∧ a6 = 0 ∧ b6 = 0 ∧ a7 = 0 ∧ b7 = 0 := by
      clear hX h0 y1 hV1 v1 hA hB hV2 v2 a1 b1 ea eb e2 e3 eu hS hV3 sl hT hU tl ul w3 w2
      omega
    obtain ⟨z0, z1, z2, z3, z4, z5, z6, z7, z8, z9, z10, z11, z12, z13, z14, z15⟩ := z
    rw [z0, z1, z2, z3, z4, z5, z6, z7, z8, z9, z10, z11, z12, z13, z14, z15] at e2
    rw [e2] at v2
    exact absurd v2 (by decide)
  · unfold fJ6_bitCount_0f7a4
    simp only [zlt]
    rw [m_shr (k := 1) hX 1 (by decide), show (1431655765 : Int32) = nI 1431655765 from rfl, m_and (Nat.lt_of_le_of_lt (Nat.div_le_self _ _) hX) (by decide), show (2 : Nat) ^ 1 = 2 from rfl, pk_sub (Nat.le_trans y1 (Nat.div_le_self _ _)), ← hV1]
    rw [m_shr (k := 2) v1.2 2 (by decide), show (858993459 : Int32) = nI 858993459 from rfl, m_and v1.2 (by decide), show (2 : Nat) ^ 2 = 4 from rfl, m_and (Nat.lt_of_le_of_lt (Nat.div_le_self _ _) v1.2) (by decide), ← hA, ← hB, nI_add, ← hV2]
    rw [m_shr (k := 4) w2 4 (by decide), show (2 : Nat) ^ 4 = 16 from rfl, nI_add, ← hS, show (252645135 : Int32) = nI 252645135 from rfl, m_and sl (by decide), ← hV3]
    rw [m_shr (k := 8) w3 8 (by decide), show (2 : Nat) ^ 8 = 256 from rfl, nI_add, ← hT]
    rw [m_shr (k := 16) tl 16 (by decide), show (2 : Nat) ^ 16 = 65536 from rfl, nI_add, ← hU]
    exact pk_andN ul 6 (by decide)
theorem cnt_pos {x : Int32} (h : x ≠ 0) : ∃ b, 0 < b ∧ b < 64 ∧ fJ6_bitCount_0f7a4 x = nI b := by
  obtain ⟨X, hX, rfl⟩ := i_nat x
  obtain ⟨U, h1, h2, h3⟩ := cnt_nat hX (Nat.pos_of_ne_zero fun q => h (by rw [q]; rfl))
  exact ⟨U % 64, h1, Nat.mod_lt _ (by decide), h3⟩
/-! the mean way -/
theorem mean_L {s τ : zkS} (hg : wG (τ.1 1)) (hl : lnk s (τ.1 1)) {x : Int32} (hx : bs x (rch (eW (τ.1 1)) (rW (τ.1 1)) (fun _ => False))) (hfar : ∀ c, c < 24 → (fX1_farOf (nI c) s = some (-5) ↔ bt x c = false)) {K7 : Int32 → Option (Int64 × zkS)} {K8 : Int64 → Option Int64} : ∀ m c a, c ≤ 24 → 24 - c < m → a ≤ 24 * c → ∃ a', a' ≤ 576 ∧ fX7_mean_L18 m s (nI a) (nI c) K7 = K7 (nI a') ∧ fX8_mean_L31 m τ x (lN a) (nI c) K8 = K8 (lN a') := by
  intro m
  induction m with
  | zero => intros; omega
  | succ m ih =>
    intro c a h1 h2 h3
    unfold fX7_mean_L18 fX8_mean_L31
    by_cases e : c = 24
    · subst e
      rw [if_pos (by decide), if_pos (by decide)]
      exact ⟨a, by omega, rfl, rfl⟩
    rw [if_neg (show ¬ (24 : Int32) ≤ nI c from nI_n24 (by omega)), if_neg (show ¬ (24 : Int32) ≤ nI c from nI_n24 (by omega))]
    obtain ⟨r, r7, r8, rr⟩ := far78 (c := c) hg hl (by omega)
    rw [r7, r8, zb1_s, bit8_eq _ (by omega), ite10]
    simp only [zlt, zb1_s]
    rw [nI_1]
    have hf := hfar c (by omega)
    rw [r7] at hf
    cases eb : bt x c with
    | false =>
      have er : r = -5 := Option.some.inj (hf.mpr eb)
      rw [er, if_pos (by decide), if_neg (by decide), show nI a + 0 = nI a from nI_add a 0, show lN a + 0 = lN a from lN_add a 0]
      exact ih (c + 1) a (by omega) (by omega) (by omega)
    | true =>
      have er : ¬ r = -5 := fun q => by
        have := hf.mp (congrArg some q)
        rw [eb] at this
        cases this
      obtain ⟨n, hn, rfl⟩ := rr.resolve_left er
      rw [if_neg (nI_nneg (by omega)), if_pos rfl, nI_add, nI_l (by omega), lN_add]
      exact ih (c + 1) (a + n) (by omega) (by omega) (by omega)
