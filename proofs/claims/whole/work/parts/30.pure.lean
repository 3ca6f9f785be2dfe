/-! ===== Int32 by its bits: bt x i ===== -/
def bt (x : Int32) (i : Nat) : Bool := x.toBitVec.getLsbD i
theorem b_ext {x y : Int32} (h : ∀ i, i < 32 → bt x i = bt y i) : x = y := Int32.toBitVec_inj.mp (BitVec.eq_of_getLsbD_eq (fun i hi => h i hi))
theorem b_or (x y : Int32) (i : Nat) : bt (x ||| y) i = (bt x i || bt y i) := by unfold bt; rw [Int32.toBitVec_or, BitVec.getLsbD_or]
theorem b_and (x y : Int32) (i : Nat) : bt (x &&& y) i = (bt x i && bt y i) := by unfold bt; rw [Int32.toBitVec_and, BitVec.getLsbD_and]
theorem b_xor (x y : Int32) (i : Nat) : bt (x ^^^ y) i = (bt x i ^^ bt y i) := by unfold bt; rw [Int32.toBitVec_xor, BitVec.getLsbD_xor]
theorem b_big {x : Int32} {i : Nat} (h : 32 ≤ i) : bt x i = false := BitVec.getLsbD_of_ge _ _ h
theorem b_255 (i : Nat) : bt 255 i = decide (i < 8) := by
  rcases Nat.lt_or_ge i 32 with h | h
  · exact (by decide +kernel : ∀ i, i < 32 → bt 255 i = decide (i < 8)) i h
  · rw [b_big h, decide_eq_false (by omega)]
theorem b_65535 (i : Nat) : bt 65535 i = decide (i < 16) := by
  rcases Nat.lt_or_ge i 32 with h | h
  · exact (by decide +kernel : ∀ i, i < 32 → bt 65535 i = decide (i < 16)) i h
  · rw [b_big h, decide_eq_false (by omega)]
theorem b_m1 : ∀ i, i < 32 → bt (-1) i = true := by decide +kernel
theorem b_0 (i : Nat) : bt 0 i = false := BitVec.getLsbD_zero
theorem s_l : ∀ n, n < 32 → ((nI n &&& 31).toBitVec.smod 32).toNat = n := by decide +kernel
theorem s_u : ∀ n, n < 32 → (((nI n).toUInt32 &&& Int32.toUInt32 31).toBitVec % 32).toNat = n := by decide +kernel
theorem b_shl (n : Nat) (hn : n < 32) (x : Int32) {i : Nat} (hi : i < 32) : bt (x <<< (nI n &&& 31)) i = (decide (n ≤ i) && bt x (i - n)) := by
  unfold bt
  rw [Int32.toBitVec_shiftLeft]
  show (x.toBitVec <<< ((nI n &&& 31).toBitVec.smod 32).toNat).getLsbD i = _
  rw [s_l n hn, BitVec.getLsbD_shiftLeft]
  rcases Nat.lt_or_ge i n with h | h
  · simp [h, Nat.not_le.mpr h]
  · simp [hi, h, Nat.not_lt.mpr h]
theorem b_ushr (n : Nat) (hn : n < 32) (x : Int32) (i : Nat) : bt ((x.toUInt32 >>> ((nI n).toUInt32 &&& Int32.toUInt32 31)).toInt32) i = bt x (n + i) := by
  show (x.toUInt32 >>> ((nI n).toUInt32 &&& Int32.toUInt32 31)).toBitVec.getLsbD i = x.toUInt32.toBitVec.getLsbD (n + i)
  rw [UInt32.toBitVec_shiftRight]
  show (x.toUInt32.toBitVec >>> (((nI n).toUInt32 &&& Int32.toUInt32 31).toBitVec % 32).toNat).getLsbD i = _
  rw [s_u n hn, BitVec.getLsbD_ushiftRight]
theorem b_sshr (n : Nat) (hn : n < 32) (x : Int32) {i : Nat} (hi : i < 32) : bt (x >>> (nI n &&& 31)) i = if n + i < 32 then bt x (n + i) else bt x 31 := by
  unfold bt
  rw [Int32.toBitVec_shiftRight]
  show (x.toBitVec.sshiftRight ((nI n &&& 31).toBitVec.smod 32).toNat).getLsbD i = _
  rw [s_l n hn, BitVec.getLsbD_sshiftRight, BitVec.msb_eq_getLsbD_last]
  simp [hi]
/-! ===== plain facts: bits, ranges ===== -/
theorem bt_1 (i : Nat) : bt 1 i = decide (i = 0) := by
  rcases Nat.lt_or_ge i 32 with h | h
  · exact (by decide +kernel : ∀ i, i < 32 → bt 1 i = decide (i = 0)) i h
  · rw [b_big h, decide_eq_false (by omega)]
theorem bt_and1 (x : Int32) : (x &&& 1) = if bt x 0 then 1 else 0 := by
  apply b_ext
  intro i hi
  rw [b_and, bt_1]
  by_cases h0 : i = 0
  · subst h0
    cases bt x 0 <;> decide
  · rw [decide_eq_false h0, Bool.and_false]
    cases bt x 0
    · rw [if_neg (by decide), b_0]
    · rw [if_pos rfl, bt_1, decide_eq_false h0]
theorem bt_sh (s : Int32) {c : Nat} (h : c < 32) : ((s >>> (nI c &&& 31)) &&& 1) = if bt s c then 1 else 0 := by
  rw [bt_and1, b_sshr c h s (by decide), Nat.add_zero, if_pos h]
theorem bt_one {c : Nat} (hc : c < 32) (i : Nat) : bt (1 <<< (nI c &&& 31)) i = decide (i = c) := by
  rcases Nat.lt_or_ge i 32 with h | h
  · rw [b_shl c hc 1 h, bt_1]
    by_cases e : i = c
    · subst e
      simp
    · rw [decide_eq_false e]
      rcases Nat.lt_or_ge i c with g | g
      · rw [decide_eq_false (by omega), Bool.false_and]
      · rw [decide_eq_false (show ¬ i - c = 0 by omega), Bool.and_false]
  · rw [b_big h, decide_eq_false (by omega)]
theorem bt_not (x : Int32) {i : Nat} (h : i < 32) : bt (x ^^^ (-1)) i = !bt x i := by
  rw [b_xor, b_m1 i h]
  cases bt x i <;> rfl
theorem bt_zero {x : Int32} (h : ∀ i, i < 32 → bt x i = false) : x = 0 := b_ext fun i hi => by rw [h i hi, b_0]
theorem ite01 {α : Type} {P : Prop} {i : Decidable P} (A B : α) : (if (if P then (0 : Int32) else 1) = 0 then A else B) = if P then A else B := by
  by_cases h : P
  · rw [if_pos h, if_pos rfl, if_pos h]
  · rw [if_neg h, if_neg (by decide), if_neg h]
theorem ite10 {α : Type} {P : Prop} {i : Decidable P} (A B : α) : (if (if P then (1 : Int32) else 0) = 0 then A else B) = if P then B else A := by
  by_cases h : P
  · rw [if_pos h, if_neg (by decide), if_pos h]
  · rw [if_neg h, if_pos rfl, if_neg h]
theorem ite11 {α : Type} {P : Prop} {i : Decidable P} (A B : α) : (if (if P then (1 : Int32) else 0) = 1 then A else B) = if P then A else B := by
  by_cases h : P
  · rw [if_pos h, if_pos rfl, if_pos h]
  · rw [if_neg h, if_neg (by decide), if_neg h]
/-- the first of n cells, and it is so: is the number a cell's that is among the bits? -/
def hasN (s p : Int32) : Bool := decide (¬ p < 0) && (decide (¬ 24 ≤ p) && bt s p.toNatClampNeg)
theorem ix24 (p : Int32) : p < 0 ∨ 24 ≤ p ∨ ∃ c, c < 24 ∧ p = nI c := pk_ix p (n := 24) (by decide)
theorem nI_nneg {c : Nat} (h : c < 2 ^ 31) : ¬ nI c < 0 := nI_pos h
theorem nI_n24 {c : Nat} (h : c < 24) : ¬ (24 : Int32) ≤ nI c := nI_ge h (by decide)
theorem hasN_nI {s : Int32} {c : Nat} (h : c < 24) : hasN s (nI c) = bt s c := by
  unfold hasN
  rw [decide_eq_true (nI_nneg (by omega)), decide_eq_true (nI_n24 h), Bool.true_and, Bool.true_and, nI_clamp (by omega)]
theorem hasN_lt {s p : Int32} (h : p < 0) : hasN s p = false := by
  unfold hasN
  rw [decide_eq_false (fun q => q h), Bool.false_and]
theorem hasN_ge {s p : Int32} (h : 24 ≤ p) : hasN s p = false := by
  unfold hasN
  rw [decide_eq_false (p := ¬ 24 ≤ p) (fun q => q h), Bool.false_and, Bool.and_false]
theorem hasN_of {s p : Int32} (h : hasN s p = true) : ∃ c, c < 24 ∧ p = nI c ∧ bt s c = true := by
  rcases ix24 p with q | q | ⟨c, hc, rfl⟩
  · rw [hasN_lt q] at h
    cases h
  · rw [hasN_ge q] at h
    cases h
  · exact ⟨c, hc, rfl, by rw [hasN_nI hc] at h; exact h⟩
theorem has_eq (s p : Int32) : fX7_has s p = if hasN s p then 1 else 0 := by
  unfold fX7_has
  rcases ix24 p with q | q | ⟨c, hc, rfl⟩
  · rw [if_pos q, hasN_lt q]
    rfl
  · rw [hasN_ge q]
    by_cases h : p < 0
    · rw [if_pos h]
      rfl
    · rw [if_neg h, if_pos q]
      rfl
  · rw [if_neg (nI_nneg (by omega)), if_neg (nI_n24 hc), bt_sh s (by omega), hasN_nI hc]
    cases bt s c <;> rfl
theorem bit_nI {c : Nat} (h : c < 24) : fX7_bit (nI c) = 1 <<< (nI c &&& 31) := by
  unfold fX7_bit
  rw [if_neg (nI_nneg (by omega)), if_neg (nI_n24 h)]
theorem bit_lt {p : Int32} (h : p < 0) : fX7_bit p = 0 := by
  unfold fX7_bit
  rw [if_pos h]
theorem bit_ge {p : Int32} (h : 24 ≤ p) : fX7_bit p = 0 := by
  unfold fX7_bit
  by_cases q : p < 0
  · rw [if_pos q]
  · rw [if_neg q, if_pos h]
theorem bit_bt {c : Nat} (h : c < 24) (i : Nat) : bt (fX7_bit (nI c)) i = decide (i = c) := by
  rw [bit_nI h]
  exact bt_one (by omega) i
theorem bit8_eq (s : Int32) {c : Nat} (h : c < 32) : fX8_bit s (nI c) = if bt s c then 1 else 0 := by
  unfold fX8_bit
  rw [bt_sh s h]
  cases bt s c <;> rfl
/-! ranges of the model -/
theorem cmp_lt (x y : Int64) : lg_cmp x y < 0 ↔ x < y := by
  unfold lg_cmp
  by_cases h : y < x
  · rw [if_pos h]
    refine ⟨fun q => absurd q (by decide), fun q => ?_⟩
    rw [Int64.lt_iff_toInt_lt] at h q
    omega
  · rw [if_neg h]
    by_cases e : x = y
    · rw [if_pos e]
      refine ⟨fun q => absurd q (by decide), fun q => ?_⟩
      subst e
      exact absurd q h
    · rw [if_neg e]
      refine ⟨fun _ => ?_, fun _ => by decide⟩
      rw [Int64.lt_iff_toInt_lt] at h ⊢
      have : ¬ x.toInt = y.toInt := fun q => e (Int64.toInt_inj.mp q)
      omega
theorem cmp_gt (x y : Int64) : 0 < lg_cmp x y ↔ y < x := by
  unfold lg_cmp
  by_cases h : y < x
  · rw [if_pos h]
    exact ⟨fun _ => h, fun _ => by decide⟩
  · rw [if_neg h]
    by_cases e : x = y
    · rw [if_pos e]
      exact ⟨fun q => absurd q (by decide), fun q => absurd q h⟩
    · rw [if_neg e]
      exact ⟨fun q => absurd q (by decide), fun q => absurd q h⟩
theorem in_eq (x a b : Int32) : fX8_in x.toInt64 a.toInt64 b.toInt64 = if x < a ∨ b < x then 0 else 1 := by
  unfold fX8_in
  have h1 : x.toInt64 < a.toInt64 ↔ x < a := by rw [Int64.lt_iff_toInt_lt, Int32.lt_iff_toInt_lt, Int32.toInt_toInt64, Int32.toInt_toInt64]
  have h2 : b.toInt64 < x.toInt64 ↔ b < x := by rw [Int64.lt_iff_toInt_lt, Int32.lt_iff_toInt_lt, Int32.toInt_toInt64, Int32.toInt_toInt64]
  by_cases h : x < a
  · rw [if_pos ((cmp_lt _ _).mpr (h1.mpr h)), if_pos (Or.inl h)]
  · rw [if_neg (fun q => h (h1.mp ((cmp_lt _ _).mp q)))]
    by_cases g : b < x
    · rw [if_pos ((cmp_gt _ _).mpr (h2.mpr g)), if_pos (Or.inr g)]
    · rw [if_neg (fun q => g (h2.mp ((cmp_gt _ _).mp q))), if_neg (fun q => q.elim h g)]
/-- 0 .. n, by a number's literal -/
theorem in_0 (x : Int32) {b : Int64} (n : Nat) (hb : b = (nI n).toInt64) : fX8_in x.toInt64 0 b = if x < 0 ∨ nI n < x then 0 else 1 := by
  subst hb
  exact in_eq x 0 (nI n)
/-! arrays -/
theorem rd_nI {β : Type} {σ : zkS} {a n i : Nat} {F : Int32 → Option β} (h : i < n) (hn : n < 2 ^ 31) : zrd σ a n (nI i) F = F (σ.1 a i) := by
  unfold zrd
  rw [if_neg (nI_in h hn), nI_clamp (by omega)]
theorem wr_nI {β : Type} {σ : zkS} {a n i : Nat} {v : Int32} {F : zkS → Option β} (h : i < n) (hn : n < 2 ^ 31) : zwr σ a n (nI i) v F = F (zsi σ a i v) := by
  unfold zwr
  rw [if_neg (nI_in h hn), nI_clamp (by omega)]
theorem rdL_nI {β : Type} {σ : zkS} {n i : Nat} {F : Int64 → Option β} (h : i < n) (hn : n < 2 ^ 31) : zrdL σ n (nI i) F = F (σ.2 i) := by
  unfold zrdL
  rw [if_neg (nI_in h hn), nI_clamp (by omega)]
theorem wrL_nI {β : Type} {σ : zkS} {n i : Nat} {v : Int64} {F : zkS → Option β} (h : i < n) (hn : n < 2 ^ 31) : zwrL σ n (nI i) v F = F (zsl σ i v) := by
  unfold zwrL
  rw [if_neg (nI_in h hn), nI_clamp (by omega)]
theorem zb1_s {α β : Type} (x : α) (F : α → Option β) : zb1 (some x) F = F x := rfl
theorem zb2_s {α β : Type} (x : α) (s : zkS) (F : α → zkS → Option β) : zb2 (some (x, s)) F = F x s := rfl
theorem si_eq (σ : zkS) (a k : Nat) (v : Int32) : (zsi σ a k v).1 a k = v := by
  show (if a = a ∧ k = k then v else _) = v
  rw [if_pos ⟨rfl, rfl⟩]
theorem si_ne (σ : zkS) {a k a' k' : Nat} (v : Int32) (h : a' ≠ a ∨ k' ≠ k) : (zsi σ a k v).1 a' k' = σ.1 a' k' := by
  show (if a' = a ∧ k' = k then v else _) = _
  rw [if_neg (fun q => h.elim (fun g => g q.1) (fun g => g q.2))]
theorem si_if (σ : zkS) (a k : Nat) (v : Int32) (a' k' : Nat) : (zsi σ a k v).1 a' k' = if a' = a ∧ k' = k then v else σ.1 a' k' := rfl
theorem si_2 (σ : zkS) (a k : Nat) (v : Int32) : (zsi σ a k v).2 = σ.2 := rfl
theorem sl_1 (σ : zkS) (k : Nat) (v : Int64) : (zsl σ k v).1 = σ.1 := rfl
/-! is it there? -/
theorem there8 {τ : zkS} (p : Int32) : fX8_isThere p τ = some (if hasN (τ.1 1 1) p then 1 else 0) := by
  unfold fX8_isThere
  rw [in_0 (b := 23) p 23 (by decide), ite01]
  rcases ix24 p with q | q | ⟨c, hc, rfl⟩
  · rw [if_pos (Or.inl q), hasN_lt q]
    rfl
  · rw [if_pos (Or.inr (by
      rw [Int32.lt_iff_toInt_lt]
      rw [Int32.le_iff_toInt_le] at q
      have e : (nI 23).toInt = 23 := by decide
      have e2 : (24 : Int32).toInt = 24 := by decide
      omega)), hasN_ge q]
    rfl
  · rw [if_neg (fun q => q.elim (nI_nneg (by omega)) (nI_nlt (by omega) (by decide)))]
    show zrd τ 1 346 (nI 1) _ = _
    rw [rd_nI (by decide) (by decide), bit8_eq _ (by omega), hasN_nI hc, ite10]
    cases bt (τ.1 1 1) c <;> rfl
theorem there7 {σ : zkS} (b : Nat) (p : Int32) : fX0_isThere b p σ = if hasN (σ.1 b 1) p then 1 else 0 := by
  unfold fX0_isThere
  exact has_eq _ _
