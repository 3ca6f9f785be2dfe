/-! ===== sets of cells as bits ===== -/
theorem first_mask : ∀ k, k < 32 → fJ6_bitCount_0f7a4 ((1 <<< (nI k &&& 31)) - 1) = nI k := by decide +kernel
theorem b_neg (x : Int32) {i : Nat} (hi : i < 32) : bt (-x) i = (bt x i ^^ decide (∃ j, j < i ∧ bt x j = true)) := by
  unfold bt
  rw [Int32.toBitVec_neg, BitVec.getLsbD_neg, decide_eq_true hi, Bool.true_and]
/-- the least bit -/
theorem least_bit {x : Int32} (h : x ≠ 0) : ∃ k, k < 32 ∧ bt x k = true ∧ ∀ j, j < k → bt x j = false := by
  have h1 : ∃ k, k < 32 ∧ bt x k = true := Classical.byContradiction fun q => h (bt_zero fun i hi => by
    cases e : bt x i with
    | false => rfl
    | true => exact absurd ⟨i, hi, e⟩ q)
  have h2 : ∀ n, (∃ k, k < n ∧ bt x k = true) → ∃ k, k < n ∧ bt x k = true ∧ ∀ j, j < k → bt x j = false := by
    intro n
    induction n with
    | zero => intro ⟨k, hk, _⟩; omega
    | succ n ih =>
      intro ⟨k, hk, hb⟩
      by_cases q : ∃ k, k < n ∧ bt x k = true
      · obtain ⟨k', a, b, c⟩ := ih q
        exact ⟨k', by omega, b, c⟩
      · have ek : k = n := Classical.byContradiction fun g => q ⟨k, by omega, hb⟩
        subst ek
        refine ⟨k, by omega, hb, fun j hj => ?_⟩
        cases e : bt x j with
        | false => rfl
        | true => exact absurd ⟨j, hj, e⟩ q
  exact h2 32 h1
theorem first_of {x : Int32} (h : x ≠ 0) : ∃ k, k < 32 ∧ bt x k = true ∧ (∀ j, j < k → bt x j = false) ∧ fX7_firstOf x = nI k := by
  obtain ⟨k, hk, hb, hl⟩ := least_bit h
  refine ⟨k, hk, hb, hl, ?_⟩
  unfold fX7_firstOf
  have e : (x &&& -x) = 1 <<< (nI k &&& 31) := by
    apply b_ext
    intro i hi
    rw [b_and, b_neg x hi, bt_one hk]
    by_cases e : i = k
    · subst e
      rw [hb, decide_eq_false (fun q => by obtain ⟨j, q1, q2⟩ := q; rw [hl j q1] at q2; cases q2), decide_eq_true rfl]
      rfl
    · rw [decide_eq_false e]
      rcases Nat.lt_or_ge i k with g | g
      · rw [hl i g, Bool.false_and]
      · rw [decide_eq_true (p := ∃ j, j < i ∧ bt x j = true) ⟨k, by omega, hb⟩]
        cases bt x i <;> rfl
  rw [e, first_mask k hk]
/-- how many of the first n -/
def cn (p : Nat → Bool) : Nat → Nat
  | 0 => 0
  | n + 1 => cn p n + (if p n then 1 else 0)
theorem cn_le (p : Nat → Bool) : ∀ n, cn p n ≤ n
  | 0 => Nat.le_refl _
  | n + 1 => by
    have := cn_le p n
    unfold cn
    split <;> omega
theorem cn_all {p : Nat → Bool} : ∀ {n : Nat}, n ≤ cn p n → ∀ k, k < n → p k = true
  | 0, _, k, hk => by omega
  | n + 1, h, k, hk => by
    have h1 := cn_le p n
    unfold cn at h
    by_cases e : p n = true
    · rw [if_pos e] at h
      by_cases ek : k = n
      · rw [ek]; exact e
      · exact cn_all (n := n) (by omega) k (by omega)
    · rw [if_neg e] at h
      omega
theorem cn_up {p q : Nat → Bool} {i : Nat} (hp : p i = false) (hq : q i = true) : ∀ {n : Nat}, (∀ k, k < n → k ≠ i → q k = p k) → cn q n = cn p n + (if i < n then 1 else 0)
  | 0, _ => rfl
  | n + 1, h => by
    have ih := cn_up hp hq (n := n) (fun k hk hki => h k (by omega) hki)
    unfold cn
    rw [ih]
    by_cases e : n = i
    · subst e
      rw [hp, hq, if_neg (Nat.lt_irrefl _), if_pos rfl, if_neg (by decide), if_pos (Nat.lt_succ_self _)]
    · rw [h n (by omega) e]
      by_cases g : i < n
      · rw [if_pos g, if_pos (show i < n + 1 by omega)]
        omega
      · rw [if_neg g, if_neg (show ¬ i < n + 1 by omega), Nat.add_zero, Nat.add_zero]
/-- what is reached from F along E, without the barred -/
def rch (E : Nat → Nat → Prop) (F b : Nat → Prop) (i : Nat) : Prop := ∀ P : Nat → Prop, (∀ i, F i → ¬ b i → P i) → (∀ i j, P i → E i j → ¬ b j → P j) → P i
theorem rch_base {E : Nat → Nat → Prop} {F b : Nat → Prop} {i : Nat} (h : F i) (n : ¬ b i) : rch E F b i := fun _ h1 _ => h1 i h n
theorem rch_step {E : Nat → Nat → Prop} {F b : Nat → Prop} {i j : Nat} (h : rch E F b i) (e : E i j) (n : ¬ b j) : rch E F b j := fun P h1 h2 => h2 i j (h P h1 h2) e n
theorem rch_min {E : Nat → Nat → Prop} {F b P : Nat → Prop} (h1 : ∀ i, F i → ¬ b i → P i) (h2 : ∀ i j, P i → E i j → ¬ b j → P j) {i : Nat} (h : rch E F b i) : P i := h P h1 h2
/-- bits for the cells of a set -/
def bs (x : Int32) (P : Nat → Prop) : Prop := ∀ i, i < 32 → (bt x i = true ↔ P i)
theorem bs_u {x y : Int32} {P : Nat → Prop} (hx : bs x P) (hy : bs y P) : x = y := b_ext fun i hi => by
  have h1 := (hx i hi).trans (hy i hi).symm
  cases e : bt x i with
  | false =>
    cases e2 : bt y i with
    | false => rfl
    | true => rw [h1.mpr e2] at e; cases e
  | true => exact (h1.mp e).symm
/-- the class's way: links by cell at 43, the roots' cells at 42 -/
theorem spread_L {σ : zkS} {E : Nat → Nat → Prop} {F B : Nat → Prop} {bar : Int32} (hE : ∀ i j, E i j → i < 24 ∧ j < 24) (hb : bs bar B) (h43 : ∀ c, c < 24 → bs (σ.1 43 c) (fun j => E c j)) :
    ∀ m n (x3 x4 : Int32), n ≤ 24 → 24 - n < m → (∀ i, i < 32 → bt x3 i = true → i < 24 ∧ rch E F B i) → (∀ i, F i → ¬ B i → i < 24 ∧ bt x3 i = true) → (∀ i, i < 32 → bt x4 i = true → bt x3 i = true) → (∀ i j, bt x3 i = true → bt x4 i = false → E i j → ¬ B j → bt x3 j = true) → cn (fun i => bt x3 i && !bt x4 i) 24 = n →
    ∃ x, fX1_spread_L12 m σ bar x3 x4 (nI n) (fun x13 => some x13) = some x ∧ bs x (rch E F B) := by
  intro m
  induction m with
  | zero => intros; omega
  | succ m ih =>
    intro n x3 x4 hn hm h1 h2 h3 h4 h5
    unfold fX1_spread_L12
    have fin : x4 = 0 → bs x3 (rch E F B) := fun e i hi => by
      refine ⟨fun q => (h1 i hi q).2, fun q => ?_⟩
      refine rch_min (P := fun i => bt x3 i = true) (fun i f nb => (h2 i f nb).2) (fun i j p e' nb => h4 i j p ?_ e' nb) q
      rw [e, b_0]
    by_cases e24 : n = 24
    · subst e24
      rw [if_pos (by decide)]
      refine ⟨x3, rfl, fin ?_⟩
      have all := cn_all (n := 24) (Nat.le_of_eq h5.symm)
      refine bt_zero fun i hi => ?_
      cases e : bt x4 i with
      | false => rfl
      | true =>
        have q := (h1 i hi (h3 i hi e)).1
        have := all i q
        rw [e, Bool.not_true, Bool.and_false] at this
        cases this
    rw [if_neg (show ¬ (24 : Int32) ≤ nI n from nI_n24 (by omega))]
    by_cases e0 : x4 = 0
    · rw [if_pos e0]
      exact ⟨x3, rfl, fin e0⟩
    rw [if_neg e0]
    obtain ⟨k, hk, hkb, -, ef⟩ := first_of e0
    obtain ⟨k24, kr⟩ := h1 k hk (h3 k hk hkb)
    simp only [zlt, jn, ef]
    rw [if_neg (fun q => by have := bit_bt k24 k; rw [q, b_0] at this; simp at this), rd24 k24, nI_1]
    -- the next round
    have v8 : ∀ i, i < 32 → bt (((σ.1 43 k) &&& (x3 ^^^ (-1))) &&& (bar ^^^ (-1))) i = (bt (σ.1 43 k) i && !bt x3 i && !bt bar i) := fun i hi => by
      rw [b_and, b_and, bt_not _ hi, bt_not _ hi]
    have v5 : ∀ i, i < 32 → bt (x4 &&& ((fX7_bit (nI k)) ^^^ (-1))) i = (bt x4 i && !decide (i = k)) := fun i hi => by
      rw [b_and, bt_not _ hi, bit_bt k24]
    have nB : ∀ i, i < 32 → (bt bar i = false ↔ ¬ B i) := fun i hi => by
      have := hb i hi
      cases e : bt bar i with
      | false => exact ⟨fun _ q => absurd ((this.mpr q).symm.trans e) (by decide), fun _ => rfl⟩
      | true => exact ⟨fun q => absurd q (by decide), fun q => absurd (this.mp e) q⟩
    refine ih (n + 1) _ _ (by omega) (by omega) (fun i hi hx => ?_) (fun i f nb => ?_) (fun i hi hx => ?_) (fun i j p q e' nb => ?_) ?_
    · rw [b_or, Bool.or_eq_true] at hx
      rcases hx with hx | hx
      · exact h1 i hi hx
      · rw [v8 i hi, Bool.and_eq_true, Bool.and_eq_true, Bool.not_eq_true', Bool.not_eq_true'] at hx
        have ee := (h43 k k24 i hi).mp hx.1.1
        exact ⟨(hE k i ee).2, rch_step kr ee ((nB i hi).mp hx.2)⟩
    · obtain ⟨a, b⟩ := h2 i f nb
      exact ⟨a, by rw [b_or, b, Bool.true_or]⟩
    · rw [b_or, v5 i hi, Bool.or_eq_true, Bool.and_eq_true] at hx
      rw [b_or, Bool.or_eq_true]
      rcases hx with hx | hx
      · exact Or.inl (h3 i hi hx.1)
      · exact Or.inr hx
    · obtain ⟨i24, j24⟩ := hE i j e'
      rw [b_or, v5 i (by omega), Bool.or_eq_false_iff] at q
      rw [b_or, Bool.or_eq_true] at p ⊢
      rcases p with p | p
      · by_cases eik : i = k
        · subst eik
          cases ex : bt x3 j with
          | true => exact Or.inl rfl
          | false =>
            right
            rw [v8 j (by omega), (h43 i k24 j (by omega)).mpr e', ex, (nB j (by omega)).mpr nb]
            rfl
        · left
          have q1 := q.1
          rw [decide_eq_false eik, Bool.not_false, Bool.and_true] at q1
          exact h4 i j p q1 e' nb
      · rw [p] at q
        exact absurd q.2 (by decide)
    · have := cn_up (p := fun i => bt x3 i && !bt x4 i) (q := fun i => bt (x3 ||| (((σ.1 43 k) &&& (x3 ^^^ (-1))) &&& (bar ^^^ (-1)))) i && !bt ((x4 &&& ((fX7_bit (nI k)) ^^^ (-1))) ||| (((σ.1 43 k) &&& (x3 ^^^ (-1))) &&& (bar ^^^ (-1)))) i) (i := k) (by rw [hkb, Bool.not_true, Bool.and_false]) ?_ (n := 24) (fun i hi hik => ?_)
      · rw [this, h5, if_pos k24]
      · rw [b_or, b_or, h3 k hk hkb, v5 k hk, v8 k hk, h3 k hk hkb, decide_eq_true rfl]
        cases bt x4 k <;> simp
      · rw [b_or, b_or, v5 i (by omega), v8 i (by omega), decide_eq_false hik]
        cases bt x3 i <;> cases bt x4 i <;> cases bt (σ.1 43 k) i <;> cases bt bar i <;> rfl
theorem cn_0 {p : Nat → Bool} : ∀ {n : Nat}, (∀ k, k < n → p k = false) → cn p n = 0
  | 0, _ => rfl
  | n + 1, h => by
    unfold cn
    rw [cn_0 (fun k hk => h k (by omega)), h n (by omega)]
    rfl
theorem spread7 {σ : zkS} {E : Nat → Nat → Prop} {F B : Nat → Prop} {f bar : Int32} (hE : ∀ i j, E i j → i < 24 ∧ j < 24) (hF : ∀ i, F i → i < 24) (hf : bs f F) (hb : bs bar B) (h43 : ∀ c, c < 24 → bs (σ.1 43 c) (fun j => E c j)) : ∃ x, fX1_spread f bar σ = some x ∧ bs x (rch E F B) := by
  unfold fX1_spread
  simp only [zlt]
  have hx : ∀ i, i < 32 → (bt (f &&& (bar ^^^ (-1))) i = true ↔ F i ∧ ¬ B i) := fun i hi => by
    rw [b_and, bt_not _ hi, Bool.and_eq_true, Bool.not_eq_true']
    refine ⟨fun q => ⟨(hf i hi).mp q.1, fun q2 => ?_⟩, fun q => ⟨(hf i hi).mpr q.1, ?_⟩⟩
    · rw [(hb i hi).mpr q2] at q
      exact absurd q.2 (by decide)
    · cases e : bt bar i with
      | false => rfl
      | true => exact absurd ((hb i hi).mp e) q.2
  refine spread_L hE hb h43 zFU 0 _ _ (by omega) (by unfold zFU; omega) (fun i hi q => ?_) (fun i q nb => ?_) (fun i _ q => q) (fun i j p q => ?_) (cn_0 fun k _ => ?_)
  · obtain ⟨q1, q2⟩ := (hx i hi).mp q
    exact ⟨hF i q1, rch_base q1 q2⟩
  · have := hF i q
    exact ⟨this, (hx i (by omega)).mpr ⟨q, nb⟩⟩
  · rw [p] at q
    cases q
  · cases bt (f &&& (bar ^^^ (-1))) k <;> rfl
