/-! ===== a text is read: what the two machines' parts do ===== -/
def safe (s : zkS) : Prop := ∀ c, c < 24 → bt (s.1 33 1) c = true → ∃ z, z ≤ 6 ∧ s.1 36 c = nI z
/-- how many fields a cell of a layout has, when so many are told -/
def szO (y f : Nat) : Nat := if y = 1 then 2 else if y = 3 then 1 else if y = 0 then 0 else f
theorem widen_at {s : zkS} {b n i : Nat} (hn : n < 24) (hb : bt (s.1 b 1) n = true) (h5 : s.1 (b + 3) n = nI i) (hi : i < 6) : fX0_widen b (nI n) s = some (zsi (zsi s (b + 3) n (nI (i + 1))) (b + 4) (6 * n + i) (-5)) := by
  unfold fX0_widen
  rw [has_eq, hasN_nI hn, hb, ite10, if_pos rfl, rd24 hn, h5, if_neg (show ¬ (6 : Int32) ≤ nI i from nI_ge (b := 6) (by omega) (by decide)), rd24 hn, wr24 hn, h5, rd24 hn, si_eq, nI_1, show nI n * 6 + nI (i + 1) - 1 = nI (6 * n + i) from by rw [show (6 : Int32) = nI 6 from rfl, pk_mul, nI_add, show (1 : Int32) = nI 1 from rfl, pk_sub (by omega), Nat.mul_comm, show 6 * n + (i + 1) - 1 = 6 * n + i by omega], wr_nI (by omega) (by decide)]
theorem addb_L {b n f : Nat} (hn : n < 24) (hf : f ≤ 6) {K : zkS → Option (Int32 × zkS)} : ∀ m i (s : zkS), i ≤ f → f - i < m → bt (s.1 b 1) n = true → s.1 (b + 3) n = nI i → ∃ s', fX0_add_L73 m b (nI f) (nI n) (nI i) s K = K s' ∧ s'.1 (b + 3) n = nI f ∧ (∀ j, ¬ (6 * n ≤ j ∧ j < 6 * n + 6) → s'.1 (b + 4) j = s.1 (b + 4) j) ∧ (∀ j, j ≠ n → s'.1 (b + 3) j = s.1 (b + 3) j) ∧ (∀ a, a ≠ b + 3 → a ≠ b + 4 → s'.1 a = s.1 a) ∧ s'.2 = s.2 := by
  intro m
  induction m with
  | zero => intros; omega
  | succ m ih =>
    intro i s h1 h2 hb h5
    unfold fX0_add_L73
    by_cases e : i = f
    · subst e
      rw [if_pos (nI_le (Nat.le_refl i) (by omega))]
      exact ⟨s, rfl, h5, fun j _ => rfl, fun j _ => rfl, fun a _ _ => rfl, rfl⟩
    · rw [if_neg (nI_ge (by omega) (by omega)), widen_at hn hb h5 (by omega), zb1_s]
      simp only [zlt]
      rw [nI_1]
      obtain ⟨s', q1, q2, q4, q5, q6, q7⟩ := ih (i + 1) (zsi (zsi s (b + 3) n (nI (i + 1))) (b + 4) (6 * n + i) (-5)) (by omega) (by omega) (by rw [si_r _ _ (by omega), si_r _ _ (by omega)]; exact hb) (by rw [si_r _ _ (by omega), si_eq])
      refine ⟨s', q1, q2, fun j hj => ?_, fun j hj => ?_, fun a a5 a6 => ?_, q7⟩
      · rw [q4 j (by omega), si_b _ _ (by omega), si_r _ _ (by omega)]
      · rw [q5 j hj, si_r _ _ (by omega), si_b _ _ hj]
      · rw [q6 a a5 a6, si_r _ _ a6, si_r _ _ a5]
theorem add33 {s : zkS} {n y g f : Nat} (hn : n < 24) (hf : f ≤ 6) (h0 : s.1 33 0 = nI n) : ∃ s', fX0_add 33 (nI y) (nI g) (nI f) s = some (nI n, s') ∧ s'.1 33 0 = nI (n + 1) ∧ s'.1 33 1 = (s.1 33 1 ||| (1 <<< (nI n &&& 31))) ∧ (∀ j, j ≠ 0 → j ≠ 1 → s'.1 33 j = s.1 33 j) ∧ (s'.1 34 n = nI y ∧ ∀ j, j ≠ n → s'.1 34 j = s.1 34 j) ∧ (s'.1 35 n = nI g ∧ ∀ j, j ≠ n → s'.1 35 j = s.1 35 j) ∧ (s'.1 36 n = nI f ∧ ∀ j, j ≠ n → s'.1 36 j = s.1 36 j) ∧ (∀ j, ¬ (6 * n ≤ j ∧ j < 6 * n + 6) → s'.1 37 j = s.1 37 j) ∧ (∀ a, ¬ (33 ≤ a ∧ a ≤ 37) → s'.1 a = s.1 a) ∧ s'.2 = s.2 := by
  unfold fX0_add
  rw [h0, if_neg (nI_nneg (by omega)), if_pos (show nI n < (24 : Int32) from nI_lt (b := 24) hn (by decide)), nI_1]
  unfold zpi
  dsimp only
  rw [wr24 hn, wr24 hn, si_r _ _ (show 33 ≠ 33 + 2 by omega), si_r _ _ (show 33 ≠ 33 + 1 by omega), si_b _ _ (show 1 ≠ 0 by omega), bit_nI hn, wr24 hn]
  obtain ⟨s', q1, q2, q4, q5, q6, q7⟩ := addb_L (b := 33) (n := n) (f := f) hn hf (K := fun s10 => some (nI n, s10)) zFU 0 (zsi (zsi (zsi (zsi (zsi s 33 0 (nI (n + 1))) (33 + 1) n (nI y)) (33 + 2) n (nI g)) 33 1 (s.1 33 1 ||| (1 <<< (nI n &&& 31)))) (33 + 3) n 0) (by omega) (by unfold zFU; omega) (by rw [si_r _ _ (by omega), si_eq, b_or, bt_one (by omega), decide_eq_true rfl, Bool.or_true]) (by rw [si_eq]; rfl)
  rw [show (0 : Int32) = nI 0 from rfl] at q1 ⊢
  refine ⟨s', q1, ?_, ?_, fun j j0 j1 => ?_, ⟨?_, fun j hj => ?_⟩, ⟨?_, fun j hj => ?_⟩, ⟨q2, fun j hj => ?_⟩, fun j hj => ?_, fun a ha => ?_, ?_⟩
  · rw [q6 33 (by omega) (by omega), si_r _ _ (by omega), si_b _ _ (by omega), si_r _ _ (by omega), si_r _ _ (by omega), si_eq]
  · rw [q6 33 (by omega) (by omega), si_r _ _ (by omega), si_eq]
  · rw [q6 33 (by omega) (by omega), si_r _ _ (by omega), si_b _ _ j1, si_r _ _ (by omega), si_r _ _ (by omega), si_b _ _ j0]
  · rw [q6 34 (by omega) (by omega), si_r _ _ (by omega), si_r _ _ (by omega), si_r _ _ (by omega), si_eq]
  · rw [q6 34 (by omega) (by omega), si_r _ _ (by omega), si_r _ _ (by omega), si_r _ _ (by omega), si_b _ _ hj, si_r _ _ (by omega)]
  · rw [q6 35 (by omega) (by omega), si_r _ _ (by omega), si_r _ _ (by omega), si_eq]
  · rw [q6 35 (by omega) (by omega), si_r _ _ (by omega), si_r _ _ (by omega), si_b _ _ hj, si_r _ _ (by omega), si_r _ _ (by omega)]
  · rw [q5 j hj, si_b _ _ hj, si_r _ _ (by omega), si_r _ _ (by omega), si_r _ _ (by omega), si_r _ _ (by omega)]
  · rw [q4 j hj, si_r _ _ (by omega), si_r _ _ (by omega), si_r _ _ (by omega), si_r _ _ (by omega), si_r _ _ (by omega)]
  · rw [q6 a (by omega) (by omega), si_r _ _ (by omega), si_r _ _ (by omega), si_r _ _ (by omega), si_r _ _ (by omega), si_r _ _ (by omega)]
  · rw [q7]
    rfl
theorem add33_full {s : zkS} {y g f : Int32} (h0 : s.1 33 0 = nI 24) : fX0_add 33 y g f s = some (-5, s) := by
  unfold fX0_add
  rw [h0, if_neg (show ¬ nI 24 < (0 : Int32) by decide), if_neg (show ¬ nI 24 < (24 : Int32) by decide)]
theorem widn {s : zkS} {k : Int32} (hk : k = -5 ∨ ∃ c, c < 24 ∧ k = nI c) (hs : safe s) : ∃ s', fX0_widen 33 k s = some s' ∧ (∀ a, a ≠ 36 → a ≠ 37 → s'.1 a = s.1 a) ∧ s'.2 = s.2 ∧ safe s' ∧ ∀ c m, c < 24 → k = nI c → bt (s.1 33 1) c = true → s.1 36 c = nI m → m < 6 → s'.1 36 c = nI (m + 1) ∧ (∀ j, j ≠ c → s'.1 36 j = s.1 36 j) ∧ ∀ j, j ≠ 6 * c + m → s'.1 37 j = s.1 37 j := by
  rcases hk with rfl | ⟨c, hc, rfl⟩
  · refine ⟨s, ?_, fun a _ _ => rfl, rfl, hs, fun c m hc q => absurd q.symm (nI_m5 (by omega))⟩
    unfold fX0_widen
    rw [has_eq, hasN_lt (by decide), ite10, if_neg (by decide)]
  · cases hb : bt (s.1 33 1) c with
    | false =>
      refine ⟨s, ?_, fun a _ _ => rfl, rfl, hs, fun c' m hc' q q2 => ?_⟩
      · unfold fX0_widen
        rw [has_eq, hasN_nI hc, hb, ite10, if_neg (by decide)]
      · rw [← (nI_eq (by omega) (by omega)).mp q, hb] at q2
        cases q2
    | true =>
      obtain ⟨z, hz, ez⟩ := hs c hc hb
      by_cases g : z = 6
      · refine ⟨s, ?_, fun a _ _ => rfl, rfl, hs, fun c' m hc' q q2 q3 q4 => ?_⟩
        · unfold fX0_widen
          rw [has_eq, hasN_nI hc, hb, ite10, if_pos rfl, rd24 hc, show s.1 (33 + 3) c = nI z from ez, g, if_pos (by decide)]
        · rw [← (nI_eq (by omega) (by omega)).mp q, ez] at q3
          have := (nI_eq (by omega) (by omega)).mp q3
          omega
      · refine ⟨_, widen_at (b := 33) hc hb ez (by omega), fun a a1 a2 => ?_, rfl, fun c' hc' hb' => ?_, fun c' m hc' q q2 q3 q4 => ?_⟩
        · rw [si_r _ _ a2, si_r _ _ a1]
        · rw [si_r _ _ (by omega), si_r _ _ (by omega)] at hb'
          rw [si_r _ _ (by omega)]
          by_cases e : c' = c
          · subst e
            exact ⟨z + 1, by omega, si_eq _ _ _ _⟩
          · obtain ⟨z', hz', ez'⟩ := hs c' hc' hb'
            exact ⟨z', hz', (si_b _ _ e).trans ez'⟩
        · have e : c = c' := (nI_eq (by omega) (by omega)).mp q
          subst e
          have ez2 : z = m := (nI_eq (by omega) (by omega)).mp (ez.symm.trans q3)
          subst ez2
          exact ⟨by rw [si_r _ _ (by omega), si_eq], fun j hj => by rw [si_r _ _ (by omega), si_b _ _ hj], fun j hj => by rw [si_b _ _ hj, si_r _ _ (by omega)]⟩
theorem putIn {s : zkS} {k x : Int32} {m : Nat} (hk : k = -5 ∨ ∃ c, c < 24 ∧ k = nI c) (hm : m ≤ 6) (hs : safe s) : ∃ s', fX0_putInto 33 k (nI m) x s = some s' ∧ (∀ a, a ≠ 37 → s'.1 a = s.1 a) ∧ s'.2 = s.2 ∧ ∀ c z, c < 24 → k = nI c → bt (s.1 33 1) c = true → s.1 36 c = nI z → m < z → z ≤ 6 → s'.1 37 (6 * c + m) = x ∧ ∀ j, j ≠ 6 * c + m → s'.1 37 j = s.1 37 j := by
  rcases hk with rfl | ⟨c, hc, rfl⟩
  · refine ⟨s, ?_, fun a _ => rfl, rfl, fun c z hc q => absurd q.symm (nI_m5 (by omega))⟩
    unfold fX0_putInto fX0_isField
    simp only [jn]
    rw [if_pos (by decide), if_pos trivial, zb1_s, if_pos rfl]
  · have e1 : fX0_isField 33 (nI c) (nI m) s = if bt (s.1 33 1) c = true then (if s.1 36 c ≤ nI m then some 0 else some 1) else some 0 := by
      unfold fX0_isField
      simp only [jn]
      rw [if_neg (nI_nneg (by omega)), if_neg (nI_n24 hc), bt_sh _ (by omega), ite10]
      cases bt (s.1 33 1) c with
      | false => rfl
      | true =>
        rw [if_pos rfl, if_pos rfl, if_neg (show ¬ (1 : Int32) = 0 by decide), if_neg (nI_nneg (by omega)), rd24 hc]
    unfold fX0_putInto
    rw [e1]
    cases hb : bt (s.1 33 1) c with
    | false =>
      refine ⟨s, rfl, fun a _ => rfl, rfl, fun c' z hc' q q2 => ?_⟩
      rw [← (nI_eq (by omega) (by omega)).mp q, hb] at q2
      cases q2
    | true =>
      rw [if_pos rfl]
      obtain ⟨z, hz, ez⟩ := hs c hc hb
      rw [ez]
      by_cases g : z ≤ m
      · rw [if_pos (nI_le g (by omega)), zb1_s, if_pos rfl]
        refine ⟨s, rfl, fun a _ => rfl, rfl, fun c' z' hc' q q2 q3 q4 => ?_⟩
        rw [← (nI_eq (by omega) (by omega)).mp q, ez] at q3
        intro q5
        have := (nI_eq (by omega) (by omega)).mp q3
        omega
      · rw [if_neg (nI_ge (by omega) (by omega)), zb1_s, if_neg (by decide)]
        refine ⟨zsi s 37 (6 * c + m) x, wr_hld hc (by omega), fun a ha => si_r _ _ ha, rfl, fun c' z' hc' q q2 q3 q4 _ => ?_⟩
        have e : c = c' := (nI_eq (by omega) (by omega)).mp q
        subst e
        exact ⟨si_eq _ _ _ _, fun j hj => si_b _ _ hj⟩
theorem put33_0 {s : zkS} {x : Int32} (h7 : s.1 44 7 = nI 0) : fX6_put 33 x s = some (1, zsi s 44 2 x) := by
  unfold fX6_put
  rw [h7, if_pos (by decide)]
  rfl
theorem put33_1 {s : zkS} {x k : Int32} {l y m : Nat} (hl : l < 6) (h7 : s.1 44 7 = nI (l + 1)) (h47 : s.1 47 l = nI y) (h48 : s.1 48 l = nI m) (h46 : s.1 46 l = k) (hm : m ≤ 6) (hy : 1 ≤ y ∧ y ≤ 3) (hk : k = -5 ∨ ∃ c, c < 24 ∧ k = nI c) (hs : safe s) :
    ∃ s', fX6_put 33 x s = some (1, s') ∧ s'.1 48 l = nI (m + 1) ∧ (∀ j, j ≠ l → s'.1 48 j = s.1 48 j) ∧ (∀ a, a ≠ 36 → a ≠ 37 → a ≠ 48 → s'.1 a = s.1 a) ∧ s'.2 = s.2 ∧ safe s' ∧ ∀ c, c < 24 → k = nI c → bt (s.1 33 1) c = true → s.1 36 c = nI (szO y m) → m < szO y (m + 1) → szO y (m + 1) ≤ 6 → s'.1 36 c = nI (szO y (m + 1)) ∧ (∀ j, j ≠ c → s'.1 36 j = s.1 36 j) ∧ s'.1 37 (6 * c + m) = x ∧ ∀ j, j ≠ 6 * c + m → s'.1 37 j = s.1 37 j := by
  have hW : ∃ s1, (if nI y = 2 then fX0_widen 33 k s else some s) = some s1 ∧ (∀ a, a ≠ 36 → a ≠ 37 → s1.1 a = s.1 a) ∧ s1.2 = s.2 ∧ safe s1 ∧ ∀ c, c < 24 → k = nI c → bt (s.1 33 1) c = true → s.1 36 c = nI (szO y m) → m < szO y (m + 1) → szO y (m + 1) ≤ 6 → s1.1 36 c = nI (szO y (m + 1)) ∧ (∀ j, j ≠ c → s1.1 36 j = s.1 36 j) ∧ ∀ j, j ≠ 6 * c + m → s1.1 37 j = s.1 37 j := by
    by_cases g : y = 2
    · subst g
      rw [if_pos (show nI 2 = 2 from rfl)]
      obtain ⟨s1, e1, a1, a2, a3, a4⟩ := widn hk hs
      exact ⟨s1, e1, a1, a2, a3, fun c hc q q2 q3 q4 q5 => a4 c m hc q q2 q3 (by unfold szO at q5; simp at q5; omega)⟩
    · rw [if_neg (show ¬ nI y = 2 from fun q => g ((nI_eq (b := 2) (by omega) (by decide)).mp q))]
      refine ⟨s, rfl, fun a _ _ => rfl, rfl, hs, fun c hc q q2 q3 q4 q5 => ⟨?_, fun j _ => rfl, fun j _ => rfl⟩⟩
      rw [q3]
      unfold szO
      rcases (show y = 1 ∨ y = 3 by omega) with rfl | rfl <;> rfl
  obtain ⟨s1, e1, a1, a2, a3, a4⟩ := hW
  obtain ⟨s2, e2, b1, b2, b3⟩ := putIn (x := x) (m := m) hk hm a3
  have r48 : s2.1 48 = s.1 48 := by rw [b1 48 (by omega), a1 48 (by omega) (by omega)]
  have key : fX6_put 33 x s = some (1, zsi s2 48 l (nI (m + 1))) := by
    unfold fX6_put
    simp only [jn, zlt]
    rw [h7, if_neg (show ¬ nI (l + 1) ≤ 0 from nI_ge (a := 0) (by omega) (by omega)), if_pos (show nI (l + 1) ≤ (6 : Int32) from nI_le (b := 6) (by omega) (by decide)), show nI (l + 1) - 1 = nI l from pk_sub (b := 1) (by omega), rd_nI hl (by decide), h47]
    have tail : (zrd s1 46 6 (nI l) fun v6 => zrd s1 48 6 (nI l) fun v7 => zb1 (fX0_putInto 33 v6 v7 x s1) fun s8 => zrd s8 48 6 (nI l) fun v9 => zwr s8 48 6 (nI l) (v9 + 1) fun s10 => some ((1 : Int32), s10)) = some (1, zsi s2 48 l (nI (m + 1))) := by
      rw [rd_nI hl (by decide), rd_nI hl (by decide), a1 46 (by omega) (by omega), h46, a1 48 (by omega) (by omega), h48, e2, zb1_s, rd_nI hl (by decide), wr_nI hl (by decide), r48, h48, nI_1]
    by_cases g : nI y = 2
    · rw [if_pos g] at e1 ⊢
      rw [rd_nI hl (by decide), h46, e1, zb1_s]
      exact tail
    · rw [if_neg g] at e1 ⊢
      rw [Option.some.inj e1]
      exact tail
  refine ⟨_, key, si_eq _ _ _ _, fun j hj => by rw [si_b _ _ hj, r48], fun a h1 h2 h3 => by rw [si_r _ _ h3, b1 a h2, a1 a h1 h2], by rw [si_2, b2, a2], fun c hc hb => ?_, fun c hc q q2 q3 q4 q5 => ?_⟩
  · rw [si_r _ _ (by omega), b1 33 (by omega)] at hb
    rw [si_r _ _ (by omega), b1 36 (by omega)]
    exact a3 c hc hb
  · obtain ⟨c1, c2, c3⟩ := a4 c hc q q2 q3 q4 q5
    obtain ⟨d1, d2⟩ := b3 c (szO y (m + 1)) hc q (by rw [a1 33 (by omega) (by omega)]; exact q2) c1 q4 q5
    exact ⟨by rw [si_r _ _ (by omega), b1 36 (by omega)]; exact c1, fun j hj => by rw [si_r _ _ (by omega), b1 36 (by omega)]; exact c2 j hj, by rw [si_r _ _ (by omega)]; exact d1, fun j hj => by rw [si_r _ _ (by omega), d2 j hj, c3 j hj]⟩
/-! the model's -/
theorem isNew8 {t : zkS} {N y g : Nat} (h : t.1 0 13 = nI N) (hN : N < 101) : fX8_isNew (nI y) (nI g) t = some (nI N, zsi (zsi (zsi (zsi t 8 N (nI y)) 9 N (nI g)) 10 N 0) 0 13 (nI (N + 1))) := by
  unfold fX8_isNew
  rw [h, wr_nI hN (by decide), si_r _ _ (show 0 ≠ 8 by decide), h, wr_nI hN (by decide), si_r _ _ (show 0 ≠ 9 by decide), si_r _ _ (show 0 ≠ 8 by decide), h, wr_nI hN (by decide)]
  unfold zpi
  dsimp only
  rw [si_r _ _ (show 0 ≠ 10 by decide), si_r _ _ (show 0 ≠ 9 by decide), si_r _ _ (show 0 ≠ 8 by decide), h, nI_1, si_eq, show nI (N + 1) - 1 = nI N from pk_sub (b := 1) (by omega)]
theorem gives8_0 {t : zkS} {x : Int32} (h : t.1 0 14 = nI 0) : fX8_gives x t = some (zsi (zsi t 0 15 x) 0 16 1) := by
  unfold fX8_gives
  rw [h, if_pos (show nI 0 = 0 from rfl)]
  rfl
theorem gives8_1 {t : zkS} {x : Int32} {l v m : Nat} (h : t.1 0 14 = nI (l + 1)) (hl : l < 8) (h5 : t.1 5 l = nI v) (hv : v < 101) (h10 : t.1 10 v = nI m) (hm : m < 6) : fX8_gives x t = some (zsi (zsi (zsi t 11 (6 * v + m) x) 10 v (nI (m + 1))) 7 l 1) := by
  unfold fX8_gives
  rw [h, if_neg (show ¬ nI (l + 1) = 0 from fun q => by have := (nI_eq0 (by omega)).mp q; omega), show nI (l + 1) - 1 = nI l from pk_sub (b := 1) (by omega), rd_nI hl (by decide), h5, rd_nI hv (by decide), h10, show (6 : Int32) * nI v + nI m = nI (6 * v + m) from by rw [show (6 : Int32) = nI 6 from rfl, pk_mul, nI_add], wr_nI (by omega) (by decide), rd_nI hv (by decide), si_r _ _ (show 10 ≠ 11 by decide), h10, nI_1, wr_nI hv (by decide), si_r _ _ (show 0 ≠ 10 by decide), si_r _ _ (show 0 ≠ 11 by decide), h, show nI (l + 1) - 1 = nI l from pk_sub (b := 1) (by omega), wr_nI hl (by decide)]
