/-! ===== the text is fed, the tapes ===== -/
theorem T_feed {σ τ : zkS} (hR : zRel σ τ) (p1 : Int32) : ∃ (r : Int32) (σ1 : zkS) (τ1 : zkS), fX7_feed p1 σ = some (r, σ1) ∧ fX8_feed p1 τ = some (r, τ1) ∧ zRel σ1 τ1 := by
  obtain ⟨ha, hi, ⟨n, hn, hx1, hx2, hx3⟩, ht⟩ := id hR
  unfold fX7_feed fX8_feed
  rw [in_0 (b := 127) p1 127 (by decide), ite01]
  by_cases h1 : p1 < 0 ∨ nI 127 < p1
  · rw [if_pos h1]
    refine ⟨_, _, _, ?_, rfl, hR⟩
    by_cases g : p1 < 0
    · rw [if_pos g]
    · rw [if_neg g, if_neg]
      have := h1.resolve_left g
      rw [Int32.lt_iff_toInt_lt] at this
      rw [Int32.le_iff_toInt_le]
      have e : (nI 127).toInt = 127 := by decide
      have e2 : (127 : Int32).toInt = 127 := by decide
      omega
  · rw [if_neg h1]
    obtain ⟨c, hc, rfl⟩ := rng (by decide) h1
    rw [if_neg (fun q => h1 (Or.inl q)), if_pos (show nI c ≤ (127 : Int32) from nI_le (b := 127) hc (by decide)), hx2]
    unfold fX6_append
    rw [hx1, if_neg (nI_nneg (by omega))]
    by_cases h2 : n = 100
    · subst h2
      rw [if_neg (show ¬ nI 100 < (100 : Int32) by decide), if_pos (show nI 100 = (100 : Int32) by decide)]
      exact ⟨_, _, _, rfl, rfl, hR⟩
    · rw [if_pos (show nI n < (100 : Int32) from nI_lt (b := 100) (by omega) (by decide)), if_neg (show ¬ nI n = (100 : Int32) from fun q => h2 ((nI_eq (b := 100) (by omega) (by decide)).mp q)), wr_nI (by omega) (by decide), wr_nI (by omega) (by decide)]
      unfold zpi
      rw [show ((zsi σ 45 n (nI c)).1 44 0) = nI n from by rw [si_ne _ _ (by omega), hx1], show ((zsi τ 4 n (nI c)).1 0 5) = nI n from by rw [si_ne _ _ (by omega), hx2], nI_1, zb2_s, if_neg (by decide), si_eq]
      refine ⟨nI (n + 1), _, _, rfl, by dsimp only; rw [si_eq], ?_, ?_, ⟨n + 1, by omega, si_eq _ _ _ _, si_eq _ _ _ _, fun k hk => ?_⟩, ?_⟩
      · rw [si_row _ _ (by omega), si_row _ _ (by omega)]
        exact rAll_c (fun a h _ => by rw [si_row _ _ (by omega), si_row _ _ (by omega)]) ha
      · exact rI_c (fun a _ _ => by rw [si_row _ _ (by omega), si_row _ _ (by omega)]) (by rw [si_row _ _ (by omega), si_row _ _ (by omega)]) (by rw [si_ne _ _ (by omega), si_row _ _ (by omega)]) (by rw [si_row _ _ (by omega), si_row _ _ (by omega)]) hi
      · rw [show (zsi (zsi σ 45 n (nI c)) 44 0 (nI (n + 1))).1 45 k = (zsi σ 45 n (nI c)).1 45 k from si_ne _ _ (by omega), show (zsi (zsi τ 4 n (nI c)) 0 5 (nI (n + 1))).1 4 k = (zsi τ 4 n (nI c)).1 4 k from si_ne _ _ (by omega)]
        by_cases e : k = n
        · subst e
          rw [si_eq, si_eq]
          exact ⟨rfl, c, by omega, rfl⟩
        · rw [si_ne _ _ (Or.inr e), si_ne _ _ (Or.inr e)]
          exact hx3 k (by omega)
      · exact rT_c (by rw [si_row _ _ (by omega), si_row _ _ (by omega)]) (by rw [si_row _ _ (by omega), si_row _ _ (by omega)]) (by rw [si_row _ _ (by omega), si_row _ _ (by omega)]) (by rw [si_row _ _ (by omega), si_row _ _ (by omega)]) rfl rfl ht
theorem tape_eq (p : Int32) : fX7_isTape p = if p < 0 ∨ nI 5 < p then 0 else 1 := by
  unfold fX7_isTape
  by_cases h : p < 0
  · rw [if_pos h, if_pos (Or.inl h)]
  · rw [if_neg h]
    have e : (6 : Int32) ≤ p ↔ nI 5 < p := by
      rw [Int32.lt_iff_toInt_lt, Int32.le_iff_toInt_le, show (6 : Int32).toInt = 6 from by decide, show (nI 5).toInt = 5 from by decide]
      omega
    by_cases g : (6 : Int32) ≤ p
    · rw [if_pos g, if_pos (Or.inr (e.mp g))]
    · rw [if_neg g, if_neg (fun q => q.elim h (fun q => g (e.mpr q)))]
theorem tape_nI {t : Nat} (h : t < 6) : ¬ fX7_isTape (nI t) = 0 := by
  rw [tape_eq, if_neg (fun q => q.elim (nI_nneg (by omega)) (nI_nlt (by omega) (by decide)))]
  decide
theorem rd6 {β : Type} {σ : zkS} {a c : Nat} {F : Int32 → Option β} (h : c < 6) : zrd σ a 6 (nI c) F = F (σ.1 a c) := rd_nI h (by decide)
theorem wr6 {β : Type} {σ : zkS} {a c : Nat} {v : Int32} {F : zkS → Option β} (h : c < 6) : zwr σ a 6 (nI c) v F = F (zsi σ a c v) := wr_nI h (by decide)
/-- noughts from a to b -/
def zfl (σ : zkS) (a b : Nat) : zkS := (σ.1, fun k => if a ≤ k ∧ k < b then 0 else σ.2 k)
theorem zfl_0 (σ : zkS) (a : Nat) : zfl σ a a = σ := by
  unfold zfl
  have : (fun k => if a ≤ k ∧ k < a then (0 : Int64) else σ.2 k) = σ.2 := funext fun k => if_neg (by omega)
  rw [this]
theorem zfl_s (σ : zkS) {a b : Nat} (h : a < b) : zfl (zsl σ a 0) (a + 1) b = zfl σ a b := by
  unfold zfl zsl
  congr 1
  funext k
  by_cases e : k = a
  · subst e
    show (if k + 1 ≤ k ∧ k < b then (0 : Int64) else if k = k then 0 else σ.2 k) = _
    rw [if_neg (by omega), if_pos rfl, if_pos (by omega)]
  · show (if a + 1 ≤ k ∧ k < b then (0 : Int64) else if k = a then 0 else σ.2 k) = _
    rw [if_neg e]
    by_cases g : a ≤ k ∧ k < b
    · rw [if_pos g, if_pos (by omega)]
    · rw [if_neg g, if_neg (by omega)]
theorem fill7 {K : zkS → Option zkS} {b : Nat} (hb : b ≤ 360) : ∀ (n a : Nat) (σ : zkS), a ≤ b → b - a < n → fJ7_fill_bad5a_L10 n (nI b) 0 (nI a) σ K = K (zfl σ a b) := by
  intro n
  induction n with
  | zero => intro a σ _ h; omega
  | succ n ih =>
    intro a σ h1 h2
    unfold fJ7_fill_bad5a_L10
    by_cases e : a = b
    · subst e
      rw [if_pos (nI_le (Nat.le_refl a) (by omega)), zfl_0]
    · rw [if_neg (nI_ge (by omega) (by omega)), wrL_nI (by omega) (by decide)]
      simp only [zlt]
      rw [nI_1, ih (a + 1) _ (by omega) (by omega), zfl_s _ (by omega)]
theorem fill8 {K : zkS → Option (Int32 × zkS)} {t : Nat} (ht : t < 6) : ∀ (n j : Nat) (τ : zkS), j ≤ 60 → 60 - j < n → fX8_tape_L80 n (nI t) (nI j) τ K = K (zfl τ (60 * t + j) (60 * t + 60)) := by
  intro n
  induction n with
  | zero => intro a σ _ h; omega
  | succ n ih =>
    intro j τ h1 h2
    unfold fX8_tape_L80
    by_cases e : j = 60
    · subst e
      rw [if_pos (by decide), zfl_0]
    · rw [if_neg (show ¬ (60 : Int32) ≤ nI j from nI_ge (b := 60) (by omega) (by omega)), show (60 * nI t) + nI j = nI (60 * t + j) from by rw [show (60 : Int32) = nI 60 from rfl, pk_mul, nI_add], wrL_nI (by omega) (by decide)]
      simp only [zlt]
      rw [nI_1, ih (j + 1) _ (by omega) (by omega), ← Nat.add_assoc, zfl_s _ (by omega)]
/-- behind a write of one tape -/
theorem rT_lay {σ τ σ' τ' : zkS} {t n : Nat} {y7 y8 : Int32} (ht : t < 6) (hn : n ≤ 60) (hy : y8 = -1 ∧ y7 = -5 ∧ n = 0 ∨ ∃ y, y ≤ 4 ∧ y8 = nI y ∧ y7 = nI y) (h1 : σ'.1 = (zsi (zsi σ 50 t y7) 51 t (nI n)).1) (h2 : τ'.1 = (zsi (zsi τ 12 t y8) 13 t (nI n)).1)
    (h3 : σ'.2 = (zfl σ (60 * t) (60 * t + n)).2) (h4 : τ'.2 = (zfl τ (60 * t) (60 * t + 60)).2) (hR : zRel σ τ) : zRel σ' τ' := by
  obtain ⟨ha, hi, hx, hr⟩ := hR
  have e1 : ∀ a, a ≠ 50 → a ≠ 51 → σ'.1 a = σ.1 a := fun a q1 q2 => by rw [h1, si_row _ _ q2, si_row _ _ q1]
  have e2 : ∀ a, a ≠ 12 → a ≠ 13 → τ'.1 a = τ.1 a := fun a q1 q2 => by rw [h2, si_row _ _ q2, si_row _ _ q1]
  refine ⟨?_, ?_, ?_, fun t' ht' => ?_⟩
  · rw [e2 1 (by omega) (by omega)]
    exact rAll_c (fun a _ _ => e1 a (by omega) (by omega)) ha
  · exact rI_c (fun a _ _ => e1 a (by omega) (by omega)) (by rw [e1 0 (by omega) (by omega)]) (by rw [e2 0 (by omega) (by omega)]) (e2 3 (by omega) (by omega)) hi
  · exact rX_c (by rw [e1 44 (by omega) (by omega)]) (e1 45 (by omega) (by omega)) (by rw [e2 0 (by omega) (by omega)]) (e2 4 (by omega) (by omega)) hx
  · by_cases e : t' = t
    · subst e
      refine ⟨n, hn, by rw [h1, si_eq], by rw [h2, si_eq], ?_, fun k hk => ?_⟩
      · rw [show σ'.1 50 t' = y7 from by rw [h1, si_ne _ _ (by omega), si_eq], show τ'.1 12 t' = y8 from by rw [h2, si_ne _ _ (by omega), si_eq]]
        exact hy
      · rw [h3, h4]
        show (if _ then _ else _) = (if _ then _ else _)
        rw [if_pos (by omega), if_pos (by omega)]
    · obtain ⟨m, g1, g2, g3, g4, g5⟩ := hr t' ht'
      refine ⟨m, g1, by rw [h1, si_ne _ _ (Or.inr e), si_ne _ _ (by omega)]; exact g2, by rw [h2, si_ne _ _ (Or.inr e), si_ne _ _ (by omega)]; exact g3, ?_, fun k hk => ?_⟩
      · rw [show σ'.1 50 t' = σ.1 50 t' from by rw [h1, si_ne _ _ (by omega), si_ne _ _ (Or.inr e)], show τ'.1 12 t' = τ.1 12 t' from by rw [h2, si_ne _ _ (by omega), si_ne _ _ (Or.inr e)]]
        exact g4
      · rw [h3, h4]
        show (if _ then _ else _) = (if _ then _ else _)
        rw [if_neg (by omega), if_neg (by omega)]
        exact g5 k hk
theorem lay7 {σ : zkS} {t n : Nat} (y : Int32) (ht : t < 6) (hn : n ≤ 60) : fX5_lay (nI t) y (nI n) σ = some (zfl (zsi (zsi σ 50 t y) 51 t (nI n)) (60 * t) (60 * t + n)) := by
  unfold fX5_lay
  rw [if_neg (tape_nI ht), if_neg (nI_nneg (by omega)), if_neg (show ¬ (60 : Int32) < nI n from nI_nlt (b := n) (a := 60) hn (by decide)), wr6 ht, wr6 ht]
  unfold fJ7_fill_bad5a fJ7_rangeCheck_23922
  rw [show nI t * 60 = nI (60 * t) from by rw [show (60 : Int32) = nI 60 from rfl, pk_mul, Nat.mul_comm], nI_add]
  rw [if_pos (nI_le (by omega) (by omega)), if_pos (nI_pos' (by omega)), if_pos (show nI (60 * t + n) ≤ Int32.ofNat 360 from nI_le (b := 360) (by omega) (by decide)), zb1_s, fill7 (by omega) _ _ _ (by omega) (by unfold zFU; omega), zb1_s]
theorem T_tape {σ τ : zkS} (hR : zRel σ τ) (p1 : Int32) (p2 : Int32) (p3 : Int32) : ∃ (r : Int32) (σ1 : zkS) (τ1 : zkS), fX7_tape p1 p2 p3 σ = some (r, σ1) ∧ fX8_tape p1 p2 p3 τ = some (r, τ1) ∧ zRel σ1 τ1 := by
  unfold fX7_tape fX8_tape
  rw [tape_eq, ite01, in_0 (b := 5) p1 5 (by decide), ite01]
  by_cases h1 : p1 < 0 ∨ nI 5 < p1
  · rw [if_pos h1, if_pos h1]
    exact ⟨_, _, _, rfl, rfl, hR⟩
  · rw [if_neg h1, if_neg h1]
    obtain ⟨t, ht, rfl⟩ := rng (by decide) h1
    rw [show fX8_in p2.toInt64 (-1) 4 = _ from in_eq p2 (-1) 4, ite01]
    simp only [jn]
    by_cases h2 : p2 = -1
    · subst h2
      rw [if_pos rfl, if_pos rfl, if_pos rfl, if_neg (by decide)]
      rw [show (0 : Int32) = nI 0 from rfl, lay7 _ (by omega) (by omega), zb1_s, wr6 (by omega), if_pos rfl, wr6 (by omega), fill8 (by omega) _ _ _ (by omega) (by unfold zFU; omega)]
      exact ⟨_, _, _, rfl, rfl, rT_lay (n := 0) (by omega) (by omega) (Or.inl ⟨rfl, rfl, rfl⟩) rfl rfl rfl rfl hR⟩
    · simp only [if_neg h2]
      by_cases g : p2 < 0
      · rw [if_pos g, if_pos (Or.inl ?_)]
        · exact ⟨_, _, _, rfl, rfl, hR⟩
        · rw [Int32.lt_iff_toInt_lt] at g ⊢
          have : ¬ p2.toInt = (-1 : Int32).toInt := fun q => h2 (Int32.toInt_inj.mp q)
          rw [show (-1 : Int32).toInt = -1 from rfl] at this ⊢
          rw [show (0 : Int32).toInt = 0 from rfl] at g
          omega
      · rw [if_neg g]
        by_cases g2 : 4 < p2
        · rw [if_pos g2, if_pos (Or.inr g2)]
          exact ⟨_, _, _, rfl, rfl, hR⟩
        · have g5 : ¬ (p2 < -1 ∨ 4 < p2) := fun q => q.elim (fun q => g ?_) g2
          · rw [if_neg g2, if_neg g5]
            obtain ⟨y, hy, rfl⟩ := rng (n := 4) (by decide) (fun q => q.elim g g2)
            by_cases g3 : p3 ≤ 60
            · rw [if_pos g3, if_pos g3]
              by_cases g4 : 0 ≤ p3
              · rw [if_pos g4, if_pos g4]
                obtain ⟨n, hn, rfl⟩ := rng (p := p3) (n := 60) (by decide) (fun q => q.elim (fun q => by
                  rw [Int32.lt_iff_toInt_lt] at q
                  rw [Int32.le_iff_toInt_le] at g4
                  omega) (fun q => by
                  rw [Int32.lt_iff_toInt_lt] at q
                  rw [Int32.le_iff_toInt_le, show (60 : Int32) = nI 60 from rfl] at g3
                  omega))
                rw [lay7 _ (by omega) hn, zb1_s, wr6 (by omega), wr6 (by omega), show (0 : Int32) = nI 0 from rfl, fill8 (by omega) _ _ _ (by omega) (by unfold zFU; omega)]
                exact ⟨_, _, _, rfl, rfl, rT_lay (n := n) (by omega) hn (Or.inr ⟨y, hy, rfl, rfl⟩) rfl rfl rfl rfl hR⟩
              · rw [if_neg g4, if_neg g4]
                exact ⟨_, _, _, rfl, rfl, hR⟩
            · rw [if_neg g3, if_neg g3]
              exact ⟨_, _, _, rfl, rfl, hR⟩
          · rw [Int32.lt_iff_toInt_lt] at q ⊢
            rw [show (-1 : Int32).toInt = -1 from rfl] at q
            rw [show (0 : Int32).toInt = 0 from rfl]
            omega
/-- a tape's places -/
theorem plc7 {σ τ : zkS} (hT : rT σ τ) {t : Nat} (ht : t < 6) (p : Int32) : fX5_isPlace (nI t) p σ = some (if p < 0 ∨ τ.1 13 t ≤ p then 0 else 1) := by
  obtain ⟨n, hn, h1, h2, -, -⟩ := hT t ht
  unfold fX5_isPlace
  rw [if_neg (tape_nI ht), rd6 ht, h1, h2]
  by_cases h : p < 0
  · rw [if_pos h, if_pos (Or.inl h)]
  · rw [if_neg h]
    by_cases g : nI n ≤ p
    · rw [if_pos g, if_pos (Or.inr g)]
    · rw [if_neg g, if_neg (fun q => q.elim h g)]
theorem plc8 {τ : zkS} {t n : Nat} (hn : n ≤ 60) (h2 : τ.1 13 t = nI n) (p : Int32) : fX8_in p.toInt64 0 (τ.1 13 t - 1).toInt64 = if p < 0 ∨ τ.1 13 t ≤ p then 0 else 1 := by
  rw [show (0 : Int64) = (0 : Int32).toInt64 from by decide, in_eq, h2]
  by_cases h : p < 0
  · rw [if_pos (Or.inl h), if_pos (Or.inl h)]
  · by_cases g : nI n ≤ p
    · rw [if_pos (Or.inr ((sub1_lt (by omega) p).mpr g)), if_pos (Or.inr g)]
    · rw [if_neg (fun q => q.elim h (fun q => g ((sub1_lt (by omega) p).mp q))), if_neg (fun q => q.elim h g)]
theorem plc_of {p : Int32} {n : Nat} (hn : n ≤ 60) (h : ¬ (p < 0 ∨ nI n ≤ p)) : ∃ k, k < n ∧ p = nI k := by
  rcases pk_ix p (n := n) (by omega) with q | q | q
  · exact absurd (Or.inl q) h
  · exact absurd (Or.inr q) h
  · exact q
theorem tpx (t k : Nat) : nI t * 60 + nI k = nI (60 * t + k) := by rw [show (60 : Int32) = nI 60 from rfl, pk_mul, nI_add, Nat.mul_comm]
theorem tpx8 (t k : Nat) : 60 * nI t + nI k = nI (60 * t + k) := by rw [show (60 : Int32) = nI 60 from rfl, pk_mul, nI_add]
theorem T_read {σ τ : zkS} (hR : zRel σ τ) (p1 : Int32) (p2 : Int32) : ∃ (r : Int64), fX7_read p1 p2 σ = some r ∧ fX8_read p1 p2 τ = some r ∧ zRel σ τ := by
  unfold fX7_read fX8_read
  rw [in_0 (b := 5) p1 5 (by decide), ite01]
  by_cases h1 : p1 < 0 ∨ nI 5 < p1
  · rw [if_pos h1]
    refine ⟨_, ?_, rfl, hR⟩
    unfold fX5_isPlace
    rw [tape_eq, ite01, if_pos h1]
    rfl
  · rw [if_neg h1]
    obtain ⟨t, ht, rfl⟩ := rng (by decide) h1
    obtain ⟨n, hn, g1, g2, g3, g4⟩ := hR.2.2.2 t (by omega)
    unfold fX5_itemAt
    rw [plc7 hR.2.2.2 (by omega), zb1_s, rd6 (by omega), plc8 hn g2, zb1_s, ite01, ite01, ite01]
    by_cases h2 : p2 < 0 ∨ τ.1 13 t ≤ p2
    · rw [if_pos h2, if_pos h2]
      exact ⟨_, rfl, rfl, hR⟩
    · rw [if_neg h2, if_neg h2, if_neg h2]
      rw [g2] at h2
      obtain ⟨k, hk, rfl⟩ := plc_of hn h2
      rw [tpx, tpx8, rdL_nI (by omega) (by decide), rdL_nI (by omega) (by decide), zb1_s, g4 k hk]
      exact ⟨_, rfl, rfl, hR⟩
theorem rel_sl {σ τ : zkS} {t k : Nat} {v : Int64} (hR : zRel σ τ) : zRel (zsl σ (60 * t + k) v) (zsl τ (60 * t + k) v) := by
  obtain ⟨ha, hi, hx, hr⟩ := hR
  refine ⟨ha, hi, hx, fun t' ht' => ?_⟩
  obtain ⟨n, g1, g2, g3, g4, g5⟩ := hr t' ht'
  refine ⟨n, g1, g2, g3, g4, fun j hj => ?_⟩
  show (if _ then _ else _) = (if _ then _ else _)
  rw [g5 j hj]
theorem sort7 {σ : zkS} {t : Nat} (ht : t < 6) : fX5_sortOf (nI t) σ = some (σ.1 50 t) := by
  unfold fX5_sortOf
  rw [if_neg (tape_nI ht), rd6 ht]
theorem T_item {σ τ : zkS} (hR : zRel σ τ) (p1 : Int32) (p2 : Int32) (p3 : Int64) : ∃ (r : Int32) (σ1 : zkS) (τ1 : zkS), fX7_item p1 p2 p3 σ = some (r, σ1) ∧ fX8_item p1 p2 p3 τ = some (r, τ1) ∧ zRel σ1 τ1 := by
  unfold fX7_item fX8_item
  rw [tape_eq, ite01, in_0 (b := 5) p1 5 (by decide), ite01]
  by_cases h1 : p1 < 0 ∨ nI 5 < p1
  · rw [if_pos h1, if_pos h1]
    exact ⟨_, _, _, rfl, rfl, hR⟩
  · rw [if_neg h1, if_neg h1]
    obtain ⟨t, ht, rfl⟩ := rng (by decide) h1
    obtain ⟨n, hn, g1, g2, g3, g4⟩ := hR.2.2.2 t (by omega)
    unfold fX5_write
    rw [sort7 (by omega), zb1_s, plc7 hR.2.2.2 (by omega), zb1_s, zb1_s, rd6 (by omega), rd6 (by omega), rd6 (by omega), plc8 hn g2, ite01, ite01, ite01, rd6 (by omega)]
    rcases g3 with ⟨q1, q2, q3⟩ | ⟨y, hy, q1, q2⟩
    · rw [q1, q2, if_pos rfl, if_pos rfl]
      exact ⟨_, _, _, rfl, rfl, hR⟩
    · rw [q1, q2, if_neg (show ¬ nI y = -5 from fun q => nI_nneg (by omega : y < 2 ^ 31) (by rw [q]; decide)), if_neg (show ¬ nI y = -1 from fun q => nI_nneg (by omega : y < 2 ^ 31) (by rw [q]; decide))]
      by_cases h2 : p2 < 0 ∨ τ.1 13 t ≤ p2
      · rw [if_pos h2, if_pos h2]
        exact ⟨_, _, _, rfl, rfl, hR⟩
      · rw [if_neg h2, if_neg h2, if_neg h2]
        rw [g2] at h2
        obtain ⟨k, hk, rfl⟩ := plc_of hn h2
        rw [tpx, tpx8, wrL_nI (by omega) (by decide), wrL_nI (by omega) (by decide), zb1_s]
        exact ⟨_, _, _, rfl, rfl, rel_sl hR⟩

/-- a stretch moved: the places lo .. hi of it -/
def zmv (σ : zkS) (sp dp lo hi : Nat) : zkS := (σ.1, fun k => if dp + lo ≤ k ∧ k < dp + hi then σ.2 (sp + (k - dp)) else σ.2 k)
theorem zmv_0 (σ : zkS) (sp dp lo : Nat) : zmv σ sp dp lo lo = σ := by
  unfold zmv
  have : (fun k => if dp + lo ≤ k ∧ k < dp + lo then σ.2 (sp + (k - dp)) else σ.2 k) = σ.2 := funext fun k => if_neg (by omega)
  rw [this]
theorem zmv_up (σ : zkS) {sp dp i : Nat} (h : dp ≤ sp ∨ dp + i ≤ sp ∨ sp + i < dp) : zsl (zmv σ sp dp 0 i) (dp + i) ((zmv σ sp dp 0 i).2 (sp + i)) = zmv σ sp dp 0 (i + 1) := by
  have e : (zmv σ sp dp 0 i).2 (sp + i) = σ.2 (sp + i) := by
    show (if _ then _ else _) = _
    rw [if_neg (by omega)]
  rw [e]
  unfold zmv zsl
  congr 1
  funext k
  show (if k = dp + i then σ.2 (sp + i) else if dp + 0 ≤ k ∧ k < dp + i then σ.2 (sp + (k - dp)) else σ.2 k) = if dp + 0 ≤ k ∧ k < dp + (i + 1) then σ.2 (sp + (k - dp)) else σ.2 k
  by_cases g : k = dp + i
  · rw [if_pos g, if_pos (by omega), show sp + (k - dp) = sp + i by omega]
  · rw [if_neg g]
    by_cases g2 : dp + 0 ≤ k ∧ k < dp + i
    · rw [if_pos g2, if_pos (by omega)]
    · rw [if_neg g2, if_neg (by omega)]
theorem zmv_dn (σ : zkS) {sp dp i n : Nat} (hi : i < n) (h : sp ≤ dp ∨ dp + n ≤ sp ∨ sp + n ≤ dp) : zsl (zmv σ sp dp (n - i) n) (dp + (n - 1 - i)) ((zmv σ sp dp (n - i) n).2 (sp + (n - 1 - i))) = zmv σ sp dp (n - (i + 1)) n := by
  have e : (zmv σ sp dp (n - i) n).2 (sp + (n - 1 - i)) = σ.2 (sp + (n - 1 - i)) := by
    show (if _ then _ else _) = _
    rw [if_neg (by omega)]
  rw [e]
  unfold zmv zsl
  congr 1
  funext k
  show (if k = dp + (n - 1 - i) then σ.2 (sp + (n - 1 - i)) else if dp + (n - i) ≤ k ∧ k < dp + n then σ.2 (sp + (k - dp)) else σ.2 k) = if dp + (n - (i + 1)) ≤ k ∧ k < dp + n then σ.2 (sp + (k - dp)) else σ.2 k
  by_cases g : k = dp + (n - 1 - i)
  · rw [if_pos g, if_pos (by omega), show sp + (k - dp) = sp + (n - 1 - i) by omega]
  · rw [if_neg g]
    by_cases g2 : dp + (n - i) ≤ k ∧ k < dp + n
    · rw [if_pos g2, if_pos (by omega)]
    · rw [if_neg g2, if_neg (by omega)]
theorem shift8 {K : zkS → Option (Int32 × zkS)} {t a u b n : Nat} (ht : t < 6) (hu : u < 6) (ha : a + n ≤ 60) (hb : b + n ≤ 60) (σ : zkS) : ∀ (m i : Nat), i ≤ n → n - i < m →
    fX8_shift_L135 m (nI t) (nI a) (nI u) (nI b) (nI n) (nI i) (if b ≤ a then zmv σ (60 * t + a) (60 * u + b) 0 i else zmv σ (60 * t + a) (60 * u + b) (n - i) n) K = K (zmv σ (60 * t + a) (60 * u + b) 0 n) := by
  intro m
  induction m with
  | zero => intro i _ h; omega
  | succ m ih =>
    intro i h1 h2
    unfold fX8_shift_L135
    by_cases e : i = n
    · subst e
      rw [if_pos (nI_le (Nat.le_refl i) (by omega)), Nat.sub_self]
      by_cases g : b ≤ a
      · rw [if_pos g]
      · rw [if_neg g]
    · rw [if_neg (nI_ge (by omega) (by omega)), jn]
      by_cases g : b ≤ a
      · have q := ih (i + 1) (by omega) (by omega)
        rw [if_pos g] at q
        rw [if_pos (nI_le g (by omega)), if_pos g]
        dsimp only
        rw [tpx8, nI_add, rdL_nI (by omega) (by decide), tpx8, nI_add, wrL_nI (by omega) (by decide)]
        simp only [zlt]
        rw [nI_1, zmv_up _ (by omega)]
        exact q
      · have q := ih (i + 1) (by omega) (by omega)
        rw [if_neg g] at q
        rw [if_neg (nI_ge (by omega) (by omega)), if_neg g]
        dsimp only
        rw [tpx8, show nI n - 1 - nI i = nI (n - 1 - i) from by rw [show (1 : Int32) = nI 1 from rfl, pk_sub (by omega), pk_sub (by omega)], nI_add, rdL_nI (by omega) (by decide), tpx8, nI_add, wrL_nI (by omega) (by decide)]
        simp only [zlt]
        rw [nI_1, zmv_dn _ (by omega) (by omega)]
        exact q
theorem zcL_mv (σ : zkS) (sp dp n : Nat) : zcL σ sp dp n = zmv σ sp dp 0 n := by
  unfold zcL zmv
  refine Prod.ext rfl (funext fun k => ?_)
  show va_cpy σ.2 σ.2 sp dp n k = if dp + 0 ≤ k ∧ k < dp + n then σ.2 (sp + (k - dp)) else σ.2 k
  by_cases h : dp + 0 ≤ k ∧ k < dp + n
  · rw [if_pos h, pk_cpy_in (by omega) (by omega)]
  · rw [if_neg h, pk_cpy_out (by omega)]
theorem rel_mv {σ τ : zkS} {t a u b n : Nat} (hR : zRel σ τ) (ht : t < 6) (hu : u < 6) (ha : ∃ m, m ≤ 60 ∧ τ.1 13 t = nI m ∧ a + n ≤ m) (hb : b + n ≤ 60) : zRel (zmv σ (60 * t + a) (60 * u + b) 0 n) (zmv τ (60 * t + a) (60 * u + b) 0 n) := by
  obtain ⟨qa, qi, qx, hr⟩ := hR
  refine ⟨qa, qi, qx, fun t' ht' => ?_⟩
  obtain ⟨m, hm, em, hl⟩ := ha
  obtain ⟨n', g1, g2, g3, g4, g5⟩ := hr t' ht'
  refine ⟨n', g1, g2, g3, g4, fun j hj => ?_⟩
  show (if _ then _ else _) = (if _ then _ else _)
  by_cases h : 60 * u + b + 0 ≤ 60 * t' + j ∧ 60 * t' + j < 60 * u + b + n
  · rw [if_pos h, if_pos h]
    obtain ⟨n2, k1, k2, k3, k4, k5⟩ := hr t ht
    have e : n2 = m := (nI_eq (by omega) (by omega)).mp (k3.symm.trans em)
    have := k5 (a + (60 * t' + j - (60 * u + b))) (by omega)
    rw [← Nat.add_assoc] at this
    exact this
  · rw [if_neg h, if_neg h]
    exact g5 j hj
/-- is it a stretch of the tape? -/
def spn (m : Int32) (p2 p5 : Int32) : Prop := ¬ p5 < 0 ∧ ¬ p2 < 0 ∧ ¬ m < p2 ∧ ¬ m - p2 < p5
theorem spn_of {m : Nat} {p2 p5 : Int32} (hm : m ≤ 60) (h : spn (nI m) p2 p5) : ∃ a n, p2 = nI a ∧ p5 = nI n ∧ a + n ≤ m := by
  obtain ⟨h1, h2, h3, h4⟩ := h
  obtain ⟨a, ha, rfl⟩ := rng (p := p2) (n := m) (by omega) (fun q => q.elim h2 h3)
  rw [pk_sub ha] at h4
  obtain ⟨n, hn, rfl⟩ := rng (p := p5) (n := m - a) (by omega) (fun q => q.elim h1 h4)
  exact ⟨a, n, rfl, rfl, by omega⟩
theorem span7 {σ : zkS} {t : Nat} (ht : t < 6) (p2 p5 : Int32) [Decidable (spn (σ.1 51 t) p2 p5)] : fX5_isSpan (nI t) p2 p5 σ = some (if spn (σ.1 51 t) p2 p5 then 1 else 0) := by
  unfold fX5_isSpan
  rw [if_neg (tape_nI ht)]
  by_cases h1 : p5 < 0
  · rw [if_pos h1, if_neg (fun q => q.1 h1)]
  · rw [if_neg h1]
    by_cases h2 : p2 < 0
    · rw [if_pos h2, if_neg (fun q => q.2.1 h2)]
    · rw [if_neg h2, rd6 ht]
      by_cases h3 : σ.1 51 t < p2
      · rw [if_pos h3, if_neg (fun q => q.2.2.1 h3)]
      · rw [if_neg h3, rd6 ht]
        by_cases h4 : σ.1 51 t - p2 < p5
        · rw [if_pos h4, if_neg (fun q => q.2.2.2 h4)]
        · rw [if_neg h4, if_pos ⟨h1, h2, h3, h4⟩]
theorem T_shift {σ τ : zkS} (hR : zRel σ τ) (p1 : Int32) (p2 : Int32) (p3 : Int32) (p4 : Int32) (p5 : Int32) : ∃ (r : Int32) (σ1 : zkS) (τ1 : zkS), fX7_shift p1 p2 p3 p4 p5 σ = some (r, σ1) ∧ fX8_shift p1 p2 p3 p4 p5 τ = some (r, τ1) ∧ zRel σ1 τ1 := by
  classical
  unfold fX7_shift fX8_shift
  rw [tape_eq, ite01, in_0 (b := 5) p1 5 (by decide), ite01, tape_eq, ite01, in_0 (b := 5) p3 5 (by decide), ite01]
  by_cases h1 : p1 < 0 ∨ nI 5 < p1
  · rw [if_pos h1, if_pos h1]
    exact ⟨_, _, _, rfl, rfl, hR⟩
  rw [if_neg h1, if_neg h1]
  by_cases h3 : p3 < 0 ∨ nI 5 < p3
  · rw [if_pos h3, if_pos h3]
    exact ⟨_, _, _, rfl, rfl, hR⟩
  rw [if_neg h3, if_neg h3]
  obtain ⟨t, ht, rfl⟩ := rng (by decide) h1
  obtain ⟨u, hu, rfl⟩ := rng (by decide) h3
  obtain ⟨n, hn, g1, g2, g3, g4⟩ := hR.2.2.2 t (by omega)
  obtain ⟨m, hm, k1, k2, k3, k4⟩ := hR.2.2.2 u (by omega)
  have nm : ∀ {y : Nat}, y ≤ 4 → ¬ nI y = -5 ∧ ¬ nI y = -1 := fun {y} hy => ⟨fun q => nI_nneg (show y < 2 ^ 31 by omega) (by rw [q]; decide), fun q => nI_nneg (show y < 2 ^ 31 by omega) (by rw [q]; decide)⟩
  rw [sort7 (by omega), sort7 (by omega), zb1_s, zb1_s, zb1_s, zb1_s, rd6 (by omega), rd6 (by omega), rd6 (by omega), rd6 (by omega)]
  rcases g3 with ⟨q1, q2, q3⟩ | ⟨y, hy, q1, q2⟩
  · rw [q1, q2, if_pos rfl, if_pos rfl]
    exact ⟨_, _, _, rfl, rfl, hR⟩
  rw [q1, q2, if_neg (nm hy).1, if_neg (nm hy).2]
  rcases k3 with ⟨w1, w2, w3⟩ | ⟨z, hz, w1, w2⟩
  · rw [w1, w2, if_pos rfl, if_pos rfl]
    exact ⟨_, _, _, rfl, rfl, hR⟩
  rw [w1, w2, if_neg (nm hz).1, if_neg (nm hz).2]
  by_cases e : nI y = nI z
  · rw [if_pos e, if_pos e, span7 (by omega), span7 (by omega), zb1_s, zb1_s, g1, k1]
    have e8 : ∀ (F : Option (Int32 × zkS)), (if p5 < 0 then some (-13, τ) else if p2 < 0 then some (-13, τ) else if p4 < 0 then some (-13, τ) else zrd τ 13 6 (nI t) fun v7 => if v7 < p2 then some (-13, τ) else zrd τ 13 6 (nI u) fun v8 => if v8 < p4 then some (-13, τ) else zrd τ 13 6 (nI t) fun v9 => if v9 - p2 < p5 then some (-13, τ) else zrd τ 13 6 (nI u) fun v10 => if p5 ≤ v10 - p4 then F else some (-13, τ)) = if spn (nI n) p2 p5 ∧ spn (nI m) p4 p5 then F else some (-13, τ) := by
      intro F
      simp only [rd6 (show t < 6 by omega), rd6 (show u < 6 by omega), g2, k2]
      by_cases h5 : p5 < 0
      · rw [if_pos h5, if_neg (fun q => q.1.1 h5)]
      rw [if_neg h5]
      by_cases h2 : p2 < 0
      · rw [if_pos h2, if_neg (fun q => q.1.2.1 h2)]
      rw [if_neg h2]
      by_cases h4 : p4 < 0
      · rw [if_pos h4, if_neg (fun q => q.2.2.1 h4)]
      rw [if_neg h4]
      by_cases h6 : nI n < p2
      · rw [if_pos h6, if_neg (fun q => q.1.2.2.1 h6)]
      rw [if_neg h6]
      by_cases h7 : nI m < p4
      · rw [if_pos h7, if_neg (fun q => q.2.2.2.1 h7)]
      rw [if_neg h7]
      by_cases h8 : nI n - p2 < p5
      · rw [if_pos h8, if_neg (fun q => q.1.2.2.2 h8)]
      rw [if_neg h8]
      by_cases h9 : p5 ≤ nI m - p4
      · rw [if_pos h9, if_pos ⟨⟨h5, h2, h6, h8⟩, h5, h4, h7, fun q => by
          rw [Int32.lt_iff_toInt_lt] at q
          rw [Int32.le_iff_toInt_le] at h9
          omega⟩]
      · rw [if_neg h9, if_neg (fun q => h9 (by
          have := q.2.2.2.2
          rw [Int32.lt_iff_toInt_lt] at this
          rw [Int32.le_iff_toInt_le]
          omega))]
    rw [e8, ite10, ite10]
    by_cases s1 : spn (nI n) p2 p5
    · rw [if_pos s1]
      by_cases s2 : spn (nI m) p4 p5
      · rw [if_pos s2, if_pos ⟨s1, s2⟩]
        obtain ⟨a, l, rfl, rfl, ha⟩ := spn_of hn s1
        obtain ⟨b, l', rfl, e', hb⟩ := spn_of hm s2
        have : l = l' := (nI_eq (by omega) (by omega)).mp e'
        subst this
        unfold fX5_move
        rw [span7 (by omega), span7 (by omega), zb1_s, zb1_s, ite10, ite10, g1, k1, if_pos s1, if_pos s2, tpx, tpx]
        unfold zcyL
        rw [nI_clamp (by omega), nI_clamp (by omega), nI_clamp (by omega), if_neg (fun q => by
          rcases q with q | q | q | q | q
          · exact nI_nneg (by omega) q
          · exact nI_nneg (by omega) q
          · exact nI_nneg (by omega) q
          · omega
          · omega), zb1_s, zcL_mv]
        have := shift8 (K := fun s17 => some (nI l, s17)) (t := t) (a := a) (u := u) (b := b) (n := l) (by omega) (by omega) (by omega) (by omega) τ zFU 0 (by omega) (by unfold zFU; omega)
        rw [Nat.sub_zero, zmv_0, zmv_0, ite_self] at this
        exact ⟨_, _, _, rfl, this, rel_mv hR (by omega) (by omega) ⟨n, hn, g2, ha⟩ (by omega)⟩
      · rw [if_neg s2, if_neg (fun q => s2 q.2)]
        exact ⟨_, _, _, rfl, rfl, hR⟩
    · rw [if_neg s1, if_neg (fun q => s1 q.1)]
      exact ⟨_, _, _, rfl, rfl, hR⟩
  · rw [if_neg e, if_neg e]
    exact ⟨_, _, _, rfl, rfl, hR⟩
