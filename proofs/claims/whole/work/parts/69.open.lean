/-! ===== a text is read: what begins ===== -/
theorem in_n (ch : Nat) (hc : ch < 2 ^ 31) {a b : Int64} (x y : Nat) (hx : x < 2 ^ 31) (hy : y < 2 ^ 31) (ha : a = (nI x).toInt64) (hb : b = (nI y).toInt64) : fX8_in (nI ch).toInt64 a b = if x ≤ ch ∧ ch ≤ y then 1 else 0 := by
  subst ha hb
  rw [in_eq]
  by_cases h : x ≤ ch ∧ ch ≤ y
  · rw [if_pos h, if_neg (fun q => q.elim (nI_nlt h.1 hc) (nI_nlt h.2 hy))]
  · rw [if_neg h, if_pos]
    by_cases g : x ≤ ch
    · exact Or.inr (nI_lt (by omega) hc)
    · exact Or.inl (nI_lt (by omega) hx)
theorem chne {ch k : Nat} (hc : ch < 2 ^ 31) (hk : k < 2 ^ 31) (g : ch ≠ k) : ¬ nI ch = nI k := fun q => g ((nI_eq hc hk).mp q)
theorem zck_1 {β : Type} (r : Option β) : zck 1 r = r := if_pos (Or.inr rfl)
theorem zck_0 {β : Type} (r : Option β) : zck 0 r = r := if_pos (Or.inl rfl)
def W10 (p1 : Int32) (s11 : zkS) : Option (Int32 × zkS) := if p1 < 65 then some (0, s11) else (if 70 < p1 then some (0, s11) else (if ((s11.1 44 7) - 1) - (p1 - 65) < 0 then some (0, s11) else (if 6 ≤ ((s11.1 44 7) - 1) - (p1 - 65) then some (0, s11) else zrd s11 46 6 (((s11.1 44 7) - 1) - (p1 - 65)) (fun v19 => zb2 (fX6_put 33 v19 s11) (fun v20 s21 => (if v20 = 0 then some (0, s21) else some (1, s21)))))))
def W9 (p1 p3 : Int32) (s11 : zkS) : Option (Int32 × zkS) := if p1 < 97 then W10 p1 s11 else (if 120 < p1 then W10 p1 s11 else (if (fX7_has p3 (p1 - 97)) = 0 then some (0, s11) else zb2 (fX6_put 33 (p1 - 97) s11) (fun v23 s24 => (if v23 = 0 then some (0, s24) else some (1, s24)))))
def W8 (p1 p3 : Int32) (s11 : zkS) : Option (Int32 × zkS) := if p1 = 126 then zb2 (fX6_put 33 (-5) s11) (fun v12 s13 => zck v12 (some (v12, s13))) else (if p1 < 48 then W9 p1 p3 s11 else (if 57 < p1 then W9 p1 p3 s11 else zb2 (fX0_add 33 0 (p1 - 48) 0 (zsi s11 44 1 ((s11.1 44 1) + 1))) (fun v26 s27 => zb2 (fX6_put 33 v26 s27) (fun v28 s29 => zck v28 (some (v28, s29))))))
def W7 (p1 p3 : Int32) (s0 : zkS) : Option (Int32 × zkS) := if p1 = 40 then zb2 (fX6_open 33 p1 s0) (fun v5 s6 => zck v5 (some (v5, s6))) else (if p1 = 91 then zb2 (fX6_open 33 p1 s0) (fun v5 s6 => zck v5 (some (v5, s6))) else (if p1 = 60 then zb2 (fX6_open 33 p1 s0) (fun v5 s6 => zck v5 (some (v5, s6))) else W8 p1 p3 (zsi s0 44 8 0)))
theorem take7 (p x : Int32) (s : zkS) : fX6_take 33 p x s = if (s.1 44 8) = 0 then zb2 (fX6_goOn p s) (fun v1 s2 => zck v1 (some (v1, s2))) else (if p = 93 then zb1 (fX6_isRowJustOpened s) (fun v30 => (if v30 = 0 then W7 p x s else zw2 (fX6_close s) (fun v31 s32 => zck v31 (some (v31, s32))))) else W7 p x s) := rfl
def wnt (s : zkS) (D : Nat) (ho : Nat → Nat) (dn : Nat) : Prop := (s.1 44 8 = 0 ∧ (D = 0 → dn = 1) ∧ (∀ l, D = l + 1 → ho l = 1)) ∨ (s.1 44 8 = 1 ∧ (D = 0 → dn = 0) ∧ ∀ l, D = l + 1 → ho l ≠ 1)
def OUTR (c0 : Nat) (x1 : Int32) (σ0 : zkS) (K : Nat) (s t : zkS) : Prop := ∃ N D dn e vo ho ly tg mn, N ≤ K ∧ N ≤ e ∧ PR c0 x1 σ0 s t N D vo ho ly tg mn dn e ∧ wnt s D ho dn
def resR (c0 : Nat) (x1 : Int32) (σ0 : zkS) (K : Nat) (s t : zkS) (A B : Option (Int32 × zkS)) : Prop := ∃ r s' t', A = some (r, s') ∧ B = some (r, t') ∧ fc s s' ∧ ft t t' ∧ (r = 0 ∨ r = 1 ∧ OUTR c0 x1 σ0 K s' t')
theorem PR_s {c0 N D dn e : Nat} {x1 : Int32} {σ0 s s' t : zkS} {vo ho ly tg mn : Nat → Nat} (hr : ∀ a, 33 ≤ a ∧ a ≤ 38 ∨ 46 ≤ a ∧ a ≤ 48 → s'.1 a = s.1 a) (h1 : s'.1 44 1 = s.1 44 1) (h2 : s'.1 44 2 = s.1 44 2) (h7 : s'.1 44 7 = s.1 44 7) (h : PR c0 x1 σ0 s t N D vo ho ly tg mn dn e) : PR c0 x1 σ0 s' t N D vo ho ly tg mn dn e := by
  obtain ⟨hg, hm, ⟨c1, c7, cc⟩, ⟨o1, o2, o3⟩, hb, hs⟩ := h
  exact ⟨hg, hm, ⟨h1.trans c1, h7.trans c7, fun l hl => by rw [hr 46 (by omega), hr 47 (by omega), hr 48 (by omega)]; exact cc l hl⟩, ⟨fun q => h2.trans (o1 q), fun q => ⟨h2.trans (o2 q).1, (o2 q).2⟩, o3⟩, bR_c (fun a a1 a2 => hr a (by omega)) rfl hb, sR_c (fun a a1 a2 => hr a (by omega)) hs⟩
theorem PR_8 {c0 N D dn e : Nat} {x1 v : Int32} {σ0 s t : zkS} {vo ho ly tg mn : Nat → Nat} (h : PR c0 x1 σ0 s t N D vo ho ly tg mn dn e) : PR c0 x1 σ0 (zsi s 44 8 v) t N D vo ho ly tg mn dn e :=
  PR_s (fun a ha => si_r _ _ (by omega)) (si_b _ _ (by omega)) (si_b _ _ (by omega)) (si_b _ _ (by omega)) h
theorem fc_8 (s : zkS) (v : Int32) : fc s (zsi s 44 8 v) := ⟨fun a _ a2 _ => si_r _ _ a2, fun j _ _ _ j8 => si_b _ _ j8, rfl⟩
theorem leaf_rel {c0 N D dn e : Nat} {x1 x : Int32} {σ0 s t : zkS} {vo ho ly tg mn : Nat → Nat} (h : PR c0 x1 σ0 s t N D vo ho ly tg mn dn e) (he : N ≤ e) (hN : N ≤ 100) (hw1 : ∀ l, D = l + 1 → ho l ≠ 1) (h8 : s.1 44 8 = 0) (hx : hv x1 N x) : ∃ s' t', fX6_put 33 (tl c0 x) s = some (1, s') ∧ fX8_gives x t = some t' ∧ fc s s' ∧ ft t t' ∧ OUTR c0 x1 σ0 N s' t' := by
  obtain ⟨s', t', ho', mn', dn', q1, q2, q3, q4, q5, q6, q7, q8⟩ := L_give h hN hw1 hx
  exact ⟨s', t', q1, q2, q4, q5, N, D, dn', e, vo, ho', ly, tg, mn', Nat.le_refl _, he, q3, Or.inl ⟨q8.trans h8, q6, q7⟩⟩
theorem OUTR_m {c0 : Nat} {x1 : Int32} {σ0 : zkS} {K K' : Nat} {s t : zkS} (h : K ≤ K') (q : OUTR c0 x1 σ0 K s t) : OUTR c0 x1 σ0 K' s t := by
  obtain ⟨N, D, dn, e, vo, ho, ly, tg, mn, q1, q2⟩ := q
  exact ⟨N, D, dn, e, vo, ho, ly, tg, mn, by omega, q2⟩
theorem open_rel {c0 N D dn e ch y : Nat} {x1 : Int32} {σ0 s t : zkS} {vo ho ly tg mn : Nat → Nat} (h : PR c0 x1 σ0 s t N D vo ho ly tg mn dn e) (he : N ≤ e) (hN : N ≤ 99) (hD : D < 6) (hw0 : D = 0 → dn = 0) (hw1 : ∀ l, D = l + 1 → ho l ≠ 1) (h8 : s.1 44 8 = 1) (hch : ch = 40 ∧ y = 1 ∨ ch = 91 ∧ y = 2 ∨ ch = 60 ∧ y = 3) : ∃ s' t', fX6_open 33 (nI ch) s = some (1, s') ∧ fX8_begins (nI ch) t = some (1, t') ∧ fc s s' ∧ ft t t' ∧ OUTR c0 x1 σ0 (N + 1) s' t' := by
  have hy : 1 ≤ y ∧ y ≤ 3 := by omega
  have esg : sg y = nI ch := by
    rcases hch with ⟨rfl, rfl⟩ | ⟨rfl, rfl⟩ | ⟨rfl, rfl⟩ <;> rfl
  have eso : szO y 0 ≤ 6 := by
    rcases (show y = 1 ∨ y = 2 ∨ y = 3 by omega) with rfl | rfl | rfl <;> decide
  have ef : fX7_fieldsOf (nI y) 0 = nI (szO y 0) := by
    rcases (show y = 1 ∨ y = 2 ∨ y = 3 by omega) with rfl | rfl | rfl <;> rfl
  have hp := h
  obtain ⟨hg, ⟨m13, m14, -⟩, ⟨c1, c7, -⟩, -, -, hs⟩ := hp
  obtain ⟨s1, e1, a1, a2, a3, a4⟩ := addN (y := y) (g := 0) eso hs
  have s14 : s1.1 44 = s.1 44 := a1 44 (by omega)
  obtain ⟨t1, e2, p2, f2⟩ := L_new (e' := N) (s' := zsi s1 44 1 (nI (N + 1))) h he (by omega) (show y ≤ 3 by omega) (show 0 ≤ 9 by omega) (sR_c (fun a _ _ => si_r _ _ (by omega)) a3) (fun q => by
    rw [si_r _ _ (by omega), si_r _ _ (by omega), si_r _ _ (by omega), si_r _ _ (by omega), si_r _ _ (by omega)]
    exact a4 q) (si_eq _ _ _ _) (by rw [si_b _ _ (by omega), s14]) (by rw [si_b _ _ (by omega), s14]) (fun a _ _ => by rw [si_r _ _ (by omega), a1 a (by omega)]) (Or.inr rfl)
  have hnv : ∀ l, l < D → vo l ≠ N := fun l hl => by have := hg.2.2.1 l hl; omega
  obtain ⟨s2, e3, b7, b8, b1, f3, p3⟩ := L_push (v := N) (e' := N + 1) p2 (fun u _ q => q) (by omega) hnv (by rw [fu_eq]; exact hy) (fu_eq _ _ _) hD hw0 hw1
  rw [fu_eq] at p3
  refine ⟨_, _, ?_, ?_, ?_, ?_, N + 1, D + 1, dn, N + 1, _, _, _, _, _, Nat.le_refl _, Nat.le_refl _, p3, Or.inr ⟨?_, fun q => by omega, fun l hl => ?_⟩⟩
  · have body : (zb2 (fX0_add 33 (nI y) 0 (fX7_fieldsOf (nI y) 0) s) fun v4 s5 => zpi s5 44 1 (s5.1 44 1 + 1) fun s6 => zb2 (fX6_put 33 v4 s6) fun v7 s8 => zwr s8 46 6 (s8.1 44 7) v4 fun s9 => zwr s9 47 6 (s9.1 44 7) (nI y) fun s10 => zwr s10 48 6 (s10.1 44 7) 0 fun s11 => zpi s11 44 7 (s11.1 44 7 + 1) fun s12 => some ((1 : Int32), s12)) = some (1, pu7 s2 D (cl c0 N) y) := by
      rw [ef, show (0 : Int32) = nI 0 from rfl, e1, zb2_s]
      unfold zpi
      dsimp only
      rw [s14, c1, nI_1, e3, zb2_s, b7, wr_nI hD (by decide), si_r _ _ (show 44 ≠ 46 by decide), b7, wr_nI hD (by decide), si_r _ _ (show 44 ≠ 47 by decide), si_r _ _ (show 44 ≠ 46 by decide), b7, wr_nI hD (by decide), si_r _ _ (show 44 ≠ 48 by decide), si_r _ _ (show 44 ≠ 47 by decide), si_r _ _ (show 44 ≠ 46 by decide), b7, nI_1]
      rfl
    unfold fX6_open
    simp only [jn]
    rw [c7, if_neg (nI_nneg (by omega)), if_pos (show nI D < (6 : Int32) from nI_lt (b := 6) hD (by decide))]
    rcases hch with ⟨rfl, rfl⟩ | ⟨rfl, rfl⟩ | ⟨rfl, rfl⟩
    · rw [if_pos (show nI 40 = 40 from rfl)]
      exact body
    · rw [if_neg (show ¬ nI 91 = 40 by decide), if_pos (show nI 91 = 91 from rfl)]
      exact body
    · rw [if_neg (show ¬ nI 60 = 40 by decide), if_neg (show ¬ nI 60 = 91 by decide)]
      exact body
  · have T14 : t1.1 0 14 = nI D := p2.2.1.2.1
    have body : (zb2 (fX8_isNew (nI y) 0 t) fun v9 s10 => zwr s10 5 8 (t.1 0 14) v9 fun s11 => zwr s11 6 8 (s11.1 0 14) (nI ch) fun s12 => zwr s12 7 8 (s12.1 0 14) 0 fun s13 => zpi s13 0 14 (s13.1 0 14 + 1) fun s14 => some ((1 : Int32), s14)) = some (1, pu8 t1 D N y) := by
      rw [show (0 : Int32) = nI 0 from rfl, e2, zb2_s, m14, wr_nI (by omega) (by decide), si_r _ _ (show 0 ≠ 5 by decide), T14, wr_nI (by omega) (by decide), si_r _ _ (show 0 ≠ 6 by decide), si_r _ _ (show 0 ≠ 5 by decide), T14, wr_nI (by omega) (by decide)]
      unfold zpi
      dsimp only
      rw [si_r _ _ (show 0 ≠ 7 by decide), si_r _ _ (show 0 ≠ 6 by decide), si_r _ _ (show 0 ≠ 5 by decide), T14, nI_1, ← esg]
      rfl
    have n6 : ¬ t.1 0 14 = 6 := by
      rw [m14]
      exact chne (k := 6) (by omega) (by omega) (by omega)
    unfold fX8_begins
    simp only [jn, zlt]
    rw [in_n ch (by omega) (a := 48) (b := 57) 48 57 (by omega) (by omega) (by decide) (by decide), ite10, if_neg (show ¬ (48 ≤ ch ∧ ch ≤ 57) by omega), in_n ch (by omega) (a := 97) (b := 120) 97 120 (by omega) (by omega) (by decide) (by decide), ite10, if_neg (show ¬ (97 ≤ ch ∧ ch ≤ 120) by omega), in_n ch (by omega) (a := 65) (b := 70) 65 70 (by omega) (by omega) (by decide) (by decide), ite10, if_neg (show ¬ (65 ≤ ch ∧ ch ≤ 70) by omega), if_neg n6]
    rcases hch with ⟨rfl, rfl⟩ | ⟨rfl, rfl⟩ | ⟨rfl, rfl⟩
    · rw [if_neg (show ¬ nI 40 = 126 by decide), if_pos (show nI 40 = 40 from rfl), if_pos (show nI 40 = 40 from rfl)]
      exact body
    · rw [if_neg (show ¬ nI 91 = 126 by decide), if_neg (show ¬ nI 91 = 40 by decide), if_neg (show ¬ nI 91 = 40 by decide), if_pos (show nI 91 = 91 from rfl), if_pos (show nI 91 = 91 from rfl)]
      exact body
    · rw [if_neg (show ¬ nI 60 = 126 by decide), if_neg (show ¬ nI 60 = 40 by decide), if_neg (show ¬ nI 60 = 40 by decide), if_neg (show ¬ nI 60 = 91 by decide), if_neg (show ¬ nI 60 = 91 by decide), if_pos (show nI 60 = 60 from rfl)]
      exact body
  · refine fc_t (s1 := zsi s1 44 1 (nI (N + 1))) ⟨fun a x1 x2 _ => by rw [si_r _ _ x2, a1 a (by omega)], fun j j1 _ _ _ => by rw [si_b _ _ j1, s14], by rw [si_2, a2]⟩ (fc_t f3 ⟨fun a _ x2 x3 => pu7_r _ _ _ _ x2 x3, fun j _ _ j7 _ => pu7_4 _ _ _ _ j7, rfl⟩)
  · exact ft_t f2 ⟨fun a x1 x2 => pu8_r _ _ _ _ x1 (by omega), fun j hj => pu8_0 _ _ _ _ (by omega), rfl⟩
  · rw [pu7_4 _ _ _ _ (by omega), b8, si_b _ _ (by omega), s14]; exact h8
  · have : l = D := by omega
    rw [this, fu_eq]
    decide
