/-! ===== a text is read: how the two stand to each other ===== -/
def sg (y : Nat) : Int32 := if y = 1 then 40 else if y = 2 then 91 else 60
def cl (c0 v : Nat) : Int32 := if c0 + v < 24 then nI (c0 + v) else -5
def tl (c0 : Nat) (x : Int32) : Int32 := if x < 100 then x else cl c0 (x.toNatClampNeg - 100)
def okS (y h m : Nat) : Prop := y = 1 ∧ (h = 0 ∧ m = 0 ∨ h = 2 ∧ m = 1 ∨ h = 1 ∧ (m = 1 ∨ m = 2)) ∨ y = 2 ∧ (h = 0 ∧ m = 0 ∨ h = 2 ∧ 1 ≤ m ∧ m ≤ 5 ∨ h = 1 ∧ 1 ≤ m ∧ m ≤ 6) ∨ y = 3 ∧ (h = 0 ∧ m = 0 ∨ h = 1 ∧ m = 1)
def hv (x1 : Int32) (N : Nat) (x : Int32) : Prop := x = -5 ∨ (∃ d, d < 24 ∧ x = nI d ∧ bt x1 d = true) ∨ ∃ v, v < N ∧ x = nI (100 + v)
def fu (f : Nat → Nat) (k v : Nat) : Nat → Nat := fun j => if j = k then v else f j
theorem fu_eq (f : Nat → Nat) (k v : Nat) : fu f k v k = v := if_pos rfl
theorem fu_ne (f : Nat → Nat) {k j : Nat} (v : Nat) (h : j ≠ k) : fu f k v j = f j := if_neg h
def gI (N D : Nat) (vo ho ly tg mn : Nat → Nat) (dn e : Nat) : Prop := D ≤ 6 ∧ (dn = 0 ∨ dn = 1 ∧ D = 0) ∧ (∀ l, l < D → vo l < N) ∧ (∀ l l', l < l' → l' < D → vo l ≠ vo l') ∧ (∀ l, l < D → okS (ly (vo l)) (ho l) (mn (vo l))) ∧ (∀ l, l + 1 < D → ho l ≠ 1) ∧ (∀ v, v < N → ly v ≤ 3 ∧ tg v ≤ 9 ∧ mn v ≤ 6) ∧ ∀ v, v < N → v ≠ e → (∀ l, l < D → vo l ≠ v) → mn v = szO (ly v) (mn v)
def mR (t : zkS) (N D : Nat) (vo ho ly tg mn : Nat → Nat) (dn : Nat) : Prop := t.1 0 13 = nI N ∧ t.1 0 14 = nI D ∧ t.1 0 16 = nI dn ∧ (∀ l, l < D → t.1 5 l = nI (vo l) ∧ t.1 6 l = sg (ly (vo l)) ∧ t.1 7 l = nI (ho l)) ∧ ∀ v, v < N → t.1 8 v = nI (ly v) ∧ t.1 9 v = nI (tg v) ∧ t.1 10 v = nI (mn v)
def cR (c0 : Nat) (s : zkS) (N D : Nat) (vo ly mn : Nat → Nat) : Prop := s.1 44 1 = nI N ∧ s.1 44 7 = nI D ∧ ∀ l, l < D → s.1 46 l = cl c0 (vo l) ∧ s.1 47 l = nI (ly (vo l)) ∧ s.1 48 l = nI (mn (vo l) + if l + 1 < D then 1 else 0)
def oR (c0 : Nat) (x1 : Int32) (s t : zkS) (N D : Nat) (vo mn : Nat → Nat) (dn : Nat) : Prop := (0 < D → s.1 44 2 = cl c0 (vo 0)) ∧ (dn = 1 → s.1 44 2 = tl c0 (t.1 0 15) ∧ hv x1 N (t.1 0 15)) ∧ ∀ v i, v < N → i < mn v → hv x1 N (t.1 11 (6 * v + i))
def bR (c0 : Nat) (σ0 s t : zkS) (N D : Nat) (vo ly tg mn : Nat → Nat) : Prop := c0 + N ≤ 24 → (∀ i, bt (s.1 33 1) i = (bt (σ0.1 33 1) i || decide (c0 ≤ i ∧ i < c0 + N))) ∧ (∀ j, ¬ (c0 ≤ j ∧ j < c0 + N) → s.1 34 j = σ0.1 34 j ∧ s.1 35 j = σ0.1 35 j ∧ s.1 36 j = σ0.1 36 j) ∧ (∀ j, j < 6 * c0 → s.1 37 j = σ0.1 37 j) ∧ (∀ v, v < N → s.1 34 (c0 + v) = nI (ly v) ∧ s.1 35 (c0 + v) = nI (tg v)) ∧ (∀ v, v < N → (∀ l, l + 1 < D → vo l ≠ v) → s.1 36 (c0 + v) = nI (szO (ly v) (mn v))) ∧ (∀ l, l + 1 < D → s.1 36 (c0 + vo l) = nI (szO (ly (vo l)) (mn (vo l) + 1)) ∧ s.1 37 (6 * (c0 + vo l) + mn (vo l)) = cl c0 (vo (l + 1))) ∧ ∀ v i, v < N → i < mn v → s.1 37 (6 * (c0 + v) + i) = tl c0 (t.1 11 (6 * v + i))
def sR (c0 : Nat) (σ0 s : zkS) (N : Nat) : Prop := s.1 33 0 = nI (if c0 + N < 24 then c0 + N else 24) ∧ s.1 33 2 = σ0.1 33 2 ∧ s.1 38 = σ0.1 38 ∧ safe s
def PR (c0 : Nat) (x1 : Int32) (σ0 s t : zkS) (N D : Nat) (vo ho ly tg mn : Nat → Nat) (dn e : Nat) : Prop := gI N D vo ho ly tg mn dn e ∧ mR t N D vo ho ly tg mn dn ∧ cR c0 s N D vo ly mn ∧ oR c0 x1 s t N D vo mn dn ∧ bR c0 σ0 s t N D vo ly tg mn ∧ sR c0 σ0 s N
def fc (s s' : zkS) : Prop := (∀ a, ¬ (33 ≤ a ∧ a ≤ 38) → a ≠ 44 → ¬ (46 ≤ a ∧ a ≤ 48) → s'.1 a = s.1 a) ∧ (∀ j, j ≠ 1 → j ≠ 2 → j ≠ 7 → j ≠ 8 → s'.1 44 j = s.1 44 j) ∧ s'.2 = s.2
def ft (t t' : zkS) : Prop := (∀ a, a ≠ 0 → ¬ (5 ≤ a ∧ a ≤ 11) → t'.1 a = t.1 a) ∧ (∀ j, ¬ (13 ≤ j ∧ j ≤ 16) → t'.1 0 j = t.1 0 j) ∧ t'.2 = t.2
theorem fc_0 (s : zkS) : fc s s := ⟨fun _ _ _ _ => rfl, fun _ _ _ _ _ => rfl, rfl⟩
theorem ft_0 (t : zkS) : ft t t := ⟨fun _ _ _ => rfl, fun _ _ => rfl, rfl⟩
theorem fc_t {s s1 s2 : zkS} (h : fc s s1) (k : fc s1 s2) : fc s s2 := ⟨fun a h1 h2 h3 => (k.1 a h1 h2 h3).trans (h.1 a h1 h2 h3), fun j h1 h2 h3 h4 => (k.2.1 j h1 h2 h3 h4).trans (h.2.1 j h1 h2 h3 h4), k.2.2.trans h.2.2⟩
theorem ft_t {s s1 s2 : zkS} (h : ft s s1) (k : ft s1 s2) : ft s s2 := ⟨fun a h1 h2 => (k.1 a h1 h2).trans (h.1 a h1 h2), fun j h1 => (k.2.1 j h1).trans (h.2.1 j h1), k.2.2.trans h.2.2⟩
theorem hv_m {x1 : Int32} {N N' : Nat} {x : Int32} (h : N ≤ N') (q : hv x1 N x) : hv x1 N' x := by
  rcases q with q | q | ⟨v, hv, e⟩
  · exact Or.inl q
  · exact Or.inr (Or.inl q)
  · exact Or.inr (Or.inr ⟨v, by omega, e⟩)
theorem cl_of {c0 v : Nat} (h : c0 + v < 24) : cl c0 v = nI (c0 + v) := if_pos h
theorem cl_k (c0 v : Nat) : cl c0 v = -5 ∨ ∃ c, c < 24 ∧ cl c0 v = nI c := by
  by_cases h : c0 + v < 24
  · exact Or.inr ⟨c0 + v, h, cl_of h⟩
  · exact Or.inl (if_neg h)
theorem tl_new {c0 v : Nat} (h : v < 2 ^ 30) : tl c0 (nI (100 + v)) = cl c0 v := by
  unfold tl
  rw [if_neg (show ¬ nI (100 + v) < (100 : Int32) from nI_nlt (b := 100) (by omega) (by omega)), nI_clamp (by omega), show 100 + v - 100 = v by omega]
theorem tl_old {c0 d : Nat} (h : d < 24) : tl c0 (nI d) = nI d := by
  unfold tl
  rw [if_pos (show nI d < (100 : Int32) from nI_lt (b := 100) (by omega) (by decide))]
theorem okS_open {y h m : Nat} (q : okS y h m) (g : h ≠ 1) : (1 ≤ y ∧ y ≤ 3) ∧ m < szO y (m + 1) ∧ szO y (m + 1) ≤ 6 ∧ m < 6 ∧ okS y 1 (m + 1) := by
  unfold okS at q ⊢
  rcases q with ⟨rfl, q⟩ | ⟨rfl, q⟩ | ⟨rfl, q⟩
  · rw [show szO 1 (m + 1) = 2 from rfl]
    omega
  · rw [show szO 2 (m + 1) = m + 1 from rfl]
    omega
  · rw [show szO 3 (m + 1) = 1 from rfl]
    omega
theorem bR_c {c0 N D : Nat} {vo ly tg mn : Nat → Nat} {σ0 s t s' t' : zkS} (h : ∀ a, 33 ≤ a → a ≤ 37 → s'.1 a = s.1 a) (k : t'.1 11 = t.1 11) (q : bR c0 σ0 s t N D vo ly tg mn) : bR c0 σ0 s' t' N D vo ly tg mn := by
  unfold bR at q ⊢
  rw [h 33 (by omega) (by omega), h 34 (by omega) (by omega), h 35 (by omega) (by omega), h 36 (by omega) (by omega), h 37 (by omega) (by omega), k]
  exact q
theorem safe_c {s s' : zkS} (h : s'.1 33 = s.1 33) (k : s'.1 36 = s.1 36) (q : safe s) : safe s' := by
  unfold safe at q ⊢
  rw [h, k]
  exact q
theorem sR_c {c0 N : Nat} {σ0 s s' : zkS} (h : ∀ a, 33 ≤ a → a ≤ 38 → s'.1 a = s.1 a) (q : sR c0 σ0 s N) : sR c0 σ0 s' N :=
  ⟨by rw [h 33 (by omega) (by omega)]; exact q.1, by rw [h 33 (by omega) (by omega)]; exact q.2.1, by rw [h 38 (by omega) (by omega)]; exact q.2.2.1, safe_c (h 33 (by omega) (by omega)) (h 36 (by omega) (by omega)) q.2.2.2⟩
/-- how the graph stands when the innermost one open has got one more -/
theorem put_b {c0 N l : Nat} {vo ho ly tg mn : Nat → Nat} {dn e : Nat} {σ0 s t : zkS} (hg : gI N (l + 1) vo ho ly tg mn dn e) (hb : bR c0 σ0 s t N (l + 1) vo ly tg mn) (hle : c0 + N ≤ 24) : c0 + vo l < 24 ∧ bt (s.1 33 1) (c0 + vo l) = true ∧ s.1 36 (c0 + vo l) = nI (szO (ly (vo l)) (mn (vo l))) := by
  obtain ⟨-, -, g3, g4, -⟩ := hg
  have h1 := g3 l (by omega)
  obtain ⟨b1, -, -, -, b5, -⟩ := hb hle
  refine ⟨by omega, ?_, b5 (vo l) h1 (fun l' hl' => g4 l' l (by omega) (by omega))⟩
  rw [b1, decide_eq_true (by omega), Bool.or_true]
theorem L_give {c0 N D dn e : Nat} {x1 x : Int32} {σ0 s t : zkS} {vo ho ly tg mn : Nat → Nat} (h : PR c0 x1 σ0 s t N D vo ho ly tg mn dn e) (hN : N ≤ 100) (hw1 : ∀ l, D = l + 1 → ho l ≠ 1) (hx : hv x1 N x) :
    ∃ s' t' ho' mn' dn', fX6_put 33 (tl c0 x) s = some (1, s') ∧ fX8_gives x t = some t' ∧ PR c0 x1 σ0 s' t' N D vo ho' ly tg mn' dn' e ∧ fc s s' ∧ ft t t' ∧ (D = 0 → dn' = 1) ∧ (∀ l, D = l + 1 → ho' l = 1) ∧ s'.1 44 8 = s.1 44 8 := by
  obtain ⟨hg, ⟨m13, m14, m16, mo, mv⟩, ⟨c1, c7, cc⟩, ⟨o1, o2, o3⟩, hb, hs⟩ := h
  rcases Nat.eq_zero_or_pos D with h0 | h0
  · subst h0
    obtain ⟨g1, g2, g3, g4, g5, g6, g7, g8⟩ := hg
    refine ⟨zsi s 44 2 (tl c0 x), zsi (zsi t 0 15 x) 0 16 1, ho, mn, 1, put33_0 c7, gives8_0 m14, ⟨⟨g1, Or.inr ⟨rfl, rfl⟩, g3, g4, g5, g6, g7, g8⟩, ⟨?_, ?_, si_eq _ _ _ _, fun l hl => by omega, fun v hv => ?_⟩, ⟨?_, ?_, fun l hl => by omega⟩, ⟨fun q => by omega, fun _ => ⟨?_, ?_⟩, fun v i hv hi => ?_⟩, bR_c (fun a a1 a2 => si_r _ _ (by omega)) (by rw [si_r _ _ (by omega), si_r _ _ (by omega)]) hb, sR_c (fun a a1 a2 => si_r _ _ (by omega)) hs⟩, ⟨fun a a1 a2 a3 => si_r _ _ a2, fun j j1 j2 j3 j4 => si_b _ _ j2, rfl⟩, ⟨fun a a1 a2 => by rw [si_r _ _ a1, si_r _ _ a1], fun j hj => by rw [si_b _ _ (by omega), si_b _ _ (by omega)], rfl⟩, fun _ => rfl, fun l hl => by omega, si_b _ _ (by omega)⟩
    · rw [si_b _ _ (by omega), si_b _ _ (by omega)]; exact m13
    · rw [si_b _ _ (by omega), si_b _ _ (by omega)]; exact m14
    · rw [si_r _ _ (by omega), si_r _ _ (by omega), si_r _ _ (by omega), si_r _ _ (by omega), si_r _ _ (by omega), si_r _ _ (by omega)]; exact mv v hv
    · rw [si_b _ _ (by omega)]; exact c1
    · rw [si_b _ _ (by omega)]; exact c7
    · rw [si_eq, si_b _ _ (by omega), si_eq]
    · rw [si_b _ _ (by omega), si_eq]; exact hx
    · rw [si_r _ _ (by omega), si_r _ _ (by omega)]; exact o3 v i hv hi
  · obtain ⟨l, rfl⟩ : ∃ l, D = l + 1 := ⟨D - 1, by omega⟩
    have hpb := fun hle => put_b hg hb hle
    obtain ⟨g1, g2, g3, g4, g5, g6, g7, g8⟩ := hg
    have hvl := g3 l (by omega)
    obtain ⟨hy, hm1, hm2, hm3, hok⟩ := okS_open (g5 l (by omega)) (hw1 l rfl)
    obtain ⟨c46, c47, c48⟩ := cc l (by omega)
    rw [if_neg (by omega), Nat.add_zero] at c48
    obtain ⟨s', ep, p48, p48', pf, p2, ps, pp⟩ := put33_1 (x := tl c0 x) (by omega) c7 c47 c48 c46 (by omega) hy (cl_k c0 (vo l)) hs.2.2.2
    have eg := gives8_1 (x := x) m14 (by omega) (mo l (by omega)).1 (by omega) (mv (vo l) hvl).2.2 hm3
    have hne : ∀ j, j < l + 1 → j ≠ l → vo j ≠ vo l := fun j hj hjl => g4 j l (by omega) (by omega)
    have hm6 : ∀ j, j + 1 < l + 1 → mn (vo j) < 6 := fun j hj => (okS_open (g5 j (by omega)) (g6 j hj)).2.2.2.1
    refine ⟨s', _, fu ho l 1, fu mn (vo l) (mn (vo l) + 1), dn, ep, eg, ⟨⟨g1, g2, g3, g4, fun j hj => ?_, fun j hj => ?_, fun v hv => ⟨(g7 v hv).1, (g7 v hv).2.1, ?_⟩, fun v hv he ho => ?_⟩, ⟨?_, ?_, ?_, fun j hj => ⟨?_, ?_, ?_⟩, fun v hv => ⟨?_, ?_, ?_⟩⟩, ⟨?_, ?_, fun j hj => ⟨?_, ?_, ?_⟩⟩, ⟨fun q => ?_, fun q => ?_, fun v i hv hi => ?_⟩, fun hle => ?_, ⟨?_, ?_, ?_, ps⟩⟩, ⟨fun a a1 a2 a3 => pf a (by omega) (by omega) (by omega), fun j _ _ _ _ => by rw [pf 44 (by omega) (by omega) (by omega)], p2⟩, ⟨fun a a1 a2 => by rw [si_r _ _ (by omega), si_r _ _ (by omega), si_r _ _ (by omega)], fun j hj => by rw [si_r _ _ (by omega), si_r _ _ (by omega), si_r _ _ (by omega)], rfl⟩, fun q => by omega, fun j hj => ?_, by rw [pf 44 (by omega) (by omega) (by omega)]⟩
    · by_cases g : j = l
      · subst g
        rw [fu_eq, fu_eq]; exact hok
      · rw [fu_ne _ _ g, fu_ne _ _ (hne j hj g)]; exact g5 j hj
    · rw [fu_ne _ _ (by omega)]; exact g6 j hj
    · by_cases g : v = vo l
      · rw [g, fu_eq]; omega
      · rw [fu_ne _ _ g]; exact (g7 v hv).2.2
    · rw [fu_ne _ _ (fun q => ho l (by omega) q.symm)]; exact g8 v hv he ho
    · rw [si_r _ _ (by omega), si_r _ _ (by omega), si_r _ _ (by omega)]; exact m13
    · rw [si_r _ _ (by omega), si_r _ _ (by omega), si_r _ _ (by omega)]; exact m14
    · rw [si_r _ _ (by omega), si_r _ _ (by omega), si_r _ _ (by omega)]; exact m16
    · rw [si_r _ _ (by omega), si_r _ _ (by omega), si_r _ _ (by omega)]; exact (mo j hj).1
    · rw [si_r _ _ (by omega), si_r _ _ (by omega), si_r _ _ (by omega)]; exact (mo j hj).2.1
    · by_cases g : j = l
      · subst g
        rw [si_eq, fu_eq]; rfl
      · rw [si_b _ _ g, si_r _ _ (by omega), si_r _ _ (by omega), fu_ne _ _ g]; exact (mo j hj).2.2
    · rw [si_r _ _ (by omega), si_r _ _ (by omega), si_r _ _ (by omega)]; exact (mv v hv).1
    · rw [si_r _ _ (by omega), si_r _ _ (by omega), si_r _ _ (by omega)]; exact (mv v hv).2.1
    · rw [si_r _ _ (by omega)]
      by_cases g : v = vo l
      · rw [g, fu_eq, si_eq]
      · rw [si_b _ _ g, si_r _ _ (by omega), fu_ne _ _ g]; exact (mv v hv).2.2
    · rw [pf 44 (by omega) (by omega) (by omega)]; exact c1
    · rw [pf 44 (by omega) (by omega) (by omega)]; exact c7
    · rw [pf 46 (by omega) (by omega) (by omega)]; exact (cc j hj).1
    · rw [pf 47 (by omega) (by omega) (by omega)]; exact (cc j hj).2.1
    · by_cases g : j = l
      · subst g
        rw [fu_eq, if_neg (by omega), Nat.add_zero]; exact p48
      · rw [p48' j g, fu_ne _ _ (hne j hj g)]; exact (cc j hj).2.2
    · rw [pf 44 (by omega) (by omega) (by omega)]; exact o1 q
    · rw [pf 44 (by omega) (by omega) (by omega), si_r _ _ (by omega), si_r _ _ (by omega), si_r _ _ (by omega)]; exact o2 q
    · rw [si_r _ _ (by omega), si_r _ _ (by omega)]
      by_cases g : 6 * v + i = 6 * vo l + mn (vo l)
      · rw [g, si_eq]; exact hx
      · rw [si_b _ _ g]
        refine o3 v i hv ?_
        by_cases g2 : v = vo l
        · rw [g2, fu_eq] at hi
          rw [g2] at g ⊢
          omega
        · rw [fu_ne _ _ g2] at hi; exact hi
    · obtain ⟨q1, q2, q3⟩ := hpb hle
      obtain ⟨b1, b2, b3, b4, b5, b6, b7⟩ := hb hle
      obtain ⟨r1, r2, r3, r4⟩ := pp (c0 + vo l) q1 (cl_of q1) q2 q3 hm1 hm2
      rw [pf 33 (by omega) (by omega) (by omega), pf 34 (by omega) (by omega) (by omega), pf 35 (by omega) (by omega) (by omega)]
      refine ⟨b1, fun j hj => ⟨(b2 j hj).1, (b2 j hj).2.1, ?_⟩, fun j hj => ?_, b4, fun v hv hlv => ?_, fun j hj => ⟨?_, ?_⟩, fun v i hv hi => ?_⟩
      · rw [r2 j (by omega)]; exact (b2 j hj).2.2
      · rw [r4 j (by omega)]; exact b3 j hj
      · by_cases g : v = vo l
        · rw [g, fu_eq]; exact r1
        · rw [r2 _ (by omega), fu_ne _ _ g]; exact b5 v hv hlv
      · rw [r2 _ (by have := hne j (by omega) (by omega); omega), fu_ne _ _ (hne j (by omega) (by omega))]; exact (b6 j hj).1
      · have hn := hne j (by omega) (by omega)
        have := hm6 j hj
        rw [fu_ne _ _ hn, r4 _ (by omega)]; exact (b6 j hj).2
      · rw [si_r _ _ (by omega), si_r _ _ (by omega)]
        by_cases g : v = vo l ∧ i = mn (vo l)
        · obtain ⟨rfl, rfl⟩ := g
          rw [r3, si_eq]
        · have hi6 : i < 6 := by
            by_cases g2 : v = vo l
            · rw [g2, fu_eq] at hi; omega
            · rw [fu_ne _ _ g2] at hi
              have := (g7 v hv).2.2
              omega
          have hi' : i < mn v := by
            by_cases g2 : v = vo l
            · rw [g2, fu_eq] at hi
              rw [g2]
              have : i ≠ mn (vo l) := fun q => g ⟨g2, q⟩
              omega
            · rw [fu_ne _ _ g2] at hi; exact hi
          have hpl : ¬ (6 * v + i = 6 * vo l + mn (vo l)) := fun q => g ⟨by omega, by omega⟩
          rw [r4 _ (by omega), si_b _ _ hpl]; exact b7 v i hv hi'
    · rw [pf 33 (by omega) (by omega) (by omega)]; exact hs.1
    · rw [pf 33 (by omega) (by omega) (by omega)]; exact hs.2.1
    · rw [pf 38 (by omega) (by omega) (by omega)]; exact hs.2.2.1
    · have : j = l := by omega
      subst this
      exact fu_eq _ _ _
