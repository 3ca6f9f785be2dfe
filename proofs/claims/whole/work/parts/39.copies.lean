/-! ===== copies ===== -/
theorem copies_L {β : Type} {u v : Nat} (h : u ≠ v) {K : zkS → Option zkS} : ∀ m i (τ : zkS), i ≤ 346 → 346 - i < m → ∃ τ', fX8_copies_L2 m u v (nI i) τ K = K τ' ∧ (∀ j, i ≤ j → j < 346 → τ'.1 v j = τ.1 u j) ∧ (∀ j, j < i → τ'.1 v j = τ.1 v j) ∧ (∀ a, a ≠ v → τ'.1 a = τ.1 a) ∧ τ'.2 = τ.2 := by
  intro m
  induction m with
  | zero => intros; omega
  | succ m ih =>
    intro i τ h1 h2
    unfold fX8_copies_L2
    by_cases e : i = 346
    · subst e
      rw [if_pos (by decide)]
      exact ⟨τ, rfl, fun j q1 q2 => by omega, fun j _ => rfl, fun a _ => rfl, rfl⟩
    · rw [if_neg (show ¬ (346 : Int32) ≤ nI i from nI_ge (b := 346) (by omega) (by decide)), rd_nI (by omega) (by decide), wr_nI (by omega) (by decide)]
      simp only [zlt]
      rw [nI_1]
      obtain ⟨τ', q1, q2, q3, q4, q5⟩ := ih (i + 1) (zsi τ v i (τ.1 u i)) (by omega) (by omega)
      refine ⟨τ', q1, fun j j1 j2 => ?_, fun j j1 => ?_, fun a ha => ?_, q5⟩
      · by_cases ej : j = i
        · subst ej
          rw [q3 j (by omega), si_eq]
        · rw [q2 j (by omega) j2, si_ne _ _ (Or.inl h)]
      · rw [q3 j (by omega), si_ne _ _ (Or.inr (by omega))]
      · rw [q4 a ha, si_row _ _ ha]
theorem copies8 {u v : Nat} (h : u ≠ v) (τ : zkS) : ∃ τ', fX8_copies u v τ = some τ' ∧ (∀ j, j < 346 → τ'.1 v j = τ.1 u j) ∧ (∀ a, a ≠ v → τ'.1 a = τ.1 a) ∧ τ'.2 = τ.2 := by
  obtain ⟨τ', q1, q2, q3, q4, q5⟩ := copies_L (β := Unit) h (K := fun s => some s) zFU 0 τ (by omega) (by unfold zFU; omega)
  exact ⟨τ', q1, fun j hj => q2 j (by omega) hj, q4, q5⟩
theorem rG_w {σ : zkS} {b : Nat} {w w' : Nat → Int32} (h : ∀ j, j < 346 → w' j = w j) (hr : rG σ b w) : rG σ b w' := rG_c (fun _ _ _ => rfl) (fun j hj => h j (by unfold iG at hj; omega)) hr
theorem rK_w {σ : zkS} {b : Nat} {w w' : Nat → Int32} {P : Nat → Prop} (h : ∀ j, j < 346 → w' j = w j) (hr : rK σ b w P) : rK σ b w' P := rK_c (fun _ _ _ => rfl) (fun j hj => h j (by unfold iK at hj; omega)) hr
theorem rAll_w {σ : zkS} {e : Nat} {w w' : Nat → Int32} (h : ∀ j, j < 346 → w' j = w j) (hr : rAll σ e w) : rAll σ e w' :=
  ⟨rG_w h hr.1, rK_w h hr.2.1, rS_c (fun _ _ _ => rfl) (fun j hj => h j (by unfold iS at hj; omega)) hr.2.2.1, wG_c (fun j hj => h j (by unfold iG at hj; omega)) hr.2.2.2.1, wK_c (fun j hj => h j (by unfold iK at hj; omega)) hr.2.2.2.2⟩
theorem cy_lit {β : Type} {σ : zkS} {a b n : Nat} {N : Int32} {F : zkS → Option β} (h : N = nI n) (hn : n < 2 ^ 31) : zcy σ a b n n 0 0 N F = F (zcI σ a b 0 0 n) := by
  subst h
  unfold zcy
  rw [nI_clamp hn, show (0 : Int32).toNatClampNeg = 0 from rfl, if_neg]
  intro q
  rcases q with q | q | q | q | q
  · exact absurd q (by decide)
  · exact absurd q (by decide)
  · exact nI_nneg hn q
  · omega
  · omega
theorem cI_eq (σ : zkS) {a b n j : Nat} (h : j < n) : (zcI σ a b 0 0 n).1 b j = σ.1 a j := by
  show (if b = b then va_cpy (σ.1 a) (σ.1 b) 0 0 n j else _) = _
  rw [if_pos rfl, pk_cpy_in (by omega) (by omega), Nat.zero_add, Nat.sub_zero]
theorem cI_ne (σ : zkS) {a b n c : Nat} (h : c ≠ b) : (zcI σ a b 0 0 n).1 c = σ.1 c := funext fun j => if_neg h
theorem copyG {b o : Nat} (h : o + 5 < b ∨ b + 5 < o) (σ : zkS) : ∃ σ', fX0_copyFrom b o σ = some σ' ∧ (∀ w, rG σ o w → rG σ' b w) ∧ (∀ a, ¬ (b ≤ a ∧ a ≤ b + 5) → σ'.1 a = σ.1 a) ∧ σ'.2 = σ.2 := by
  unfold fX0_copyFrom
  simp only [zpi, cy_lit (n := 24) (N := 24) rfl (by decide), cy_lit (n := 144) (N := 144) rfl (by decide), cy_lit (n := 4) (N := 4) rfl (by decide)]
  refine ⟨_, rfl, fun w hr => ?_, fun a ha => ?_, rfl⟩
  · obtain ⟨g0, g1, g2, g3, g4, g5⟩ := hr
    refine ⟨?_, ?_, ?_, fun c hc => ⟨?_, ?_, ?_⟩, fun c i hc hb hi hs => ?_, fun r hr => ?_⟩
    · rw [cI_ne _ (by omega), cI_ne _ (by omega), cI_ne _ (by omega), cI_ne _ (by omega), cI_ne _ (by omega), si_ne _ _ (by omega), si_ne _ _ (by omega), si_eq]
      exact g0
    · rw [cI_ne _ (by omega), cI_ne _ (by omega), cI_ne _ (by omega), cI_ne _ (by omega), cI_ne _ (by omega), si_ne _ _ (by omega), si_eq, si_ne _ _ (by omega)]
      exact g1
    · rw [cI_ne _ (by omega), cI_ne _ (by omega), cI_ne _ (by omega), cI_ne _ (by omega), cI_ne _ (by omega), si_eq, si_ne _ _ (by omega), si_ne _ _ (by omega)]
      exact g2
    · rw [cI_ne _ (by omega), cI_ne _ (by omega), cI_ne _ (by omega), cI_ne _ (by omega), cI_eq _ hc, si_row _ _ (by omega), si_row _ _ (by omega), si_row _ _ (by omega)]
      exact (g3 c hc).1
    · rw [cI_ne _ (by omega), cI_ne _ (by omega), cI_ne _ (by omega), cI_eq _ hc, cI_ne _ (by omega), si_row _ _ (by omega), si_row _ _ (by omega), si_row _ _ (by omega)]
      exact (g3 c hc).2.1
    · rw [cI_ne _ (by omega), cI_ne _ (by omega), cI_eq _ hc, cI_ne _ (by omega), cI_ne _ (by omega), si_row _ _ (by omega), si_row _ _ (by omega), si_row _ _ (by omega)]
      exact (g3 c hc).2.2
    · rw [cI_ne _ (by omega), cI_eq _ (by omega), cI_ne _ (by omega), cI_ne _ (by omega), cI_ne _ (by omega), si_row _ _ (by omega), si_row _ _ (by omega), si_row _ _ (by omega)]
      exact g4 c i hc hb hi hs
    · rw [cI_eq _ hr, cI_ne _ (by omega), cI_ne _ (by omega), cI_ne _ (by omega), cI_ne _ (by omega), si_row _ _ (by omega), si_row _ _ (by omega), si_row _ _ (by omega)]
      exact g5 r hr
  · rw [cI_ne _ (by omega), cI_ne _ (by omega), cI_ne _ (by omega), cI_ne _ (by omega), cI_ne _ (by omega), si_row _ _ (by omega), si_row _ _ (by omega), si_row _ _ (by omega)]
theorem pz {β : Type} {σ : zkS} {a k : Nat} {v : Int32} {F : zkS → Option β} (h : v = 0 ∨ v = 1) : zpz σ a k v F = F (zsi σ a k v) := if_pos h
theorem copyK {b o : Nat} (h : o + 2 < b ∨ b + 2 < o) {σ : zkS} (h0 : σ.1 o 0 = 0 ∨ σ.1 o 0 = 1) (h1 : σ.1 o 1 = 0 ∨ σ.1 o 1 = 1) : ∃ σ', fX2_copyFrom b o σ = some σ' ∧ (∀ w P, rK σ o w P → rK σ' b w P) ∧ (∀ a, ¬ (b ≤ a ∧ a ≤ b + 2) → σ'.1 a = σ.1 a) ∧ σ'.2 = σ.2 := by
  unfold fX2_copyFrom
  have e : ∀ (s : zkS) k v j, (zsi s b k v).1 o j = s.1 o j := fun s k v j => si_ne _ _ (by omega)
  rw [pz h0, e, pz h1]
  simp only [zpi, cy_lit (n := 24) (N := 24) rfl (by decide), e]
  refine ⟨_, rfl, fun w P hr => ?_, fun a ha => ?_, rfl⟩
  · obtain ⟨g0, g1, g2, g3, g4, g5, g6, g7, g8, g9, g10, g11, g12, g13⟩ := hr
    have eb : ∀ (s : zkS) j, (zcI (zcI s (o + 1) (b + 1) 0 0 24) (o + 2) (b + 2) 0 0 24).1 b j = s.1 b j := fun s j => by rw [cI_ne _ (by omega), cI_ne _ (by omega)]
    have e1 : ∀ (s : zkS) j, j < 24 → (zcI (zcI s (o + 1) (b + 1) 0 0 24) (o + 2) (b + 2) 0 0 24).1 (b + 1) j = s.1 (o + 1) j := fun s j hj => by rw [cI_ne _ (by omega), cI_eq _ hj]
    have e2 : ∀ (s : zkS) j, j < 24 → (zcI (zcI s (o + 1) (b + 1) 0 0 24) (o + 2) (b + 2) 0 0 24).1 (b + 2) j = s.1 (o + 2) j := fun s j hj => by rw [cI_eq _ hj, cI_ne _ (by omega)]
    have er : ∀ (s : zkS) k v a, a ≠ b → (zsi s b k v).1 a = s.1 a := fun s k v a ha => si_row _ _ ha
    unfold rK
    simp only [eb, si_if, true_and]
    refine ⟨g0, g1, g2, g3, g4, g5, g6, g7, g8, g9, g10, fun q => ⟨(g11 q).1, (g11 q).2.1, fun j hj hj2 => ?_⟩, g12, fun c hc hP => ?_⟩
    · rw [e1 _ j hj2]
      simp only [er _ _ _ (o + 1) (show o + 1 ≠ b by omega)]
      exact (g11 q).2.2 j hj hj2
    · rw [e2 _ c hc]
      simp only [er _ _ _ (o + 2) (show o + 2 ≠ b by omega)]
      exact g13 c hc hP
  · rw [cI_ne _ (by omega), cI_ne _ (by omega), si_row _ _ (by omega), si_row _ _ (by omega), si_row _ _ (by omega), si_row _ _ (by omega), si_row _ _ (by omega), si_row _ _ (by omega), si_row _ _ (by omega), si_row _ _ (by omega), si_row _ _ (by omega), si_row _ _ (by omega), si_row _ _ (by omega), si_row _ _ (by omega), si_row _ _ (by omega)]
theorem copyS {b o : Nat} (h : o + 1 < b ∨ b + 1 < o) (σ : zkS) : ∃ σ', fX3_copyFrom b o σ = some σ' ∧ σ'.1 b 0 = σ.1 o 0 ∧ (∀ j, j < 30 → σ'.1 (b + 1) j = σ.1 (o + 1) j) ∧ (∀ a, ¬ (b ≤ a ∧ a ≤ b + 1) → σ'.1 a = σ.1 a) ∧ σ'.2 = σ.2 := by
  unfold fX3_copyFrom
  simp only [zpi, cy_lit (n := 30) (N := 30) rfl (by decide)]
  refine ⟨_, rfl, ?_, fun j hj => ?_, fun a ha => ?_, rfl⟩
  · rw [cI_ne _ (by omega), si_eq]
  · rw [cI_eq _ hj, si_row _ _ (by omega)]
  · rw [cI_ne _ (by omega), si_row _ _ (by omega)]
theorem copy4 {b o : Nat} (h : o + 15 < b ∨ b + 15 < o) {σ : zkS} {w : Nat → Int32} (hr : rAll σ o w) : ∃ σ', fX4_copyFrom b o σ = some σ' ∧ rAll σ' b w ∧ (∀ a, ¬ (b < a ∧ a ≤ b + 15) → σ'.1 a = σ.1 a) ∧ σ'.2 = σ.2 := by
  obtain ⟨hg, hk, hs, hw, hm⟩ := hr
  unfold fX4_copyFrom
  obtain ⟨s1, e1, f1, u1, v1⟩ := copyG (b := b + 1) (o := o + 1) (by omega) σ
  have k0 : s1.1 (o + 7) = σ.1 (o + 7) := u1 _ (by omega)
  obtain ⟨s2, e2, f2, u2, v2⟩ := copyK (b := b + 7) (o := o + 7) (by omega) (σ := s1) (by rw [k0, hk.1]; exact hm.1) (by rw [k0, hk.2.1]; exact hm.2.1)
  obtain ⟨s3, e3, f3, g3, u3, v3⟩ := copyS (b := b + 10) (o := o + 10) (by omega) s2
  obtain ⟨s4, e4, f4, g4, u4, v4⟩ := copyS (b := b + 12) (o := o + 12) (by omega) s3
  obtain ⟨s5, e5, f5, g5, u5, v5⟩ := copyS (b := b + 14) (o := o + 14) (by omega) s4
  rw [e1, zb1_s, e2, zb1_s, e3, zb1_s, e4, zb1_s, e5, zb1_s]
  refine ⟨s5, rfl, ⟨?_, ?_, ?_, hw, hm⟩, fun a ha => ?_, by rw [v5, v4, v3, v2, v1]⟩
  · exact rG_c (fun a h1 h2 => by rw [u5 _ (by omega), u4 _ (by omega), u3 _ (by omega), u2 _ (by omega)]) (fun j _ => rfl) (f1 w hg)
  · refine rK_c (fun a h1 h2 => by rw [u5 _ (by omega), u4 _ (by omega), u3 _ (by omega)]) (fun j _ => rfl) (f2 w _ ?_)
    exact rK_c (fun a h1 h2 => u1 _ (by omega)) (fun j _ => rfl) hk
  · obtain ⟨q1, q2, q3⟩ := rS_3.mp hs
    refine rS_3.mpr ⟨?_, ?_, ?_⟩
    · obtain ⟨a1, n, a2, a3, a4, a5⟩ := q1
      refine ⟨?_, n, a2, a3, fun j hj => ?_, a5⟩
      · rw [u5 _ (by omega), u4 _ (by omega), f3, u2 _ (by omega), u1 _ (by omega)]; exact a1
      · rw [u5 _ (by omega), u4 _ (by omega), g3 j (by omega), u2 _ (by omega), u1 _ (by omega)]; exact a4 j hj
    · obtain ⟨a1, n, a2, a3, a4⟩ := q2
      refine ⟨?_, n, a2, a3, fun j hj => ?_⟩
      · rw [u5 _ (by omega), f4, u3 _ (by omega), u2 _ (by omega), u1 _ (by omega)]; exact a1
      · rw [u5 _ (by omega), g4 _ (by omega), g4 _ (by omega), u3 _ (by omega), u2 _ (by omega), u1 _ (by omega)]; exact a4 j hj
    · obtain ⟨a1, n, a2, a3, a4, a5⟩ := q3
      refine ⟨?_, n, a2, a3, fun j hj => ?_, a5⟩
      · rw [f5, u4 _ (by omega), u3 _ (by omega), u2 _ (by omega), u1 _ (by omega)]; exact a1
      · rw [g5 _ (by omega), u4 _ (by omega), u3 _ (by omega), u2 _ (by omega), u1 _ (by omega)]; exact a4 j hj
  · rw [u5 _ (by omega), u4 _ (by omega), u3 _ (by omega), u2 _ (by omega), u1 _ (by omega)]
theorem T_image {σ τ : zkS} (hR : zRel σ τ) : ∃ (r : Int32) (σ1 : zkS) (τ1 : zkS), fX7_image σ = some (r, σ1) ∧ fX8_image τ = some (r, τ1) ∧ zRel σ1 τ1 := by
  obtain ⟨ha, hi, hx, ht⟩ := id hR
  unfold fX7_image fX8_image
  obtain ⟨s, e, hr, u, v⟩ := copy4 (b := 17) (o := 1) (by omega) ha
  obtain ⟨t, e', q1, q2, q3⟩ := copies8 (u := 1) (v := 3) (by decide) τ
  rw [e, zb1_s, e', zb1_s]
  unfold zpi fX8_there
  dsimp only
  rw [rd_1, zb1_s]
  have e2 : s.1 2 1 = t.1 1 1 := by rw [u 2 (by omega), q2 1 (by decide)]; exact ha.1.2.1
  refine ⟨_, zsi s 0 2 1, zsi t 0 3 1, rfl, by rw [show (zsi t 0 3 1).1 1 1 = t.1 1 1 from rfl, show (zsi s 0 2 1).1 2 1 = s.1 2 1 from rfl, e2], ?_, ⟨rfl, Or.inr rfl, fun _ => ?_⟩, ?_, ?_⟩
  · rw [si_row _ _ (by omega), q2 1 (by decide)]
    exact rAll_c (fun a h1 h2 => by rw [si_row _ _ (by omega), u a (by omega)]) ha
  · rw [si_row _ _ (by omega)]
    exact rAll_c (fun a h1 h2 => si_row _ _ (by omega)) (rAll_w q1 hr)
  · exact rX_c (by rw [si_row _ _ (by omega), u 44 (by omega)]) (by rw [si_row _ _ (by omega), u 45 (by omega)]) (by rw [si_ne _ _ (by omega), q2 0 (by decide)]) (by rw [si_row _ _ (by omega), q2 4 (by decide)]) hx
  · exact rT_c (by rw [si_row _ _ (by omega), u 50 (by omega)]) (by rw [si_row _ _ (by omega), u 51 (by omega)]) (by rw [si_row _ _ (by omega), q2 12 (by decide)]) (by rw [si_row _ _ (by omega), q2 13 (by decide)]) v q3 ht
theorem T_undo {σ τ : zkS} (hR : zRel σ τ) : ∃ (r : Int32) (σ1 : zkS) (τ1 : zkS), fX7_undo σ = some (r, σ1) ∧ fX8_undo τ = some (r, τ1) ∧ zRel σ1 τ1 := by
  obtain ⟨ha, hi, hx, ht⟩ := id hR
  unfold fX7_undo fX8_undo
  rw [hi.1]
  by_cases h : τ.1 0 3 = 0
  · rw [if_pos h, if_pos h]
    exact ⟨_, _, _, rfl, rfl, hR⟩
  rw [if_neg h, if_neg h]
  have hk := hi.2.2 (hi.2.1.resolve_left h)
  obtain ⟨s, e, hr, u, v⟩ := copy4 (b := 1) (o := 17) (by omega) hk
  obtain ⟨t, e', q1, q2, q3⟩ := copies8 (u := 3) (v := 1) (by decide) τ
  rw [e, zb1_s, e', zb1_s]
  unfold fX8_there
  rw [rd_1, zb1_s]
  have hr' := rAll_w q1 hr
  refine ⟨_, s, t, rfl, by rw [show s.1 2 1 = t.1 1 1 from hr'.1.2.1], hr', ?_, ?_, ?_⟩
  · exact rI_c (fun a h1 h2 => u a (by omega)) (by rw [u 0 (by omega)]) (by rw [q2 0 (by decide)]) (q2 3 (by decide)) hi
  · exact rX_c (by rw [u 44 (by omega)]) (u 45 (by omega)) (by rw [q2 0 (by decide)]) (q2 4 (by decide)) hx
  · exact rT_c (u 50 (by omega)) (u 51 (by omega)) (q2 12 (by decide)) (q2 13 (by decide)) v q3 ht
