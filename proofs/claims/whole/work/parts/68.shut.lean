/-! ===== a text is read: closing, wanting more ===== -/
theorem L_shut {c0 N d dn e : Nat} {x1 : Int32} {σ0 s t : zkS} {vo ho ly tg mn : Nat → Nat} (h : PR c0 x1 σ0 s t N (d + 1) vo ho ly tg mn dn e) (hN : N ≤ 100) (hcl : mn (vo d) = szO (ly (vo d)) (mn (vo d))) :
    ∃ t' ho' mn' dn', fX8_shuts t = some t' ∧ PR c0 x1 σ0 (zsi (zsi s 44 7 (nI d)) 44 8 0) t' N d vo ho' ly tg mn' dn' e ∧ ft t t' ∧ (d = 0 → dn' = 1) ∧ ∀ l, d = l + 1 → ho' l = 1 := by
  obtain ⟨⟨g1, g2, g3, g4, g5, g6, g7, g8⟩, ⟨m13, m14, m16, mo, mv⟩, ⟨c1, c7, cc⟩, ⟨o1, o2, o3⟩, hb, hs⟩ := h
  have dn0 : dn = 0 := by
    rcases g2 with q | ⟨-, q⟩
    · exact q
    · omega
  have hvd := g3 d (by omega)
  have es : fX8_shuts t = zb1 (fX8_gives (nI (100 + vo d)) (zsi t 0 14 (nI d))) (fun s3 => some s3) := by
    unfold fX8_shuts zpi
    dsimp only
    rw [m14, show nI (d + 1) - 1 = nI d from pk_sub (b := 1) (by omega), si_eq, rd_nI (show d < 8 by omega) (by decide), si_r _ _ (show 5 ≠ 0 by decide), (mo d (by omega)).1, show (100 : Int32) + nI (vo d) = nI (100 + vo d) from nI_add 100 _]
  have s44 : ∀ j, j ≠ 7 → j ≠ 8 → (zsi (zsi s 44 7 (nI d)) 44 8 0).1 44 j = s.1 44 j := fun j j1 j2 => by rw [si_b _ _ j2, si_b _ _ j1]
  have s447 : (zsi (zsi s 44 7 (nI d)) 44 8 0).1 44 7 = nI d := by rw [si_b _ _ (by omega), si_eq]
  have sr : ∀ a, a ≠ 44 → (zsi (zsi s 44 7 (nI d)) 44 8 0).1 a = s.1 a := fun a ha => by rw [si_r _ _ ha, si_r _ _ ha]
  have hx : hv x1 N (nI (100 + vo d)) := Or.inr (Or.inr ⟨vo d, hvd, rfl⟩)
  rcases Nat.eq_zero_or_pos d with h0 | h0
  · subst h0
    rw [es, gives8_0 (by rw [si_eq]), zb1_s]
    refine ⟨_, ho, mn, 1, rfl, ⟨⟨by omega, Or.inr ⟨rfl, rfl⟩, fun l hl => by omega, fun l l' _ hl => by omega, fun l hl => by omega, fun l hl => by omega, g7, fun u hu hue _ => ?_⟩, ⟨?_, ?_, si_eq _ _ _ _, fun l hl => by omega, fun u hu => ?_⟩, ⟨?_, s447, fun l hl => by omega⟩, ⟨fun q => by omega, fun _ => ⟨?_, ?_⟩, fun u i hu hi => ?_⟩, fun hle => ?_, sR_c (fun a a1 a2 => sr a (by omega)) hs⟩, ⟨fun a a1 a2 => ?_, fun j hj => ?_, rfl⟩, fun _ => rfl, fun l hl => by omega⟩
    · by_cases q : u = vo 0
      · rw [q]; exact hcl
      · exact g8 u hu hue (fun l hl => by rw [show l = 0 by omega]; exact fun w => q w.symm)
    · rw [si_b _ _ (by omega), si_b _ _ (by omega), si_b _ _ (by omega)]; exact m13
    · rw [si_b _ _ (by omega), si_b _ _ (by omega), si_eq]
    · rw [si_r _ _ (by omega), si_r _ _ (by omega), si_r _ _ (by omega), si_r _ _ (by omega), si_r _ _ (by omega), si_r _ _ (by omega), si_r _ _ (by omega), si_r _ _ (by omega), si_r _ _ (by omega)]; exact mv u hu
    · rw [s44 1 (by omega) (by omega)]; exact c1
    · rw [s44 2 (by omega) (by omega), si_b _ _ (by omega), si_eq, tl_new (by omega)]; exact o1 (by omega)
    · rw [si_b _ _ (by omega), si_eq]; exact hx
    · rw [si_r _ _ (by omega), si_r _ _ (by omega), si_r _ _ (by omega)]; exact o3 u i hu hi
    · obtain ⟨b1, b2, b3, b4, b5, b6, b7⟩ := hb hle
      rw [sr 33 (by omega), sr 34 (by omega), sr 35 (by omega), sr 36 (by omega), sr 37 (by omega), si_r _ _ (show 11 ≠ 0 by omega), si_r _ _ (show 11 ≠ 0 by omega), si_r _ _ (show 11 ≠ 0 by omega)]
      exact ⟨b1, b2, b3, b4, fun u hu _ => b5 u hu (fun l hl => by omega), fun l hl => by omega, b7⟩
    · rw [si_r _ _ a1, si_r _ _ a1, si_r _ _ a1]
    · rw [si_b _ _ (by omega), si_b _ _ (by omega), si_b _ _ (by omega)]
  · obtain ⟨l, rfl⟩ : ∃ l, d = l + 1 := ⟨d - 1, by omega⟩
    obtain ⟨hy, hm1, hm2, hm3, hok⟩ := okS_open (g5 l (by omega)) (g6 l (by omega))
    have hvl := g3 l (by omega)
    have hne : ∀ j, j < l + 1 → j ≠ l → vo j ≠ vo l := fun j hj hjl => g4 j l (by omega) (by omega)
    have hdl : vo (l + 1) ≠ vo l := fun q => g4 l (l + 1) (by omega) (by omega) q.symm
    have eg := gives8_1 (t := zsi t 0 14 (nI (l + 1))) (x := nI (100 + vo (l + 1))) (l := l) (v := vo l) (m := mn (vo l)) (by rw [si_eq]) (by omega) (by rw [si_r _ _ (by omega)]; exact (mo l (by omega)).1) (by omega) (by rw [si_r _ _ (by omega)]; exact (mv (vo l) hvl).2.2) hm3
    rw [es, eg, zb1_s]
    refine ⟨_, fu ho l 1, fu mn (vo l) (mn (vo l) + 1), dn, rfl, ⟨⟨by omega, Or.inl dn0, fun j hj => g3 j (by omega), fun j j' h1 h2 => g4 j j' h1 (by omega), fun j hj => ?_, fun j hj => ?_, fun u hu => ⟨(g7 u hu).1, (g7 u hu).2.1, ?_⟩, fun u hu hue hou => ?_⟩, ⟨?_, ?_, ?_, fun j hj => ⟨?_, ?_, ?_⟩, fun u hu => ⟨?_, ?_, ?_⟩⟩, ⟨?_, s447, fun j hj => ⟨?_, ?_, ?_⟩⟩, ⟨fun _ => ?_, fun q => ?_, fun u i hu hi => ?_⟩, fun hle => ?_, sR_c (fun a a1 a2 => sr a (by omega)) hs⟩, ⟨fun a a1 a2 => ?_, fun j hj => ?_, rfl⟩, fun q => by omega, fun j hj => ?_⟩
    · by_cases q : j = l
      · subst q
        rw [fu_eq, fu_eq]; exact hok
      · rw [fu_ne _ _ q, fu_ne _ _ (hne j hj q)]; exact g5 j (by omega)
    · rw [fu_ne _ _ (by omega)]; exact g6 j (by omega)
    · by_cases q : u = vo l
      · rw [q, fu_eq]; omega
      · rw [fu_ne _ _ q]; exact (g7 u hu).2.2
    · have hul : u ≠ vo l := fun q => hou l (by omega) q.symm
      rw [fu_ne _ _ hul]
      by_cases q : u = vo (l + 1)
      · rw [q]; exact hcl
      · refine g8 u hu hue (fun j hj => ?_)
        by_cases q2 : j = l + 1
        · rw [q2]; exact fun w => q w.symm
        · exact hou j (by omega)
    · rw [si_r _ _ (by omega), si_r _ _ (by omega), si_r _ _ (by omega), si_b _ _ (by omega)]; exact m13
    · rw [si_r _ _ (by omega), si_r _ _ (by omega), si_r _ _ (by omega), si_eq]
    · rw [si_r _ _ (by omega), si_r _ _ (by omega), si_r _ _ (by omega), si_b _ _ (by omega)]; exact m16
    · rw [si_r _ _ (by omega), si_r _ _ (by omega), si_r _ _ (by omega), si_r _ _ (by omega)]; exact (mo j (by omega)).1
    · rw [si_r _ _ (by omega), si_r _ _ (by omega), si_r _ _ (by omega), si_r _ _ (by omega)]; exact (mo j (by omega)).2.1
    · by_cases q : j = l
      · subst q
        rw [si_eq, fu_eq]; rfl
      · rw [si_b _ _ q, si_r _ _ (by omega), si_r _ _ (by omega), si_r _ _ (by omega), fu_ne _ _ q]; exact (mo j (by omega)).2.2
    · rw [si_r _ _ (by omega), si_r _ _ (by omega), si_r _ _ (by omega), si_r _ _ (by omega)]; exact (mv u hu).1
    · rw [si_r _ _ (by omega), si_r _ _ (by omega), si_r _ _ (by omega), si_r _ _ (by omega)]; exact (mv u hu).2.1
    · rw [si_r _ _ (by omega)]
      by_cases q : u = vo l
      · rw [q, fu_eq, si_eq]
      · rw [si_b _ _ q, si_r _ _ (by omega), si_r _ _ (by omega), fu_ne _ _ q]; exact (mv u hu).2.2
    · rw [s44 1 (by omega) (by omega)]; exact c1
    · rw [sr 46 (by omega)]; exact (cc j (by omega)).1
    · rw [sr 47 (by omega)]; exact (cc j (by omega)).2.1
    · rw [sr 48 (by omega), (cc j (by omega)).2.2, if_pos (by omega)]
      by_cases q : j = l
      · rw [q, fu_eq, if_neg (by omega)]
      · rw [fu_ne _ _ (hne j hj q), if_pos (by omega)]
    · rw [s44 2 (by omega) (by omega)]; exact o1 (by omega)
    · rw [dn0] at q; omega
    · rw [si_r _ _ (by omega), si_r _ _ (by omega)]
      by_cases q : 6 * u + i = 6 * vo l + mn (vo l)
      · rw [q, si_eq]; exact hx
      · rw [si_b _ _ q, si_r _ _ (by omega)]
        refine o3 u i hu ?_
        by_cases q2 : u = vo l
        · rw [q2, fu_eq] at hi
          rw [q2] at q ⊢
          omega
        · rw [fu_ne _ _ q2] at hi; exact hi
    · obtain ⟨b1, b2, b3, b4, b5, b6, b7⟩ := hb hle
      rw [sr 33 (by omega), sr 34 (by omega), sr 35 (by omega), sr 36 (by omega), sr 37 (by omega)]
      refine ⟨b1, b2, b3, b4, fun u hu hlu => ?_, fun j hj => ?_, fun u i hu hi => ?_⟩
      · by_cases q : u = vo l
        · rw [q, fu_eq]; exact (b6 l (by omega)).1
        · rw [fu_ne _ _ q]
          refine b5 u hu (fun j hj => ?_)
          by_cases q2 : j = l
          · rw [q2]; exact fun w => q w.symm
          · exact hlu j (by omega)
      · rw [fu_ne _ _ (hne j (by omega) (by omega))]; exact b6 j (by omega)
      · rw [si_r _ _ (by omega), si_r _ _ (by omega)]
        by_cases q : u = vo l ∧ i = mn (vo l)
        · obtain ⟨rfl, rfl⟩ := q
          rw [si_eq, tl_new (by omega)]; exact (b6 l (by omega)).2
        · have hi' : i < mn u := by
            by_cases q2 : u = vo l
            · rw [q2, fu_eq] at hi
              rw [q2]
              have : i ≠ mn (vo l) := fun w => q ⟨q2, w⟩
              omega
            · rw [fu_ne _ _ q2] at hi; exact hi
          have := (g7 u hu).2.2
          have hpl : ¬ (6 * u + i = 6 * vo l + mn (vo l)) := fun w => q ⟨by omega, by omega⟩
          rw [si_b _ _ hpl, si_r _ _ (by omega)]; exact b7 u i hu hi'
    · rw [si_r _ _ (by omega), si_r _ _ (by omega), si_r _ _ (by omega), si_r _ _ a1]
    · rw [si_r _ _ (by omega), si_r _ _ (by omega), si_r _ _ (by omega), si_b _ _ (by omega)]
    · have : j = l := by omega
      subst this
      exact fu_eq _ _ _
theorem L_want {c0 N d dn e : Nat} {x1 : Int32} {σ0 s t : zkS} {vo ho ly tg mn : Nat → Nat} (h : PR c0 x1 σ0 s t N (d + 1) vo ho ly tg mn dn e) (hok : okS (ly (vo d)) 2 (mn (vo d))) : PR c0 x1 σ0 (zsi s 44 8 1) (zsi t 7 d 2) N (d + 1) vo (fu ho d 2) ly tg mn dn e ∧ ft t (zsi t 7 d 2) := by
  obtain ⟨⟨g1, g2, g3, g4, g5, g6, g7, g8⟩, ⟨m13, m14, m16, mo, mv⟩, ⟨c1, c7, cc⟩, ⟨o1, o2, o3⟩, hb, hs⟩ := h
  refine ⟨⟨⟨g1, g2, g3, g4, fun j hj => ?_, fun j hj => ?_, g7, g8⟩, ⟨m13, m14, m16, fun j hj => ⟨?_, ?_, ?_⟩, fun u hu => ?_⟩, ⟨?_, ?_, fun j hj => ?_⟩, ⟨fun q => ?_, fun q => ?_, o3⟩, bR_c (fun a _ _ => si_r _ _ (by omega)) (si_r _ _ (by omega)) hb, sR_c (fun a _ _ => si_r _ _ (by omega)) hs⟩, ⟨fun a a1 a2 => si_r _ _ (by omega), fun j hj => by rw [si_r _ _ (by omega)], rfl⟩⟩
  · by_cases q : j = d
    · subst q
      rw [fu_eq]; exact hok
    · rw [fu_ne _ _ q]; exact g5 j hj
  · rw [fu_ne _ _ (by omega)]; exact g6 j hj
  · rw [si_r _ _ (by omega)]; exact (mo j hj).1
  · rw [si_r _ _ (by omega)]; exact (mo j hj).2.1
  · by_cases q : j = d
    · subst q
      rw [fu_eq, si_eq]; rfl
    · rw [fu_ne _ _ q, si_b _ _ q]; exact (mo j hj).2.2
  · rw [si_r _ _ (by omega), si_r _ _ (by omega), si_r _ _ (by omega)]; exact mv u hu
  · rw [si_b _ _ (by omega)]; exact c1
  · rw [si_b _ _ (by omega)]; exact c7
  · rw [si_r _ _ (by omega), si_r _ _ (by omega), si_r _ _ (by omega)]; exact cc j hj
  · rw [si_b _ _ (by omega)]; exact o1 q
  · rw [si_b _ _ (by omega), si_r _ _ (by omega)]; exact o2 q
