/-! ===== one step: the two agree ===== -/
theorem none8_D {t : zkS} {u : Nat} (h5 : t.1 u 5 = 4) (h13 : t.1 u 13 = 0) : fX8_stepAtNone u (zsi t u 7 (t.1 u 7 + 1)) = some (zsi (zsi (zsi t u 7 (t.1 u 7 + 1)) u 2 0) u 15 1) := by
  have e13 : (zsi t u 7 (t.1 u 7 + 1)).1 u 13 = 0 := by rw [si_b _ _ (by decide), h13]
  unfold fX8_stepAtNone
  rw [rd_5, si_b _ _ (show 5 ≠ 7 by decide), h5, if_pos (by decide)]
  rcases lat_L (t := zsi t u 7 (t.1 u 7 + 1)) (u := u) (K := fun s10 => zwr s10 u 346 2 0 (fun s11 => zwr s11 u 346 15 1 (fun s12 => some s12))) zFU 0 (by omega) (by unfold zFU; omega) (fun j hj => by omega) with ⟨-, e⟩ | ⟨k, -, hb, -⟩
  · refine Eq.trans e ?_
    show zwr _ u 346 2 0 _ = _
    rw [wr_2, wr_15]
  · rw [e13, b_0] at hb
    cases hb
theorem none8_C {t : zkS} {u k : Nat} (h5 : t.1 u 5 = 4) (hk : k < 24) (hb : bt (t.1 u 13) k = true) (hl : ∀ j, j < k → bt (t.1 u 13) j = false) : fX8_stepAtNone u (zsi t u 7 (t.1 u 7 + 1)) = some (zsi (zsi (zsi (zsi t u 7 (t.1 u 7 + 1)) u 13 (t.1 u 13 &&& ((1 <<< (nI k &&& 31)) ^^^ (-1)))) u 4 (nI k)) u (92 + k) 0) := by
  have e13 : (zsi t u 7 (t.1 u 7 + 1)).1 u 13 = t.1 u 13 := by rw [si_b _ _ (by decide)]
  unfold fX8_stepAtNone
  rw [rd_5, si_b _ _ (show 5 ≠ 7 by decide), h5, if_pos (by decide)]
  rcases lat_L (t := zsi t u 7 (t.1 u 7 + 1)) (u := u) (K := fun s10 => zwr s10 u 346 2 0 (fun s11 => zwr s11 u 346 15 1 (fun s12 => some s12))) zFU 0 (by omega) (by unfold zFU; omega) (fun j hj => by omega) with ⟨h, -⟩ | ⟨k', hk', hb', hl', e⟩
  · have := h k hk
    rw [e13, hb] at this
    cases this
  · refine Eq.trans e ?_
    rw [e13] at hb' ⊢
    have ek : k' = k := by
      rcases Nat.lt_trichotomy k' k with g | g | g
      · rw [hl k' g] at hb'
        cases hb'
      · exact g
      · have := hl' k g
        rw [e13, hb] at this
        cases this
    rw [ek]
theorem step_rel {A : Prop} {b o u : Nat} {s t : zkS} (hbo : o + 5 < b) (hr : rG s o (t.1 u)) (hk : rK s b (t.1 u) (fun c => A ∨ bt (t.1 u 12) c = true)) (hg : wG (t.1 u)) (hm : wK (t.1 u)) (h2 : t.1 u 2 = 1) : ∃ s' t', stp7 b o s = some s' ∧ fX8_steps u t = some t' ∧ stpR A b u s t s' t' := by
  have kp := fun j (hj : j < 13) => rK_p hk h2 hj
  obtain ⟨lim, nx, d, hl, e3, hnx, e5, hd, e6, hroots, hat, -⟩ := id (hm.2.2.2.2.2.2 h2)
  have s2 : s.1 b 2 = t.1 u 12 := kp 2 (by decide)
  have s3 : s.1 b 3 = t.1 u 13 := kp 3 (by decide)
  rcases hat with ⟨h4, d0⟩ | ⟨a, ha, h4, -⟩
  · have s4 : s.1 b 4 = -5 := (kp 4 (by decide)).trans h4
    have s8 : s.1 b 8 = nI nx := (kp 8 (by decide)).trans e5
    by_cases g : nx < 4
    · have A1 : hC (t.1 u 12) (t.1 u (16 + nx)) → ∃ s' t', stp7 b o s = some s' ∧ fX8_steps u t = some t' ∧ stpR A b u s t s' t' := fun hv =>
        ⟨_, _, stp_none s4 (out7_A hr g s8 s2 hv), st8_none h4 (none8_A g e5 hv), cA hk hg hm h2 h4 g e5 hv (fun x x0 _ _ => by rw [si_r _ _ x0, si_r _ _ x0]) rfl (fun x hx => by rw [si_r _ _ hx, si_r _ _ hx]) rfl (fun j j6 j8 => by rw [si_b _ _ j6, si_b _ _ j8]) (by rw [si_eq, si_b _ _ (by decide)]) (by rw [si_b _ _ (by decide), si_eq]) (by rw [si_r _ _ (by omega), si_r _ _ (by omega)]) (by rw [si_r _ _ (by omega), si_r _ _ (by omega)]) (fun j j7 j5 => by rw [si_b _ _ j5, si_b _ _ j7]) (by rw [si_b _ _ (by decide), si_eq]) (by rw [si_eq])⟩
      rcases hg.2.2.2 nx g with e | ⟨f, hf, e, hb⟩
      · exact A1 (Or.inl e)
      · cases eb : bt (t.1 u 12) f with
        | true => exact A1 (Or.inr ⟨f, hf, e, eb⟩)
        | false =>
          obtain ⟨S, eS, q1, q2, q3, q4, q5, q6, q7, q8, q9⟩ := out7_B hr g s8 s2 hf e eb
          refine ⟨_, _, stp_none s4 eS, st8_none h4 (none8_B g e5 hf e eb), cB hk hg hm h2 h4 g e5 hf e hb eb (fun x x0 x1 x2 => by rw [si_r _ _ x0, q8 x x0 x1 x2]) (by rw [si_2, q9]) (fun x hx => by rw [si_r _ _ hx, si_r _ _ hx, si_r _ _ hx, si_r _ _ hx, si_r _ _ hx]) rfl (fun j j6 j8 j2 j4 => by rw [si_b _ _ j6, q1 j j8 j2 j4]) (by rw [si_eq, q1 6 (by decide) (by decide) (by decide)]) (by rw [si_b _ _ (by decide), q2]) (by rw [si_b _ _ (by decide), q3]) (by rw [si_b _ _ (by decide), q4]) (by rw [si_r _ _ (by omega), q5]) (fun c hc => by rw [si_r _ _ (by omega), q6 c hc]) (by rw [si_r _ _ (by omega), q7]) (fun j j7 j5 j12 j4 jf => by rw [si_b _ _ j4, si_b _ _ jf, si_b _ _ j12, si_b _ _ j5, si_b _ _ j7]) ?_ ?_ ?_ ?_ ?_⟩
          · rw [si_b _ _ (by omega), si_b _ _ (by omega), si_b _ _ (by omega), si_b _ _ (by omega), si_eq]
          · rw [si_b _ _ (by omega), si_b _ _ (by omega), si_b _ _ (by omega), si_eq]
          · rw [si_b _ _ (by omega), si_b _ _ (by omega), si_eq]
          · rw [si_eq]
          · rw [si_b _ _ (by omega), si_eq]
    · have n4 : nx = 4 := by omega
      subst n4
      have h5 : t.1 u 5 = 4 := e5
      by_cases h13 : t.1 u 13 = 0
      · exact ⟨_, _, (stp_none s4 (out7_D s8 (s3.trans h13))).trans (by rw [si_b _ _ (show 6 ≠ 1 by decide), si_b _ _ (show 6 ≠ 0 by decide)]), st8_none h4 (none8_D h5 h13), step_N1 hk hg hm h2 h4 h5 h13⟩
      · obtain ⟨k, hk32, hb, hlow, ef⟩ := first_of (x := s.1 b 3) (by rw [s3]; exact h13)
        rw [s3] at hb
        have hk24 : k < 24 := (there_lt hg (hm.2.2.1 k (hm.2.2.2.1 k hb))).1
        refine ⟨_, _, stp_none s4 (out7_C s8 (by rw [s3]; exact h13) hk24 ef), st8_none h4 (none8_C h5 hk24 hb (fun j hj => by rw [← s3]; exact hlow j hj)), cC hk hg hm h2 h4 hk24 hb (fun x x0 _ x2 => by rw [si_r _ _ x0, si_r _ _ x2, si_r _ _ x0, si_r _ _ x0]) rfl (fun x hx => by rw [si_r _ _ hx, si_r _ _ hx, si_r _ _ hx, si_r _ _ hx]) rfl (fun j j6 j3 j4 => by rw [si_b _ _ j6, si_r _ _ (by omega), si_b _ _ j3, si_b _ _ j4]) ?_ ?_ ?_ ?_ (fun c hc => ?_) ?_ (fun j j7 j13 j4 jf => by rw [si_b _ _ jf, si_b _ _ j4, si_b _ _ j13, si_b _ _ j7]) ?_ ?_ ?_ ?_⟩
        · rw [si_eq, si_r _ _ (by omega), si_b _ _ (by decide), si_b _ _ (by decide)]
        · rw [si_b _ _ (by decide), si_r _ _ (by omega), si_eq]
        · rw [si_b _ _ (by decide), si_r _ _ (by omega), si_b _ _ (by decide), si_eq]
        · rw [si_r _ _ (by omega), si_r _ _ (by omega), si_r _ _ (by omega), si_r _ _ (by omega)]
        · rw [si_r _ _ (by omega), si_b _ _ hc, si_r _ _ (by omega), si_r _ _ (by omega)]
        · rw [si_r _ _ (by omega), si_eq]
        · rw [si_b _ _ (by omega), si_b _ _ (by omega), si_b _ _ (by omega), si_eq]
        · rw [si_b _ _ (by omega), si_b _ _ (by omega), si_eq]
        · rw [si_b _ _ (by omega), si_eq]
        · rw [si_eq]
  · obtain ⟨lim', nx', d', q, z, hA⟩ := wAt_of hg hm h2 ha h4
    clear hroots e6 e5 e3 hd hnx hl
    obtain ⟨-, -, hl, e3, hnx, e5, hd, e6, hroots, b12, b13, b1, hq, e92, hz, e68, hqz, hway, hdis⟩ := id hA
    have s4 : s.1 b 4 = nI a := (kp 4 (by decide)).trans h4
    have s5 : s.1 b 5 = nI d' := (kp 5 (by decide)).trans e6
    have s7 : s.1 b 7 = nI lim' := (kp 7 (by decide)).trans e3
    have sc : s.1 (b + 2) a = nI q := (rK_z hk a ha (Or.inr b12)).trans e92
    have hsz : fX0_sizeOf o (nI a) s = some (nI z) := by rw [size7 hr, hasN_nI ha, b1, if_pos rfl, nI_clamp (by omega), e68]
    by_cases g : z ≤ q
    · rcases Nat.eq_zero_or_pos d' with h0 | h0
      · subst h0
        refine ⟨_, _, stp_up ha s4 sc hsz g hq (up7_0 s5), st8_up ha h4 e92 e68 g hq (up8_0 (by rw [si_b _ _ (by decide)]; exact e6)), cD hk hg hm h2 hA (fun x x0 _ _ => by rw [si_r _ _ x0, si_r _ _ x0]) rfl (fun x hx => by rw [si_r _ _ hx, si_r _ _ hx]) rfl (fun j j6 j4 => by rw [si_b _ _ j6, si_b _ _ j4]) ?_ ?_ ?_ ?_ (fun j j7 j4 => by rw [si_b _ _ j4, si_b _ _ j7]) ?_ ?_⟩
        · rw [si_eq, si_b _ _ (by decide)]
        · rw [si_b _ _ (by decide), si_eq]
        · rw [si_r _ _ (by omega), si_r _ _ (by omega)]
        · rw [si_r _ _ (by omega), si_r _ _ (by omega)]
        · rw [si_b _ _ (by decide), si_eq]
        · rw [si_eq]
      · obtain ⟨e, ee⟩ : ∃ e, d' = e + 1 := ⟨d' - 1, by omega⟩
        subst ee
        obtain ⟨x, qx, zx, hx, ex, -⟩ := hway e (by omega)
        have sy : s.1 (b + 1) e = nI x := (rK_y hk h2 e6 hd e (by omega)).trans ex
        refine ⟨_, _, stp_up ha s4 sc hsz g hq (up7_1 s5 (by omega) hx sy), st8_up ha h4 e92 e68 g hq (up8_1 (by rw [si_b _ _ (by decide)]; exact e6) (by omega) hx (by rw [si_b _ _ (by omega)]; exact ex)), cE hk hg hm h2 hA hx ex (fun x x0 _ x2 => by rw [si_r _ _ x0, si_r _ _ x2, si_r _ _ x0, si_r _ _ x0]) rfl (fun x hx => by rw [si_r _ _ hx, si_r _ _ hx, si_r _ _ hx, si_r _ _ hx]) rfl (fun j j6 j5 j4 => by rw [si_b _ _ j6, si_r _ _ (by omega), si_b _ _ j4, si_b _ _ j5]) ?_ ?_ ?_ ?_ (fun c hc => ?_) ?_ (fun j j7 j6 j4 jf => by rw [si_b _ _ jf, si_b _ _ j4, si_b _ _ j6, si_b _ _ j7]) ?_ ?_ ?_ ?_⟩
        · rw [si_eq, si_r _ _ (by omega), si_b _ _ (by decide), si_b _ _ (by decide)]
        · rw [si_b _ _ (by decide), si_r _ _ (by omega), si_b _ _ (by decide), si_eq]
        · rw [si_b _ _ (by decide), si_r _ _ (by omega), si_eq]
        · rw [si_r _ _ (by omega), si_r _ _ (by omega), si_r _ _ (by omega), si_r _ _ (by omega)]
        · rw [si_r _ _ (by omega), si_b _ _ hc, si_r _ _ (by omega), si_r _ _ (by omega)]
        · rw [si_r _ _ (by omega), si_eq]
        · rw [si_b _ _ (by omega), si_b _ _ (by omega), si_b _ _ (by omega), si_eq]
        · rw [si_b _ _ (by omega), si_b _ _ (by omega), si_eq]
        · rw [si_b _ _ (by omega), si_eq]
        · rw [si_eq, si_b _ _ (by omega)]
    · have hlt : q < z := by omega
      have F1 : hC (t.1 u 12) (ld (t.1 u) a q) → ∃ s' t', stp7 b o s = some s' ∧ fX8_steps u t = some t' ∧ stpR A b u s t s' t' := fun hv => by
        refine ⟨_, _, stp_on ha s4 sc hsz hlt hz (goOn_skip hr hg ha s4 sc b1 e68 hz hlt s2 hv), st8_skip hg ha h4 e92 e68 hlt hz hv, cF hk hg hm h2 hA hlt (fun x x0 _ x2 => by rw [si_r _ _ x0, si_r _ _ x2]) rfl (fun x hx => by rw [si_r _ _ hx, si_r _ _ hx]) rfl (fun j j6 => by rw [si_b _ _ j6, si_r _ _ (by omega)]) ?_ ?_ (fun c hc => ?_) ?_ (fun j j7 jf => by rw [si_b _ _ jf, si_b _ _ j7]) ?_ ?_⟩
        · rw [si_eq, si_r _ _ (by omega)]
        · rw [si_r _ _ (by omega), si_r _ _ (by omega)]
        · rw [si_r _ _ (by omega), si_b _ _ hc]
        · rw [si_r _ _ (by omega), si_eq]
        · rw [si_b _ _ (by omega), si_eq]
        · rw [si_eq]
      rcases ld_hC hg ha (show q < 6 by omega) b1 (by rw [e68]; exact nI_lt hlt (by omega)) with e | ⟨f, hf, e, hb⟩
      · exact F1 (Or.inl e)
      · cases eb : bt (t.1 u 12) f with
        | true => exact F1 (Or.inr ⟨f, hf, e, eb⟩)
        | false =>
          have hfa : f ≠ a := fun q => by rw [q, b12] at eb; cases eb
          have T6 : (zsi t u 7 (t.1 u 7 + 1)).1 u 6 = nI d' := by rw [si_b _ _ (by decide)]; exact e6
          have T3 : (zsi t u 7 (t.1 u 7 + 1)).1 u 3 = nI lim' := by rw [si_b _ _ (by decide)]; exact e3
          by_cases gp : lim' ≤ d' ∧ bt (t.1 u 14) a = true
          · obtain ⟨S, eS, x1, x2, x3, x4, x5, x6, x7, x8, x9, x10⟩ := goOn_off hbo hr hg ha s4 sc b1 e68 hz hlt s2 s5 hd s7 hf hfa e eb gp.1 gp.2
            obtain ⟨T, eT, y1, y2, y3, y4, y5, y6, y7, y8⟩ := off8 (t := zsi t u 7 (t.1 u 7 + 1)) (u := u) ha hf hfa T6 hd T3 gp.1 (by rw [si_b _ _ (by decide)]; exact gp.2)
            refine ⟨_, _, stp_on ha s4 sc hsz hlt hz eS, st8_down hg ha h4 e92 e68 hlt hz hf e eb eT, cH hk hg hm h2 hA hlt hf hb eb (fun x a0 a1 a2 => by rw [si_r _ _ a0, x9 x a0 a1 a2]) (by rw [si_2, x10]) (fun x hx => by rw [y7 x hx, si_r _ _ hx]) (by rw [y8, si_2]) (fun j j6 j2 j3 j11 => by rw [si_b _ _ j6, x1 j j2 j3 j11]) ?_ ?_ ?_ ?_ ?_ (fun c c1 c2 => ?_) ?_ ?_ (fun j j7 j12 j13 j10 jf ja => by rw [y1 j j12 j13 j10 jf ja, si_b _ _ j7]) ?_ ?_ ?_ ?_ ?_ ?_⟩
            · rw [si_eq, x1 6 (by decide) (by decide) (by decide)]
            · rw [si_b _ _ (by decide), x2]
            · rw [si_b _ _ (by decide), x3]
            · rw [si_b _ _ (by decide), x4]
            · rw [si_r _ _ (by omega), x5]
            · rw [si_r _ _ (by omega), x6 c c1 c2]
            · rw [si_r _ _ (by omega), x7]
            · rw [si_r _ _ (by omega), x8]
            · rw [y1 7 (by omega) (by omega) (by omega) (by omega) (by omega), si_eq]
            · rw [y2, si_b _ _ (by decide)]
            · rw [y3, si_b _ _ (by decide)]
            · rw [y4, si_b _ _ (by decide)]
            · exact y5
            · rw [y6, si_b _ _ (by omega)]
          · have hp : lim' ≤ d' → bt (t.1 u 14) a = false := fun q => by
              cases e : bt (t.1 u 14) a with
              | false => rfl
              | true => exact absurd ⟨q, e⟩ gp
            obtain ⟨S, eS, x1, x2, x4, x5, x9, x10, x12, xy, xd, xz, xf, x14, x15⟩ := goOn_down hbo hr hg ha s4 sc b1 e68 hz hlt s2 s5 hd s7 hl hf e eb hp
            obtain ⟨T, eT, y1, y12, y4, y6, y8, y9, y11, yd, yf, y14, y15⟩ := down8 (t := zsi t u 7 (t.1 u 7 + 1)) (u := u) ha hf T6 hd T3 hl (by rw [si_b _ _ (by decide)]; exact hp)
            refine ⟨_, _, stp_on ha s4 sc hsz hlt hz eS, st8_down hg ha h4 e92 e68 hlt hz hf e eb eT, cG hk hg hm h2 hA hlt hf hb eb (g := gT d' lim') (h := gP d' lim') (fun x a0 a1 a2 => by rw [si_r _ _ a0, x14 x a0 a1 a2]) (by rw [si_2, x15]) (fun x hx => by rw [y14 x hx, si_r _ _ hx]) (by rw [y15, si_2]) (fun j j6 j2 j4 j5 j9 j10 j12 => by rw [si_b _ _ j6, x1 j j2 j4 j5 j9 j10 j12]) ?_ ?_ ?_ ?_ ?_ ?_ ?_ (fun j hj => ?_) ?_ (fun c hc => ?_) ?_ (fun j j7 j12 j4 j6 j8 j9 j11 jd jf => by rw [y1 j j12 j4 j6 j8 j9 j11 jd jf, si_b _ _ j7]) ?_ ?_ y4 y6 ?_ ?_ ?_ yd yf⟩
            · rw [si_eq, x1 6 (by decide) (by decide) (by decide) (by decide) (by decide) (by decide)]
            · rw [si_b _ _ (by decide), x2]
            · rw [si_b _ _ (by decide), x4]
            · rw [si_b _ _ (by decide), x5]
            · rw [si_b _ _ (by decide), x9]
            · rw [si_b _ _ (by decide), x10]
            · rw [si_b _ _ (by decide), x12]
            · rw [si_r _ _ (by omega), xy j hj]
            · rw [si_r _ _ (by omega), xd]
            · rw [si_r _ _ (by omega), xz c hc]
            · rw [si_r _ _ (by omega), xf]
            · rw [y1 7 (by omega) (by omega) (by omega) (by omega) (by omega) (by omega) (by omega) (by omega), si_eq]
            · rw [y12, si_b _ _ (by decide)]
            · rw [y8, si_b _ _ (by decide)]
            · rw [y9, si_b _ _ (by decide)]
            · rw [y11, si_b _ _ (by decide)]
