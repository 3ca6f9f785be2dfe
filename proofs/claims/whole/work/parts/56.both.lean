/-! ===== the step's cases: both sides ===== -/
/-- which place of the model's row a place of the class's marking is -/
def pr (j : Nat) : Nat := if j = 0 then 2 else if j = 1 then 15 else if j = 2 then 12 else if j = 3 then 13 else if j = 4 then 4 else if j = 5 then 6 else if j = 6 then 7 else if j = 7 then 3 else if j = 8 then 5 else if j = 9 then 8 else if j = 10 then 9 else if j = 11 then 10 else 11
theorem lt13 {j : Nat} (h : j < 13) : j = 0 ∨ j = 1 ∨ j = 2 ∨ j = 3 ∨ j = 4 ∨ j = 5 ∨ j = 6 ∨ j = 7 ∨ j = 8 ∨ j = 9 ∨ j = 10 ∨ j = 11 ∨ j = 12 := by omega
theorem rK_p {s : zkS} {k : Nat} {w : Nat → Int32} {P : Nat → Prop} (hk : rK s k w P) (h2 : w 2 = 1) {j : Nat} (hj : j < 13) : s.1 k j = w (pr j) := by
  obtain ⟨k0, k1, k2, k3, k4, k5, k6, k7, k8, k9, k10, k11, k12, k13⟩ := hk
  obtain ⟨q4, q5, q6⟩ := k11 h2
  rcases lt13 hj with rfl | rfl | rfl | rfl | rfl | rfl | rfl | rfl | rfl | rfl | rfl | rfl | rfl
  · exact k0
  · exact k1
  · exact k2
  · exact k3
  · exact q4
  · exact q5
  · exact k4
  · exact k5
  · exact k6
  · exact k7
  · exact k8
  · exact k9
  · exact k10
theorem rK_y {s : zkS} {k d : Nat} {w : Nat → Int32} {P : Nat → Prop} (hk : rK s k w P) (h2 : w 2 = 1) (e6 : w 6 = nI d) (hd : d < 24) : ∀ j, j < d → s.1 (k + 1) j = w (116 + j) := fun j hj => by
  obtain ⟨-, -, -, -, -, -, -, -, -, -, -, k11, -⟩ := hk
  exact (k11 h2).2.2 j (by rw [e6]; exact nI_lt hj (by omega)) (by omega)
theorem rK_z {s : zkS} {k : Nat} {w : Nat → Int32} {P : Nat → Prop} (hk : rK s k w P) : ∀ c, c < 24 → P c → s.1 (k + 2) c = w (92 + c) := by
  obtain ⟨-, -, -, -, -, -, -, -, -, -, -, -, -, k13⟩ := hk
  exact k13
theorem rK_mk {s : zkS} {k d : Nat} {w : Nat → Int32} {P : Nat → Prop} (h2 : w 2 = 1) (e6 : w 6 = nI d) (hd : d < 24) (hx : ∀ j, j < 13 → s.1 k j = w (pr j)) (hy : ∀ j, j < d → s.1 (k + 1) j = w (116 + j)) (hz : ∀ c, c < 24 → P c → s.1 (k + 2) c = w (92 + c)) : rK s k w P :=
  ⟨hx 0 (by decide), hx 1 (by decide), hx 2 (by decide), hx 3 (by decide), hx 6 (by decide), hx 7 (by decide), hx 8 (by decide), hx 9 (by decide), hx 10 (by decide), hx 11 (by decide), hx 12 (by decide), fun _ => ⟨hx 4 (by decide), hx 5 (by decide), fun j hj hj2 => hy j (by
    rw [e6] at hj
    rcases Nat.lt_or_ge j d with g | g
    · exact g
    · exact absurd hj (nI_nlt g (by omega)))⟩, fun q => absurd (h2.symm.trans q) (by decide), hz⟩
theorem inc {x y : Int32} (h : x = y) : x + 1 = y + 1 := by rw [h]
theorem incg {x y : Int32} (g : Int32) (h : x = y) : x + g = y + g := by rw [h]
theorem orf {x y : Int32} {f : Nat} (hf : f < 24) (h : x = y) : x ||| fX7_bit (nI f) = y ||| ((1 : Int32) <<< (nI f &&& 31)) := by rw [h, bit_nI hf]
theorem andf {x y : Int32} {f : Nat} (hf : f < 24) (h : x = y) : x &&& (fX7_bit (nI f) ^^^ (-1)) = y &&& (((1 : Int32) <<< (nI f &&& 31)) ^^^ (-1)) := by rw [h, bit_nI hf]
theorem mkS {A : Prop} {b u : Nat} {s t s' t' : zkS} {d : Nat} (hW : wK (t'.1 u) ∧ msr (t'.1 u) < msr (t.1 u)) (h2 : t'.1 u 2 = 1) (e6 : t'.1 u 6 = nI d) (hd : d < 24) (fr : ∀ a, a ≠ b → a ≠ b + 1 → a ≠ b + 2 → s'.1 a = s.1 a) (f2 : s'.2 = s.2) (gr : ∀ a, a ≠ u → t'.1 a = t.1 a) (g2 : t'.2 = t.2) (hj : ∀ j, iG j ∨ iS j → t'.1 u j = t.1 u j) (h3 : t'.1 u 3 = t.1 u 3) (h7 : t'.1 u 7 = t.1 u 7 + 1) (hx : ∀ j, j < 13 → s'.1 b j = t'.1 u (pr j)) (hy : ∀ j, j < d → s'.1 (b + 1) j = t'.1 u (116 + j)) (hz : ∀ c, c < 24 → (A ∨ bt (t'.1 u 12) c = true) → s'.1 (b + 2) c = t'.1 u (92 + c)) : stpR A b u s t s' t' :=
  ⟨fr, f2, gr, g2, hj, h3, h7, rK_mk h2 e6 hd hx hy hz, hW.1, Or.inr hW.2⟩
theorem cA {A : Prop} {b u : Nat} {s t s' t' : zkS} (hk : rK s b (t.1 u) (fun c => A ∨ bt (t.1 u 12) c = true)) (hg : wG (t.1 u)) (hm : wK (t.1 u)) (h2 : t.1 u 2 = 1) (h4 : t.1 u 4 = -5) {nx : Nat} (hnx : nx < 4) (h5 : t.1 u 5 = nI nx) (hroot : hC (t.1 u 12) (t.1 u (16 + nx)))
    (fr : ∀ a, a ≠ b → a ≠ b + 1 → a ≠ b + 2 → s'.1 a = s.1 a) (f2 : s'.2 = s.2) (gr : ∀ a, a ≠ u → t'.1 a = t.1 a) (g2 : t'.2 = t.2)
    (xb : ∀ j, j ≠ 6 → j ≠ 8 → s'.1 b j = s.1 b j) (x6 : s'.1 b 6 = s.1 b 6 + 1) (x8 : s'.1 b 8 = s.1 b 8 + 1) (xy : s'.1 (b + 1) = s.1 (b + 1)) (xz : s'.1 (b + 2) = s.1 (b + 2))
    (wn : ∀ j, j ≠ 7 → j ≠ 5 → t'.1 u j = t.1 u j) (w7 : t'.1 u 7 = t.1 u 7 + 1) (w5 : t'.1 u 5 = t.1 u 5 + 1) : stpR A b u s t s' t' := by
  have hW := pA hg hm h2 h4 hnx h5 hroot (by rw [w5, h5, nI_1]) (fun j q q5 => wn j (by omega) q5)
  have kp := fun j (hj : j < 13) => rK_p hk h2 hj
  obtain ⟨lim, nx', d, -, -, -, -, hd, e6, -⟩ := hm.2.2.2.2.2.2 h2
  refine mkS hW ((wn 2 (by omega) (by omega)).trans h2) ((wn 6 (by omega) (by omega)).trans e6) hd fr f2 gr g2 (fun j hj => wn j (by unfold iG iS at hj; omega) (by unfold iG iS at hj; omega)) (wn 3 (by omega) (by omega)) w7 (fun j hj => ?_) (fun j hj => ?_) (fun c hc hP => ?_)
  · rcases lt13 hj with rfl | rfl | rfl | rfl | rfl | rfl | rfl | rfl | rfl | rfl | rfl | rfl | rfl
    all_goals first
      | exact (xb _ (by decide) (by decide)).trans ((kp _ (by decide)).trans (wn _ (by decide) (by decide)).symm)
      | exact x6.trans ((inc (kp 6 (by decide))).trans w7.symm)
      | exact x8.trans ((inc (kp 8 (by decide))).trans w5.symm)
  · exact (congrFun xy j).trans ((rK_y hk h2 e6 hd j hj).trans (wn (116 + j) (by omega) (by omega)).symm)
  · rw [wn 12 (by omega) (by omega)] at hP
    exact (congrFun xz c).trans ((rK_z hk c hc hP).trans (wn (92 + c) (by omega) (by omega)).symm)
theorem cB {A : Prop} {b u : Nat} {s t s' t' : zkS} (hk : rK s b (t.1 u) (fun c => A ∨ bt (t.1 u 12) c = true)) (hg : wG (t.1 u)) (hm : wK (t.1 u)) (h2 : t.1 u 2 = 1) (h4 : t.1 u 4 = -5) {nx f : Nat} (hnx : nx < 4) (h5 : t.1 u 5 = nI nx) (hf : f < 24) (hroot : t.1 u (16 + nx) = nI f) (hb : bt (t.1 u 1) f = true) (hn : bt (t.1 u 12) f = false)
    (fr : ∀ a, a ≠ b → a ≠ b + 1 → a ≠ b + 2 → s'.1 a = s.1 a) (f2 : s'.2 = s.2) (gr : ∀ a, a ≠ u → t'.1 a = t.1 a) (g2 : t'.2 = t.2)
    (xb : ∀ j, j ≠ 6 → j ≠ 8 → j ≠ 2 → j ≠ 4 → s'.1 b j = s.1 b j) (x6 : s'.1 b 6 = s.1 b 6 + 1) (x8 : s'.1 b 8 = s.1 b 8 + 1) (x2 : s'.1 b 2 = s.1 b 2 ||| fX7_bit (nI f)) (x4 : s'.1 b 4 = nI f) (xy : s'.1 (b + 1) = s.1 (b + 1)) (xz : ∀ c, c ≠ f → s'.1 (b + 2) c = s.1 (b + 2) c) (xf : s'.1 (b + 2) f = 0)
    (wn : ∀ j, j ≠ 7 → j ≠ 5 → j ≠ 12 → j ≠ 4 → j ≠ 92 + f → t'.1 u j = t.1 u j) (w7 : t'.1 u 7 = t.1 u 7 + 1) (w5 : t'.1 u 5 = t.1 u 5 + 1) (w12 : t'.1 u 12 = t.1 u 12 ||| (1 <<< (nI f &&& 31))) (w4 : t'.1 u 4 = nI f) (w92 : t'.1 u (92 + f) = 0) : stpR A b u s t s' t' := by
  have hW := pB hg hm h2 h4 hnx h5 hf hroot hb hn (by rw [w5, h5, nI_1]) w12 w4 w92 (fun j q q5 q12 q4 qf => wn j (by omega) q5 q12 q4 qf)
  have kp := fun j (hj : j < 13) => rK_p hk h2 hj
  obtain ⟨lim, nx', d, -, -, -, -, hd, e6, -⟩ := hm.2.2.2.2.2.2 h2
  have wn' := fun j (q : j < 92 ∨ 116 ≤ j) (q7 : j ≠ 7) (q5 : j ≠ 5) (q12 : j ≠ 12) (q4 : j ≠ 4) => wn j q7 q5 q12 q4 (by omega)
  refine mkS hW ((wn 2 (by omega) (by omega) (by omega) (by omega) (by omega)).trans h2) ((wn 6 (by omega) (by omega) (by omega) (by omega) (by omega)).trans e6) hd fr f2 gr g2 (fun j hj => wn j (by unfold iG iS at hj; omega) (by unfold iG iS at hj; omega) (by unfold iG iS at hj; omega) (by unfold iG iS at hj; omega) (by unfold iG iS at hj; omega)) (wn 3 (by omega) (by omega) (by omega) (by omega) (by omega)) w7 (fun j hj => ?_) (fun j hj => ?_) (fun c hc hP => ?_)
  · rcases lt13 hj with rfl | rfl | rfl | rfl | rfl | rfl | rfl | rfl | rfl | rfl | rfl | rfl | rfl
    all_goals first
      | exact (xb _ (by decide) (by decide) (by decide) (by decide)).trans ((kp _ (by decide)).trans (wn' _ (by decide) (by decide) (by decide) (by decide) (by decide)).symm)
      | exact x6.trans ((inc (kp 6 (by decide))).trans w7.symm)
      | exact x8.trans ((inc (kp 8 (by decide))).trans w5.symm)
      | exact x2.trans ((orf hf (kp 2 (by decide))).trans w12.symm)
      | exact x4.trans w4.symm
  · exact (congrFun xy j).trans ((rK_y hk h2 e6 hd j hj).trans (wn (116 + j) (by omega) (by omega) (by omega) (by omega) (by omega)).symm)
  · by_cases e : c = f
    · subst e
      exact xf.trans w92.symm
    · rw [w12, bt_inn hf e] at hP
      exact (xz c e).trans ((rK_z hk c hc hP).trans (wn (92 + c) (by omega) (by omega) (by omega) (by omega) (by omega)).symm)
theorem cC {A : Prop} {b u : Nat} {s t s' t' : zkS} (hk : rK s b (t.1 u) (fun c => A ∨ bt (t.1 u 12) c = true)) (hg : wG (t.1 u)) (hm : wK (t.1 u)) (h2 : t.1 u 2 = 1) (h4 : t.1 u 4 = -5) {f : Nat} (hf : f < 24) (hb : bt (t.1 u 13) f = true)
    (fr : ∀ a, a ≠ b → a ≠ b + 1 → a ≠ b + 2 → s'.1 a = s.1 a) (f2 : s'.2 = s.2) (gr : ∀ a, a ≠ u → t'.1 a = t.1 a) (g2 : t'.2 = t.2)
    (xb : ∀ j, j ≠ 6 → j ≠ 3 → j ≠ 4 → s'.1 b j = s.1 b j) (x6 : s'.1 b 6 = s.1 b 6 + 1) (x3 : s'.1 b 3 = s.1 b 3 &&& (fX7_bit (nI f) ^^^ (-1))) (x4 : s'.1 b 4 = nI f) (xy : s'.1 (b + 1) = s.1 (b + 1)) (xz : ∀ c, c ≠ f → s'.1 (b + 2) c = s.1 (b + 2) c) (xf : s'.1 (b + 2) f = 0)
    (wn : ∀ j, j ≠ 7 → j ≠ 13 → j ≠ 4 → j ≠ 92 + f → t'.1 u j = t.1 u j) (w7 : t'.1 u 7 = t.1 u 7 + 1) (w13 : t'.1 u 13 = t.1 u 13 &&& ((1 <<< (nI f &&& 31)) ^^^ (-1))) (w4 : t'.1 u 4 = nI f) (w92 : t'.1 u (92 + f) = 0) : stpR A b u s t s' t' := by
  have hW := pC hg hm h2 h4 hf hb w13 w4 w92 (fun j q q13 q4 qf => wn j (by omega) q13 q4 qf)
  have kp := fun j (hj : j < 13) => rK_p hk h2 hj
  obtain ⟨lim, nx', d, -, -, -, -, hd, e6, -⟩ := hm.2.2.2.2.2.2 h2
  have wn' := fun j (q : j < 92 ∨ 116 ≤ j) (q7 : j ≠ 7) (q13 : j ≠ 13) (q4 : j ≠ 4) => wn j q7 q13 q4 (by omega)
  refine mkS hW ((wn 2 (by omega) (by omega) (by omega) (by omega)).trans h2) ((wn 6 (by omega) (by omega) (by omega) (by omega)).trans e6) hd fr f2 gr g2 (fun j hj => wn j (by unfold iG iS at hj; omega) (by unfold iG iS at hj; omega) (by unfold iG iS at hj; omega) (by unfold iG iS at hj; omega)) (wn 3 (by omega) (by omega) (by omega) (by omega)) w7 (fun j hj => ?_) (fun j hj => ?_) (fun c hc hP => ?_)
  · rcases lt13 hj with rfl | rfl | rfl | rfl | rfl | rfl | rfl | rfl | rfl | rfl | rfl | rfl | rfl
    all_goals first
      | exact (xb _ (by decide) (by decide) (by decide)).trans ((kp _ (by decide)).trans (wn' _ (by decide) (by decide) (by decide) (by decide)).symm)
      | exact x6.trans ((inc (kp 6 (by decide))).trans w7.symm)
      | exact x3.trans ((andf hf (kp 3 (by decide))).trans w13.symm)
      | exact x4.trans w4.symm
  · exact (congrFun xy j).trans ((rK_y hk h2 e6 hd j hj).trans (wn (116 + j) (by omega) (by omega) (by omega) (by omega)).symm)
  · by_cases e : c = f
    · subst e
      exact xf.trans w92.symm
    · rw [wn 12 (by omega) (by omega) (by omega) (by omega)] at hP
      exact (xz c e).trans ((rK_z hk c hc hP).trans (wn (92 + c) (by omega) (by omega) (by omega) (by omega)).symm)
theorem cD {A : Prop} {b u : Nat} {s t s' t' : zkS} (hk : rK s b (t.1 u) (fun c => A ∨ bt (t.1 u 12) c = true)) (hg : wG (t.1 u)) (hm : wK (t.1 u)) (h2 : t.1 u 2 = 1) {a lim nx q z : Nat} (hA : wAt (t.1 u) a lim nx 0 q z)
    (fr : ∀ a, a ≠ b → a ≠ b + 1 → a ≠ b + 2 → s'.1 a = s.1 a) (f2 : s'.2 = s.2) (gr : ∀ a, a ≠ u → t'.1 a = t.1 a) (g2 : t'.2 = t.2)
    (xb : ∀ j, j ≠ 6 → j ≠ 4 → s'.1 b j = s.1 b j) (x6 : s'.1 b 6 = s.1 b 6 + 1) (x4 : s'.1 b 4 = -5) (xy : s'.1 (b + 1) = s.1 (b + 1)) (xz : s'.1 (b + 2) = s.1 (b + 2))
    (wn : ∀ j, j ≠ 7 → j ≠ 4 → t'.1 u j = t.1 u j) (w7 : t'.1 u 7 = t.1 u 7 + 1) (w4 : t'.1 u 4 = -5) : stpR A b u s t s' t' := by
  have hW := pD hg hm h2 hA w4 (fun j q q4 => wn j (by omega) q4)
  have kp := fun j (hj : j < 13) => rK_p hk h2 hj
  obtain ⟨lim, nx', d, -, -, -, -, hd, e6, -⟩ := hm.2.2.2.2.2.2 h2
  refine mkS hW ((wn 2 (by omega) (by omega)).trans h2) ((wn 6 (by omega) (by omega)).trans e6) hd fr f2 gr g2 (fun j hj => wn j (by unfold iG iS at hj; omega) (by unfold iG iS at hj; omega)) (wn 3 (by omega) (by omega)) w7 (fun j hj => ?_) (fun j hj => ?_) (fun c hc hP => ?_)
  · rcases lt13 hj with rfl | rfl | rfl | rfl | rfl | rfl | rfl | rfl | rfl | rfl | rfl | rfl | rfl
    all_goals first
      | exact (xb _ (by decide) (by decide)).trans ((kp _ (by decide)).trans (wn _ (by decide) (by decide)).symm)
      | exact x6.trans ((inc (kp 6 (by decide))).trans w7.symm)
      | exact x4.trans w4.symm
  · exact (congrFun xy j).trans ((rK_y hk h2 e6 hd j hj).trans (wn (116 + j) (by omega) (by omega)).symm)
  · rw [wn 12 (by omega) (by omega)] at hP
    exact (congrFun xz c).trans ((rK_z hk c hc hP).trans (wn (92 + c) (by omega) (by omega)).symm)
theorem cE {A : Prop} {b u : Nat} {s t s' t' : zkS} (hk : rK s b (t.1 u) (fun c => A ∨ bt (t.1 u 12) c = true)) (hg : wG (t.1 u)) (hm : wK (t.1 u)) (h2 : t.1 u 2 = 1) {a lim nx e q z x : Nat} (hA : wAt (t.1 u) a lim nx (e + 1) q z) (hx : x < 24) (ex : t.1 u (116 + e) = nI x)
    (fr : ∀ a, a ≠ b → a ≠ b + 1 → a ≠ b + 2 → s'.1 a = s.1 a) (f2 : s'.2 = s.2) (gr : ∀ a, a ≠ u → t'.1 a = t.1 a) (g2 : t'.2 = t.2)
    (xb : ∀ j, j ≠ 6 → j ≠ 5 → j ≠ 4 → s'.1 b j = s.1 b j) (x6 : s'.1 b 6 = s.1 b 6 + 1) (x5 : s'.1 b 5 = nI e) (x4 : s'.1 b 4 = nI x) (xy : s'.1 (b + 1) = s.1 (b + 1)) (xz : ∀ c, c ≠ x → s'.1 (b + 2) c = s.1 (b + 2) c) (xf : s'.1 (b + 2) x = s.1 (b + 2) x + 1)
    (wn : ∀ j, j ≠ 7 → j ≠ 6 → j ≠ 4 → j ≠ 92 + x → t'.1 u j = t.1 u j) (w7 : t'.1 u 7 = t.1 u 7 + 1) (w6 : t'.1 u 6 = nI e) (w4 : t'.1 u 4 = nI x) (w92 : t'.1 u (92 + x) = t.1 u (92 + x) + 1) : stpR A b u s t s' t' := by
  have hW := pE hg hm h2 hA hx ex w4 w6 w92 (fun j q q4 q6 qf => wn j (by omega) q6 q4 qf)
  have kp := fun j (hj : j < 13) => rK_p hk h2 hj
  obtain ⟨ha, h4, hl, e3, hnx, e5, hd, e6, hr, b12, b13, b1, hq, e92, hz, e68, hqz, hway, hdis⟩ := hA
  obtain ⟨x', qx, zx, hx', ex', x12, -⟩ := hway e (by omega)
  have exx : x' = x := (nI_eq (by omega) (by omega)).mp (ex'.symm.trans ex)
  subst exx
  have wn' := fun j (q : j < 92 ∨ 116 ≤ j) (q7 : j ≠ 7) (q6 : j ≠ 6) (q4 : j ≠ 4) => wn j q7 q6 q4 (by omega)
  refine mkS hW ((wn 2 (by omega) (by omega) (by omega) (by omega)).trans h2) w6 (by omega) fr f2 gr g2 (fun j hj => wn j (by unfold iG iS at hj; omega) (by unfold iG iS at hj; omega) (by unfold iG iS at hj; omega) (by unfold iG iS at hj; omega)) (wn 3 (by omega) (by omega) (by omega) (by omega)) w7 (fun j hj => ?_) (fun j hj => ?_) (fun c hc hP => ?_)
  · rcases lt13 hj with rfl | rfl | rfl | rfl | rfl | rfl | rfl | rfl | rfl | rfl | rfl | rfl | rfl
    all_goals first
      | exact (xb _ (by decide) (by decide) (by decide)).trans ((kp _ (by decide)).trans (wn' _ (by decide) (by decide) (by decide) (by decide)).symm)
      | exact x6.trans ((inc (kp 6 (by decide))).trans w7.symm)
      | exact x5.trans w6.symm
      | exact x4.trans w4.symm
  · exact (congrFun xy j).trans ((rK_y hk h2 e6 hd j (by omega)).trans (wn (116 + j) (by omega) (by omega) (by omega) (by omega)).symm)
  · by_cases g : c = x'
    · subst g
      exact xf.trans ((inc (rK_z hk c hc (Or.inr x12))).trans w92.symm)
    · rw [wn 12 (by omega) (by omega) (by omega) (by omega)] at hP
      exact (xz c g).trans ((rK_z hk c hc hP).trans (wn (92 + c) (by omega) (by omega) (by omega) (by omega)).symm)
theorem cF {A : Prop} {b u : Nat} {s t s' t' : zkS} (hk : rK s b (t.1 u) (fun c => A ∨ bt (t.1 u 12) c = true)) (hg : wG (t.1 u)) (hm : wK (t.1 u)) (h2 : t.1 u 2 = 1) {a lim nx d q z : Nat} (hA : wAt (t.1 u) a lim nx d q z) (hlt : q < z)
    (fr : ∀ a, a ≠ b → a ≠ b + 1 → a ≠ b + 2 → s'.1 a = s.1 a) (f2 : s'.2 = s.2) (gr : ∀ a, a ≠ u → t'.1 a = t.1 a) (g2 : t'.2 = t.2)
    (xb : ∀ j, j ≠ 6 → s'.1 b j = s.1 b j) (x6 : s'.1 b 6 = s.1 b 6 + 1) (xy : s'.1 (b + 1) = s.1 (b + 1)) (xz : ∀ c, c ≠ a → s'.1 (b + 2) c = s.1 (b + 2) c) (xf : s'.1 (b + 2) a = s.1 (b + 2) a + 1)
    (wn : ∀ j, j ≠ 7 → j ≠ 92 + a → t'.1 u j = t.1 u j) (w7 : t'.1 u 7 = t.1 u 7 + 1) (w92 : t'.1 u (92 + a) = t.1 u (92 + a) + 1) : stpR A b u s t s' t' := by
  have hW := pF hg hm h2 hA hlt w92 (fun j q qf => wn j (by omega) qf)
  have kp := fun j (hj : j < 13) => rK_p hk h2 hj
  obtain ⟨ha, h4, hl, e3, hnx, e5, hd, e6, hr, b12, b13, b1, hq, e92, hz, e68, hqz, hway, hdis⟩ := hA
  have wn' := fun j (q : j < 92 ∨ 116 ≤ j) (q7 : j ≠ 7) => wn j q7 (by omega)
  refine mkS hW ((wn 2 (by omega) (by omega)).trans h2) ((wn 6 (by omega) (by omega)).trans e6) hd fr f2 gr g2 (fun j hj => wn j (by unfold iG iS at hj; omega) (by unfold iG iS at hj; omega)) (wn 3 (by omega) (by omega)) w7 (fun j hj => ?_) (fun j hj => ?_) (fun c hc hP => ?_)
  · rcases lt13 hj with rfl | rfl | rfl | rfl | rfl | rfl | rfl | rfl | rfl | rfl | rfl | rfl | rfl
    all_goals first
      | exact (xb _ (by decide)).trans ((kp _ (by decide)).trans (wn' _ (by decide) (by decide)).symm)
      | exact x6.trans ((inc (kp 6 (by decide))).trans w7.symm)
  · exact (congrFun xy j).trans ((rK_y hk h2 e6 hd j hj).trans (wn (116 + j) (by omega) (by omega)).symm)
  · by_cases g : c = a
    · subst g
      exact xf.trans ((inc (rK_z hk c hc (Or.inr b12))).trans w92.symm)
    · rw [wn 12 (by omega) (by omega)] at hP
      exact (xz c g).trans ((rK_z hk c hc hP).trans (wn (92 + c) (by omega) (by omega)).symm)
theorem cG {A : Prop} {b u : Nat} {s t s' t' : zkS} (hk : rK s b (t.1 u) (fun c => A ∨ bt (t.1 u 12) c = true)) (hg : wG (t.1 u)) (hm : wK (t.1 u)) (h2 : t.1 u 2 = 1) {a lim nx d q z f : Nat} (hA : wAt (t.1 u) a lim nx d q z) (hlt : q < z) (hf : f < 24) (hb : bt (t.1 u 1) f = true) (hn : bt (t.1 u 12) f = false) {g h : Int32}
    (fr : ∀ a, a ≠ b → a ≠ b + 1 → a ≠ b + 2 → s'.1 a = s.1 a) (f2 : s'.2 = s.2) (gr : ∀ a, a ≠ u → t'.1 a = t.1 a) (g2 : t'.2 = t.2)
    (xb : ∀ j, j ≠ 6 → j ≠ 2 → j ≠ 4 → j ≠ 5 → j ≠ 9 → j ≠ 10 → j ≠ 12 → s'.1 b j = s.1 b j) (x6 : s'.1 b 6 = s.1 b 6 + 1) (x2 : s'.1 b 2 = s.1 b 2 ||| fX7_bit (nI f)) (x4 : s'.1 b 4 = nI f) (x5 : s'.1 b 5 = nI (d + 1)) (x9 : s'.1 b 9 = s.1 b 9 + g) (x10 : s'.1 b 10 = s.1 b 10 + h) (x12 : s'.1 b 12 = if s.1 b 12 < nI (d + 1) then nI (d + 1) else s.1 b 12) (xy : ∀ j, j ≠ d → s'.1 (b + 1) j = s.1 (b + 1) j) (xd : s'.1 (b + 1) d = nI a) (xz : ∀ c, c ≠ f → s'.1 (b + 2) c = s.1 (b + 2) c) (xf : s'.1 (b + 2) f = 0)
    (wn : ∀ j, j ≠ 7 → j ≠ 12 → j ≠ 4 → j ≠ 6 → j ≠ 8 → j ≠ 9 → j ≠ 11 → j ≠ 116 + d → j ≠ 92 + f → t'.1 u j = t.1 u j) (w7 : t'.1 u 7 = t.1 u 7 + 1) (w12 : t'.1 u 12 = t.1 u 12 ||| (1 <<< (nI f &&& 31))) (w4 : t'.1 u 4 = nI f) (w6 : t'.1 u 6 = nI (d + 1)) (w8 : t'.1 u 8 = t.1 u 8 + g) (w9 : t'.1 u 9 = t.1 u 9 + h) (w11 : t'.1 u 11 = if t.1 u 11 < nI (d + 1) then nI (d + 1) else t.1 u 11) (w116 : t'.1 u (116 + d) = nI a) (w92 : t'.1 u (92 + f) = 0) : stpR A b u s t s' t' := by
  have hd1 := way_24 hA hf hn
  have hW := pG hg hm h2 hA hlt hf hb hn w12 w92 w116 w6 w4 (fun j q q12 qf qd q6 q4 => wn j (by omega) q12 q4 q6 (by omega) (by omega) (by omega) qd qf)
  have kp := fun j (hj : j < 13) => rK_p hk h2 hj
  obtain ⟨ha, h4, hl, e3, hnx, e5, hd, e6, hr, b12, b13, b1, hq, e92, hz, e68, hqz, hway, hdis⟩ := hA
  have wn' := fun j (q : j < 92) (q7 : j ≠ 7) (q12 : j ≠ 12) (q4 : j ≠ 4) (q6 : j ≠ 6) (q8 : j ≠ 8) (q9 : j ≠ 9) (q11 : j ≠ 11) => wn j q7 q12 q4 q6 q8 q9 q11 (by omega) (by omega)
  refine mkS hW ((wn' 2 (by omega) (by omega) (by omega) (by omega) (by omega) (by omega) (by omega) (by omega)).trans h2) w6 hd1 fr f2 gr g2 (fun j hj => wn j (by unfold iG iS at hj; omega) (by unfold iG iS at hj; omega) (by unfold iG iS at hj; omega) (by unfold iG iS at hj; omega) (by unfold iG iS at hj; omega) (by unfold iG iS at hj; omega) (by unfold iG iS at hj; omega) (by unfold iG iS at hj; omega) (by unfold iG iS at hj; omega)) (wn' 3 (by omega) (by omega) (by omega) (by omega) (by omega) (by omega) (by omega) (by omega)) w7 (fun j hj => ?_) (fun j hj => ?_) (fun c hc hP => ?_)
  · rcases lt13 hj with rfl | rfl | rfl | rfl | rfl | rfl | rfl | rfl | rfl | rfl | rfl | rfl | rfl
    all_goals first
      | exact (xb _ (by decide) (by decide) (by decide) (by decide) (by decide) (by decide) (by decide)).trans ((kp _ (by decide)).trans (wn' _ (by decide) (by decide) (by decide) (by decide) (by decide) (by decide) (by decide) (by decide)).symm)
      | exact x6.trans ((inc (kp 6 (by decide))).trans w7.symm)
      | exact x2.trans ((orf hf (kp 2 (by decide))).trans w12.symm)
      | exact x4.trans w4.symm
      | exact x5.trans w6.symm
      | exact x9.trans ((incg g (kp 9 (by decide))).trans w8.symm)
      | exact x10.trans ((incg h (kp 10 (by decide))).trans w9.symm)
      | exact x12.trans ((show (if s.1 b 12 < nI (d + 1) then nI (d + 1) else s.1 b 12) = (if t.1 u 11 < nI (d + 1) then nI (d + 1) else t.1 u 11) by rw [show s.1 b 12 = t.1 u 11 from kp 12 (by decide)]).trans w11.symm)
  · by_cases g : j = d
    · subst g
      exact xd.trans w116.symm
    · exact (xy j g).trans ((rK_y hk h2 e6 hd j (by omega)).trans (wn (116 + j) (by omega) (by omega) (by omega) (by omega) (by omega) (by omega) (by omega) (by omega) (by omega)).symm)
  · by_cases e : c = f
    · subst e
      exact xf.trans w92.symm
    · rw [w12, bt_inn hf e] at hP
      exact (xz c e).trans ((rK_z hk c hc hP).trans (wn (92 + c) (by omega) (by omega) (by omega) (by omega) (by omega) (by omega) (by omega) (by omega) (by omega)).symm)
theorem cH {A : Prop} {b u : Nat} {s t s' t' : zkS} (hk : rK s b (t.1 u) (fun c => A ∨ bt (t.1 u 12) c = true)) (hg : wG (t.1 u)) (hm : wK (t.1 u)) (h2 : t.1 u 2 = 1) {a lim nx d q z f : Nat} (hA : wAt (t.1 u) a lim nx d q z) (hlt : q < z) (hf : f < 24) (hb : bt (t.1 u 1) f = true) (hn : bt (t.1 u 12) f = false)
    (fr : ∀ a, a ≠ b → a ≠ b + 1 → a ≠ b + 2 → s'.1 a = s.1 a) (f2 : s'.2 = s.2) (gr : ∀ a, a ≠ u → t'.1 a = t.1 a) (g2 : t'.2 = t.2)
    (xb : ∀ j, j ≠ 6 → j ≠ 2 → j ≠ 3 → j ≠ 11 → s'.1 b j = s.1 b j) (x6 : s'.1 b 6 = s.1 b 6 + 1) (x2 : s'.1 b 2 = s.1 b 2 ||| fX7_bit (nI f)) (x3 : s'.1 b 3 = s.1 b 3 ||| fX7_bit (nI f)) (x11 : s'.1 b 11 = s.1 b 11 + 1) (xy : s'.1 (b + 1) = s.1 (b + 1)) (xz : ∀ c, c ≠ f → c ≠ a → s'.1 (b + 2) c = s.1 (b + 2) c) (xf : s'.1 (b + 2) f = 0) (xa : s'.1 (b + 2) a = s.1 (b + 2) a + 1)
    (wn : ∀ j, j ≠ 7 → j ≠ 12 → j ≠ 13 → j ≠ 10 → j ≠ 92 + f → j ≠ 92 + a → t'.1 u j = t.1 u j) (w7 : t'.1 u 7 = t.1 u 7 + 1) (w12 : t'.1 u 12 = t.1 u 12 ||| (1 <<< (nI f &&& 31))) (w13 : t'.1 u 13 = t.1 u 13 ||| (1 <<< (nI f &&& 31))) (w10 : t'.1 u 10 = t.1 u 10 + 1) (w92 : t'.1 u (92 + f) = 0) (w92a : t'.1 u (92 + a) = t.1 u (92 + a) + 1) : stpR A b u s t s' t' := by
  have hW := pH hg hm h2 hA hlt hf hb hn w12 w13 w92 w92a (fun j q q12 q13 qf qa => wn j (by omega) q12 q13 (by omega) qf qa)
  have kp := fun j (hj : j < 13) => rK_p hk h2 hj
  obtain ⟨ha, h4, hl, e3, hnx, e5, hd, e6, hr, b12, b13, b1, hq, e92, hz, e68, hqz, hway, hdis⟩ := hA
  have wn' := fun j (q : j < 92 ∨ 116 ≤ j) (q7 : j ≠ 7) (q12 : j ≠ 12) (q13 : j ≠ 13) (q10 : j ≠ 10) => wn j q7 q12 q13 q10 (by omega) (by omega)
  refine mkS hW ((wn' 2 (by omega) (by omega) (by omega) (by omega) (by omega)).trans h2) ((wn' 6 (by omega) (by omega) (by omega) (by omega) (by omega)).trans e6) hd fr f2 gr g2 (fun j hj => wn' j (by unfold iG iS at hj; omega) (by unfold iG iS at hj; omega) (by unfold iG iS at hj; omega) (by unfold iG iS at hj; omega) (by unfold iG iS at hj; omega)) (wn' 3 (by omega) (by omega) (by omega) (by omega) (by omega)) w7 (fun j hj => ?_) (fun j hj => ?_) (fun c hc hP => ?_)
  · rcases lt13 hj with rfl | rfl | rfl | rfl | rfl | rfl | rfl | rfl | rfl | rfl | rfl | rfl | rfl
    all_goals first
      | exact (xb _ (by decide) (by decide) (by decide) (by decide)).trans ((kp _ (by decide)).trans (wn' _ (by decide) (by decide) (by decide) (by decide) (by decide)).symm)
      | exact x6.trans ((inc (kp 6 (by decide))).trans w7.symm)
      | exact x2.trans ((orf hf (kp 2 (by decide))).trans w12.symm)
      | exact x3.trans ((orf hf (kp 3 (by decide))).trans w13.symm)
      | exact x11.trans ((inc (kp 11 (by decide))).trans w10.symm)
  · exact (congrFun xy j).trans ((rK_y hk h2 e6 hd j hj).trans (wn' (116 + j) (by omega) (by omega) (by omega) (by omega) (by omega)).symm)
  · by_cases e : c = f
    · subst e
      exact xf.trans w92.symm
    · by_cases e2 : c = a
      · subst e2
        exact xa.trans ((inc (rK_z hk c hc (Or.inr b12))).trans w92a.symm)
      · rw [w12, bt_inn hf e] at hP
        exact (xz c e e2).trans ((rK_z hk c hc hP).trans (wn (92 + c) (by omega) (by omega) (by omega) (by omega) (by omega) (by omega)).symm)
