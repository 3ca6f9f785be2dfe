/-! ===== the relation between the class's state and the model's =====
w: one of the model's big rows (0 came, 1 there, 2 runs, 3 limit, 4 at, 5 next, 6 way, 7 steps .. 11 deepest, 12 marked, 13 later, 14 pinned, 15 clean, 16 roots, 20 layouts, 44 tags, 68 sizes, 92 counts, 116 way, 140 fields, 284 seen, 299 how many, 300 plan, 320, 321 book, 345) -/
/-- a row's place holds nothing, or a cell that is among the bits -/
def hC (s v : Int32) : Prop := v = -5 ∨ ∃ d, d < 24 ∧ v = nI d ∧ bt s d = true
def rG (σ : zkS) (b : Nat) (w : Nat → Int32) : Prop := σ.1 b 0 = w 0 ∧ σ.1 b 1 = w 1 ∧ σ.1 b 2 = w 14 ∧ (∀ c, c < 24 → σ.1 (b + 1) c = w (20 + c) ∧ σ.1 (b + 2) c = w (44 + c) ∧ σ.1 (b + 3) c = w (68 + c)) ∧ (∀ c i, c < 24 → bt (w 1) c = true → i < 6 → nI i < w (68 + c) → σ.1 (b + 4) (6 * c + i) = w (140 + 6 * c + i)) ∧ ∀ r, r < 4 → σ.1 (b + 5) r = w (16 + r)
def wG (w : Nat → Int32) : Prop := (∃ n, n ≤ 24 ∧ w 0 = nI n ∧ (∀ i, bt (w 1) i = true → i < n) ∧ ∀ i, bt (w 14) i = true → i < n) ∧ (∀ c, c < 24 → (∃ y, y ≤ 6 ∧ w (20 + c) = nI y) ∧ (∃ t, t ≤ 9 ∧ w (44 + c) = nI t) ∧ (∃ s, s ≤ 6 ∧ w (68 + c) = nI s) ∧ (w (20 + c) = 6 → w (68 + c) = 2)) ∧ (∀ c i, c < 24 → bt (w 1) c = true → i < 6 → nI i < w (68 + c) → hC (w 1) (w (140 + 6 * c + i))) ∧ ∀ r, r < 4 → hC (w 1) (w (16 + r))
/-- the marking's numbers; those of the cells for all cells of P -/
def rK (σ : zkS) (k : Nat) (w : Nat → Int32) (P : Nat → Prop) : Prop := σ.1 k 0 = w 2 ∧ σ.1 k 1 = w 15 ∧ σ.1 k 2 = w 12 ∧ σ.1 k 3 = w 13 ∧ σ.1 k 6 = w 7 ∧ σ.1 k 7 = w 3 ∧ σ.1 k 8 = w 5 ∧ σ.1 k 9 = w 8 ∧ σ.1 k 10 = w 9 ∧ σ.1 k 11 = w 10 ∧ σ.1 k 12 = w 11 ∧ (w 2 = 1 → σ.1 k 4 = w 4 ∧ σ.1 k 5 = w 6 ∧ ∀ j, nI j < w 6 → j < 24 → σ.1 (k + 1) j = w (116 + j)) ∧ (w 2 = 0 → σ.1 k 4 = -5 ∧ σ.1 k 5 = 0 ∧ ∃ l, l ≤ 8 ∧ w 3 = nI l) ∧ ∀ c, c < 24 → P c → σ.1 (k + 2) c = w (92 + c)
/-- how a marking that runs stands -/
def wRun (w : Nat → Int32) : Prop := ∃ lim nx d : Nat, lim ≤ 8 ∧ w 3 = nI lim ∧ nx ≤ 4 ∧ w 5 = nI nx ∧ d < 24 ∧ w 6 = nI d ∧ (∀ r, r < nx → hC (w 12) (w (16 + r))) ∧
  (w 4 = -5 ∧ d = 0 ∨ ∃ a, a < 24 ∧ w 4 = nI a ∧ bt (w 12) a = true ∧ bt (w 13) a = false ∧ w (92 + a) ≤ w (68 + a)) ∧
  (∀ j, j < d → ∃ x, x < 24 ∧ w (116 + j) = nI x ∧ bt (w 12) x = true ∧ bt (w 13) x = false ∧ w (92 + x) < w (68 + x) ∧ w (116 + j) ≠ w 4) ∧ ∀ i j, i < j → j < d → w (116 + i) ≠ w (116 + j)
def wK (w : Nat → Int32) : Prop := (w 2 = 0 ∨ w 2 = 1) ∧ (w 15 = 0 ∨ w 15 = 1) ∧ (∀ i, bt (w 12) i = true → bt (w 1) i = true) ∧ (∀ i, bt (w 13) i = true → bt (w 12) i = true) ∧ (∀ c, c < 24 → (∃ j, j ≤ 6 ∧ w (92 + c) = nI j) ∧ (¬ nI c < w 0 → w (92 + c) = 0)) ∧
  (w 15 = 1 → w 2 = 0 ∧ w 13 = 0 ∧ ∀ r, r < 4 → hC (w 12) (w (16 + r))) ∧ (w 2 = 1 → wRun w)
/-- what is told by hand: seen, the plan, the book -/
def rS (σ : zkS) (h : Nat) (w : Nat → Int32) : Prop := (σ.1 h 0 = w 299 ∧ ∃ n, n ≤ 5 ∧ w 299 = nI n ∧ (∀ j, j < 3 * n → σ.1 (h + 1) j = w (284 + j)) ∧ ∀ k, k < n → (∃ c, c < 24 ∧ w (284 + 3 * k) = nI c) ∧ (∃ y, y ≤ 40 ∧ w (284 + 3 * k + 1) = nI y) ∧ (w (284 + 3 * k + 2) = 0 ∨ w (284 + 3 * k + 2) = 1)) ∧
  (σ.1 (h + 2) 0 = w 320 ∧ ∃ n, n ≤ 10 ∧ w 320 = nI n ∧ ∀ k, k < n → σ.1 (h + 3) (3 * k) = w (300 + 2 * k) ∧ σ.1 (h + 3) (3 * k + 1) = w (300 + 2 * k + 1) ∧ (w (300 + 2 * k) = 0 ∧ (∃ c i, c < 24 ∧ i < 6 ∧ w (300 + 2 * k + 1) = nI (10 * c + i)) ∨ w (300 + 2 * k) = 1 ∧ (∃ r, r < 4 ∧ w (300 + 2 * k + 1) = nI r) ∨ w (300 + 2 * k) = 2 ∧ ∃ c, c < 24 ∧ w (300 + 2 * k + 1) = nI c)) ∧
  (σ.1 (h + 4) 0 = w 345 ∧ ∃ n, n ≤ 8 ∧ w 345 = nI n ∧ (∀ j, j < 3 * n → σ.1 (h + 5) j = w (321 + j)) ∧ ∀ k, k < n → ∃ c i, c < 24 ∧ i < 6 ∧ w (321 + 3 * k) = nI c ∧ w (321 + 3 * k + 1) = nI i ∧ nI i < w (68 + c) ∧ nI c < w 0)
def rAll (σ : zkS) (e : Nat) (w : Nat → Int32) : Prop := rG σ (e + 1) w ∧ rK σ (e + 7) w (fun _ => True) ∧ rS σ (e + 10) w ∧ wG w ∧ wK w
def rX (σ τ : zkS) : Prop := ∃ n, n ≤ 100 ∧ σ.1 44 0 = nI n ∧ τ.1 0 5 = nI n ∧ ∀ k, k < n → σ.1 45 k = τ.1 4 k ∧ ∃ c, c < 128 ∧ τ.1 4 k = nI c
def rT (σ τ : zkS) : Prop := ∀ t, t < 6 → ∃ n, n ≤ 60 ∧ σ.1 51 t = nI n ∧ τ.1 13 t = nI n ∧ (τ.1 12 t = -1 ∧ σ.1 50 t = -5 ∧ n = 0 ∨ ∃ y, y ≤ 4 ∧ τ.1 12 t = nI y ∧ σ.1 50 t = nI y) ∧ ∀ k, k < n → σ.2 (60 * t + k) = τ.2 (60 * t + k)
def rI (σ τ : zkS) : Prop := σ.1 0 2 = τ.1 0 3 ∧ (τ.1 0 3 = 0 ∨ τ.1 0 3 = 1) ∧ (τ.1 0 3 = 1 → rAll σ 17 (τ.1 3))
def zRel (σ τ : zkS) : Prop := rAll σ 1 (τ.1 1) ∧ rI σ τ ∧ rX σ τ ∧ rT σ τ
/-! which parts of a state a relation reads -/
theorem rAll_c {σ σ' : zkS} {e : Nat} {w : Nat → Int32} (h : ∀ a, e < a → a ≤ e + 15 → σ'.1 a = σ.1 a) (hr : rAll σ e w) : rAll σ' e w := by
  unfold rAll rG rK rS at hr ⊢
  have k := fun j (h1 : 1 ≤ j) (h2 : j ≤ 15) => h (e + j) (by omega) (by omega)
  have e1 : ∀ i j, e + i + j = e + (i + j) := fun i j => Nat.add_assoc _ _ _
  simp only [e1, Nat.reduceAdd] at hr ⊢
  rw [k 1 (by decide) (by decide), k 2 (by decide) (by decide), k 3 (by decide) (by decide), k 4 (by decide) (by decide), k 5 (by decide) (by decide), k 6 (by decide) (by decide), k 7 (by decide) (by decide), k 8 (by decide) (by decide), k 9 (by decide) (by decide), k 10 (by decide) (by decide), k 11 (by decide) (by decide), k 12 (by decide) (by decide), k 13 (by decide) (by decide), k 14 (by decide) (by decide), k 15 (by decide) (by decide)]
  exact hr
theorem si_row (σ : zkS) {a k a' : Nat} (v : Int32) (h : a' ≠ a) : (zsi σ a k v).1 a' = σ.1 a' := funext fun k' => si_ne σ v (Or.inl h)
theorem rI_c {σ σ' τ τ' : zkS} (h1 : ∀ a, 17 < a → a ≤ 32 → σ'.1 a = σ.1 a) (h2 : σ'.1 0 2 = σ.1 0 2) (h3 : τ'.1 0 3 = τ.1 0 3) (h4 : τ'.1 3 = τ.1 3) (h : rI σ τ) : rI σ' τ' := by
  unfold rI at h ⊢
  rw [h2, h3, h4]
  exact ⟨h.1, h.2.1, fun q => rAll_c h1 (h.2.2 q)⟩
theorem rX_c {σ σ' τ τ' : zkS} (h1 : σ'.1 44 0 = σ.1 44 0) (h2 : σ'.1 45 = σ.1 45) (h3 : τ'.1 0 5 = τ.1 0 5) (h4 : τ'.1 4 = τ.1 4) (h : rX σ τ) : rX σ' τ' := by
  unfold rX at h ⊢
  rw [h1, h2, h3, h4]
  exact h
theorem rT_c {σ σ' τ τ' : zkS} (h1 : σ'.1 50 = σ.1 50) (h2 : σ'.1 51 = σ.1 51) (h3 : τ'.1 12 = τ.1 12) (h4 : τ'.1 13 = τ.1 13) (h5 : σ'.2 = σ.2) (h6 : τ'.2 = τ.2) (h : rT σ τ) : rT σ' τ' := by
  unfold rT at h ⊢
  rw [h1, h2, h3, h4, h5, h6]
  exact h
/-- the scratch of the class and of the model may change at will -/
theorem zRel_c {σ σ' τ τ' : zkS} (h1 : ∀ a, 1 ≤ a → a ≤ 32 → σ'.1 a = σ.1 a) (h2 : σ'.1 0 2 = σ.1 0 2) (h3 : σ'.1 44 0 = σ.1 44 0) (h4 : σ'.1 45 = σ.1 45) (h5 : σ'.1 50 = σ.1 50) (h6 : σ'.1 51 = σ.1 51) (h7 : σ'.2 = σ.2) (k1 : τ'.1 1 = τ.1 1) (k2 : τ'.1 3 = τ.1 3) (k3 : τ'.1 0 3 = τ.1 0 3) (k4 : τ'.1 0 5 = τ.1 0 5) (k5 : τ'.1 4 = τ.1 4) (k6 : τ'.1 12 = τ.1 12) (k7 : τ'.1 13 = τ.1 13) (k8 : τ'.2 = τ.2) (h : zRel σ τ) : zRel σ' τ' := by
  obtain ⟨a, b, c, d⟩ := h
  refine ⟨?_, rI_c (fun a h _ => h1 a (by omega) (by omega)) h2 k3 k2 b, rX_c h3 h4 k4 k5 c, rT_c h5 h6 k6 k7 h7 k8 d⟩
  rw [k1]
  exact rAll_c (fun a h _ => h1 a (by omega) (by omega)) a
theorem rd_0 {β : Type} {σ : zkS} {a : Nat} {F : Int32 → Option β} : zrd σ a 346 0 F = F (σ.1 a 0) := rd_nI (i := 0) (by decide) (by decide)
theorem wr_0 {β : Type} {σ : zkS} {a : Nat} {v : Int32} {F : zkS → Option β} : zwr σ a 346 0 v F = F (zsi σ a 0 v) := wr_nI (i := 0) (by decide) (by decide)
theorem rd_1 {β : Type} {σ : zkS} {a : Nat} {F : Int32 → Option β} : zrd σ a 346 1 F = F (σ.1 a 1) := rd_nI (i := 1) (by decide) (by decide)
theorem wr_1 {β : Type} {σ : zkS} {a : Nat} {v : Int32} {F : zkS → Option β} : zwr σ a 346 1 v F = F (zsi σ a 1 v) := wr_nI (i := 1) (by decide) (by decide)
theorem rd_2 {β : Type} {σ : zkS} {a : Nat} {F : Int32 → Option β} : zrd σ a 346 2 F = F (σ.1 a 2) := rd_nI (i := 2) (by decide) (by decide)
theorem wr_2 {β : Type} {σ : zkS} {a : Nat} {v : Int32} {F : zkS → Option β} : zwr σ a 346 2 v F = F (zsi σ a 2 v) := wr_nI (i := 2) (by decide) (by decide)
theorem rd_3 {β : Type} {σ : zkS} {a : Nat} {F : Int32 → Option β} : zrd σ a 346 3 F = F (σ.1 a 3) := rd_nI (i := 3) (by decide) (by decide)
theorem wr_3 {β : Type} {σ : zkS} {a : Nat} {v : Int32} {F : zkS → Option β} : zwr σ a 346 3 v F = F (zsi σ a 3 v) := wr_nI (i := 3) (by decide) (by decide)
theorem rd_4 {β : Type} {σ : zkS} {a : Nat} {F : Int32 → Option β} : zrd σ a 346 4 F = F (σ.1 a 4) := rd_nI (i := 4) (by decide) (by decide)
theorem wr_4 {β : Type} {σ : zkS} {a : Nat} {v : Int32} {F : zkS → Option β} : zwr σ a 346 4 v F = F (zsi σ a 4 v) := wr_nI (i := 4) (by decide) (by decide)
theorem rd_5 {β : Type} {σ : zkS} {a : Nat} {F : Int32 → Option β} : zrd σ a 346 5 F = F (σ.1 a 5) := rd_nI (i := 5) (by decide) (by decide)
theorem wr_5 {β : Type} {σ : zkS} {a : Nat} {v : Int32} {F : zkS → Option β} : zwr σ a 346 5 v F = F (zsi σ a 5 v) := wr_nI (i := 5) (by decide) (by decide)
theorem rd_6 {β : Type} {σ : zkS} {a : Nat} {F : Int32 → Option β} : zrd σ a 346 6 F = F (σ.1 a 6) := rd_nI (i := 6) (by decide) (by decide)
theorem wr_6 {β : Type} {σ : zkS} {a : Nat} {v : Int32} {F : zkS → Option β} : zwr σ a 346 6 v F = F (zsi σ a 6 v) := wr_nI (i := 6) (by decide) (by decide)
theorem rd_7 {β : Type} {σ : zkS} {a : Nat} {F : Int32 → Option β} : zrd σ a 346 7 F = F (σ.1 a 7) := rd_nI (i := 7) (by decide) (by decide)
theorem wr_7 {β : Type} {σ : zkS} {a : Nat} {v : Int32} {F : zkS → Option β} : zwr σ a 346 7 v F = F (zsi σ a 7 v) := wr_nI (i := 7) (by decide) (by decide)
theorem rd_8 {β : Type} {σ : zkS} {a : Nat} {F : Int32 → Option β} : zrd σ a 346 8 F = F (σ.1 a 8) := rd_nI (i := 8) (by decide) (by decide)
theorem wr_8 {β : Type} {σ : zkS} {a : Nat} {v : Int32} {F : zkS → Option β} : zwr σ a 346 8 v F = F (zsi σ a 8 v) := wr_nI (i := 8) (by decide) (by decide)
theorem rd_9 {β : Type} {σ : zkS} {a : Nat} {F : Int32 → Option β} : zrd σ a 346 9 F = F (σ.1 a 9) := rd_nI (i := 9) (by decide) (by decide)
theorem wr_9 {β : Type} {σ : zkS} {a : Nat} {v : Int32} {F : zkS → Option β} : zwr σ a 346 9 v F = F (zsi σ a 9 v) := wr_nI (i := 9) (by decide) (by decide)
theorem rd_10 {β : Type} {σ : zkS} {a : Nat} {F : Int32 → Option β} : zrd σ a 346 10 F = F (σ.1 a 10) := rd_nI (i := 10) (by decide) (by decide)
theorem wr_10 {β : Type} {σ : zkS} {a : Nat} {v : Int32} {F : zkS → Option β} : zwr σ a 346 10 v F = F (zsi σ a 10 v) := wr_nI (i := 10) (by decide) (by decide)
theorem rd_11 {β : Type} {σ : zkS} {a : Nat} {F : Int32 → Option β} : zrd σ a 346 11 F = F (σ.1 a 11) := rd_nI (i := 11) (by decide) (by decide)
theorem wr_11 {β : Type} {σ : zkS} {a : Nat} {v : Int32} {F : zkS → Option β} : zwr σ a 346 11 v F = F (zsi σ a 11 v) := wr_nI (i := 11) (by decide) (by decide)
theorem rd_12 {β : Type} {σ : zkS} {a : Nat} {F : Int32 → Option β} : zrd σ a 346 12 F = F (σ.1 a 12) := rd_nI (i := 12) (by decide) (by decide)
theorem wr_12 {β : Type} {σ : zkS} {a : Nat} {v : Int32} {F : zkS → Option β} : zwr σ a 346 12 v F = F (zsi σ a 12 v) := wr_nI (i := 12) (by decide) (by decide)
theorem rd_13 {β : Type} {σ : zkS} {a : Nat} {F : Int32 → Option β} : zrd σ a 346 13 F = F (σ.1 a 13) := rd_nI (i := 13) (by decide) (by decide)
theorem wr_13 {β : Type} {σ : zkS} {a : Nat} {v : Int32} {F : zkS → Option β} : zwr σ a 346 13 v F = F (zsi σ a 13 v) := wr_nI (i := 13) (by decide) (by decide)
theorem rd_14 {β : Type} {σ : zkS} {a : Nat} {F : Int32 → Option β} : zrd σ a 346 14 F = F (σ.1 a 14) := rd_nI (i := 14) (by decide) (by decide)
theorem wr_14 {β : Type} {σ : zkS} {a : Nat} {v : Int32} {F : zkS → Option β} : zwr σ a 346 14 v F = F (zsi σ a 14 v) := wr_nI (i := 14) (by decide) (by decide)
theorem rd_15 {β : Type} {σ : zkS} {a : Nat} {F : Int32 → Option β} : zrd σ a 346 15 F = F (σ.1 a 15) := rd_nI (i := 15) (by decide) (by decide)
theorem wr_15 {β : Type} {σ : zkS} {a : Nat} {v : Int32} {F : zkS → Option β} : zwr σ a 346 15 v F = F (zsi σ a 15 v) := wr_nI (i := 15) (by decide) (by decide)
theorem rd_299 {β : Type} {σ : zkS} {a : Nat} {F : Int32 → Option β} : zrd σ a 346 299 F = F (σ.1 a 299) := rd_nI (i := 299) (by decide) (by decide)
theorem wr_299 {β : Type} {σ : zkS} {a : Nat} {v : Int32} {F : zkS → Option β} : zwr σ a 346 299 v F = F (zsi σ a 299 v) := wr_nI (i := 299) (by decide) (by decide)
theorem rd_320 {β : Type} {σ : zkS} {a : Nat} {F : Int32 → Option β} : zrd σ a 346 320 F = F (σ.1 a 320) := rd_nI (i := 320) (by decide) (by decide)
theorem wr_320 {β : Type} {σ : zkS} {a : Nat} {v : Int32} {F : zkS → Option β} : zwr σ a 346 320 v F = F (zsi σ a 320 v) := wr_nI (i := 320) (by decide) (by decide)
theorem rd_345 {β : Type} {σ : zkS} {a : Nat} {F : Int32 → Option β} : zrd σ a 346 345 F = F (σ.1 a 345) := rd_nI (i := 345) (by decide) (by decide)
theorem wr_345 {β : Type} {σ : zkS} {a : Nat} {v : Int32} {F : zkS → Option β} : zwr σ a 346 345 v F = F (zsi σ a 345 v) := wr_nI (i := 345) (by decide) (by decide)
theorem rd_20c {β : Type} {σ : zkS} {a c : Nat} {F : Int32 → Option β} (h : c < 24) : zrd σ a 346 (20 + nI c) F = F (σ.1 a (20 + c)) := by
  show zrd σ a 346 (nI 20 + nI c) F = _
  rw [nI_add, rd_nI (by omega) (by decide)]
theorem wr_20c {β : Type} {σ : zkS} {a c : Nat} {v : Int32} {F : zkS → Option β} (h : c < 24) : zwr σ a 346 (20 + nI c) v F = F (zsi σ a (20 + c) v) := by
  show zwr σ a 346 (nI 20 + nI c) v F = _
  rw [nI_add, wr_nI (by omega) (by decide)]
theorem rd_44c {β : Type} {σ : zkS} {a c : Nat} {F : Int32 → Option β} (h : c < 24) : zrd σ a 346 (44 + nI c) F = F (σ.1 a (44 + c)) := by
  show zrd σ a 346 (nI 44 + nI c) F = _
  rw [nI_add, rd_nI (by omega) (by decide)]
theorem wr_44c {β : Type} {σ : zkS} {a c : Nat} {v : Int32} {F : zkS → Option β} (h : c < 24) : zwr σ a 346 (44 + nI c) v F = F (zsi σ a (44 + c) v) := by
  show zwr σ a 346 (nI 44 + nI c) v F = _
  rw [nI_add, wr_nI (by omega) (by decide)]
theorem rd_68c {β : Type} {σ : zkS} {a c : Nat} {F : Int32 → Option β} (h : c < 24) : zrd σ a 346 (68 + nI c) F = F (σ.1 a (68 + c)) := by
  show zrd σ a 346 (nI 68 + nI c) F = _
  rw [nI_add, rd_nI (by omega) (by decide)]
theorem wr_68c {β : Type} {σ : zkS} {a c : Nat} {v : Int32} {F : zkS → Option β} (h : c < 24) : zwr σ a 346 (68 + nI c) v F = F (zsi σ a (68 + c) v) := by
  show zwr σ a 346 (nI 68 + nI c) v F = _
  rw [nI_add, wr_nI (by omega) (by decide)]
theorem rd_92c {β : Type} {σ : zkS} {a c : Nat} {F : Int32 → Option β} (h : c < 24) : zrd σ a 346 (92 + nI c) F = F (σ.1 a (92 + c)) := by
  show zrd σ a 346 (nI 92 + nI c) F = _
  rw [nI_add, rd_nI (by omega) (by decide)]
theorem wr_92c {β : Type} {σ : zkS} {a c : Nat} {v : Int32} {F : zkS → Option β} (h : c < 24) : zwr σ a 346 (92 + nI c) v F = F (zsi σ a (92 + c) v) := by
  show zwr σ a 346 (nI 92 + nI c) v F = _
  rw [nI_add, wr_nI (by omega) (by decide)]
theorem rd_116c {β : Type} {σ : zkS} {a c : Nat} {F : Int32 → Option β} (h : c < 24) : zrd σ a 346 (116 + nI c) F = F (σ.1 a (116 + c)) := by
  show zrd σ a 346 (nI 116 + nI c) F = _
  rw [nI_add, rd_nI (by omega) (by decide)]
theorem wr_116c {β : Type} {σ : zkS} {a c : Nat} {v : Int32} {F : zkS → Option β} (h : c < 24) : zwr σ a 346 (116 + nI c) v F = F (zsi σ a (116 + c) v) := by
  show zwr σ a 346 (nI 116 + nI c) v F = _
  rw [nI_add, wr_nI (by omega) (by decide)]
theorem rd_16c {β : Type} {σ : zkS} {a c : Nat} {F : Int32 → Option β} (h : c < 4) : zrd σ a 346 (16 + nI c) F = F (σ.1 a (16 + c)) := by
  show zrd σ a 346 (nI 16 + nI c) F = _
  rw [nI_add, rd_nI (by omega) (by decide)]
theorem wr_16c {β : Type} {σ : zkS} {a c : Nat} {v : Int32} {F : zkS → Option β} (h : c < 4) : zwr σ a 346 (16 + nI c) v F = F (zsi σ a (16 + c) v) := by
  show zwr σ a 346 (nI 16 + nI c) v F = _
  rw [nI_add, wr_nI (by omega) (by decide)]
theorem rd_140c {β : Type} {σ : zkS} {a c : Nat} {F : Int32 → Option β} (h : c < 144) : zrd σ a 346 (140 + nI c) F = F (σ.1 a (140 + c)) := by
  show zrd σ a 346 (nI 140 + nI c) F = _
  rw [nI_add, rd_nI (by omega) (by decide)]
theorem wr_140c {β : Type} {σ : zkS} {a c : Nat} {v : Int32} {F : zkS → Option β} (h : c < 144) : zwr σ a 346 (140 + nI c) v F = F (zsi σ a (140 + c) v) := by
  show zwr σ a 346 (nI 140 + nI c) v F = _
  rw [nI_add, wr_nI (by omega) (by decide)]
theorem rd_284c {β : Type} {σ : zkS} {a c : Nat} {F : Int32 → Option β} (h : c < 15) : zrd σ a 346 (284 + nI c) F = F (σ.1 a (284 + c)) := by
  show zrd σ a 346 (nI 284 + nI c) F = _
  rw [nI_add, rd_nI (by omega) (by decide)]
theorem wr_284c {β : Type} {σ : zkS} {a c : Nat} {v : Int32} {F : zkS → Option β} (h : c < 15) : zwr σ a 346 (284 + nI c) v F = F (zsi σ a (284 + c) v) := by
  show zwr σ a 346 (nI 284 + nI c) v F = _
  rw [nI_add, wr_nI (by omega) (by decide)]
theorem rd_300c {β : Type} {σ : zkS} {a c : Nat} {F : Int32 → Option β} (h : c < 20) : zrd σ a 346 (300 + nI c) F = F (σ.1 a (300 + c)) := by
  show zrd σ a 346 (nI 300 + nI c) F = _
  rw [nI_add, rd_nI (by omega) (by decide)]
theorem wr_300c {β : Type} {σ : zkS} {a c : Nat} {v : Int32} {F : zkS → Option β} (h : c < 20) : zwr σ a 346 (300 + nI c) v F = F (zsi σ a (300 + c) v) := by
  show zwr σ a 346 (nI 300 + nI c) v F = _
  rw [nI_add, wr_nI (by omega) (by decide)]
theorem rd_321c {β : Type} {σ : zkS} {a c : Nat} {F : Int32 → Option β} (h : c < 24) : zrd σ a 346 (321 + nI c) F = F (σ.1 a (321 + c)) := by
  show zrd σ a 346 (nI 321 + nI c) F = _
  rw [nI_add, rd_nI (by omega) (by decide)]
theorem wr_321c {β : Type} {σ : zkS} {a c : Nat} {v : Int32} {F : zkS → Option β} (h : c < 24) : zwr σ a 346 (321 + nI c) v F = F (zsi σ a (321 + c) v) := by
  show zwr σ a 346 (nI 321 + nI c) v F = _
  rw [nI_add, wr_nI (by omega) (by decide)]
theorem rd_fld {β : Type} {σ : zkS} {a c i : Nat} {F : Int32 → Option β} (h : c < 24) (hi : i < 6) : zrd σ a 346 ((140 + (6 * nI c)) + nI i) F = F (σ.1 a (140 + 6 * c + i)) := by
  show zrd σ a 346 ((nI 140 + (nI 6 * nI c)) + nI i) F = _
  rw [pk_mul, nI_add, nI_add, rd_nI (by omega) (by decide)]
theorem wr_fld {β : Type} {σ : zkS} {a c i : Nat} {v : Int32} {F : zkS → Option β} (h : c < 24) (hi : i < 6) : zwr σ a 346 ((140 + (6 * nI c)) + nI i) v F = F (zsi σ a (140 + 6 * c + i) v) := by
  show zwr σ a 346 ((nI 140 + (nI 6 * nI c)) + nI i) v F = _
  rw [pk_mul, nI_add, nI_add, wr_nI (by omega) (by decide)]
theorem rd_hld {β : Type} {σ : zkS} {a c i : Nat} {F : Int32 → Option β} (h : c < 24) (hi : i < 6) : zrd σ a 144 ((nI c * 6) + nI i) F = F (σ.1 a (6 * c + i)) := by
  show zrd σ a 144 ((nI c * nI 6) + nI i) F = _
  rw [pk_mul, nI_add, rd_nI (by omega) (by decide), Nat.mul_comm c 6]
theorem wr_hld {β : Type} {σ : zkS} {a c i : Nat} {v : Int32} {F : zkS → Option β} (h : c < 24) (hi : i < 6) : zwr σ a 144 ((nI c * 6) + nI i) v F = F (zsi σ a (6 * c + i) v) := by
  show zwr σ a 144 ((nI c * nI 6) + nI i) v F = _
  rw [pk_mul, nI_add, wr_nI (by omega) (by decide), Nat.mul_comm c 6]
