/-- the tables' words that hold at every call -/
def zTb : List Cond := lw_tbl.filter goodWord
theorem zmem {w : Cond} (i : Nat) (h : lw_tbl[i]? = some w) (g : goodWord w = true) : w ∈ zTb := List.mem_filter.mpr ⟨List.mem_of_getElem? h, g⟩
theorem zall : ∀ w ∈ zTb, goodWord w = true := fun _ h => (List.mem_filter.mp h).2
def zNs : List (String × Nat × MethodName × String) := [("ReversedLinks", 11, ⟨"ReversedLinks$State", "<init>", "()V"⟩, "ReversedLinks"), ("ReversedLinks", 34, ⟨"ReversedLinks$Marking", "<init>", "()V"⟩, "ReversedLinks"), ("ReversedLinks", 41, ⟨"ReversedLinks$Links", "<init>", "()V"⟩, "ReversedLinks"), ("ReversedLinks", 48, ⟨"ReversedLinks$Text", "<init>", "()V"⟩, "ReversedLinks"), ("ReversedLinks$Graph", 49, ⟨"ReversedLinks", "bit", "(I)I"⟩, "ReversedLinks"), ("ReversedLinks$Graph", 57, ⟨"ReversedLinks", "has", "(II)Z"⟩, "ReversedLinks"), ("ReversedLinks$Graph", 68, ⟨"ReversedLinks", "isRoot", "(I)Z"⟩, "ReversedLinks"), ("ReversedLinks$Graph", 71, ⟨"ReversedLinks", "isFollowed", "(III)Z"⟩, "ReversedLinks"), ("ReversedLinks$Graph", 85, ⟨"ReversedLinks", "asNumber", "(Z)I"⟩, "ReversedLinks"), ("ReversedLinks$Links", 29, ⟨"ReversedLinks", "firstOf", "(I)I"⟩, "ReversedLinks"), ("ReversedLinks$Links", 33, ⟨"ReversedLinks", "bit", "(I)I"⟩, "ReversedLinks"), ("ReversedLinks$Links", 42, ⟨"ReversedLinks", "has", "(II)Z"⟩, "ReversedLinks"), ("ReversedLinks$Marking", 87, ⟨"ReversedLinks", "has", "(II)Z"⟩, "ReversedLinks"), ("ReversedLinks$Marking", 95, ⟨"ReversedLinks", "firstOf", "(I)I"⟩, "ReversedLinks"), ("ReversedLinks$Marking", 98, ⟨"ReversedLinks", "bit", "(I)I"⟩, "ReversedLinks"), ("ReversedLinks$State", 18, ⟨"ReversedLinks$Marking", "<init>", "()V"⟩, "ReversedLinks"), ("ReversedLinks$State", 25, ⟨"ReversedLinks$Sheet", "<init>", "()V"⟩, "ReversedLinks"), ("ReversedLinks$Tapes", 28, ⟨"ReversedLinks", "isTape", "(I)Z"⟩, "ReversedLinks"), ("ReversedLinks$Text", 69, ⟨"ReversedLinks", "has", "(II)Z"⟩, "ReversedLinks"), ("ReversedLinks$Text", 73, ⟨"ReversedLinks", "fieldsOf", "(II)I"⟩, "ReversedLinks")]
def zN (U : State) : Prop := ∀ q ∈ zNs, va_Nw (.methodLinkNest q.1 q.2.1 q.2.2.1 q.2.2.2) U
/-- the class's one static row -/
def zUT : Nat → Int32 := fun j => ([-1, 0, 0, 0, 3, 2, 1] : List Int32).getD j 0
def zUN (u : Nat) (A : Nat → Prop) (U : State) (H : Heap) : Prop := u = 0 → ∃ t : Nat, va_Z "ReversedLinks" "UNDER" "[I" (.ref t) A U H ∧ va_T .int t 7 (fun j => .int (zUT j)) A U H
/-! the state of the two worlds as plain functions: what each field and each place of each array holds, by the number of the cell -/
abbrev zkS : Type := (Nat → Nat → Int32) × (Nat → Int64)
def zsi (σ : zkS) (a k : Nat) (v : Int32) : zkS := (fun a' k' => if a' = a ∧ k' = k then v else σ.1 a' k', σ.2)
def zsl (σ : zkS) (k : Nat) (v : Int64) : zkS := (σ.1, fun k' => if k' = k then v else σ.2 k')
def zcI (σ : zkS) (a b sp dp n : Nat) : zkS := (fun a' k' => if a' = b then va_cpy (σ.1 a) (σ.1 b) sp dp n k' else σ.1 a' k', σ.2)
def zcL (σ : zkS) (sp dp n : Nat) : zkS := (σ.1, va_cpy σ.2 σ.2 sp dp n)
def zkdA : List Nat := [7, 4, 0, 9, 9, 9, 9, 9, 2, 9, 9, 3, 9, 3, 9, 3, 9, 4, 0, 9, 9, 9, 9, 9, 2, 9, 9, 3, 9, 3, 9, 3, 9, 0, 9, 9, 9, 9, 9, 2, 9, 9, 1, 9, 6, 9, 9, 9, 9, 5, 9, 9, 10]
def zkdB : List Nat := [8, 9, 9, 9, 9, 9, 9, 9, 9, 9, 9, 9, 9, 9, 10]
def zkd (u a : Nat) : Nat := (if u = 0 then zkdA else zkdB).getD a 11
def zlnA : List Nat := [0, 0, 0, 24, 24, 24, 144, 4, 0, 24, 24, 0, 30, 0, 30, 0, 30, 0, 0, 24, 24, 24, 144, 4, 0, 24, 24, 0, 30, 0, 30, 0, 30, 0, 24, 24, 24, 144, 4, 0, 24, 24, 0, 24, 0, 100, 6, 6, 6, 0, 6, 6, 360]
def zlnB : List Nat := [0, 346, 346, 346, 100, 8, 8, 8, 101, 101, 101, 606, 6, 6, 360]
def zln (u a : Nat) : Nat := (if u = 0 then zlnA else zlnB).getD a 0
def zsz (u : Nat) : Nat := if u = 0 then 53 else 15
def znf (ci : Nat) : Nat := [8, 2, 15, 2, 5, 3, 9, 8, 20].getD ci 0
def zof (ci k : Nat) : Nat := ([[0, 0, 0, 1, 2, 3, 4, 5], [1, 0], [0, 0, 0, 0, 0, 0, 0, 0, 0, 0, 0, 0, 0, 1, 2], [0, 1], [1, 7, 10, 12, 14], [1, 2, 3], [0, 0, 0, 1, 2, 3, 4, 0, 0], [1, 17, 0, 33, 39, 42, 44, 49], [1, 2, 3, 0, 4, 0, 5, 6, 7, 8, 9, 10, 11, 0, 0, 0, 0, 12, 13, 14]].getD ci []).getD k 0
def zfv (ci : Nat) (adr : Nat → Nat) (σ : zkS) (a k : Nat) : Value := if zof ci k = 0 then .int (σ.1 a k) else .ref (adr (a + zof ci k))
def zob (ci : Nat) (adr : Nat → Nat) (σ : zkS) (a : Nat) : List Value := (List.range (znf ci)).map (zfv ci adr σ a)
def zcn (u : Nat) (cI cJ : ClassId) (adr : Nat → Nat) (σ : zkS) (a : Nat) : va_E := if zkd u a = 9 then .inl (cI, zln u a, .inl (σ.1 a)) else if zkd u a = 10 then .inl (cJ, zln u a, .inr (.inl σ.2)) else .inr (zkd u a, zob (zkd u a) adr σ a)
def zW (u : Nat) (cI cJ : ClassId) (adr : Nat → Nat) (σ : zkS) : va_W := (List.range (zsz u)).map (fun a => (adr a, zcn u cI cJ adr σ a))
theorem zW_at {u : Nat} {cI cJ : ClassId} {adr : Nat → Nat} {σ : zkS} {a : Nat} (ha : a < zsz u) : (zW u cI cJ adr σ)[a]? = some (adr a, zcn u cI cJ adr σ a) := by
  unfold zW
  rw [List.getElem?_map, List.getElem?_range ha]
  rfl
theorem zW_inv {u : Nat} {cI cJ : ClassId} {adr : Nat → Nat} {σ : zkS} {a : Nat} {q : Nat × va_E} (h : (zW u cI cJ adr σ)[a]? = some q) : a < zsz u ∧ q.1 = adr a := by
  have hl : a < (zW u cI cJ adr σ).length := (List.getElem?_eq_some_iff.mp h).1
  have ha : a < zsz u := by simpa [zW] using hl
  rw [zW_at ha] at h
  exact ⟨ha, (congrArg Prod.fst (Option.some.inj h)).symm⟩
theorem zW_ob {u : Nat} {cI cJ : ClassId} {adr : Nat → Nat} {σ : zkS} {a ci : Nat} (ha : a < zsz u) (hk : zkd u a = ci) (h9 : ci < 9) : (zW u cI cJ adr σ)[a]? = some (adr a, .inr (ci, zob ci adr σ a)) := by
  rw [zW_at ha, zcn, if_neg (by omega), if_neg (by omega), hk]
theorem zW_ar {u : Nat} {cI cJ : ClassId} {adr : Nat → Nat} {σ : zkS} {a n : Nat} (ha : a < zsz u) (hk : zkd u a = 9) (hn : zln u a = n) : (zW u cI cJ adr σ)[a]? = some (adr a, .inl (cI, n, .inl (σ.1 a))) := by
  rw [zW_at ha, zcn, if_pos hk, hn]
theorem zW_aj {u : Nat} {cI cJ : ClassId} {adr : Nat → Nat} {σ : zkS} {a n : Nat} (ha : a < zsz u) (hk : zkd u a = 10) (hn : zln u a = n) : (zW u cI cJ adr σ)[a]? = some (adr a, .inl (cJ, n, .inr (.inl σ.2))) := by
  rw [zW_at ha, zcn, if_neg (by omega), if_pos hk, hn]
theorem zW_set {u : Nat} {cI cJ : ClassId} {adr : Nat → Nat} {σ σ' : zkS} {a : Nat} {e : va_E} (h : ∀ i, i < zsz u → i ≠ a → zcn u cI cJ adr σ' i = zcn u cI cJ adr σ i) (he : zcn u cI cJ adr σ' a = e) : (zW u cI cJ adr σ).set a (adr a, e) = zW u cI cJ adr σ' := by
  apply List.ext_getElem?
  intro i
  by_cases hi : i < zsz u
  · rw [zW_at hi, List.getElem?_set]
    by_cases hia : a = i
    · subst hia
      rw [if_pos rfl, if_pos (by simpa [zW] using hi), he]
    · rw [if_neg hia, zW_at hi, h i hi (fun q => hia q.symm)]
  · rw [List.getElem?_eq_none (by simp [zW]; omega), List.getElem?_eq_none (by simp [zW]; omega)]
theorem zcn_ext {u : Nat} {cI cJ : ClassId} {adr : Nat → Nat} {σ σ' : zkS} {i : Nat} (h1 : ∀ k, σ'.1 i k = σ.1 i k) (h2 : zkd u i = 10 → σ'.2 = σ.2) : zcn u cI cJ adr σ' i = zcn u cI cJ adr σ i := by
  have e : σ'.1 i = σ.1 i := funext h1
  unfold zcn
  by_cases h9 : zkd u i = 9
  · rw [if_pos h9, if_pos h9, e]
  · rw [if_neg h9, if_neg h9]
    by_cases h10 : zkd u i = 10
    · rw [if_pos h10, if_pos h10, h2 h10]
    · rw [if_neg h10, if_neg h10]
      unfold zob zfv
      rw [e]
theorem zW_si_ob {u : Nat} {cI cJ : ClassId} {adr : Nat → Nat} {σ : zkS} {a ci k : Nat} {v : Int32} (hk : zkd u a = ci) (h9 : ci < 9) (ho : zof ci k = 0) : (zW u cI cJ adr σ).set a (adr a, .inr (ci, (zob ci adr σ a).set k (.int v))) = zW u cI cJ adr (zsi σ a k v) := by
  refine zW_set (fun i _ hia => zcn_ext (fun k' => ?_) (fun _ => rfl)) ?_
  · show (if i = a ∧ k' = k then v else σ.1 i k') = _
    rw [if_neg (fun q => hia q.1)]
  · rw [zcn, if_neg (by omega), if_neg (by omega), hk]
    congr 2
    apply List.ext_getElem?
    intro j
    rw [List.getElem?_set]
    unfold zob
    by_cases hj : j < znf ci
    · rw [List.getElem?_map, List.getElem?_range hj]
      by_cases hjk : k = j
      · subst hjk
        rw [if_pos rfl, if_pos (by simpa using hj)]
        show some (zfv ci adr (zsi σ a k v) a k) = _
        rw [zfv, if_pos ho]
        show some (Value.int (if a = a ∧ k = k then v else _)) = _
        rw [if_pos ⟨rfl, rfl⟩]
      · rw [if_neg hjk, List.getElem?_map, List.getElem?_range hj]
        show some (zfv ci adr (zsi σ a k v) a j) = some (zfv ci adr σ a j)
        unfold zfv
        have : (zsi σ a k v).1 a j = σ.1 a j := by
          show (if a = a ∧ j = k then v else σ.1 a j) = _
          rw [if_neg (fun q => hjk q.2.symm)]
        rw [this]
    · rw [List.getElem?_eq_none (by simp; omega)]
      by_cases hjk : k = j
      · rw [if_pos hjk, if_neg (by simp; omega)]
      · rw [if_neg hjk, List.getElem?_eq_none (by simp; omega)]
theorem zW_si_ar {u : Nat} {cI cJ : ClassId} {adr : Nat → Nat} {σ : zkS} {a n k : Nat} {v : Int32} (hk : zkd u a = 9) (hn : zln u a = n) : (zW u cI cJ adr σ).set a (adr a, .inl (cI, n, .inl (upd (σ.1 a) k v))) = zW u cI cJ adr (zsi σ a k v) := by
  refine zW_set (fun i _ hia => zcn_ext (fun k' => ?_) (fun _ => rfl)) ?_
  · show (if i = a ∧ k' = k then v else σ.1 i k') = _
    rw [if_neg (fun q => hia q.1)]
  · rw [zcn, if_pos hk, hn]
    congr 4
    funext j
    show (if a = a ∧ j = k then v else σ.1 a j) = (if j = k then v else σ.1 a j)
    by_cases hj : j = k
    · rw [if_pos ⟨rfl, hj⟩, if_pos hj]
    · rw [if_neg (fun q => hj q.2), if_neg hj]
theorem zW_ci {u : Nat} {cI cJ : ClassId} {adr : Nat → Nat} {σ : zkS} {a b n sp dp w : Nat} (hk : zkd u b = 9) (hn : zln u b = n) : (zW u cI cJ adr σ).set b (adr b, .inl (cI, n, .inl (va_cpy (σ.1 a) (σ.1 b) sp dp w))) = zW u cI cJ adr (zcI σ a b sp dp w) := by
  refine zW_set (fun i _ hia => zcn_ext (fun k' => ?_) (fun _ => rfl)) ?_
  · show (if i = b then _ else σ.1 i k') = _
    rw [if_neg hia]
  · rw [zcn, if_pos hk, hn]
    congr 4
    funext j
    show (if b = b then _ else _) = _
    rw [if_pos rfl]
theorem zj_one : ∀ u, u < 2 → ∀ i, i < zsz u → ∀ a, a < zsz u → zkd u i = 10 → zkd u a = 10 → i = a := by
  intro u hu
  rcases (show u = 0 ∨ u = 1 by omega) with rfl | rfl
  · intro i hi a ha h1 h2
    have k1 : ∀ j, j < 53 → zkd 0 j = 10 → j = 52 := by decide +kernel
    rw [k1 i hi h1, k1 a ha h2]
  · intro i hi a ha h1 h2
    have k1 : ∀ j, j < 15 → zkd 1 j = 10 → j = 14 := by decide +kernel
    rw [k1 i hi h1, k1 a ha h2]
theorem zW_l {u : Nat} {cI cJ : ClassId} {adr : Nat → Nat} {σ : zkS} {a n : Nat} {f : Nat → Int64} (hu : u < 2) (ha : a < zsz u) (hk : zkd u a = 10) (hn : zln u a = n) : (zW u cI cJ adr σ).set a (adr a, .inl (cJ, n, .inr (.inl f))) = zW u cI cJ adr (σ.1, f) := by
  refine zW_set (fun i hi hia => zcn_ext (fun k' => rfl) (fun h10 => absurd (zj_one u hu i hi a ha h10 hk) hia)) ?_
  rw [zcn, if_neg (by omega), if_pos hk, hn]
/-- which cells a world's methods may change: its own, and new ones -/
def zA (u : Nat) (adr : Nat → Nat) (z : Nat) : Nat → Prop := fun q => (∃ a, a < zsz u ∧ q = adr a) ∨ z ≤ q
def zInj (u : Nat) (adr : Nat → Nat) : Prop := ∀ i j, i < zsz u → j < zsz u → adr i = adr j → i = j
theorem zD {u : Nat} {cI cJ : ClassId} {adr : Nat → Nat} {σ : zkS} {z : Nat} (hI : zInj u adr) : va_D (zA u adr z) (zW u cI cJ adr σ) := by
  refine ⟨fun i j p q hp hq e => ?_, fun k q hk => ?_⟩
  · obtain ⟨h1, h2⟩ := zW_inv hp
    obtain ⟨h3, h4⟩ := zW_inv hq
    exact hI i j h1 h3 (by rw [← h2, ← h4, e])
  · obtain ⟨h1, h2⟩ := zW_inv hk
    exact Or.inl ⟨k, h1, h2⟩
abbrev zT (cI cJ : ClassId) : List (ClassId × FieldType) := [(cI, .int), (cJ, .long)]
def zKx (p : Program) (s : State) (m : MethodId) (c : Code) (args : Array Value) (cc : ByteArray) (own : String) (nL u : Nat) (D : va_G) (cI cJ : ClassId) (adr : Nat → Nat) : Prop :=
  p.tables.exec = Jvm.exec ∧ c.code = cc ∧ c.maxLocals = nL ∧ s.vm.findClass own = some m.cls ∧ (∀ w ∈ zTb, w.before args s = true) ∧ va_K D vwCl (zT cI cJ) s ∧ (zN s ∧ zUN u (zA u adr s.heap.size) s s.heap) ∧ zInj u adr
def zWo (u : Nat) (D : va_G) (cI cJ : ClassId) (adr : Nat → Nat) (s : State) (σ : zkS) (H : Heap) (locs : List Loc) : Prop := va_P D vwCl (zW u cI cJ adr σ) H ∧ va_S (zA u adr s.heap.size) s.heap H locs
def zPre (u : Nat) (D : va_G) (cI cJ : ClassId) (adr : Nat → Nat) (σ : zkS) (z : Nat) (av : List Value) : Array Value → State → Prop := va_Pc av (fun U => U.heap.size = z ∧ va_P D vwCl (zW u cI cJ adr σ) U.heap ∧ va_K D vwCl (zT cI cJ) U ∧ zN U ∧ zUN u (zA u adr z) U U.heap)
def zQi (u : Nat) (D : va_G) (cI cJ : ClassId) (adr : Nat → Nat) (z : Nat) (r : Int32) (σ : zkS) : Array Value → State → Outcome → State → Prop := va_Qi (fun (r' : Int32) (_ : Unit) => r' = r) (fun _ t => va_P D vwCl (zW u cI cJ adr σ) t.heap) (zA u adr z)
def zQl (u : Nat) (D : va_G) (cI cJ : ClassId) (adr : Nat → Nat) (z : Nat) (r : Int64) (σ : zkS) : Array Value → State → Outcome → State → Prop := va_Ql (fun (r' : Int64) (_ : Unit) => r' = r) (fun _ t => va_P D vwCl (zW u cI cJ adr σ) t.heap) (zA u adr z)
def zQv (u : Nat) (D : va_G) (cI cJ : ClassId) (adr : Nat → Nat) (z : Nat) (σ : zkS) : Array Value → State → Outcome → State → Prop := va_Qv (fun (_ : Unit) => True) (fun _ t => va_P D vwCl (zW u cI cJ adr σ) t.heap) (zA u adr z)
theorem zPre_blind {u : Nat} {D : va_G} {cI cJ : ClassId} {adr : Nat → Nat} {σ : zkS} {z : Nat} {av : List Value} : FrameBlind (zPre u D cI cJ adr σ z av) := fun a U g mk q => by
  obtain ⟨q0, q1, qP, qK, qN, qU⟩ := q
  refine ⟨q0, q1, qP, va_K.moved (u := U) (U := U.calling g mk a) (Vm.Alike.refl U.vm) qK, fun w hw => va_Nw.same (u := U) (U := U.calling g mk a) rfl rfl (qN w hw), fun hu => ?_⟩
  obtain ⟨t, h1, h2⟩ := qU hu
  exact ⟨t, va_Z.moved (u := U) (U := U.calling g mk a) (Vm.Alike.refl U.vm) h1, va_T.moved (u := U) (U := U.calling g mk a) (Vm.Alike.refl U.vm) h2⟩
theorem zA_up {u : Nat} {adr : Nat → Nat} {z z' : Nat} (h : z ≤ z') : ∀ q, zA u adr z' q → zA u adr z q := fun q hq => hq.elim Or.inl (fun h2 => Or.inr (Nat.le_trans h h2))
/-! the words of the functions read off the code: what a step gives, or none where an index, a divisor or a truth value isn't as it must be -/
def zlt {α β : Type} (e : α) (F : α → β) : β := F e
def zb1 {α β : Type} (m : Option α) (F : α → Option β) : Option β := match m with
  | some x => F x
  | none => none
def zb2 {α β : Type} (m : Option (α × zkS)) (F : α → zkS → Option β) : Option β := match m with
  | some x => F x.1 x.2
  | none => none
def zw2 {α β : Type} (m : α × zkS) (F : α → zkS → β) : β := F m.1 m.2
def zjn {γ β : Type} (T : γ) (B : γ → β) : β := B T
def zrd {β : Type} (σ : zkS) (a n : Nat) (i : Int32) (F : Int32 → Option β) : Option β := if i < 0 ∨ n ≤ i.toNatClampNeg then none else F (σ.1 a i.toNatClampNeg)
def zwr {β : Type} (σ : zkS) (a n : Nat) (i v : Int32) (F : zkS → Option β) : Option β := if i < 0 ∨ n ≤ i.toNatClampNeg then none else F (zsi σ a i.toNatClampNeg v)
def zrdL {β : Type} (σ : zkS) (n : Nat) (i : Int32) (F : Int64 → Option β) : Option β := if i < 0 ∨ n ≤ i.toNatClampNeg then none else F (σ.2 i.toNatClampNeg)
def zwrL {β : Type} (σ : zkS) (n : Nat) (i : Int32) (v : Int64) (F : zkS → Option β) : Option β := if i < 0 ∨ n ≤ i.toNatClampNeg then none else F (zsl σ i.toNatClampNeg v)
def zpi {β : Type} (σ : zkS) (a k : Nat) (v : Int32) (F : zkS → β) : β := F (zsi σ a k v)
def zpz {β : Type} (σ : zkS) (a k : Nat) (v : Int32) (F : zkS → Option β) : Option β := if v = 0 ∨ v = 1 then F (zsi σ a k v) else none
def zdv {β : Type} (x y : Int32) (F : Int32 → Option β) : Option β := if y = 0 then none else F (x / y)
def zrm {β : Type} (x y : Int32) (F : Int32 → Option β) : Option β := if y = 0 then none else F (x - x / y * y)
def zdvL {β : Type} (x y : Int64) (F : Int64 → Option β) : Option β := if y = 0 then none else F (x / y)
def zrmL {β : Type} (x y : Int64) (F : Int64 → Option β) : Option β := if y = 0 then none else F (x - x / y * y)
def zcy {β : Type} (σ : zkS) (a b n0 n1 : Nat) (sp dp n : Int32) (F : zkS → Option β) : Option β := if sp < 0 ∨ dp < 0 ∨ n < 0 ∨ n0 < sp.toNatClampNeg + n.toNatClampNeg ∨ n1 < dp.toNatClampNeg + n.toNatClampNeg then none else F (zcI σ a b sp.toNatClampNeg dp.toNatClampNeg n.toNatClampNeg)
def zcyL {β : Type} (σ : zkS) (n0 : Nat) (sp dp n : Int32) (F : zkS → Option β) : Option β := if sp < 0 ∨ dp < 0 ∨ n < 0 ∨ n0 < sp.toNatClampNeg + n.toNatClampNeg ∨ n0 < dp.toNatClampNeg + n.toNatClampNeg then none else F (zcL σ sp.toNatClampNeg dp.toNatClampNeg n.toNatClampNeg)
def zck {β : Type} (v : Int32) (r : Option β) : Option β := if v = 0 ∨ v = 1 then r else none
theorem zb1_o {α β : Type} {m : Option α} {F : α → Option β} {o : β} (h : zb1 m F = some o) : ∃ x, m = some x ∧ F x = some o := by
  cases m with
  | none => cases h
  | some x => exact ⟨x, rfl, h⟩
theorem zb2_o {α β : Type} {m : Option (α × zkS)} {F : α → zkS → Option β} {o : β} (h : zb2 m F = some o) : ∃ x σ, m = some (x, σ) ∧ F x σ = some o := by
  cases m with
  | none => cases h
  | some x => exact ⟨x.1, x.2, rfl, h⟩
theorem zw2_o {α β : Type} {m : α × zkS} {F : α → zkS → β} {o : β} (h : zw2 m F = o) : ∃ x σ, m = (x, σ) ∧ F x σ = o := ⟨m.1, m.2, rfl, h⟩
theorem zck_o {β : Type} {v : Int32} {r : Option β} {o : β} (h : zck v r = some o) : (v = 0 ∨ v = 1) ∧ r = some o := by
  unfold zck at h
  by_cases hv : v = 0 ∨ v = 1
  · rw [if_pos hv] at h
    exact ⟨hv, h⟩
  · rw [if_neg hv] at h
    cases h
/-- all that the tables say of a field of a kind of objects, and of its link in one of the pools -/
def zFl (own : String) (index ci k o : Nat) : Prop := ∃ (C : String) (T : u_T) (ref : String), vwCl[ci]? = some (C, T, znf ci) ∧ ci < 9 ∧ (∀ w ∈ u_ws C T (znf ci), w ∈ zTb) ∧ Cond.fieldLink own index ref (T k).2.1 (T k).2.2.1 ∈ zTb ∧ (T k).1 = ref ∧ k < znf ci ∧ zof ci k = o
def zFp (own : String) (index ci k : Nat) (ty : FieldType) : Prop := ∃ (C : String) (T : u_T) (ref : String) (ty0 : Nat → FieldType), vwCl[ci]? = some (C, T, znf ci) ∧ ci < 9 ∧ (∀ w ∈ u_ws C T (znf ci), w ∈ zTb) ∧ Cond.fieldLink own index ref (T k).2.1 (T k).2.2.1 ∈ zTb ∧ (T k).1 = ref ∧ k < znf ci ∧ zof ci k = 0 ∧
  (∀ k, k < znf ci → parseFieldDescriptor (T k).2.2.1 = some (ty0 k)) ∧ (∀ a, a < znf ci → ∀ b, b < znf ci → a ≠ b → (T a).2.1 ≠ (T b).2.1) ∧ (T k).2.2.2 = false ∧ parseFieldDescriptor (T k).2.2.1 = some ty
theorem zob_at {ci k : Nat} {adr : Nat → Nat} {σ : zkS} {a : Nat} (hk : k < znf ci) : (zob ci adr σ a)[k]? = some (zfv ci adr σ a k) := by
  unfold zob
  rw [List.getElem?_map, List.getElem?_range hk]
  rfl
section ZR
variable {p : Program} {l : Launch} {e : Env} {R : Room} {s : State} {m : MethodId} {args : Array Value} {below : List Frame} {meth : Method} {c : Code} {H : Heap} {locs : List Loc} {cells slots : Nat} {Q : State → Prop}
variable {cc : ByteArray} {own : String} {nL u : Nat} {D : va_G} {cI cJ : ClassId} {adr : Nat → Nat} {σ : zkS} {pc : Nat} {ls : Array Slot} {rest : List Value} {β : Type} {o : β}
theorem zg_i (hC : zKx p s m c args cc own nL u D cI cJ adr) (hW : zWo u D cI cJ adr s σ H locs) {ci a k index : Nat} (hl : zFl own index ci k 0) (hk : zkd u a = ci) (ha : a < zsz u) (hdg : decode cc pc = .ok (.getfield index, 3))
    (kk : W p l e R s m args below meth c H locs cells slots Q (F0 m (pc + 3) ls (.int (σ.1 a k) :: rest))) : W p l e R s m args below meth c H locs cells slots Q (F0 m pc ls (.ref (adr a) :: rest)) := by
  obtain ⟨C, T, ref, h1, h9, h2, h3, h4, h5, h6⟩ := hl
  obtain ⟨hx, hb, hml, hown, hts, hK, hN, hI⟩ := hC
  subst h4
  exact va_get hx hb hts h2 hown hK hW.1 a (zW_ob ha hk h9) h1 k h5 (hts _ h3) (fun _ h => h) (by rw [zob_at h5, zfv, if_pos h6]) hdg kk
theorem zg_a (hC : zKx p s m c args cc own nL u D cI cJ adr) (hW : zWo u D cI cJ adr s σ H locs) {ci a k o a' index : Nat} (hl : zFl own index ci k (o + 1)) (hk : zkd u a = ci) (ha : a < zsz u) (he : a + (o + 1) = a') (hdg : decode cc pc = .ok (.getfield index, 3))
    (kk : W p l e R s m args below meth c H locs cells slots Q (F0 m (pc + 3) ls (.ref (adr a') :: rest))) : W p l e R s m args below meth c H locs cells slots Q (F0 m pc ls (.ref (adr a) :: rest)) := by
  obtain ⟨C, T, ref, h1, h9, h2, h3, h4, h5, h6⟩ := hl
  obtain ⟨hx, hb, hml, hown, hts, hK, hN, hI⟩ := hC
  subst h4
  subst he
  exact va_get hx hb hts h2 hown hK hW.1 a (zW_ob ha hk h9) h1 k h5 (hts _ h3) (fun _ h => h) (by rw [zob_at h5, zfv, if_neg (by omega), h6]) hdg kk
theorem zp_g (hC : zKx p s m c args cc own nL u D cI cJ adr) (hW : zWo u D cI cJ adr s σ H locs) {ci a k index : Nat} {ty : FieldType} {v : Int32} (hl : zFp own index ci k ty) (hk : zkd u a = ci) (ha : a < zsz u) (hn : narrow ty (.int v) = .int v) (hfit : fits ty (.int v) = true) (hdg : decode cc pc = .ok (.putfield index, 3))
    (kk : ∀ (H1 : Heap) (locs1 : List Loc), zWo u D cI cJ adr s (zsi σ a k v) H1 locs1 → W p l e R s m args below meth c H1 locs1 cells slots Q (F0 m (pc + 3) ls rest)) : W p l e R s m args below meth c H locs cells slots Q (F0 m pc ls (.int v :: .ref (adr a) :: rest)) := by
  obtain ⟨C, T, ref, ty0, h1, h9, h2, h3, h4, h5, h6, h7, h8, hfin, hty⟩ := hl
  obtain ⟨hx, hb, hml, hown, hts, hK, hN, hI⟩ := hC
  subst h4
  refine va_put hx hb hts h2 ty0 h7 h8 hown hK hW.1 (zD hI) hW.2 a (zW_ob ha hk h9) h1 k h5 (hts _ h3) (fun _ h => h) hfin hty hn hfit (by unfold zob; simpa using h5) hdg (fun H1 locs1 hP hD hS => ?_)
  rw [zW_si_ob hk h9 h6] at hP
  exact kk H1 locs1 ⟨hP, hS⟩
theorem zp_i (hC : zKx p s m c args cc own nL u D cI cJ adr) (hW : zWo u D cI cJ adr s σ H locs) {ci a k index : Nat} {v : Int32} {F : zkS → β} (hf : zpi σ a k v F = o) (hl : zFp own index ci k .int) (hk : zkd u a = ci) (ha : a < zsz u) (hdg : decode cc pc = .ok (.putfield index, 3))
    (kk : ∀ (σ : zkS) (H1 : Heap) (locs1 : List Loc), F σ = o → zWo u D cI cJ adr s σ H1 locs1 → W p l e R s m args below meth c H1 locs1 cells slots Q (F0 m (pc + 3) ls rest)) : W p l e R s m args below meth c H locs cells slots Q (F0 m pc ls (.int v :: .ref (adr a) :: rest)) :=
  zp_g hC hW hl hk ha rfl rfl hdg (fun H1 locs1 hW1 => kk _ H1 locs1 hf hW1)
theorem z01 {v : Int32} (h : v = 0 ∨ v = 1) : narrow .boolean (.int v) = .int v ∧ fits .boolean (.int v) = true := by
  rcases h with rfl | rfl
  · exact ⟨by decide +kernel, by decide +kernel⟩
  · exact ⟨by decide +kernel, by decide +kernel⟩
theorem zp_z (hC : zKx p s m c args cc own nL u D cI cJ adr) (hW : zWo u D cI cJ adr s σ H locs) {ci a k index : Nat} {v : Int32} {F : zkS → Option β} (hf : zpz σ a k v F = some o) (hl : zFp own index ci k .boolean) (hk : zkd u a = ci) (ha : a < zsz u) (hdg : decode cc pc = .ok (.putfield index, 3))
    (kk : ∀ (σ : zkS) (H1 : Heap) (locs1 : List Loc), F σ = some o → zWo u D cI cJ adr s σ H1 locs1 → W p l e R s m args below meth c H1 locs1 cells slots Q (F0 m (pc + 3) ls rest)) : W p l e R s m args below meth c H locs cells slots Q (F0 m pc ls (.int v :: .ref (adr a) :: rest)) := by
  unfold zpz at hf
  by_cases h : v = 0 ∨ v = 1
  · rw [if_pos h] at hf
    exact zp_g hC hW hl hk ha (z01 h).1 (z01 h).2 hdg (fun H1 locs1 hW1 => kk _ H1 locs1 hf hW1)
  · rw [if_neg h] at hf
    cases hf
/-- a truth value that is written as 0 or 1 -/
theorem zp_y (hC : zKx p s m c args cc own nL u D cI cJ adr) (hW : zWo u D cI cJ adr s σ H locs) {ci a k index : Nat} {v : Int32} {F : zkS → β} (hf : zpi σ a k v F = o) (hv : v = 0 ∨ v = 1) (hl : zFp own index ci k .boolean) (hk : zkd u a = ci) (ha : a < zsz u) (hdg : decode cc pc = .ok (.putfield index, 3))
    (kk : ∀ (σ : zkS) (H1 : Heap) (locs1 : List Loc), F σ = o → zWo u D cI cJ adr s σ H1 locs1 → W p l e R s m args below meth c H1 locs1 cells slots Q (F0 m (pc + 3) ls rest)) : W p l e R s m args below meth c H locs cells slots Q (F0 m pc ls (.int v :: .ref (adr a) :: rest)) :=
  zp_g hC hW hl hk ha (z01 hv).1 (z01 hv).2 hdg (fun H1 locs1 hW1 => kk _ H1 locs1 hf hW1)
def zAr (u a n : Nat) : Prop := a < zsz u ∧ zkd u a = 9 ∧ zln u a = n
theorem za_l (hC : zKx p s m c args cc own nL u D cI cJ adr) (hW : zWo u D cI cJ adr s σ H locs) {a n : Nat} {i : Int32} {F : Int32 → Option β} (hf : zrd σ a n i F = some o) (ha : zAr u a n) (hdg : decode cc pc = .ok (.iaload, 1))
    (kk : ∀ v : Int32, F v = some o → W p l e R s m args below meth c H locs cells slots Q (F0 m (pc + 1) ls (.int v :: rest))) : W p l e R s m args below meth c H locs cells slots Q (F0 m pc ls (.int i :: .ref (adr a) :: rest)) := by
  obtain ⟨hx, hb, hml, hown, hts, hK, hN, hI⟩ := hC
  unfold zrd at hf
  by_cases h : i < 0 ∨ n ≤ i.toNatClampNeg
  · rw [if_pos h] at hf
    cases hf
  · rw [if_neg h] at hf
    exact va_iald hx hb hK hW.1 a 0 (zW_ar ha.1 ha.2.1 ha.2.2) rfl h hdg (kk _ hf)
theorem za_s (hC : zKx p s m c args cc own nL u D cI cJ adr) (hW : zWo u D cI cJ adr s σ H locs) {a n : Nat} {i v : Int32} {F : zkS → Option β} (hf : zwr σ a n i v F = some o) (ha : zAr u a n) (hdg : decode cc pc = .ok (.iastore, 1))
    (kk : ∀ (σ : zkS) (H1 : Heap) (locs1 : List Loc), F σ = some o → zWo u D cI cJ adr s σ H1 locs1 → W p l e R s m args below meth c H1 locs1 cells slots Q (F0 m (pc + 1) ls rest)) : W p l e R s m args below meth c H locs cells slots Q (F0 m pc ls (.int v :: .int i :: .ref (adr a) :: rest)) := by
  obtain ⟨hx, hb, hml, hown, hts, hK, hN, hI⟩ := hC
  unfold zwr at hf
  by_cases h : i < 0 ∨ n ≤ i.toNatClampNeg
  · rw [if_pos h] at hf
    cases hf
  · rw [if_neg h] at hf
    refine va_iast hx hb hK hW.1 (zD hI) hW.2 a 0 (zW_ar ha.1 ha.2.1 ha.2.2) rfl h hdg (fun H1 locs1 hP hD hS => ?_)
    rw [zW_si_ar ha.2.1 ha.2.2] at hP
    exact kk _ H1 locs1 hf ⟨hP, hS⟩
def zAj (u a n : Nat) : Prop := u < 2 ∧ a < zsz u ∧ zkd u a = 10 ∧ zln u a = n
theorem za_lL (hC : zKx p s m c args cc own nL u D cI cJ adr) (hW : zWo u D cI cJ adr s σ H locs) {a n : Nat} {i : Int32} {F : Int64 → Option β} (hf : zrdL σ n i F = some o) (ha : zAj u a n) (hdg : decode cc pc = .ok (.laload, 1))
    (kk : ∀ v : Int64, F v = some o → W p l e R s m args below meth c H locs cells slots Q (F0 m (pc + 1) ls (.long v :: rest))) : W p l e R s m args below meth c H locs cells slots Q (F0 m pc ls (.int i :: .ref (adr a) :: rest)) := by
  obtain ⟨hx, hb, hml, hown, hts, hK, hN, hI⟩ := hC
  unfold zrdL at hf
  by_cases h : i < 0 ∨ n ≤ i.toNatClampNeg
  · rw [if_pos h] at hf
    cases hf
  · rw [if_neg h] at hf
    exact va_lald hx hb hK hW.1 a 1 (zW_aj ha.2.1 ha.2.2.1 ha.2.2.2) rfl h hdg (kk _ hf)
theorem za_sL (hC : zKx p s m c args cc own nL u D cI cJ adr) (hW : zWo u D cI cJ adr s σ H locs) {a n : Nat} {i : Int32} {v : Int64} {F : zkS → Option β} (hf : zwrL σ n i v F = some o) (ha : zAj u a n) (hdg : decode cc pc = .ok (.lastore, 1))
    (kk : ∀ (σ : zkS) (H1 : Heap) (locs1 : List Loc), F σ = some o → zWo u D cI cJ adr s σ H1 locs1 → W p l e R s m args below meth c H1 locs1 cells slots Q (F0 m (pc + 1) ls rest)) : W p l e R s m args below meth c H locs cells slots Q (F0 m pc ls (.long v :: .int i :: .ref (adr a) :: rest)) := by
  obtain ⟨hx, hb, hml, hown, hts, hK, hN, hI⟩ := hC
  unfold zwrL at hf
  by_cases h : i < 0 ∨ n ≤ i.toNatClampNeg
  · rw [if_pos h] at hf
    cases hf
  · rw [if_neg h] at hf
    refine va_last hx hb hK hW.1 (zD hI) hW.2 a 1 (zW_aj ha.2.1 ha.2.2.1 ha.2.2.2) rfl h hdg (fun H1 locs1 hP hD hS => ?_)
    rw [zW_l ha.1 ha.2.1 ha.2.2.1 ha.2.2.2] at hP
    exact kk _ H1 locs1 hf ⟨hP, hS⟩
theorem za_n (hC : zKx p s m c args cc own nL u D cI cJ adr) (hW : zWo u D cI cJ adr s σ H locs) {a n : Nat} (ha : zAr u a n) (hdg : decode cc pc = .ok (.arraylength, 1))
    (kk : W p l e R s m args below meth c H locs cells slots Q (F0 m (pc + 1) ls (.int (Int32.ofNat n) :: rest))) : W p l e R s m args below meth c H locs cells slots Q (F0 m pc ls (.ref (adr a) :: rest)) := by
  obtain ⟨hx, hb, hml, hown, hts, hK, hN, hI⟩ := hC
  exact va_alen hx hb hK hW.1 a 0 (zW_ar ha.1 ha.2.1 ha.2.2) rfl rfl hdg kk
theorem za_nL (hC : zKx p s m c args cc own nL u D cI cJ adr) (hW : zWo u D cI cJ adr s σ H locs) {a n : Nat} (ha : zAj u a n) (hdg : decode cc pc = .ok (.arraylength, 1))
    (kk : W p l e R s m args below meth c H locs cells slots Q (F0 m (pc + 1) ls (.int (Int32.ofNat n) :: rest))) : W p l e R s m args below meth c H locs cells slots Q (F0 m pc ls (.ref (adr a) :: rest)) := by
  obtain ⟨hx, hb, hml, hown, hts, hK, hN, hI⟩ := hC
  exact va_alen hx hb hK hW.1 a 1 (zW_aj ha.2.1 ha.2.2.1 ha.2.2.2) rfl rfl hdg kk
def zCy (own : String) (index : Nat) : Prop := Cond.methodLink own index arraycopyName ∈ zTb ∧ Cond.native arraycopyName ∈ zTb ∧ Cond.static arraycopyName ∈ zTb ∧ Cond.initialized "java/lang/System" ∈ zTb
theorem za_c (hC : zKx p s m c args cc own nL u D cI cJ adr) (hW : zWo u D cI cJ adr s σ H locs) {a b n0 n1 index : Nat} {sp dp n : Int32} {F : zkS → Option β} (hf : zcy σ a b n0 n1 sp dp n F = some o) (hq : zCy own index) (ha : zAr u a n0) (hb1 : zAr u b n1) (hls : ls.size = nL) (hR : 1 ≤ R.frames ∧ (rest.map fun v => v.category).sum + 18 ≤ R.locals) (hdg : decode cc pc = .ok (.invokestatic index, 3))
    (kk : ∀ (σ : zkS) (H1 : Heap) (locs1 : List Loc), F σ = some o → zWo u D cI cJ adr s σ H1 locs1 → W p l e R s m args below meth c H1 locs1 cells slots Q (F0 m (pc + 3) ls rest)) : W p l e R s m args below meth c H locs cells slots Q (F0 m pc ls (.int n :: .int dp :: .ref (adr b) :: .int sp :: .ref (adr a) :: rest)) := by
  obtain ⟨hx, hb, hml, hown, hts, hK, hN, hI⟩ := hC
  unfold zcy at hf
  by_cases h : sp < 0 ∨ dp < 0 ∨ n < 0 ∨ n0 < sp.toNatClampNeg + n.toNatClampNeg ∨ n1 < dp.toNatClampNeg + n.toNatClampNeg
  · rw [if_pos h] at hf
    cases hf
  · rw [if_neg h] at hf
    refine va_copyi hx hb (by rw [hml, hls]) hown (hts _ hq.1) (hts _ hq.2.1) (hts _ hq.2.2.1) (hts _ hq.2.2.2) hK hW.1 (zD hI) hW.2 a b 0 0 (zW_ar ha.1 ha.2.1 ha.2.2) (zW_ar hb1.1 hb1.2.1 hb1.2.2) rfl rfl rfl (fun q => h (Or.inl q)) (fun q => h (Or.inr (Or.inl q))) (fun q => h (Or.inr (Or.inr (Or.inl q)))) (Nat.not_lt.mp fun q => h (Or.inr (Or.inr (Or.inr (Or.inl q))))) (Nat.not_lt.mp fun q => h (Or.inr (Or.inr (Or.inr (Or.inr q))))) (fun _ _ => rfl) hR.1 (Nat.le_trans (Nat.add_le_add_left (by decide +kernel) _) hR.2) hdg (fun H1 locs1 hP hD hS => ?_)
    rw [zW_ci hb1.2.1 hb1.2.2] at hP
    exact kk _ H1 locs1 hf ⟨hP, hS⟩
theorem za_cL (hC : zKx p s m c args cc own nL u D cI cJ adr) (hW : zWo u D cI cJ adr s σ H locs) {a n0 index : Nat} {sp dp n : Int32} {F : zkS → Option β} (hf : zcyL σ n0 sp dp n F = some o) (hq : zCy own index) (ha : zAj u a n0) (hls : ls.size = nL) (hR : 1 ≤ R.frames ∧ (rest.map fun v => v.category).sum + 18 ≤ R.locals) (hdg : decode cc pc = .ok (.invokestatic index, 3))
    (kk : ∀ (σ : zkS) (H1 : Heap) (locs1 : List Loc), F σ = some o → zWo u D cI cJ adr s σ H1 locs1 → W p l e R s m args below meth c H1 locs1 cells slots Q (F0 m (pc + 3) ls rest)) : W p l e R s m args below meth c H locs cells slots Q (F0 m pc ls (.int n :: .int dp :: .ref (adr a) :: .int sp :: .ref (adr a) :: rest)) := by
  obtain ⟨hx, hb, hml, hown, hts, hK, hN, hI⟩ := hC
  unfold zcyL at hf
  by_cases h : sp < 0 ∨ dp < 0 ∨ n < 0 ∨ n0 < sp.toNatClampNeg + n.toNatClampNeg ∨ n0 < dp.toNatClampNeg + n.toNatClampNeg
  · rw [if_pos h] at hf
    cases hf
  · rw [if_neg h] at hf
    refine va_copyl hx hb (by rw [hml, hls]) hown (hts _ hq.1) (hts _ hq.2.1) (hts _ hq.2.2.1) (hts _ hq.2.2.2) hK hW.1 (zD hI) hW.2 a a 1 1 (zW_aj ha.2.1 ha.2.2.1 ha.2.2.2) (zW_aj ha.2.1 ha.2.2.1 ha.2.2.2) rfl rfl rfl (fun q => h (Or.inl q)) (fun q => h (Or.inr (Or.inl q))) (fun q => h (Or.inr (Or.inr (Or.inl q)))) (Nat.not_lt.mp fun q => h (Or.inr (Or.inr (Or.inr (Or.inl q))))) (Nat.not_lt.mp fun q => h (Or.inr (Or.inr (Or.inr (Or.inr q))))) (fun _ _ => rfl) hR.1 (Nat.le_trans (Nat.add_le_add_left (by decide +kernel) _) hR.2) hdg (fun H1 locs1 hP hD hS => ?_)
    rw [zW_l ha.1 ha.2.1 ha.2.2.1 ha.2.2.2] at hP
    exact kk _ H1 locs1 hf ⟨hP, hS⟩
/-! branches, each with the function's own -/
theorem zi_if_eq (hx : p.tables.exec = Jvm.exec) (hb : c.code = cc) {x : Int32} {off : Int} {tgt : Nat} (hdg : decode cc pc = .ok (.ifCond .eq off, 3)) (ht : (pc : Int) + off = (tgt : Int)) {A B o : β} (hf : (if x = 0 then A else B) = o)
    (kt : x = 0 → A = o → W p l e R s m args below meth c H locs cells slots Q (F0 m tgt ls rest)) (kf : ¬ x = 0 → B = o → W p l e R s m args below meth c H locs cells slots Q (F0 m (pc + 3) ls rest)) : W p l e R s m args below meth c H locs cells slots Q (F0 m pc ls (.int x :: rest)) :=
  lv_if_eq hx hb hdg ht (fun q => kt q ((if_pos q).symm.trans hf)) (fun q => kf q ((if_neg q).symm.trans hf))
theorem zi_if_ne (hx : p.tables.exec = Jvm.exec) (hb : c.code = cc) {x : Int32} {off : Int} {tgt : Nat} (hdg : decode cc pc = .ok (.ifCond .ne off, 3)) (ht : (pc : Int) + off = (tgt : Int)) {A B o : β} (hf : (if x = 0 then A else B) = o)
    (kf : x = 0 → A = o → W p l e R s m args below meth c H locs cells slots Q (F0 m (pc + 3) ls rest)) (kt : ¬ x = 0 → B = o → W p l e R s m args below meth c H locs cells slots Q (F0 m tgt ls rest)) : W p l e R s m args below meth c H locs cells slots Q (F0 m pc ls (.int x :: rest)) :=
  lv_if_ne hx hb hdg ht (fun q => kt q ((if_neg q).symm.trans hf)) (fun q => kf q ((if_pos q).symm.trans hf))
theorem zi_if_lt (hx : p.tables.exec = Jvm.exec) (hb : c.code = cc) {x : Int32} {off : Int} {tgt : Nat} (hdg : decode cc pc = .ok (.ifCond .lt off, 3)) (ht : (pc : Int) + off = (tgt : Int)) {A B o : β} (hf : (if x < 0 then A else B) = o)
    (kt : x < 0 → A = o → W p l e R s m args below meth c H locs cells slots Q (F0 m tgt ls rest)) (kf : ¬ x < 0 → B = o → W p l e R s m args below meth c H locs cells slots Q (F0 m (pc + 3) ls rest)) : W p l e R s m args below meth c H locs cells slots Q (F0 m pc ls (.int x :: rest)) :=
  lv_if_lt hx hb hdg ht (fun q => kt q ((if_pos q).symm.trans hf)) (fun q => kf q ((if_neg q).symm.trans hf))
theorem zi_if_ge (hx : p.tables.exec = Jvm.exec) (hb : c.code = cc) {x : Int32} {off : Int} {tgt : Nat} (hdg : decode cc pc = .ok (.ifCond .ge off, 3)) (ht : (pc : Int) + off = (tgt : Int)) {A B o : β} (hf : (if 0 ≤ x then A else B) = o)
    (kt : 0 ≤ x → A = o → W p l e R s m args below meth c H locs cells slots Q (F0 m tgt ls rest)) (kf : ¬ 0 ≤ x → B = o → W p l e R s m args below meth c H locs cells slots Q (F0 m (pc + 3) ls rest)) : W p l e R s m args below meth c H locs cells slots Q (F0 m pc ls (.int x :: rest)) :=
  lv_if_ge hx hb hdg ht (fun q => kt q ((if_pos q).symm.trans hf)) (fun q => kf q ((if_neg q).symm.trans hf))
theorem zi_if_gt (hx : p.tables.exec = Jvm.exec) (hb : c.code = cc) {x : Int32} {off : Int} {tgt : Nat} (hdg : decode cc pc = .ok (.ifCond .gt off, 3)) (ht : (pc : Int) + off = (tgt : Int)) {A B o : β} (hf : (if 0 < x then A else B) = o)
    (kt : 0 < x → A = o → W p l e R s m args below meth c H locs cells slots Q (F0 m tgt ls rest)) (kf : ¬ 0 < x → B = o → W p l e R s m args below meth c H locs cells slots Q (F0 m (pc + 3) ls rest)) : W p l e R s m args below meth c H locs cells slots Q (F0 m pc ls (.int x :: rest)) :=
  lv_if_gt hx hb hdg ht (fun q => kt q ((if_pos q).symm.trans hf)) (fun q => kf q ((if_neg q).symm.trans hf))
theorem zi_if_le (hx : p.tables.exec = Jvm.exec) (hb : c.code = cc) {x : Int32} {off : Int} {tgt : Nat} (hdg : decode cc pc = .ok (.ifCond .le off, 3)) (ht : (pc : Int) + off = (tgt : Int)) {A B o : β} (hf : (if x ≤ 0 then A else B) = o)
    (kt : x ≤ 0 → A = o → W p l e R s m args below meth c H locs cells slots Q (F0 m tgt ls rest)) (kf : ¬ x ≤ 0 → B = o → W p l e R s m args below meth c H locs cells slots Q (F0 m (pc + 3) ls rest)) : W p l e R s m args below meth c H locs cells slots Q (F0 m pc ls (.int x :: rest)) :=
  lv_if_le hx hb hdg ht (fun q => kt q ((if_pos q).symm.trans hf)) (fun q => kf q ((if_neg q).symm.trans hf))
theorem zi_icmp_eq (hx : p.tables.exec = Jvm.exec) (hb : c.code = cc) {x y : Int32} {off : Int} {tgt : Nat} (hdg : decode cc pc = .ok (.if_icmp .eq off, 3)) (ht : (pc : Int) + off = (tgt : Int)) {A B o : β} (hf : (if x = y then A else B) = o)
    (kt : x = y → A = o → W p l e R s m args below meth c H locs cells slots Q (F0 m tgt ls rest)) (kf : ¬ x = y → B = o → W p l e R s m args below meth c H locs cells slots Q (F0 m (pc + 3) ls rest)) : W p l e R s m args below meth c H locs cells slots Q (F0 m pc ls (.int y :: .int x :: rest)) :=
  lv_icmp_eq hx hb hdg ht (fun q => kt q ((if_pos q).symm.trans hf)) (fun q => kf q ((if_neg q).symm.trans hf))
theorem zi_icmp_ne (hx : p.tables.exec = Jvm.exec) (hb : c.code = cc) {x y : Int32} {off : Int} {tgt : Nat} (hdg : decode cc pc = .ok (.if_icmp .ne off, 3)) (ht : (pc : Int) + off = (tgt : Int)) {A B o : β} (hf : (if x = y then A else B) = o)
    (kf : x = y → A = o → W p l e R s m args below meth c H locs cells slots Q (F0 m (pc + 3) ls rest)) (kt : ¬ x = y → B = o → W p l e R s m args below meth c H locs cells slots Q (F0 m tgt ls rest)) : W p l e R s m args below meth c H locs cells slots Q (F0 m pc ls (.int y :: .int x :: rest)) :=
  lv_icmp_ne hx hb hdg ht (fun q => kt q ((if_neg q).symm.trans hf)) (fun q => kf q ((if_pos q).symm.trans hf))
theorem zi_icmp_lt (hx : p.tables.exec = Jvm.exec) (hb : c.code = cc) {x y : Int32} {off : Int} {tgt : Nat} (hdg : decode cc pc = .ok (.if_icmp .lt off, 3)) (ht : (pc : Int) + off = (tgt : Int)) {A B o : β} (hf : (if x < y then A else B) = o)
    (kt : x < y → A = o → W p l e R s m args below meth c H locs cells slots Q (F0 m tgt ls rest)) (kf : ¬ x < y → B = o → W p l e R s m args below meth c H locs cells slots Q (F0 m (pc + 3) ls rest)) : W p l e R s m args below meth c H locs cells slots Q (F0 m pc ls (.int y :: .int x :: rest)) :=
  lv_icmp_lt hx hb hdg ht (fun q => kt q ((if_pos q).symm.trans hf)) (fun q => kf q ((if_neg q).symm.trans hf))
theorem zi_icmp_ge (hx : p.tables.exec = Jvm.exec) (hb : c.code = cc) {x y : Int32} {off : Int} {tgt : Nat} (hdg : decode cc pc = .ok (.if_icmp .ge off, 3)) (ht : (pc : Int) + off = (tgt : Int)) {A B o : β} (hf : (if y ≤ x then A else B) = o)
    (kt : y ≤ x → A = o → W p l e R s m args below meth c H locs cells slots Q (F0 m tgt ls rest)) (kf : ¬ y ≤ x → B = o → W p l e R s m args below meth c H locs cells slots Q (F0 m (pc + 3) ls rest)) : W p l e R s m args below meth c H locs cells slots Q (F0 m pc ls (.int y :: .int x :: rest)) :=
  lv_icmp_ge hx hb hdg ht (fun q => kt q ((if_pos q).symm.trans hf)) (fun q => kf q ((if_neg q).symm.trans hf))
theorem zi_icmp_gt (hx : p.tables.exec = Jvm.exec) (hb : c.code = cc) {x y : Int32} {off : Int} {tgt : Nat} (hdg : decode cc pc = .ok (.if_icmp .gt off, 3)) (ht : (pc : Int) + off = (tgt : Int)) {A B o : β} (hf : (if y < x then A else B) = o)
    (kt : y < x → A = o → W p l e R s m args below meth c H locs cells slots Q (F0 m tgt ls rest)) (kf : ¬ y < x → B = o → W p l e R s m args below meth c H locs cells slots Q (F0 m (pc + 3) ls rest)) : W p l e R s m args below meth c H locs cells slots Q (F0 m pc ls (.int y :: .int x :: rest)) :=
  lv_icmp_gt hx hb hdg ht (fun q => kt q ((if_pos q).symm.trans hf)) (fun q => kf q ((if_neg q).symm.trans hf))
theorem zi_icmp_le (hx : p.tables.exec = Jvm.exec) (hb : c.code = cc) {x y : Int32} {off : Int} {tgt : Nat} (hdg : decode cc pc = .ok (.if_icmp .le off, 3)) (ht : (pc : Int) + off = (tgt : Int)) {A B o : β} (hf : (if x ≤ y then A else B) = o)
    (kt : x ≤ y → A = o → W p l e R s m args below meth c H locs cells slots Q (F0 m tgt ls rest)) (kf : ¬ x ≤ y → B = o → W p l e R s m args below meth c H locs cells slots Q (F0 m (pc + 3) ls rest)) : W p l e R s m args below meth c H locs cells slots Q (F0 m pc ls (.int y :: .int x :: rest)) :=
  lv_icmp_le hx hb hdg ht (fun q => kt q ((if_pos q).symm.trans hf)) (fun q => kf q ((if_neg q).symm.trans hf))
theorem zi_c {c : Prop} {i : Decidable c} {P : Prop} {A B o : β} (hf : (if c then A else B) = o) (kt : c → A = o → P) (kf : ¬ c → B = o → P) : P := by
  by_cases h : c
  · rw [if_pos h] at hf
    exact kt h hf
  · rw [if_neg h] at hf
    exact kf h hf
theorem zn_i {x : Int32} {F : Int32 → β} {o : β} (hf : zlt x F = o) (k : ∀ y : Int32, F y = o → W p l e R s m args below meth c H locs cells slots Q (F0 m pc ls (.int y :: rest))) : W p l e R s m args below meth c H locs cells slots Q (F0 m pc ls (.int x :: rest)) := k x hf
theorem zn_l {x : Int64} {F : Int64 → β} {o : β} (hf : zlt x F = o) (k : ∀ y : Int64, F y = o → W p l e R s m args below meth c H locs cells slots Q (F0 m pc ls (.long y :: rest))) : W p l e R s m args below meth c H locs cells slots Q (F0 m pc ls (.long x :: rest)) := k x hf
theorem zi_inc (hx : p.tables.exec = Jvm.exec) (hb : c.code = cc) {i nL k : Nat} {n : Int} {x v : Int32} {lv : List (Nat × Value)} {lv' : Int32 → List (Nat × Value)} (hdg : decode cc pc = .ok (.iinc i n, 3)) (h : lv_has ls nL lv) (hk : lv[k]? = some (i, .int x)) (hv : x + Int32.ofInt n = v) (hn : i < nL) (hl : ∀ v, (i, Value.int v) :: lv.filter (fun q => !(q.1 == i) && !(q.1 + 1 == i && q.2.category == 2)) = lv' v) {F : Int32 → β} {o : β} (hf : zlt v F = o)
    (kk : ∀ (v : Int32) (ls : Array Slot), F v = o → lv_has ls nL (lv' v) → W p l e R s m args below meth c H locs cells slots Q (F0 m (pc + 3) ls rest)) : W p l e R s m args below meth c H locs cells slots Q (F0 m pc ls rest) :=
  lv_iinc (v := v) (lv' := lv' v) hx hb hdg h hk hv hn (hl v) (fun ls h2 => kk v ls hf h2)
theorem zdv_o {x y : Int32} {F : Int32 → Option β} {o : β} (hf : zdv x y F = some o) : ¬ y = 0 ∧ F (x / y) = some o := by
  unfold zdv at hf
  by_cases h : y = 0
  · rw [if_pos h] at hf
    cases hf
  · rw [if_neg h] at hf
    exact ⟨h, hf⟩
theorem zrm_o {x y : Int32} {F : Int32 → Option β} {o : β} (hf : zrm x y F = some o) : ¬ y = 0 ∧ F (x - x / y * y) = some o := by
  unfold zrm at hf
  by_cases h : y = 0
  · rw [if_pos h] at hf
    cases hf
  · rw [if_neg h] at hf
    exact ⟨h, hf⟩
theorem zdvL_o {x y : Int64} {F : Int64 → Option β} {o : β} (hf : zdvL x y F = some o) : ¬ y = 0 ∧ F (x / y) = some o := by
  unfold zdvL at hf
  by_cases h : y = 0
  · rw [if_pos h] at hf
    cases hf
  · rw [if_neg h] at hf
    exact ⟨h, hf⟩
theorem zrmL_o {x y : Int64} {F : Int64 → Option β} {o : β} (hf : zrmL x y F = some o) : ¬ y = 0 ∧ F (x - x / y * y) = some o := by
  unfold zrmL at hf
  by_cases h : y = 0
  · rw [if_pos h] at hf
    cases hf
  · rw [if_neg h] at hf
    exact ⟨h, hf⟩
theorem zd_i (hx : p.tables.exec = Jvm.exec) (hb : c.code = cc) {x y : Int32} {F : Int32 → Option β} (hf : zdv x y F = some o) (hdg : decode cc pc = .ok (.idiv, 1)) (kk : ∀ v, F v = some o → W p l e R s m args below meth c H locs cells slots Q (F0 m (pc + 1) ls (.int v :: rest))) : W p l e R s m args below meth c H locs cells slots Q (F0 m pc ls (.int y :: .int x :: rest)) := lv_idiv hx hb hdg (zdv_o hf).1 (kk _ (zdv_o hf).2)
theorem zd_r (hx : p.tables.exec = Jvm.exec) (hb : c.code = cc) {x y : Int32} {F : Int32 → Option β} (hf : zrm x y F = some o) (hdg : decode cc pc = .ok (.irem, 1)) (kk : ∀ v, F v = some o → W p l e R s m args below meth c H locs cells slots Q (F0 m (pc + 1) ls (.int v :: rest))) : W p l e R s m args below meth c H locs cells slots Q (F0 m pc ls (.int y :: .int x :: rest)) := lv_irem hx hb hdg (zrm_o hf).1 (kk _ (zrm_o hf).2)
theorem zd_iL (hx : p.tables.exec = Jvm.exec) (hb : c.code = cc) {x y : Int64} {F : Int64 → Option β} (hf : zdvL x y F = some o) (hdg : decode cc pc = .ok (.ldiv, 1)) (kk : ∀ v, F v = some o → W p l e R s m args below meth c H locs cells slots Q (F0 m (pc + 1) ls (.long v :: rest))) : W p l e R s m args below meth c H locs cells slots Q (F0 m pc ls (.long y :: .long x :: rest)) := lv_ldiv hx hb hdg (zdvL_o hf).1 (kk _ (zdvL_o hf).2)
theorem zd_rL (hx : p.tables.exec = Jvm.exec) (hb : c.code = cc) {x y : Int64} {F : Int64 → Option β} (hf : zrmL x y F = some o) (hdg : decode cc pc = .ok (.lrem, 1)) (kk : ∀ v, F v = some o → W p l e R s m args below meth c H locs cells slots Q (F0 m (pc + 1) ls (.long v :: rest))) : W p l e R s m args below meth c H locs cells slots Q (F0 m pc ls (.long y :: .long x :: rest)) := lv_lrem hx hb hdg (zrmL_o hf).1 (kk _ (zrmL_o hf).2)
/-! ends of methods -/
theorem zWo_post {t : State} (hW : zWo u D cI cJ adr s σ H locs) (ht : t.heap = H) : va_P D vwCl (zW u cI cJ adr σ) t.heap := by rw [ht]; exact hW.1
theorem zr_i (hx : p.tables.exec = Jvm.exec) (hb : c.code = cc) (hr : meth.sig.returnType = some .int) (hlk : meth.locks = false) (hW : zWo u D cI cJ adr s σ H locs) {v ro : Int32} {σo : zkS} (h1 : v = ro) (h2 : σ = σo) (hdg : decode cc pc = .ok (.ireturn, 1)) : W p l e R s m args below meth c H locs cells slots (MQ below (zQi u D cI cJ adr s.heap.size ro σo) args s cells slots (zA u adr s.heap.size)) (F0 m pc ls [.int v]) := by
  subst h1
  subst h2
  exact W.iret (v := v) hx hb hr (fun t ht hW1 => ⟨⟨v, (), rfl, rfl, zWo_post hW ht⟩, hW.2.F ht⟩) hW.2.2.2 hdg hlk
theorem zr_z (hx : p.tables.exec = Jvm.exec) (hb : c.code = cc) (hr : meth.sig.returnType = some .boolean) (hlk : meth.locks = false) (hW : zWo u D cI cJ adr s σ H locs) {v ro : Int32} {σo : zkS} (h01 : v = 0 ∨ v = 1) (h1 : v = ro) (h2 : σ = σo) (hdg : decode cc pc = .ok (.ireturn, 1)) : W p l e R s m args below meth c H locs cells slots (MQ below (zQi u D cI cJ adr s.heap.size ro σo) args s cells slots (zA u adr s.heap.size)) (F0 m pc ls [.int v]) := by
  subst h1
  subst h2
  exact W.zret (v := v) hx hb hr (z01 h01).1 (fun t ht hW1 => ⟨⟨v, (), rfl, rfl, zWo_post hW ht⟩, hW.2.F ht⟩) hW.2.2.2 hdg hlk
theorem zr_l (hx : p.tables.exec = Jvm.exec) (hb : c.code = cc) (hr : meth.sig.returnType = some .long) (hlk : meth.locks = false) (hW : zWo u D cI cJ adr s σ H locs) {v ro : Int64} {σo : zkS} (h1 : v = ro) (h2 : σ = σo) (hdg : decode cc pc = .ok (.lreturn, 1)) : W p l e R s m args below meth c H locs cells slots (MQ below (zQl u D cI cJ adr s.heap.size ro σo) args s cells slots (zA u adr s.heap.size)) (F0 m pc ls [.long v]) := by
  subst h1
  subst h2
  exact W.lret (v := v) hx hb hr (fun t ht hW1 => ⟨⟨v, (), rfl, rfl, zWo_post hW ht⟩, hW.2.F ht⟩) hW.2.2.2 hdg hlk
theorem zr_v (hx : p.tables.exec = Jvm.exec) (hb : c.code = cc) (hr : meth.sig.returnType = none) (hlk : meth.locks = false) (hW : zWo u D cI cJ adr s σ H locs) {σo : zkS} (h2 : σ = σo) (hdg : decode cc pc = .ok (.return_, 1)) : W p l e R s m args below meth c H locs cells slots (MQ below (zQv u D cI cJ adr s.heap.size σo) args s cells slots (zA u adr s.heap.size)) (F0 m pc ls []) := by
  subst h2
  exact W.vret hx hb hr (fun t ht hW1 => ⟨⟨(), rfl, trivial, zWo_post hW ht⟩, hW.2.F ht⟩) hW.2.2.2 hdg hlk
/-! a method's entry -/
theorem zen {y : MethodName} {ret : Option FieldType} {rm : Room} {Qc : Array Value → State → Outcome → State → Prop} {mc ms z : Nat} {av : List Value} {free : Addr → Prop} (hy : plainName y.cls = true) (ho : y.cls = own) (hI : zInj u adr) (hsl : (lg_sl av).length ≤ nL)
    (body : ∀ (p : Program) (e : Env) (s : State) (m : MethodId) (args : Array Value) (below : List Frame) (meth : Method) (c : Code) (ls : Array Slot), zKx p s m c args cc own nL u D cI cJ adr → meth.sig.returnType = ret → meth.locks = false → s.heap.size = z → lv_has ls nL (lv_args 0 av) → zWo u D cI cJ adr s σ s.heap [] →
      W p l e rm s m args below meth c s.heap [] 0 0 (MQ below Qc args s mc ms free) (F0 m 0 ls [])) : Met l y (Cond.code y cc nL ret :: zTb) rm (zPre u D cI cJ adr σ z av) Qc mc ms free := by
  refine Met.ofW (cc := cc) (maxL := nL) (ret := ret) hy rfl ?_
  intro p e s m args below meth c s₁ B hml hv
  obtain ⟨rfl, hsz, hP, hK, hN, hU⟩ := hv
  subst hsz
  subst ho
  have hts := atoms_spec (ws := Cond.code y cc nL ret :: zTb) B.pre
  rw [lg_entry_eq]
  exact body p e s m _ below meth c _ ⟨B.exec, B.bytes, hml, findClass_of_methodNamed B.named, fun w hw => hts w (List.mem_cons_of_mem _ hw), hK, ⟨hN, hU⟩, hI⟩ B.returns B.notSynchronized rfl (lv_entry av hsl) ⟨hP, va_S.rf⟩
/-! calls -/
def zNm (y : MethodName) (n : Nat) : Prop := y.cls ≠ "java/lang/invoke/MethodHandle" ∧ y.cls ≠ "java/lang/invoke/VarHandle" ∧ (parseMethodDescriptor y.desc).map (fun d => d.parameters.length) = some n
theorem zGood (hall : ∀ w ∈ zTb, goodWord w = true) {ws : List Cond} (h : ∀ w ∈ ws, w ∈ zTb) : GoodIn zTb ws := fun w hw => ⟨h w hw, good_of_word (hall w (h w hw))⟩
/-- what the tables say of a virtual call -/
def zCv (own : String) (index : Nat) (ci : Nat) (y : MethodName) (bytes : ByteArray) (maxL : Nat) (ret : Option FieldType) (n : Nat) : Prop := ∃ (T : u_T) (N : Nat), vwCl[ci]? = some (y.cls, T, N) ∧ ci < 9 ∧ GoodIn zTb (wsV own index y.cls y (Cond.code y bytes maxL ret :: zTb)) ∧ zNm y n
def zCs (own : String) (index : Nat) (y : MethodName) (bytes : ByteArray) (maxL : Nat) (ret : Option FieldType) (n : Nat) : Prop := GoodIn zTb (va_wsS own index y (Cond.code y bytes maxL ret :: zTb)) ∧ zNm y n
def zCn (own : String) (index : Nat) (y : MethodName) (host : String) (bytes : ByteArray) (maxL : Nat) (ret : Option FieldType) (n : Nat) : Prop := GoodIn zTb (Cond.code y bytes maxL ret :: zTb) ∧ (own, index, y, host) ∈ zNs ∧ Cond.initialized y.cls ∈ zTb ∧ Cond.static y ∈ zTb ∧ zNm y n
theorem zS_fix (hC : zKx p s m c args cc own nL u D cI cJ adr) : CallFix p m c cc nL s args zTb own := ⟨hC.1, hC.2.1, hC.2.2.1, hC.2.2.2.1, hC.2.2.2.2.1⟩
theorem zPre_of (hC : zKx p s m c args cc own nL u D cI cJ adr) (hW : zWo u D cI cJ adr s σ H locs) {As : List Value} : ∀ U : State, U.heap = H → s.WarmedH U.vm → zPre u D cI cJ adr σ H.size As As.toArray U := fun U hU hW1 => ⟨rfl, by rw [hU], by rw [hU]; exact hW.1, va_K.moved hW1.alike hC.2.2.2.2.2.1, fun w hw => va_Nw.warmM hW1 (hC.2.2.2.2.2.2.1.1 w hw), fun hu => by
  obtain ⟨t, h1, h2⟩ := hC.2.2.2.2.2.2.1.2 hu
  have ha : ∀ q, zA u adr H.size q → zA u adr s.heap.size q := zA_up hW.2.1
  rw [hU]
  exact ⟨t, ((h1.kept hW.2.2.1).narrow ha).moved hW1.alike, ((h2.kept hW.2.2.1).narrow ha).moved hW1.alike⟩⟩
section ZC
variable {y : MethodName} {bytes : ByteArray} {maxL n index : Nat} {ret : Option FieldType} {rm : Room} {As : List Value} {Qc : Array Value → State → Outcome → State → Prop} {st0 : List Value}
theorem zrun_v (hC : zKx p s m c args cc own nL u D cI cJ adr) (hW : zWo u D cI cJ adr s σ H locs) {b ci : Nat} (hM : Met l y (Cond.code y bytes maxL ret :: zTb) rm (zPre u D cI cJ adr σ H.size (.ref (adr b) :: As)) Qc 0 0 (zA u adr H.size))
    (hv : zCv own index ci y bytes maxL ret n) (hk : zkd u b = ci) (ha : b < zsz u) (hn : As.length = n) (hR : (rm.cells = 0 ∧ rm.slots = 0) ∧ rm.frames + 1 ≤ R.frames ∧ 8 + (maxL + 11) + rm.locals ≤ R.locals) (hls : ls.size = nL) (hst : st0 = As.reverse ++ .ref (adr b) :: rest) (hro : (rest.map fun v => v.category).sum ≤ 8) (hdg : decode cc pc = .ok (.invokevirtual index, 3)) (hcs : cells ≤ R.cells ∧ slots ≤ R.slots) :
    va_Run p l e R s m args below meth c H locs cells slots 0 0 (F0 m pc ls st0) rest (Qc (Value.ref (adr b) :: As).toArray) (zA u adr H.size) := by
  obtain ⟨T, N, h1, h9, h2, h3⟩ := hv
  exact va_runV (As := As) (rest := rest) (zS_fix hC) hM (cwV n hC.2.2.2.2.1 h2 rfl hR.1.1 hR.1.2 ⟨rfl, h3⟩ hR.2) ⟨zPre_blind, va_recv hC.2.2.2.2.2.1 hW.1 h1 (zW_ob ha hk h9), zPre_of hC hW⟩ rfl hn hls hst (lv_room hro) hdg hcs
theorem zrun_s (hC : zKx p s m c args cc own nL u D cI cJ adr) (hW : zWo u D cI cJ adr s σ H locs) (hM : Met l y (Cond.code y bytes maxL ret :: zTb) rm (zPre u D cI cJ adr σ H.size As) Qc 0 0 (zA u adr H.size))
    (hv : zCs own index y bytes maxL ret n) (hn : As.length = n) (hR : (rm.cells = 0 ∧ rm.slots = 0) ∧ rm.frames + 1 ≤ R.frames ∧ 8 + (maxL + 11) + rm.locals ≤ R.locals) (hls : ls.size = nL) (hst : st0 = As.reverse ++ rest) (hro : (rest.map fun v => v.category).sum ≤ 8) (hdg : decode cc pc = .ok (.invokestatic index, 3)) (hcs : cells ≤ R.cells ∧ slots ≤ R.slots) :
    va_Run p l e R s m args below meth c H locs cells slots 0 0 (F0 m pc ls st0) rest (Qc As.toArray) (zA u adr H.size) :=
  va_runS (As := As) (rest := rest) (zS_fix hC) hM (va_cwS n hC.2.2.2.2.1 hv.1 rfl hR.1.1 hR.1.2 hv.2 hR.2) ⟨zPre_blind, zPre_of hC hW⟩ rfl hn hls hst (lv_room hro) hdg hcs
theorem zrun_n (hC : zKx p s m c args cc own nL u D cI cJ adr) (hW : zWo u D cI cJ adr s σ H locs) {host : String} (hM : Met l y (Cond.code y bytes maxL ret :: zTb) rm (zPre u D cI cJ adr σ H.size As) Qc 0 0 (zA u adr H.size))
    (hv : zCn own index y host bytes maxL ret n) (hn : As.length = n) (hR : (rm.cells = 0 ∧ rm.slots = 0) ∧ rm.frames + 1 ≤ R.frames ∧ 8 + (maxL + 11) + rm.locals ≤ R.locals) (hls : ls.size = nL) (hst : st0 = As.reverse ++ rest) (hro : (rest.map fun v => v.category).sum ≤ 8) (hdg : decode cc pc = .ok (.invokestatic index, 3)) (hcs : cells ≤ R.cells ∧ slots ≤ R.slots) :
    va_Run p l e R s m args below meth c H locs cells slots 0 0 (F0 m pc ls st0) rest (Qc As.toArray) (zA u adr H.size) :=
  va_runSN (As := As) (rest := rest) (zS_fix hC) hM ⟨va_cnB n hC.2.2.2.2.1 hv.1 rfl hR.1.1 hR.1.2 (hC.2.2.2.2.2.2.1.1 _ hv.2.1) (hC.2.2.2.2.1 _ hv.2.2.1) hv.2.2.2.2 hR.2, hC.2.2.2.2.1 _ hv.2.2.2.1, trivial⟩ ⟨zPre_blind, zPre_of hC hW⟩ rfl hn hls hst (lv_room hro) hdg hcs
theorem zA_lt {z : Nat} (hz : s.heap.size ≤ z) : ∀ q, zA u adr z q → zA u adr s.heap.size q := zA_up hz
variable {a : Array Value}
theorem zc_i (hW : zWo u D cI cJ adr s σ H locs) {r : Int32} {σ1 : zkS} (hr : va_Run p l e R s m args below meth c H locs cells slots 0 0 (F0 m pc ls st0) rest (zQi u D cI cJ adr H.size r σ1 a) (zA u adr H.size))
    (kk : ∀ (H1 : Heap) (locs1 : List Loc), zWo u D cI cJ adr s σ1 H1 locs1 → W p l e R s m args below meth c H1 locs1 cells slots Q (F0 m (pc + 3) ls (.int r :: rest))) : W p l e R s m args below meth c H locs cells slots Q (F0 m pc ls st0) := by
  refine va_calli hr hW.2 (fun q _ h => zA_up hW.2.1 q h) (fun q h => zA_up hW.2.1 q h) (fun r' _ t H1 locs1 ht hvm hw hB hz1 hk1 hS => ?_)
  subst hw
  subst ht
  exact kk _ locs1 ⟨hB, hS⟩
theorem zc_l (hW : zWo u D cI cJ adr s σ H locs) {r : Int64} {σ1 : zkS} (hr : va_Run p l e R s m args below meth c H locs cells slots 0 0 (F0 m pc ls st0) rest (zQl u D cI cJ adr H.size r σ1 a) (zA u adr H.size))
    (kk : ∀ (H1 : Heap) (locs1 : List Loc), zWo u D cI cJ adr s σ1 H1 locs1 → W p l e R s m args below meth c H1 locs1 cells slots Q (F0 m (pc + 3) ls (.long r :: rest))) : W p l e R s m args below meth c H locs cells slots Q (F0 m pc ls st0) := by
  refine va_calll hr hW.2 (fun q _ h => zA_up hW.2.1 q h) (fun q h => zA_up hW.2.1 q h) (fun r' _ t H1 locs1 ht hvm hw hB hz1 hk1 hS => ?_)
  subst hw
  subst ht
  exact kk _ locs1 ⟨hB, hS⟩
theorem zc_v (hW : zWo u D cI cJ adr s σ H locs) {σ1 : zkS} (hr : va_Run p l e R s m args below meth c H locs cells slots 0 0 (F0 m pc ls st0) rest (zQv u D cI cJ adr H.size σ1 a) (zA u adr H.size))
    (kk : ∀ (H1 : Heap) (locs1 : List Loc), zWo u D cI cJ adr s σ1 H1 locs1 → W p l e R s m args below meth c H1 locs1 cells slots Q (F0 m (pc + 3) ls rest)) : W p l e R s m args below meth c H locs cells slots Q (F0 m pc ls st0) := by
  refine va_callv hr hW.2 (fun q _ h => zA_up hW.2.1 q h) (fun q h => zA_up hW.2.1 q h) (fun _ t H1 locs1 ht hvm hw hB hz1 hk1 hS => ?_)
  subst ht
  exact kk _ locs1 ⟨hB, hS⟩
end ZC
theorem zst (hW : zWo u D cI cJ adr s σ s.heap []) {g : JFrame} (kk : ∀ (H : Heap) (locs : List Loc), zWo u D cI cJ adr s σ H locs → W p l e R s m args below meth c H locs cells slots Q g) : W p l e R s m args below meth c s.heap [] cells slots Q g := kk _ _ hW
theorem zn_i2 {x : Int32} {y : Value} {F : Int32 → β} {o : β} (hf : zlt x F = o) (k : ∀ x : Int32, F x = o → W p l e R s m args below meth c H locs cells slots Q (F0 m pc ls (y :: .int x :: rest))) : W p l e R s m args below meth c H locs cells slots Q (F0 m pc ls (y :: .int x :: rest)) := k x hf
theorem zs_in (hx : p.tables.exec = Jvm.exec) (hb : c.code = cc) {dflt lo hi : Int} {offs : Array Int} {len : Nat} {x k : Int32} {off : Int} {tgt : Nat} (q : x = k) (hdg : decode cc pc = .ok (.tableswitch dflt lo hi offs, len)) (h1 : ¬ k.toInt < lo) (h2 : ¬ hi < k.toInt) (ho : offs[(k.toInt - lo).toNat]? = some off) (ht : (pc : Int) + off = (tgt : Int))
    (kk : W p l e R s m args below meth c H locs cells slots Q (F0 m tgt ls rest)) : W p l e R s m args below meth c H locs cells slots Q (F0 m pc ls (.int x :: rest)) := by
  subst q
  exact lv_tableIn hx hb hdg h1 h2 ho ht kk
theorem zlt_o {α β : Type} {e : α} {F : α → β} {o : β} (h : zlt e F = o) : ∃ x, e = x ∧ F x = o := ⟨e, rfl, h⟩
theorem zjn_e {γ β : Type} {T : γ} {B : γ → β} {o : β} {G : Prop} (hf : zjn T B = o) (P : γ → Prop) (hP : P T) (kk : ∀ J, P J → B J = o → G) : G := kk T hP hf
def zFU : Nat := 4000
def zrdU {β : Type} (i : Int32) (F : Int32 → Option β) : Option β := if i < 0 ∨ 7 ≤ i.toNatClampNeg then none else F (zUT i.toNatClampNeg)
section ZU
variable {tU : Nat}
def zUH (u : Nat) (adr : Nat → Nat) (s : State) (t : Nat) : Prop := va_Z "ReversedLinks" "UNDER" "[I" (.ref t) (zA u adr s.heap.size) s s.heap ∧ va_T .int t 7 (fun j => .int (zUT j)) (zA u adr s.heap.size) s s.heap
theorem zu_g {index : Nat} (hC : zKx p s m c args cc own nL u D cI cJ adr) (hU : zUH u adr s tU) (hW : zWo u D cI cJ adr s σ H locs) (hl : Cond.fieldLink own index "ReversedLinks" "UNDER" "[I" ∈ zTb) (hdg : decode cc pc = .ok (.getstatic index, 3))
    (kk : W p l e R s m args below meth c H locs cells slots Q (F0 m (pc + 3) ls (.ref tU :: rest))) : W p l e R s m args below meth c H locs cells slots Q (F0 m pc ls rest) :=
  va_gets hC.1 hC.2.1 hU.1 hW.2 hC.2.2.2.1 (hC.2.2.2.2.1 _ hl) (fun _ h => h) hdg kk
theorem zu_n (hx : p.tables.exec = Jvm.exec) (hb : c.code = cc) (hU : zUH u adr s tU) (hW : zWo u D cI cJ adr s σ H locs) (hdg : decode cc pc = .ok (.arraylength, 1))
    (kk : W p l e R s m args below meth c H locs cells slots Q (F0 m (pc + 1) ls (.int 7 :: rest))) : W p l e R s m args below meth c H locs cells slots Q (F0 m pc ls (.ref tU :: rest)) :=
  va_tlen hx hb hU.2 hW.2 rfl hdg kk
theorem zu_l (hx : p.tables.exec = Jvm.exec) (hb : c.code = cc) (hU : zUH u adr s tU) (hW : zWo u D cI cJ adr s σ H locs) {i : Int32} {F : Int32 → Option β} (hf : zrdU i F = some o) (hdg : decode cc pc = .ok (.iaload, 1))
    (kk : ∀ v : Int32, F v = some o → W p l e R s m args below meth c H locs cells slots Q (F0 m (pc + 1) ls (.int v :: rest))) : W p l e R s m args below meth c H locs cells slots Q (F0 m pc ls (.int i :: .ref tU :: rest)) := by
  unfold zrdU at hf
  by_cases h : i < 0 ∨ 7 ≤ i.toNatClampNeg
  · rw [if_pos h] at hf
    cases hf
  · rw [if_neg h] at hf
    exact va_ti hx hb hU.2 hW.2 h rfl hdg (kk _ hf)
end ZU
theorem zlv_size {lv : List (Nat × Value)} (h : lv_has ls nL lv) : ls.size = nL := h.1
end ZR
/-! kinds of cells of the class's world, by where they may stand -/
def zG (b : Nat) : Prop := b = 2 ∨ b = 18 ∨ b = 33
def zK (b : Nat) : Prop := b = 8 ∨ b = 24 ∨ b = 39
def zH (b : Nat) : Prop := b = 11 ∨ b = 13 ∨ b = 15 ∨ b = 27 ∨ b = 29 ∨ b = 31
def zE (b : Nat) : Prop := b = 1 ∨ b = 17
/-- the model's three big rows -/
def zM (b : Nat) : Prop := b = 1 ∨ b = 2 ∨ b = 3
theorem zG_k {b : Nat} (h : zG b) : zkd 0 b = 0 := by rcases h with rfl | rfl | rfl <;> decide +kernel
theorem zG_s {b : Nat} (h : zG b) : b < zsz 0 := by rcases h with rfl | rfl | rfl <;> decide +kernel
theorem zG_1 {b : Nat} (h : zG b) : zAr 0 (b + 1) 24 := by rcases h with rfl | rfl | rfl <;> exact ⟨by decide +kernel, by decide +kernel, by decide +kernel⟩
theorem zG_2 {b : Nat} (h : zG b) : zAr 0 (b + 2) 24 := by rcases h with rfl | rfl | rfl <;> exact ⟨by decide +kernel, by decide +kernel, by decide +kernel⟩
theorem zG_3 {b : Nat} (h : zG b) : zAr 0 (b + 3) 24 := by rcases h with rfl | rfl | rfl <;> exact ⟨by decide +kernel, by decide +kernel, by decide +kernel⟩
theorem zG_4 {b : Nat} (h : zG b) : zAr 0 (b + 4) 144 := by rcases h with rfl | rfl | rfl <;> exact ⟨by decide +kernel, by decide +kernel, by decide +kernel⟩
theorem zG_5 {b : Nat} (h : zG b) : zAr 0 (b + 5) 4 := by rcases h with rfl | rfl | rfl <;> exact ⟨by decide +kernel, by decide +kernel, by decide +kernel⟩
theorem zK_k {b : Nat} (h : zK b) : zkd 0 b = 2 := by rcases h with rfl | rfl | rfl <;> decide +kernel
theorem zK_s {b : Nat} (h : zK b) : b < zsz 0 := by rcases h with rfl | rfl | rfl <;> decide +kernel
theorem zK_1 {b : Nat} (h : zK b) : zAr 0 (b + 1) 24 := by rcases h with rfl | rfl | rfl <;> exact ⟨by decide +kernel, by decide +kernel, by decide +kernel⟩
theorem zK_2 {b : Nat} (h : zK b) : zAr 0 (b + 2) 24 := by rcases h with rfl | rfl | rfl <;> exact ⟨by decide +kernel, by decide +kernel, by decide +kernel⟩
theorem zH_k {b : Nat} (h : zH b) : zkd 0 b = 3 := by rcases h with rfl | rfl | rfl | rfl | rfl | rfl <;> decide +kernel
theorem zH_s {b : Nat} (h : zH b) : b < zsz 0 := by rcases h with rfl | rfl | rfl | rfl | rfl | rfl <;> decide +kernel
theorem zH_1 {b : Nat} (h : zH b) : zAr 0 (b + 1) 30 := by rcases h with rfl | rfl | rfl | rfl | rfl | rfl <;> exact ⟨by decide +kernel, by decide +kernel, by decide +kernel⟩
theorem zE_k {b : Nat} (h : zE b) : zkd 0 b = 4 := by rcases h with rfl | rfl <;> decide +kernel
theorem zE_s {b : Nat} (h : zE b) : b < zsz 0 := by rcases h with rfl | rfl <;> decide +kernel
theorem zE_G {b : Nat} (h : zE b) : zG (b + 1) := by rcases h with rfl | rfl <;> simp [zG]
theorem zE_K {b : Nat} (h : zE b) : zK (b + 7) := by rcases h with rfl | rfl <;> simp [zK]
theorem zE_H1 {b : Nat} (h : zE b) : zH (b + 10) := by rcases h with rfl | rfl <;> simp [zH]
theorem zE_H2 {b : Nat} (h : zE b) : zH (b + 12) := by rcases h with rfl | rfl <;> simp [zH]
theorem zE_H3 {b : Nat} (h : zE b) : zH (b + 14) := by rcases h with rfl | rfl <;> simp [zH]
theorem zM_a {b : Nat} (h : zM b) : zAr 1 b 346 := by rcases h with rfl | rfl | rfl <;> exact ⟨by decide +kernel, by decide +kernel, by decide +kernel⟩
theorem zwsV {own : String} {index : Nat} {y : MethodName} {b : ByteArray} {n : Nat} {r : Option FieldType} (h1 : Cond.methodLink own index y ∈ zTb) (h2 : Cond.instanceMethod y ∈ zTb) (h3 : Cond.selects y.cls y y ∈ zTb) (h4 : Cond.initialized y.cls ∈ zTb) (h5 : Cond.code y b n r ∈ zTb) : GoodIn zTb (wsV own index y.cls y (Cond.code y b n r :: zTb)) := zGood zall (by
  intro w hw
  unfold wsV at hw
  rcases List.mem_append.mp hw with h | h
  · simp only [List.mem_cons, List.not_mem_nil, or_false] at h
    rcases h with rfl | rfl | rfl | rfl
    · exact h1
    · exact h2
    · exact h3
    · exact h4
  · rcases List.mem_cons.mp h with rfl | h
    · exact h5
    · exact h)
theorem zwsS {own : String} {index : Nat} {y : MethodName} {b : ByteArray} {n : Nat} {r : Option FieldType} (h1 : Cond.methodLink own index y ∈ zTb) (h2 : Cond.static y ∈ zTb) (h4 : Cond.initialized y.cls ∈ zTb) (h5 : Cond.code y b n r ∈ zTb) : GoodIn zTb (va_wsS own index y (Cond.code y b n r :: zTb)) := zGood zall (by
  intro w hw
  unfold va_wsS at hw
  rcases List.mem_append.mp hw with h | h
  · simp only [List.mem_cons, List.not_mem_nil, or_false] at h
    rcases h with rfl | rfl | rfl
    · exact h1
    · exact h2
    · exact h4
  · rcases List.mem_cons.mp h with rfl | h
    · exact h5
    · exact h)
theorem zwsN {y : MethodName} {b : ByteArray} {n : Nat} {r : Option FieldType} (h5 : Cond.code y b n r ∈ zTb) : GoodIn zTb (Cond.code y b n r :: zTb) := zGood zall (by
  intro w hw
  rcases List.mem_cons.mp hw with rfl | h
  · exact h5
  · exact h)
theorem zuws {C : String} {T : u_T} {n : Nat} (h : (u_ws C T n).all (fun w => decide (w ∈ lw_tbl) && goodWord w) = true) : ∀ w ∈ u_ws C T n, w ∈ zTb := by
  intro w hw
  have h1 := List.all_eq_true.mp h w hw
  simp only [Bool.and_eq_true, decide_eq_true_eq] at h1
  exact List.mem_filter.mpr h1
theorem iX0 : ∀ w ∈ u_ws RX0 TX0 (znf 0), w ∈ zTb := zuws (by decide +kernel)
theorem iX1 : ∀ w ∈ u_ws RX1 TX1 (znf 1), w ∈ zTb := zuws (by decide +kernel)
theorem iX2 : ∀ w ∈ u_ws RX2 TX2 (znf 2), w ∈ zTb := zuws (by decide +kernel)
theorem iX3 : ∀ w ∈ u_ws RX3 TX3 (znf 3), w ∈ zTb := zuws (by decide +kernel)
theorem iX4 : ∀ w ∈ u_ws RX4 TX4 (znf 4), w ∈ zTb := zuws (by decide +kernel)
theorem iX5 : ∀ w ∈ u_ws RX5 TX5 (znf 5), w ∈ zTb := zuws (by decide +kernel)
theorem iX6 : ∀ w ∈ u_ws RX6 TX6 (znf 6), w ∈ zTb := zuws (by decide +kernel)
theorem iX7 : ∀ w ∈ u_ws RX7 TX7 (znf 7), w ∈ zTb := zuws (by decide +kernel)
theorem iX8 : ∀ w ∈ u_ws RX8 TX8 (znf 8), w ∈ zTb := zuws (by decide +kernel)
theorem zo1 {α β : Type} {a c : α} {b d : β} (h : some (a, b) = some (c, d)) : a = c := (Prod.mk.inj (Option.some.inj h)).1
theorem zo2 {α β : Type} {a c : α} {b d : β} (h : some (a, b) = some (c, d)) : b = d := (Prod.mk.inj (Option.some.inj h)).2
theorem zt1 {α β : Type} {a c : α} {b d : β} (h : (a, b) = (c, d)) : a = c := (Prod.mk.inj h).1
theorem zt2 {α β : Type} {a c : α} {b d : β} (h : (a, b) = (c, d)) : b = d := (Prod.mk.inj h).2
