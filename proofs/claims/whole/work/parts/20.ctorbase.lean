/-! constructors: what they make, as lists of cells -/
def zB (h z : Nat) : Nat → Prop := fun q => q = h ∨ z ≤ q
def zPc (D : va_G) (cI cJ : ClassId) (z : Nat) (av : List Value) (ws : va_W) : Array Value → State → Prop := va_Pc av (fun U => U.heap.size = z ∧ va_P D vwCl ws U.heap ∧ va_D (fun _ => True) ws ∧ va_K D vwCl (zT cI cJ) U ∧ zN U)
def zQc (D : va_G) (A : Nat → Prop) (Tm : va_W → Prop) : Array Value → State → Outcome → State → Prop := va_Qv (fun w => Tm w) (fun w t => va_P D vwCl w t.heap ∧ va_D A w) A
def zKc (p : Program) (s : State) (m : MethodId) (c : Code) (args : Array Value) (cc : ByteArray) (own : String) (nL : Nat) (D : va_G) (cI cJ : ClassId) : Prop :=
  p.tables.exec = Jvm.exec ∧ c.code = cc ∧ c.maxLocals = nL ∧ s.vm.findClass own = some m.cls ∧ (∀ w ∈ zTb, w.before args s = true) ∧ va_K D vwCl (zT cI cJ) s ∧ zN s
def zVo (D : va_G) (A : Nat → Prop) (s : State) (ws : va_W) (H : Heap) (locs : List Loc) : Prop := va_P D vwCl ws H ∧ va_D A ws ∧ va_S A s.heap H locs ∧ ∀ q, s.heap.size ≤ q → A q
theorem zPc_blind {D : va_G} {cI cJ : ClassId} {z : Nat} {av : List Value} {ws : va_W} : FrameBlind (zPc D cI cJ z av ws) := fun a U g mk q => by
  obtain ⟨q0, q1, qP, qD, qK, qN⟩ := q
  exact ⟨q0, q1, qP, qD, va_K.moved (u := U) (U := U.calling g mk a) (Vm.Alike.refl U.vm) qK, fun w hw => va_Nw.same (u := U) (U := U.calling g mk a) rfl rfl (qN w hw)⟩
theorem zcA {D : va_G} {cI cJ cA : ClassId} {s : State} {ty : FieldType} (h : va_K D vwCl (zT cI cJ ++ [(cA, ty)]) s) (hty : ty = .int ∨ ty = .long) : (ty = .int → cA = cI) ∧ (ty = .long → cA = cJ) := by
  have h2 := (h.2 2 (cA, ty) rfl).2
  have h0 := (h.2 0 (cI, .int) rfl).2
  have h1 := (h.2 1 (cJ, .long) rfl).2
  refine ⟨fun e => ?_, fun e => ?_⟩
  · subst e
    exact Option.some.inj ((show s.vm.findClass _ = some cA from h2).symm.trans (show s.vm.findClass _ = some cI from h0))
  · subst e
    exact Option.some.inj ((show s.vm.findClass _ = some cA from h2).symm.trans (show s.vm.findClass _ = some cJ from h1))
section ZK1
variable {p : Program} {l : Launch} {e : Env} {R : Room} {s : State} {m : MethodId} {args : Array Value} {below : List Frame} {meth : Method} {c : Code} {H : Heap} {locs : List Loc} {cells slots : Nat} {Q : State → Prop}
variable {cc : ByteArray} {own : String} {nL : Nat} {D : va_G} {cI cJ : ClassId} {A : Nat → Prop} {pc : Nat} {ls : Array Slot} {rest : List Value} {R0 : va_W} {h0 ci : Nat} {fs : List Value}
theorem zk_obj {index : Nat} (hC : zKc p s m c args cc own nL D cI cJ) (hls : ls.size = nL) (h1 : Cond.methodLink own index objectInit ∈ zTb) (h2 : Cond.instanceMethod objectInit ∈ zTb) (h3 : Cond.code objectInit ⟨#[0xb1]⟩ 1 none ∈ zTb) (hd : decode cc pc = .ok (.invokespecial index, 3)) (hR : 1 ≤ R.frames ∧ (rest.map fun v => v.category).sum + 12 ≤ R.locals) {a : Nat}
    (kk : W p l e R s m args below meth c H locs cells slots Q (F0 m (pc + 3) ls rest)) : W p l e R s m args below meth c H locs cells slots Q (F0 m pc ls (.ref a :: rest)) := by
  refine W.objInit hC.1 hC.2.1 hC.2.2.2.1 (hC.2.2.2.2.1 _ h1) (hC.2.2.2.2.1 _ h2) (hC.2.2.2.2.1 _ h3) rfl (by rw [hC.2.2.1]; exact hls) rfl hd hR.1 ?_ kk
  have h1 := hR.2
  have h2 : (F0 m pc ls (.ref a :: rest)).monitorRoom = 0 := rfl
  rw [h2]
  omega
/-- a field of the object under way (a number) -/
theorem zk_put (hC : zKc p s m c args cc own nL D cI cJ) (hV : zVo D A s ((h0, .inr (ci, fs)) :: R0) H locs) {k index : Nat} {ty : FieldType} {v : Int32} (hl : zFp own index ci k ty) (hn : narrow ty (.int v) = .int v) (hfit : fits ty (.int v) = true) (hk : k < fs.length) (hdg : decode cc pc = .ok (.putfield index, 3))
    (kk : ∀ (H : Heap) (locs : List Loc), zVo D A s ((h0, .inr (ci, fs.set k (.int v))) :: R0) H locs → W p l e R s m args below meth c H locs cells slots Q (F0 m (pc + 3) ls rest)) : W p l e R s m args below meth c H locs cells slots Q (F0 m pc ls (.int v :: .ref h0 :: rest)) := by
  obtain ⟨C, T, ref, ty0, h1, h9, h2, h3, h4, h5, h6, h7, h8, hfin, hty⟩ := hl
  obtain ⟨hx, hb, hml, hown, hts, hK, hN⟩ := hC
  obtain ⟨hP, hD, hS, hA⟩ := hV
  subst h4
  exact va_put hx hb hts h2 ty0 h7 h8 hown hK hP hD hS 0 rfl h1 k h5 (hts _ h3) (fun _ h => h) hfin hty hn hfit hk hdg (fun H1 locs1 hP hD hS => kk H1 locs1 ⟨hP, hD, hS, hA⟩)
/-- what the tables say of a final field that a constructor writes -/
def zFf (own : String) (index ci k : Nat) (ty : FieldType) : Prop := ∃ (C : String) (T : u_T) (ref : String) (ty0 : Nat → FieldType), vwCl[ci]? = some (C, T, znf ci) ∧ (∀ w ∈ u_ws C T (znf ci), w ∈ zTb) ∧ Cond.fieldLink own index ref (T k).2.1 (T k).2.2.1 ∈ zTb ∧ (T k).1 = ref ∧ k < znf ci ∧
  (∀ k, k < znf ci → parseFieldDescriptor (T k).2.2.1 = some (ty0 k)) ∧ (∀ a, a < znf ci → ∀ b, b < znf ci → a ≠ b → (T a).2.1 ≠ (T b).2.1) ∧ (T k).2.2.2 = true ∧ (T k).1 = own ∧ parseFieldDescriptor (T k).2.2.1 = some ty
theorem zk_putF (hC : zKc p s m c args cc own nL D cI cJ) (hi : meth.name = "<init>") (hV : zVo D A s ((h0, .inr (ci, fs)) :: R0) H locs) {k index a : Nat} {ty : FieldType} (hl : zFf own index ci k ty) (hn : narrow ty (.ref a) = .ref a) (hfit : fits ty (.ref a) = true) (hk : k < fs.length) (hdg : decode cc pc = .ok (.putfield index, 3))
    (kk : ∀ (H : Heap) (locs : List Loc), zVo D A s ((h0, .inr (ci, fs.set k (.ref a))) :: R0) H locs → W p l e R s m args below meth c H locs cells slots Q (F0 m (pc + 3) ls rest)) : W p l e R s m args below meth c H locs cells slots Q (F0 m pc ls (.ref a :: .ref h0 :: rest)) := by
  obtain ⟨C, T, ref, ty0, h1, h2, h3, h4, h5, h7, h8, hfin, ho, hty⟩ := hl
  obtain ⟨hx, hb, hml, hown, hts, hK, hN⟩ := hC
  obtain ⟨hP, hD, hS, hA⟩ := hV
  subst h4
  exact va_putF hx hb hts h2 ty0 h7 h8 hown hK hP hD hS 0 rfl h1 k h5 (hts _ h3) (fun _ h => h) hfin hi ho hty hn hfit hk hdg (fun H1 locs1 hP hD hS => kk H1 locs1 ⟨hP, hD, hS, hA⟩)
/-- a field of the object under way is read -/
theorem zk_get (hC : zKc p s m c args cc own nL D cI cJ) (hV : zVo D A s ((h0, .inr (ci, fs)) :: R0) H locs) {k o index a : Nat} (hl : zFl own index ci k o) (hv : fs[k]? = some (.ref a)) (hdg : decode cc pc = .ok (.getfield index, 3))
    (kk : W p l e R s m args below meth c H locs cells slots Q (F0 m (pc + 3) ls (.ref a :: rest))) : W p l e R s m args below meth c H locs cells slots Q (F0 m pc ls (.ref h0 :: rest)) := by
  obtain ⟨C, T, ref, h1, h9, h2, h3, h4, h5, h6⟩ := hl
  obtain ⟨hx, hb, hml, hown, hts, hK, hN⟩ := hC
  subst h4
  exact va_get hx hb hts h2 hown hK hV.1 0 rfl h1 k h5 (hts _ h3) (fun _ h => h) hv hdg kk
theorem zk_arr (hC : zKc p s m c args cc own nL D cI cJ) (hV : zVo D A s ((h0, .inr (ci, fs)) :: R0) H locs) (hq : Cond.arrayClass .int ∈ zTb) {n : Int32} {N : Nat} (hn : ¬ n < 0) (hN : n.toNatClampNeg = N) (hby : N * 4 ≤ 536870912) (hcs : cells + 1 ≤ R.cells ∧ slots + N ≤ R.slots) (hdg : decode cc pc = .ok (.newarray .int, 2))
    (kk : ∀ (q : Nat) (H : Heap), zVo D A s ((h0, .inr (ci, fs)) :: (R0 ++ [(q, .inl (cI, N, .inl (fun _ => 0)))])) H locs → W p l e R s m args below meth c H locs (cells + 1) (slots + N) Q (F0 m (pc + 2) ls (.ref q :: rest))) : W p l e R s m args below meth c H locs cells slots Q (F0 m pc ls (.int n :: rest)) := by
  obtain ⟨hx, hb, hml, hown, hts, hK, hNn⟩ := hC
  obtain ⟨hP, hD, hS, hA⟩ := hV
  refine va_newa (atype := .int) (ty := .int) (a0 := (N, .inl (fun _ => 0))) hx hb (hts _ hq) rfl hK hP hD hS hA (fun cA => rfl) hn hN hby hcs.1 hcs.2 hdg (fun q cA H1 hK1 hP hD hS => ?_)
  have e := (zcA hK1 (Or.inl rfl)).1 rfl
  subst e
  exact kk q H1 ⟨hP, hD, hS, hA⟩
theorem zk_arrL (hC : zKc p s m c args cc own nL D cI cJ) (hV : zVo D A s ((h0, .inr (ci, fs)) :: R0) H locs) (hq : Cond.arrayClass .long ∈ zTb) {n : Int32} {N : Nat} (hn : ¬ n < 0) (hN : n.toNatClampNeg = N) (hby : N * 8 ≤ 536870912) (hcs : cells + 1 ≤ R.cells ∧ slots + N ≤ R.slots) (hdg : decode cc pc = .ok (.newarray .long, 2))
    (kk : ∀ (q : Nat) (H : Heap), zVo D A s ((h0, .inr (ci, fs)) :: (R0 ++ [(q, .inl (cJ, N, .inr (.inl (fun _ => 0))))])) H locs → W p l e R s m args below meth c H locs (cells + 1) (slots + N) Q (F0 m (pc + 2) ls (.ref q :: rest))) : W p l e R s m args below meth c H locs cells slots Q (F0 m pc ls (.int n :: rest)) := by
  obtain ⟨hx, hb, hml, hown, hts, hK, hNn⟩ := hC
  obtain ⟨hP, hD, hS, hA⟩ := hV
  refine va_newa (atype := .long) (ty := .long) (a0 := (N, .inr (.inl (fun _ => 0)))) hx hb (hts _ hq) rfl hK hP hD hS hA (fun cA => rfl) hn hN hby hcs.1 hcs.2 hdg (fun q cA H1 hK1 hP hD hS => ?_)
  have e := (zcA hK1 (Or.inr rfl)).2 rfl
  subst e
  exact kk q H1 ⟨hP, hD, hS, hA⟩
/-- an array's place is written, whichever of the cells it is -/
theorem zk_ast (hC : zKc p s m c args cc own nL D cI cJ) {ws : va_W} (hV : zVo D A s ws H locs) (k : Nat) {a n : Nat} {f : Nat → Int32} (ha : ws[k]? = some (a, .inl (cI, n, .inl f))) {i v : Int32} (hin : vp_in i n) (hdg : decode cc pc = .ok (.iastore, 1))
    (kk : ∀ (H : Heap) (locs : List Loc), zVo D A s (ws.set k (a, .inl (cI, n, .inl (upd f i.toNatClampNeg v)))) H locs → W p l e R s m args below meth c H locs cells slots Q (F0 m (pc + 1) ls rest)) : W p l e R s m args below meth c H locs cells slots Q (F0 m pc ls (.int v :: .int i :: .ref a :: rest)) := by
  obtain ⟨hx, hb, hml, hown, hts, hK, hNn⟩ := hC
  obtain ⟨hP, hD, hS, hA⟩ := hV
  exact va_iast hx hb hK hP hD hS k 0 ha rfl hin hdg (fun H1 locs1 hP hD hS => kk H1 locs1 ⟨hP, hD, hS, hA⟩)
/-- what the tables say of a class that is made -/
def zNw (own : String) (index ci : Nat) : Prop := ∃ (C : String) (T : u_T) (ty0 : Nat → FieldType), vwCl[ci]? = some (C, T, znf ci) ∧ (∀ w ∈ u_ws C T (znf ci), w ∈ zTb) ∧ Cond.classLink own index C ∈ zTb ∧ Cond.instantiable C (znf ci) ∈ zTb ∧ Cond.initialized C ∈ zTb ∧ (∀ k, k < znf ci → parseFieldDescriptor (T k).2.2.1 = some (ty0 k)) ∧ ∀ k, k < znf ci → (ty0 k = .int ∨ ty0 k = .boolean) ∧ zof ci k = 0 ∨ defaultValue (ty0 k) = .null ∧ zof ci k ≠ 0
def zdf (ci : Nat) : List Value := (List.range (znf ci)).map (fun k => if zof ci k = 0 then .int 0 else .null)
theorem zk_new (hC : zKc p s m c args cc own nL D cI cJ) {ws : va_W} (hV : zVo D A s ws H locs) {index c1 : Nat} (hw : zNw own index c1) (hcs : cells + 1 ≤ R.cells ∧ slots + znf c1 ≤ R.slots) (hdg : decode cc pc = .ok (.new index, 3))
    (kk : ∀ (q : Nat) (H : Heap), zVo D A s (ws ++ [(q, .inr (c1, zdf c1))]) H locs → W p l e R s m args below meth c H locs (cells + 1) (slots + znf c1) Q (F0 m (pc + 3) ls (.ref q :: rest))) : W p l e R s m args below meth c H locs cells slots Q (F0 m pc ls rest) := by
  obtain ⟨hx, hb, hml, hown, hts, hK, hNn⟩ := hC
  obtain ⟨hP, hD, hS, hA⟩ := hV
  obtain ⟨C, T, ty0, h1, h2, h3, h4, h5, h6, h7⟩ := hw
  refine va_new (ci := c1) (fs := zdf c1) hx hb hts h2 ty0 h6 hown (hts _ h3) (hts _ h4) (hts _ h5) hK hP hD hS hA h1 (fun j hj => ?_) hcs.1 hcs.2 hdg (fun q H1 hP hD hS => kk q H1 ⟨hP, hD, hS, hA⟩)
  have e : vp_V (zdf c1) j = if zof c1 j = 0 then .int 0 else .null := by
    show (zdf c1).getD j .null = _
    rw [List.getD_eq_getElem?_getD]
    unfold zdf
    rw [List.getElem?_map, List.getElem?_range hj]
    rfl
  rw [e]
  rcases h7 j hj with ⟨h, h0⟩ | ⟨h, h0⟩
  · rw [if_pos h0]
    rcases h with h | h <;> rw [h] <;> rfl
  · rw [if_neg h0, h]
/-- the new object, which is the last of the cells, is filled by its constructor -/
theorem zvj {D : va_G} {cl : List vw_C} {A : Nat → Prop} {wr w1 : va_W} {q : Nat} {e1 : va_E} {H H1 : Heap} (hP : va_P D cl (wr ++ [(q, e1)]) H) (hD : va_D A (wr ++ [(q, e1)])) (hk : ∀ x : Nat, x < H.size → ¬ zB q H.size x → H1[x]? = H[x]?) (hF : ∀ x, zB q H.size x → A x) (hP1 : va_P D cl w1 H1) (hD1 : va_D (zB q H.size) w1) : va_P D cl (wr ++ w1) H1 ∧ va_D A (wr ++ w1) := by
  have hl : ∀ (k : Nat) (x : Nat × va_E), wr[k]? = some x → (wr ++ [(q, e1)])[k]? = some x ∧ k < wr.length := fun k x hx => by
    have hk := (List.getElem?_eq_some_iff.mp hx).1
    exact ⟨by rw [List.getElem?_append_left hk]; exact hx, hk⟩
  have hq : (wr ++ [(q, e1)])[wr.length]? = some (q, e1) := by rw [List.getElem?_append_right (Nat.le_refl _), Nat.sub_self]; rfl
  have apart : ∀ (k : Nat) (x : Nat × va_E), wr[k]? = some x → x.1 < H.size ∧ ¬ zB q H.size x.1 := by
    intro k x hx
    obtain ⟨h1, h2⟩ := hl k x hx
    have h3 := (hP k x h1).lt
    refine ⟨h3, fun h => ?_⟩
    rcases h with h | h
    · have := hD.1 k wr.length x (q, e1) h1 hq h
      omega
    · omega
  refine ⟨va_P.app (fun k x hx => ?_) hP1, va_D.app ⟨fun i j x y hx hy e => ?_, fun k x hx => ?_⟩ (hD1.weaken (fun k x _ h => hF x.1 h)) (fun i j x y hx hy hxy => ?_)⟩
  · exact (hP k x (hl k x hx).1).kept (hk x.1 (apart k x hx).1 (apart k x hx).2)
  · exact hD.1 i j x y (hl i x hx).1 (hl j y hy).1 e
  · exact hD.2 k x (hl k x hx).1
  · exact (apart i x hx).2 (by rw [hxy]; exact hD1.2 j y hy)
section ZK2
variable {y : MethodName} {bytes : ByteArray} {maxL index : Nat} {rm : Room} {Tm : Nat → va_W → Prop} {mc ms q c1 : Nat} {wr : va_W}
/-- a constructor's contract -/
def zCt (l : Launch) (D : va_G) (cI cJ : ClassId) (y : MethodName) (bytes : ByteArray) (maxL : Nat) (rm : Room) (mc ms c1 : Nat) (Tm : Nat → va_W → Prop) : Prop := ∀ h z : Nat, Met l y (Cond.code y bytes maxL none :: zTb) rm (zPc D cI cJ z [.ref h] [(h, .inr (c1, zdf c1))]) (zQc D (zB h z) (Tm h)) mc ms (zB h z)
def zIs (own : String) (index : Nat) (y : MethodName) (bytes : ByteArray) (maxL : Nat) : Prop := GoodIn zTb (Cond.code y bytes maxL none :: zTb) ∧ Cond.initialized y.cls ∈ zTb ∧ Cond.instanceMethod y ∈ zTb ∧ y.name = "<init>" ∧ zNm y 0
theorem zkcall_of (hC : zKc p s m c args cc own nL D cI cJ) (hV : zVo D A s (wr ++ [(q, .inr (c1, zdf c1))]) H locs) : PreS s H (zPc D cI cJ H.size [.ref q] [(q, .inr (c1, zdf c1))]) [.ref q] := by
  obtain ⟨hx, hb, hml, hown, hts, hK, hNn⟩ := hC
  have hq : (wr ++ [(q, .inr (c1, zdf c1))])[wr.length]? = some (q, .inr (c1, zdf c1)) := by rw [List.getElem?_append_right (Nat.le_refl _), Nat.sub_self]; rfl
  refine ⟨zPc_blind, fun U hU hW => ⟨rfl, by rw [hU], ?_, ⟨fun i j x y hx hy _ => ?_, fun _ _ _ => trivial⟩, va_K.moved hW.alike hK, fun w hw => va_Nw.warmM hW (hNn w hw)⟩⟩
  · rw [hU]
    intro k x hx
    have hk : k = 0 := by have := (List.getElem?_eq_some_iff.mp hx).1; simp at this; exact this
    subst hk
    cases hx
    exact hV.1 _ _ hq
  · have h1 := (List.getElem?_eq_some_iff.mp hx).1
    have h2 := (List.getElem?_eq_some_iff.mp hy).1
    simp at h1 h2
    omega
theorem zk_init (hC : zKc p s m c args cc own nL D cI cJ) (hV : zVo D A s (wr ++ [(q, .inr (c1, zdf c1))]) H locs) (hM : zCt l D cI cJ y bytes maxL rm mc ms c1 Tm) (hv : zIs own index y bytes maxL) (hnest : (Cond.methodLink own index y ∈ zTb) ∨ ∃ host, (own, index, y, host) ∈ zNs) (hR : (rm.cells = mc ∧ rm.slots = ms) ∧ rm.frames + 1 ≤ R.frames ∧ 8 + (maxL + 11) + rm.locals ≤ R.locals) (hls : ls.size = nL) (hro : (rest.map fun v => v.category).sum ≤ 8) (hdg : decode cc pc = .ok (.invokespecial index, 3)) (hcs : cells + mc ≤ R.cells ∧ slots + ms ≤ R.slots)
    (kk : ∀ (w : va_W) (H : Heap) (locs : List Loc), Tm q w → zVo D A s (wr ++ w) H locs → W p l e R s m args below meth c H locs (cells + mc) (slots + ms) Q (F0 m (pc + 3) ls rest)) : W p l e R s m args below meth c H locs cells slots Q (F0 m pc ls (.ref q :: rest)) := by
  have S : CallFix p m c cc nL s args zTb own := ⟨hC.1, hC.2.1, hC.2.2.1, hC.2.2.2.1, hC.2.2.2.2.1⟩
  have hq : (wr ++ [(q, .inr (c1, zdf c1))])[wr.length]? = some (q, .inr (c1, zdf c1)) := by rw [List.getElem?_append_right (Nat.le_refl _), Nat.sub_self]; rfl
  have hF : ∀ x, zB q H.size x → A x := by
    intro x hx
    rcases hx with rfl | hx
    · exact hV.2.1.2 _ _ hq
    · exact hV.2.2.2 x (Nat.le_trans hV.2.2.1.1 hx)
  have hr : va_Run p l e R s m args below meth c H locs cells slots mc ms (F0 m pc ls (.ref q :: rest)) rest (zQc D (zB q H.size) (Tm q) (Value.ref q :: []).toArray) (zB q H.size) := by
    rcases hnest with h | ⟨host, h⟩
    · exact va_runI (As := []) (rest := rest) S (hM q H.size) (cwI 0 hC.2.2.2.2.1 hv.1 rfl hR.1.1 hR.1.2 (hC.2.2.2.2.1 _ hv.2.1) (hC.2.2.2.2.1 _ h) (hC.2.2.2.2.1 _ hv.2.2.1) hv.2.2.2.1 hv.2.2.2.2 hR.2) (zkcall_of hC hV) rfl rfl hls rfl (lv_room hro) hdg hcs
    · exact va_runIN (As := []) (rest := rest) S (hM q H.size) ⟨va_cnB 0 hC.2.2.2.2.1 hv.1 rfl hR.1.1 hR.1.2 (hC.2.2.2.2.2.2 _ h) (hC.2.2.2.2.1 _ hv.2.1) hv.2.2.2.2 hR.2, hv.2.2.2.1, hC.2.2.2.2.1 _ hv.2.2.1⟩ (zkcall_of hC hV) rfl rfl hls rfl (lv_room hro) hdg hcs
  refine va_callv hr hV.2.2.1 (fun x _ h => hF x h) hF (fun w t H1 locs1 ht hvm hw hB hz1 hk1 hS => ?_)
  subst ht
  obtain ⟨hP, hD⟩ := zvj hV.1 hV.2.1 hk1 hF hB.1 hB.2
  exact kk w _ locs1 hw ⟨hP, hD, hS, hV.2.2.2⟩
end ZK2
theorem zk_end {w0 : va_W} {Tm : va_W → Prop} {cells slots : Nat} (hC : zKc p s m c args cc own nL D cI cJ) (hr : meth.sig.returnType = none) (hlk : meth.locks = false) (hV : zVo D A s w0 H locs) (hT : Tm w0) (hdg : decode cc pc = .ok (.return_, 1)) : W p l e R s m args below meth c H locs cells slots (MQ below (zQc D A Tm) args s cells slots A) (F0 m pc ls []) :=
  W.vret hC.1 hC.2.1 hr (fun t ht hW1 => ⟨⟨w0, rfl, hT, by rw [ht]; exact hV.1, hV.2.1⟩, hV.2.2.1.F ht⟩) hV.2.2.1.2.2 hdg hlk
theorem zk_entry {y : MethodName} {rm : Room} {mc ms c1 : Nat} {Tm : Nat → va_W → Prop} (hy : plainName y.cls = true) (ho : y.cls = own) (h1 : 1 ≤ nL)
    (body : ∀ (h : Nat) (p : Program) (e : Env) (s : State) (m : MethodId) (args : Array Value) (below : List Frame) (meth : Method) (c : Code) (ls : Array Slot), zKc p s m c args cc own nL D cI cJ → meth.sig.returnType = none → meth.locks = false → meth.name = y.name → lv_has ls nL [(0, .ref h)] → zVo D (zB h s.heap.size) s [(h, .inr (c1, zdf c1))] s.heap [] →
      W p l e rm s m args below meth c s.heap [] 0 0 (MQ below (zQc D (zB h s.heap.size) (Tm h)) args s mc ms (zB h s.heap.size)) (F0 m 0 ls [])) : zCt l D cI cJ y cc nL rm mc ms c1 Tm := by
  intro h z
  refine Met.ofW (cc := cc) (maxL := nL) (ret := none) hy rfl ?_
  intro p e s m args below meth c s₁ B hml hv
  obtain ⟨rfl, hsz, hP, hD, hK, hN⟩ := hv
  subst hsz
  subst ho
  have hts := atoms_spec (ws := Cond.code y cc nL none :: zTb) B.pre
  rw [lg_entry_eq]
  refine body h p e s m _ below meth c _ ⟨B.exec, B.bytes, hml, findClass_of_methodNamed B.named, fun w hw => hts w (List.mem_cons_of_mem _ hw), hK, hN⟩ B.returns B.notSynchronized (name_of_methodNamed B.named B.method).1 (lv_entry [.ref h] (show (lg_sl [.ref h]).length ≤ nL from h1)) ⟨hP, ⟨hD.1, fun k x hx => ?_⟩, va_S.rf, fun q hq => Or.inr hq⟩
  have hk : k = 0 := by have := (List.getElem?_eq_some_iff.mp hx).1; simp at this; exact this
  subst hk
  cases hx
  exact Or.inl rfl
end ZK1
/-- Arrays.fill(int[], int) -/
theorem zfill {l : Launch} {D : va_G} {cI cJ : ClassId} {h z n : Nat} {f : Nat → Int32} {v : Int32} (hn : n < 2 ^ 31) : Met l yJ7_fill_53178 (Cond.code yJ7_fill_53178 cJ7_fill_53178 4 none :: zTb) { frames := 0, cells := 0, slots := 0, locals := 0 } (zPc D cI cJ z [.ref h, .int v] [(h, .inl (cI, n, .inl f))]) (zQc D (zB h z) (fun w => w = [(h, .inl (cI, n, .inl (fun k => if k < n then v else f k)))])) 0 0 (zB h z) := by
  refine Met.ofW (cc := cJ7_fill_53178) (maxL := 4) (ret := none) (by decide +kernel) rfl ?_
  intro p e s m args below meth c s₁ B hml hv
  obtain ⟨rfl, hsz, hP, hD, hK, hN⟩ := hv
  subst hsz
  have hx := B.exec
  have hb := B.bytes
  have hr := B.returns
  have hlk := B.notSynchronized
  rw [lg_entry_eq]
  have hl := lv_entry [.ref h, .int v] (n := 4) (Nat.le_of_ble_eq_true rfl)
  generalize (lg_sl [.ref h, .int v] ++ List.replicate (4 - (lg_sl [.ref h, .int v]).length) Slot.unset).toArray = ls at hl ⊢
  have hl : lv_has ls 4 [(0, .ref h), (1, .int v)] := hl
  have hD : va_D (zB h s.heap.size) [(h, .inl (cI, n, .inl f))] := ⟨hD.1, fun k x hx => by
    have hk : k = 0 := by have := (List.getElem?_eq_some_iff.mp hx).1; simp at this; exact this
    subst hk
    cases hx
    exact Or.inl rfl⟩
  have hS : va_S (zB h s.heap.size) s.heap s.heap [] := va_S.rf
  refine lv_iconst (v := 0) hx hb dJ7_fill_53178_0 (by decide) ?_
  refine lv_istore_n (lv' := [(2, .int 0), (0, .ref h), (1, .int v)]) hx hb dJ7_fill_53178_1 rfl hl (by decide) rfl (fun ls hl => ?_)
  refine lv_aload_n hx hb dJ7_fill_53178_2 rfl (lv_at hl 1 rfl) ?_
  refine va_alen hx hb hK hP 0 0 rfl rfl (v := nI n) rfl dJ7_fill_53178_3 ?_
  refine lv_istore_n (lv' := [(3, .int (nI n)), (2, .int 0), (0, .ref h), (1, .int v)]) hx hb dJ7_fill_53178_4 rfl hl (by decide) rfl (fun ls hl => ?_)
  have key : ∀ (d i : Nat) (g : Nat → Int32) (H : Heap) (locs : List Loc) (ls : Array Slot), i + d = n → (∀ k, g k = if k < i then v else f k) → va_P D vwCl [(h, .inl (cI, n, .inl g))] H → va_S (zB h s.heap.size) s.heap H locs → lv_has ls 4 [(0, .ref h), (1, .int v), (2, .int (nI i)), (3, .int (nI n))] →
      W p l e { frames := 0, cells := 0, slots := 0, locals := 0 } s m #[.ref h, .int v] below meth c H locs 0 0 (MQ below (zQc D (zB h s.heap.size) (fun w => w = [(h, .inl (cI, n, .inl (fun k => if k < n then v else f k)))])) #[.ref h, .int v] s 0 0 (zB h s.heap.size)) (F0 m 5 ls []) := by
    intro d
    induction d with
    | zero =>
      intro i g H locs ls hi hg hP hS hl
      have hi : i = n := by omega
      subst hi
      refine lv_iload_n hx hb dJ7_fill_53178_5 rfl (lv_at hl 2 rfl) ?_
      refine lv_iload_n hx hb dJ7_fill_53178_6 rfl (lv_at hl 3 rfl) ?_
      refine lv_icmp_ge (tgt := 20) hx hb dJ7_fill_53178_7 (by decide) (fun _ => ?_) (fun hc => absurd (nI_le (Nat.le_refl _) hn) hc)
      have eg : g = fun k => if k < i then v else f k := funext hg
      subst eg
      exact W.vret hx hb hr (fun t ht hW1 => ⟨⟨_, rfl, rfl, by rw [ht]; exact hP, ⟨fun a b x y hx hy _ => by
        have h1 := (List.getElem?_eq_some_iff.mp hx).1
        have h2 := (List.getElem?_eq_some_iff.mp hy).1
        simp at h1 h2
        omega, fun k x hx => by
        have hk : k = 0 := by have := (List.getElem?_eq_some_iff.mp hx).1; simp at this; exact this
        subst hk
        cases hx
        exact Or.inl rfl⟩⟩, hS.F ht⟩) hS.2.2 dJ7_fill_53178_20 hlk
    | succ d ih =>
      intro i g H locs ls hi hg hP hS hl
      have hlt : i < n := by omega
      refine lv_iload_n hx hb dJ7_fill_53178_5 rfl (lv_at hl 2 rfl) ?_
      refine lv_iload_n hx hb dJ7_fill_53178_6 rfl (lv_at hl 3 rfl) ?_
      refine lv_icmp_ge (tgt := 20) hx hb dJ7_fill_53178_7 (by decide) (fun hc => absurd hc (nI_ge hlt hn)) (fun _ => ?_)
      refine lv_aload_n hx hb dJ7_fill_53178_10 rfl (lv_at hl 0 rfl) ?_
      refine lv_iload_n hx hb dJ7_fill_53178_11 rfl (lv_at hl 2 rfl) ?_
      refine lv_iload_n hx hb dJ7_fill_53178_12 rfl (lv_at hl 1 rfl) ?_
      have hD1 : va_D (zB h s.heap.size) [(h, .inl (cI, n, .inl g))] := ⟨fun a b x y hx hy _ => by
        have h1 := (List.getElem?_eq_some_iff.mp hx).1
        have h2 := (List.getElem?_eq_some_iff.mp hy).1
        simp at h1 h2
        omega, fun k x hx => by
        have hk : k = 0 := by have := (List.getElem?_eq_some_iff.mp hx).1; simp at this; exact this
        subst hk
        cases hx
        exact Or.inl rfl⟩
      refine va_iast hx hb hK hP hD1 hS 0 0 rfl rfl (vp_in_nI hlt hn) dJ7_fill_53178_13 (fun H1 locs1 hP1 hD2 hS1 => ?_)
      refine lv_iinc (v := nI (i + 1)) (lv' := [(2, .int (nI (i + 1))), (0, .ref h), (1, .int v), (3, .int (nI n))]) hx hb dJ7_fill_53178_14 hl (k := 2) rfl (nI_1 i) (by decide) rfl (fun ls hl => ?_)
      refine lv_goto (tgt := 5) hx hb dJ7_fill_53178_17 (by decide) ?_
      refine ih (i + 1) _ H1 locs1 ls (by omega) ?_ hP1 hS1 (lv_sub hl [1, 2, 0, 3] rfl)
      intro k
      rw [nI_clamp (Nat.lt_trans hlt hn)]
      show (if k = i then v else g k) = _
      by_cases h1 : k = i
      · rw [if_pos h1, if_pos (by omega)]
      · rw [if_neg h1, hg k]
        by_cases h2 : k < i
        · rw [if_pos h2, if_pos (by omega)]
        · rw [if_neg h2, if_neg (by omega)]
  refine key n 0 f s.heap [] ls (by omega) (fun k => by rw [if_neg (Nat.not_lt_zero k)]) hP hS ?_
  exact lv_sub hl [2, 3, 1, 0] rfl
section ZK3
variable {p : Program} {l : Launch} {e : Env} {R : Room} {s : State} {m : MethodId} {args : Array Value} {below : List Frame} {meth : Method} {c : Code} {H : Heap} {locs : List Loc} {cells slots : Nat} {Q : State → Prop}
variable {cc : ByteArray} {own : String} {nL : Nat} {D : va_G} {cI cJ : ClassId} {A : Nat → Prop} {pc : Nat} {ls : Array Slot} {rest : List Value}
theorem zk_st {ws : va_W} {g : JFrame} (hV : zVo D A s ws s.heap []) (kk : ∀ (H : Heap) (locs : List Loc), zVo D A s ws H locs → W p l e R s m args below meth c H locs cells slots Q g) : W p l e R s m args below meth c s.heap [] cells slots Q g := kk _ _ hV
theorem zk_fill {ws wr : va_W} {a n index : Nat} {f : Nat → Int32} {v : Int32} (hC : zKc p s m c args cc own nL D cI cJ) (hV : zVo D A s ws H locs) (k : Nat) (isR : List Nat) (hk : ws[k]? = some (a, .inl (cI, n, .inl f))) (hR1 : isR.map (fun i => ws[i]?) = wr.map some) (hnd : va_nd isR = true) (hdis : ∀ i ∈ isR, i ∉ [k]) (h1 : Cond.methodLink own index yJ7_fill_53178 ∈ zTb) (h2 : Cond.static yJ7_fill_53178 ∈ zTb) (h3 : Cond.initialized RJ7 ∈ zTb) (h4 : Cond.code yJ7_fill_53178 cJ7_fill_53178 4 none ∈ zTb) (hn : n < 2 ^ 31)
    (hR : 1 ≤ R.frames ∧ 23 ≤ R.locals) (hls : ls.size = nL) (hro : (rest.map fun v => v.category).sum ≤ 8) (hdg : decode cc pc = .ok (.invokestatic index, 3)) (hcs : cells ≤ R.cells ∧ slots ≤ R.slots)
    (kk : ∀ (H : Heap) (locs : List Loc), va_P D vwCl (wr ++ [(a, .inl (cI, n, .inl (fun k => if k < n then v else f k)))]) H → va_D A (wr ++ [(a, .inl (cI, n, .inl (fun k => if k < n then v else f k)))]) → va_S A s.heap H locs → W p l e R s m args below meth c H locs cells slots Q (F0 m (pc + 3) ls rest)) : W p l e R s m args below meth c H locs cells slots Q (F0 m pc ls (.int v :: .ref a :: rest)) := by
  have S : CallFix p m c cc nL s args zTb own := ⟨hC.1, hC.2.1, hC.2.2.1, hC.2.2.2.1, hC.2.2.2.2.1⟩
  have hF : ∀ x, va_A [(a, (.inl (cI, n, .inl f) : va_E))] H.size x → A x := va_free hV.2.1 hV.2.2.1 hV.2.2.2 [k] (by simp [hk])
  have hBA : ∀ x, zB a H.size x → va_A [(a, (.inl (cI, n, .inl f) : va_E))] H.size x := fun x hx => by
    rcases hx with rfl | hx
    · exact Or.inl ⟨0, _, rfl⟩
    · exact Or.inr hx
  have hAB : ∀ x, va_A [(a, (.inl (cI, n, .inl f) : va_E))] H.size x → zB a H.size x := fun x hx => by
    rcases hx with ⟨j, e2, hj⟩ | hx
    · have hj0 : j = 0 := by have := (List.getElem?_eq_some_iff.mp hj).1; simp at this; exact this
      subst hj0
      cases hj
      exact Or.inl rfl
    · exact Or.inr hx
  have hr : va_Run p l e R s m args below meth c H locs cells slots 0 0 (F0 m pc ls (.int v :: .ref a :: rest)) rest (zQc D (zB a H.size) (fun w => w = [(a, .inl (cI, n, .inl (fun k => if k < n then v else f k)))]) ([.ref a, .int v] : List Value).toArray) (zB a H.size) := by
    refine va_runS (As := [.ref a, .int v]) (rest := rest) S (zfill (l := l) (D := D) (cI := cI) (cJ := cJ) (h := a) (z := H.size) (n := n) (f := f) (v := v) hn) (va_cwS 2 hC.2.2.2.2.1 (zwsS h1 h2 h3 h4) rfl rfl rfl ⟨by decide +kernel, by decide +kernel, by decide +kernel⟩ ⟨hR.1, hR.2⟩) ⟨zPc_blind, fun U hU hW => ⟨rfl, by rw [hU], ?_, ⟨fun i j x y hx hy _ => ?_, fun _ _ _ => trivial⟩, va_K.moved hW.alike hC.2.2.2.2.2.1, fun w hw => va_Nw.warmM hW (hC.2.2.2.2.2.2 w hw)⟩⟩ rfl rfl hls rfl (lv_room hro) hdg hcs
    · rw [hU]
      intro j x hx
      have hj : j = 0 := by have := (List.getElem?_eq_some_iff.mp hx).1; simp at this; exact this
      subst hj
      cases hx
      exact hV.1 _ _ hk
    · have h1 := (List.getElem?_eq_some_iff.mp hx).1
      have h2 := (List.getElem?_eq_some_iff.mp hy).1
      simp at h1 h2
      omega
  refine va_callv hr hV.2.2.1 (fun x _ h => hF x (hBA x h)) (fun x h => hF x (hBA x h)) (fun w t H1 locs1 ht hvm hw hB hz1 hk1 hS => ?_)
  subst ht
  subst hw
  obtain ⟨hP, hD⟩ := va_join (wc := [(a, .inl (cI, n, .inl f))]) hV.1 hV.2.1 [k] isR (by simp [hk]) hR1 hnd hdis (fun x h1 h2 => hk1 x h1 (fun h => h2 (hBA x h))) hF hB.1 (hB.2.weaken (fun _ _ _ h => hBA _ h))
  exact kk _ locs1 hP hD hS
end ZK3
