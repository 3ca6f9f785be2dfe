theorem wq_51 : Cond.classLink RL 7 RX7 ∈ zTb := zmem 51 (by decide +kernel) rfl
theorem wq_52 : Cond.instantiable RX7 (znf 7) ∈ zTb := zmem 52 (by decide +kernel) rfl
theorem nw_L_7 : zNw RL 7 7 := ⟨RX7, TX7, tyX7, rfl, iX7, wq_51, wq_52, wi_7, tyX7_ok, by decide +kernel⟩
theorem wq_828 : Cond.classLink RL 10 RX8 ∈ zTb := zmem 828 (by decide +kernel) rfl
theorem wq_829 : Cond.instantiable RX8 (znf 8) ∈ zTb := zmem 829 (by decide +kernel) rfl
theorem nw_L_10 : zNw RL 10 8 := ⟨RX8, TX8, tyX8, rfl, iX8, wq_828, wq_829, wi_8, tyX8_ok, by decide +kernel⟩
theorem wq_55 : Cond.code yX7_init cX7_init 1 none ∈ zTb := zmem 55 (by decide +kernel) rfl
theorem wq_54 : Cond.instanceMethod yX7_init ∈ zTb := zmem 54 (by decide +kernel) rfl
theorem is_L_9 : zIs RL 9 yX7_init cX7_init 1 := ⟨zwsN wq_55, wi_7, wq_54, rfl, by decide +kernel, by decide +kernel, by decide +kernel⟩
theorem wq_53 : Cond.methodLink RL 9 yX7_init ∈ zTb := zmem 53 (by decide +kernel) rfl
theorem wq_832 : Cond.code yX8_init cX8_init 2 none ∈ zTb := zmem 832 (by decide +kernel) rfl
theorem wq_831 : Cond.instanceMethod yX8_init ∈ zTb := zmem 831 (by decide +kernel) rfl
theorem is_L_12 : zIs RL 12 yX8_init cX8_init 2 := ⟨zwsN wq_832, wi_8, wq_831, rfl, by decide +kernel, by decide +kernel, by decide +kernel⟩
theorem wq_830 : Cond.methodLink RL 12 yX8_init ∈ zTb := zmem 830 (by decide +kernel) rfl
set_option maxHeartbeats 4000000 in
set_option maxRecDepth 100000 in
theorem zt_R {cI cJ : ClassId} {h : Nat} {w : va_W} (hw : zTmR cI cJ h w) : ∃ adr : Nat → Nat, w = zW 0 cI cJ adr zS0 ∧ adr 0 = h := by
  obtain ⟨n, t, g, k, l, x, a, _, _, _, _, _, _, _, ⟨ng, nk, ns, np, nb, _, _, _, _, _, ⟨ng_1, ng_2, ng_3, ng_4, ng_5, rfl⟩, ⟨nk_1, nk_2, rfl⟩, ⟨ns_1, rfl⟩, ⟨np_1, rfl⟩, ⟨nb_1, rfl⟩, rfl⟩, ⟨tg, tk, ts, tp, tb, _, _, _, _, _, ⟨tg_1, tg_2, tg_3, tg_4, tg_5, rfl⟩, ⟨tk_1, tk_2, rfl⟩, ⟨ts_1, rfl⟩, ⟨tp_1, rfl⟩, ⟨tb_1, rfl⟩, rfl⟩, ⟨g_1, g_2, g_3, g_4, g_5, rfl⟩, ⟨k_1, k_2, rfl⟩, ⟨l_1, rfl⟩, ⟨x_1, x_2, x_3, x_4, rfl⟩, ⟨a_1, a_2, a_3, rfl⟩, rfl⟩ := hw
  exact ⟨fun i => ([h, n, ng, ng_1, ng_2, ng_3, ng_4, ng_5, nk, nk_1, nk_2, ns, ns_1, np, np_1, nb, nb_1, t, tg, tg_1, tg_2, tg_3, tg_4, tg_5, tk, tk_1, tk_2, ts, ts_1, tp, tp_1, tb, tb_1, g, g_1, g_2, g_3, g_4, g_5, k, k_1, k_2, l, l_1, x, x_1, x_2, x_3, x_4, a, a_1, a_2, a_3] : List Nat).getD i 0, rfl, rfl⟩
set_option maxHeartbeats 4000000 in
set_option maxRecDepth 100000 in
theorem zt_M {cI cJ : ClassId} {h : Nat} {w : va_W} (hw : zTmM cI cJ h w) : ∃ adr : Nat → Nat, w = zW 1 cI cJ adr zS1 ∧ adr 0 = h := by
  obtain ⟨q1, q2, q3, q4, q5, q6, q7, q8, q9, q10, q11, q12, q13, q14, rfl⟩ := hw
  exact ⟨fun i => ([h, q1, q2, q3, q4, q5, q6, q7, q8, q9, q10, q11, q12, q13, q14] : List Nat).getD i 0, rfl, rfl⟩
theorem zP_left {D : va_G} {cl : List vw_C} {a b : va_W} {H : Heap} (h : va_P D cl (a ++ b) H) : va_P D cl a H ∧ va_P D cl b H := by
  refine ⟨fun k q hq => h k q ?_, fun k q hq => h (a.length + k) q ?_⟩
  · rw [List.getElem?_append_left (List.getElem?_eq_some_iff.mp hq).1]
    exact hq
  · rw [List.getElem?_append_right (by omega), show a.length + k - a.length = k by omega]
    exact hq
theorem zLa_of {s : State} {cI cJ : ClassId} {adA adB : Nat → Nat} {σ τ : zkS} (h : va_D (fun q => s.heap.size ≤ q) (zW 0 cI cJ adA σ ++ zW 1 cI cJ adB τ)) : zLa s adA adB := by
  have l0 : (zW 0 cI cJ adA σ).length = 53 := by simp [zW, zsz]
  have gA : ∀ a, a < zsz 0 → (zW 0 cI cJ adA σ ++ zW 1 cI cJ adB τ)[a]? = some (adA a, zcn 0 cI cJ adA σ a) := fun a ha => by
    rw [List.getElem?_append_left (by rw [l0]; exact ha)]
    exact zW_at ha
  have gB : ∀ a, a < zsz 1 → (zW 0 cI cJ adA σ ++ zW 1 cI cJ adB τ)[53 + a]? = some (adB a, zcn 1 cI cJ adB τ a) := fun a ha => by
    rw [List.getElem?_append_right (by rw [l0]; omega), l0, show 53 + a - 53 = a by omega]
    exact zW_at ha
  refine ⟨fun a ha => h.2 _ _ (gA a ha), fun a ha => h.2 _ _ (gB a ha), fun i j hi hj e => h.1 i j _ _ (gA i hi) (gA j hj) e, fun i j hi hj e => ?_, fun a b ha hb e => ?_⟩
  · have := h.1 _ _ _ _ (gB i hi) (gB j hj) e
    omega
  · have h1 := h.1 _ _ _ _ (gA a ha) (gB b hb) e
    have h2 : a < 53 := ha
    omega
theorem zU_of {s : State} {b : Nat} (hts : ∀ w ∈ lw_tbl, w.before #[Value.ref b] s = true) (hgv : (Jvm.Cond.and given_1 narrow_1).before #[Value.ref b] s = true) : zUN 0 (fun q => s.heap.size ≤ q) s s.heap := by
  intro _
  have hs := flat_of_before _ hgv
  have hA : ∀ a : Nat, a < s.heap.size → ¬ (fun q => s.heap.size ≤ q) a := fun a h => Nat.not_le.mpr h
  obtain ⟨t, ht, hT⟩ := va_Tof (s := s) (args := #[Value.ref b]) (tm := .static "ReversedLinks" "UNDER" "[I") (ty := .int) (N := 7) (f := fun j => .int (zUT j)) (A := fun q => s.heap.size ≤ q) (by decide) (hs _ (by decide +kernel)) (va_eqt (z := 7) (hs _ (by decide +kernel))) (fun j hj => by
    match j, hj with
    | 0, _ => exact va_eqt (z := -1) (hs (.eq (.elem (.static "ReversedLinks" "UNDER" "[I") (.int 0)) (.int (-1))) (by decide +kernel))
    | 1, _ => exact va_eqt (z := 0) (hs (.eq (.elem (.static "ReversedLinks" "UNDER" "[I") (.int 1)) (.int 0)) (by decide +kernel))
    | 2, _ => exact va_eqt (z := 0) (hs (.eq (.elem (.static "ReversedLinks" "UNDER" "[I") (.int 2)) (.int 0)) (by decide +kernel))
    | 3, _ => exact va_eqt (z := 0) (hs (.eq (.elem (.static "ReversedLinks" "UNDER" "[I") (.int 3)) (.int 0)) (by decide +kernel))
    | 4, _ => exact va_eqt (z := 3) (hs (.eq (.elem (.static "ReversedLinks" "UNDER" "[I") (.int 4)) (.int 3)) (by decide +kernel))
    | 5, _ => exact va_eqt (z := 2) (hs (.eq (.elem (.static "ReversedLinks" "UNDER" "[I") (.int 5)) (.int 2)) (by decide +kernel))
    | 6, _ => exact va_eqt (z := 1) (hs (.eq (.elem (.static "ReversedLinks" "UNDER" "[I") (.int 6)) (.int 1)) (by decide +kernel))) hA
  exact ⟨t, va_Zref (hts (Cond.laysStatic "ReversedLinks" "UNDER" "[I") (List.mem_of_getElem? (i := 780) (by decide +kernel))) (hts (Cond.initialized "ReversedLinks") (List.mem_filter.mp wi_7).1) ht hA, hT⟩
theorem zN_of {s : State} {b : Nat} (hts : ∀ w ∈ lw_tbl, w.before #[Value.ref b] s = true) : zN s := by
  intro q hq
  have h : zNs.all (fun q => decide (Cond.methodLinkNest q.1 q.2.1 q.2.2.1 q.2.2.2 ∈ lw_tbl)) = true := by decide +kernel
  have h1 := List.all_eq_true.mp h q hq
  rw [decide_eq_true_eq] at h1
  exact va_Nw.of rfl (hts _ h1)
set_option maxHeartbeats 4000000 in
set_option maxRecDepth 100000 in
theorem whole_start {p : Program} {e : Env} {s : State} {m : MethodId} {below : List Frame} {meth : Method} {c : Code} (l : Launch) (hflags : l.flags = flags0) {b L : Nat} {xs : Nat → Int32} (hL : L ≤ 3072) (C0 : lw_At p s m meth c b L xs) : W p l e room_1 s m #[Value.ref b] below meth c s.heap [] 0 0 (lw_Z below #[Value.ref b] s) (entryFrame m ([Value.ref b] : List Value).toArray 4) := by
  obtain ⟨hx, hb, hr, hml, hown, hts, hX, hbl, hlocks, hgv⟩ := id C0
  have htz : ∀ w ∈ zTb, w.before #[Value.ref b] s = true := fun w hw => hts w (List.mem_filter.mp hw).1
  obtain ⟨c0, i0, k0⟩ := u_known (C := RX0) (T := TX0) (N := 8) (n := 8) htz iX0 (htz _ wq_66)
  obtain ⟨c1, i1, k1⟩ := u_known (C := RX1) (T := TX1) (N := 2) (n := 2) htz iX1 (htz _ wq_203)
  obtain ⟨c2, i2, k2⟩ := u_known (C := RX2) (T := TX2) (N := 15) (n := 15) htz iX2 (htz _ wq_105)
  obtain ⟨c3, i3, k3⟩ := u_known (C := RX3) (T := TX3) (N := 2) (n := 2) htz iX3 (htz _ wq_164)
  obtain ⟨c4, i4, k4⟩ := u_known (C := RX4) (T := TX4) (N := 5) (n := 5) htz iX4 (htz _ wq_60)
  obtain ⟨c5, i5, k5⟩ := u_known (C := RX5) (T := TX5) (N := 3) (n := 3) htz iX5 (htz _ wq_253)
  obtain ⟨c6, i6, k6⟩ := u_known (C := RX6) (T := TX6) (N := 9) (n := 9) htz iX6 (htz _ wq_216)
  obtain ⟨c7, i7, k7⟩ := u_known (C := RX7) (T := TX7) (N := 8) (n := 8) htz iX7 (htz _ wq_52)
  obtain ⟨c8, i8, k8⟩ := u_known (C := RX8) (T := TX8) (N := 20) (n := 20) htz iX8 (htz _ wq_829)
  obtain ⟨dC, dI, hKc⟩ : ∃ (dC : Nat → ClassId) (dI : Nat → Nat → Nat), ∀ (k : Nat) (q : vw_C), vwCl[k]? = some q → u_Kn s q.1 q.2.1 q.2.2 (dC k) (dI k) := by
    refine ⟨fun k => if k = 0 then c0 else if k = 1 then c1 else if k = 2 then c2 else if k = 3 then c3 else if k = 4 then c4 else if k = 5 then c5 else if k = 6 then c6 else if k = 7 then c7 else c8, fun k => if k = 0 then i0 else if k = 1 then i1 else if k = 2 then i2 else if k = 3 then i3 else if k = 4 then i4 else if k = 5 then i5 else if k = 6 then i6 else if k = 7 then i7 else i8, ?_⟩
    intro k q hq
    match k, hq with
    | 0, hq => cases hq; exact k0
    | 1, hq => cases hq; exact k1
    | 2, hq => cases hq; exact k2
    | 3, hq => cases hq; exact k3
    | 4, hq => cases hq; exact k4
    | 5, hq => cases hq; exact k5
    | 6, hq => cases hq; exact k6
    | 7, hq => cases hq; exact k7
    | 8, hq => cases hq; exact k8
    | k + 9, hq => simp [vwCl] at hq
  obtain ⟨cI, kI, oI, f1, f2, f3⟩ := Cond.arrayClass_spec (htz _ wq_103)
  obtain ⟨cJ, kJ, oJ, g1, g2, g3⟩ := Cond.arrayClass_spec (htz _ wq_269)
  have hK : va_K (dC, dI) vwCl (zT cI cJ) s := ⟨hKc, fun k q hq => by
    match k, hq with
    | 0, hq => cases hq; exact ⟨fun n z => ⟨fun k h => (by cases h), kI, f2, oI, f3⟩, f1⟩
    | 1, hq => cases hq; exact ⟨fun n z => ⟨fun k h => (by cases h), kJ, g2, oJ, g3⟩, g1⟩
    | k + 2, hq => simp at hq⟩
  have hC : zKc p s m c #[Value.ref b] code RL 4 (dC, dI) cI cJ := ⟨hx, hb, hml, hown, htz, hK, zN_of hts⟩
  have hl := lv_entry ([.ref b]) (n := 4) (Nat.le_of_ble_eq_true rfl)
  rw [lg_entry_eq]
  generalize (lg_sl ([.ref b]) ++ List.replicate (4 - (lg_sl ([.ref b])).length) Slot.unset).toArray = ls at hl ⊢
  have hl : lv_has ls 4 [(0, .ref b)] := hl
  have hV : zVo (dC, dI) (fun q => s.heap.size ≤ q) s [] s.heap [] := ⟨fun k q h => by simp at h, ⟨fun i j p q h => by simp at h, fun k q h => by simp at h⟩, va_S.rf, fun q h => h⟩
  refine zk_new hC hV nw_L_7 ⟨Nat.le_of_ble_eq_true rfl, Nat.le_of_ble_eq_true rfl⟩ dL_law_0 (fun qR H hV => ?_)
  refine lv_dup hx hb dL_law_3 rfl ?_
  refine zk_init (wr := []) hC hV (mX7_init (l := l) (D := (dC, dI)) (cI := cI) (cJ := cJ)) is_L_9 (Or.inl wq_53) ⟨⟨rfl, rfl⟩, Nat.le_of_ble_eq_true rfl, Nat.le_of_ble_eq_true rfl⟩ hl.1 (Nat.le_of_ble_eq_true rfl) dL_law_4 ⟨Nat.le_of_ble_eq_true rfl, Nat.le_of_ble_eq_true rfl⟩ (fun wR H locs hwR hV => ?_)
  refine lv_astore_n (lv' := [(1, .ref qR), (0, .ref b)]) hx hb dL_law_7 rfl hl (by decide) rfl (fun ls hl => ?_)
  refine zk_new hC hV nw_L_10 ⟨Nat.le_of_ble_eq_true rfl, Nat.le_of_ble_eq_true rfl⟩ dL_law_8 (fun qM H hV => ?_)
  refine lv_dup hx hb dL_law_11 rfl ?_
  refine zk_init (wr := [] ++ wR) hC hV (mX8_init (l := l) (D := (dC, dI)) (cI := cI) (cJ := cJ)) is_L_12 (Or.inl wq_830) ⟨⟨rfl, rfl⟩, Nat.le_of_ble_eq_true rfl, Nat.le_of_ble_eq_true rfl⟩ hl.1 (Nat.le_of_ble_eq_true rfl) dL_law_12 ⟨Nat.le_of_ble_eq_true rfl, Nat.le_of_ble_eq_true rfl⟩ (fun wM H2 locs2 hwM hV2 => ?_)
  refine lv_astore_n (lv' := [(2, .ref qM), (1, .ref qR), (0, .ref b)]) hx hb dL_law_15 rfl hl (by decide) rfl (fun ls hl => ?_)
  refine lv_iconst (v := 0) hx hb dL_law_16 (by decide) ?_
  refine lv_istore_n (lv' := [(3, .int 0), (2, .ref qM), (1, .ref qR), (0, .ref b)]) hx hb dL_law_17 rfl hl (by decide) rfl (fun ls hl => ?_)
  refine W.widen (k := 68) (n := 4074) (Nat.le_of_ble_eq_true rfl) (Nat.le_of_ble_eq_true rfl) ?_
  obtain ⟨adA, rfl, rfl⟩ := zt_R hwR
  obtain ⟨adB, rfl, rfl⟩ := zt_M hwM
  have hP := zP_left (show va_P (dC, dI) vwCl (zW 0 cI cJ adA zS0 ++ zW 1 cI cJ adB zS1) H2 from hV2.1)
  exact lw_loop (D := (dC, dI)) (cI := cI) (cJ := cJ) (adA := adA) (adB := adB) ⟨hx, hb, hml, hown, htz, hK, zN_of hts, zU_of hts hgv⟩ hr hlocks (zLa_of (show va_D _ (zW 0 cI cJ adA zS0 ++ zW 1 cI cJ adB zS1) from hV2.2.1)) hX hbl hL (L + 1) 0 0 zS0 zS1 (Nat.zero_le _) (by omega) T_init H2 locs2 ⟨hP.1, hP.2, hV2.2.2.1⟩ ls (lv_sub hl [3, 2, 1, 0] rfl) nI_0.symm
set_option maxHeartbeats 4000000 in
theorem lw_walk (l : Launch) (hflags : l.flags = flags0) (b : Addr) (xs : List Int32) : MetFree l x (headSpec (Jvm.Cond.code x code maxLocals ret :: tables_1) room_1) (lw_P b xs) (fun _ _ _ _ _ => True) lw_Q := by
  refine MetFree.of_bodyS (code := code) (maxLocals := maxLocals) (ret := ret) (by decide) ?_ ?_
  · intro args s m h hn
    obtain ⟨meth, c, h1, h2, h3, h4, h5, h6, -, -⟩ := Cond.code_spec hn (atoms_spec (ws := Jvm.Cond.code x code maxLocals ret :: tables_1) h _ List.mem_cons_self)
    exact ⟨meth, c, h1, h2, h3, h4, h5, h6⟩
  · intro p e s m args below meth c s₁ B hml0 hP _
    obtain ⟨rfl, hx, hbd, hgv⟩ := hP
    obtain ⟨scr, harrAt, hlist, hof, hsmall⟩ := hx
    obtain ⟨hcb, hkn, -, -⟩ := State.arrayAt?_spec harrAt
    have hown : s.vm.findClass R_law = some m.cls := findClass_of_methodNamed B.named
    have hts0 : ∀ c ∈ (Jvm.Cond.code x code maxLocals ret :: tables_1), c.before #[Value.ref b] s = true := atoms_spec (ws := Jvm.Cond.code x code maxLocals ret :: tables_1) B.pre
    have hts : ∀ w ∈ lw_tbl, w.before #[Value.ref b] s = true := k2_hts_sels lw_privs (fun w hw => hts0 w (List.mem_cons_of_mem _ hw)) lw_privs_ok
    have hml : c.maxLocals = 4 := B.maxLocals_eq (hts0 _ List.mem_cons_self)
    have X₀ : Stand p l e room_1 s m #[Value.ref b] below meth c s₁ [] 0 0 := Stand.of_body B
    have hh0 : s₁.heap = s.heap := by rw [B.state]; rfl
    have hsz : scr.slots.size = xs.length := by rw [← Array.length_toList, hlist, List.length_map]
    have hval : ∀ j : Nat, j < xs.length → scr.slots[j]? = some (.int (xs.getD j 0)) := fun j hj => by
      rw [← Array.getElem?_toList, hlist]
      simp [hj]
    have hbl : b < s.heap.size := (Array.getElem?_eq_some_iff.mp hcb).1
    have hX : va_X b xs.length (fun j => xs.getD j 0) s s.heap := ⟨scr, hcb, hof, hkn, hsz, hval⟩
    have K : W p l e room_1 s m #[Value.ref b] below meth c s₁.heap [] 0 0 (lw_Z below #[Value.ref b] s) (entryFrame m ([Value.ref b] : List Value).toArray 4) := by
      rw [hh0]
      exact whole_start l hflags hbd ⟨B.exec, B.bytes, B.returns, hml, hown, hts, hX, hbl, B.notSynchronized, hgv⟩
    obtain ⟨t, a1, o, b1, b2, b3⟩ := K s₁ rfl X₀
    exact ⟨t, o, a1, b1, b2, b3⟩
theorem lw_pre_spec {args : Array Value} {s : State} (h : (Jvm.Cond.and given_1 narrow_1).before args s = true) (hr : rest_1_c.before args s = true) : ∃ (b : Addr) (xs : List Int32), lw_P b xs args s := by
  have hs := flat_of_before _ h
  have hq := flat_of_before _ hr
  have hc : (Cond.count 1).before args s = true := hs _ (by decide +kernel)
  have harr : (Cond.arrayOf (.arg 0) .int).before args s = true := hs _ (by decide +kernel)
  have hle : (Cond.le (.length (.arg 0)) (.int 3072)).before args s = true := hs _ (by decide +kernel)
  have hlen : (Cond.isInt (.length (.arg 0))).before args s = true := hq _ (by decide +kernel)
  have hall : (Cond.all (.arg 0) (.isInt (.elem (.arg 0) (.index 0)))).before args s = true := hq _ (by decide +kernel)
  obtain ⟨b, xs, hb, hx⟩ := State.ints_of_pre rfl harr hlen hall
  have hsm : xs.length < 2 ^ 31 := hx.choose_spec.2.2.2
  have hev : (Term.length (.arg 0)).eval args s none [] s = some (.int xs.length.toInt32) := hx.length_eval hb
  have hv := Cond.le_ints hev (show (Term.int 3072).eval args s none [] s = some (.int 3072) from rfl)
  have hd : xs.length.toInt32 ≤ 3072 := by
    simpa [Cond.before, Cond.holds, hv] using hle
  have hN : xs.length ≤ 3072 := (Int32.ofNat_le_ofNat hsm (by decide)).mp (show Int32.ofNat xs.length ≤ Int32.ofNat 3072 from hd)
  exact ⟨b, xs, Cond.one_arg hc (show args[0]? = some (.ref b) from hb), hx, hN, h⟩
theorem lw_comes (l : Launch) (hflags : l.flags = flags0) : Comes l x (Jvm.Cond.code x code maxLocals ret :: tables_1) room_1 (fun tb e args s => Calls_1 tb e args s ∧ rest_1 tb e args s ∧ Pre_1 tb e args s)
    (fun _ _ args s o t => lw_Q args s o t) := by
  intro p e ha hc hk s m args below hf hfit hheap happ hpre
  obtain ⟨b, xs, hP⟩ := lw_pre_spec hpre.2.2 hpre.2.1
  obtain ⟨k, o, h1, h2, h3, hQ⟩ := lw_walk l hflags b xs p e ha hc hk s m args below hf ((Spec.applies_iff_loose hf).mp happ).1 hP trivial
  exact ⟨k, o, h1, h2, h3, hQ⟩
theorem lw_frame {s t : State} {o : Outcome} {args : Array Value} (h : Framed s o t [] 68 4074) :
    Framed s o t (fieldLocs frame_1_writes args s ++ arrayLocs frame_1_arrays args s ++ staticLocs frame_1_statics s) 68 4074 := h
theorem lw_limb (L : Cond) (hL : ∀ (args : Array Value) (s t : State), L.after args s (.returned (some (.int 1))) t = true) :
    ArmFor flags0 classFile x code maxLocals ret World_1 tables_1 room_1 Calls_1 rest_1 Pre_1
      (fun tb e a s o t => postC L tb e a s o t ∧ Framed s o t (fieldLocs frame_1_writes a s ++ arrayLocs frame_1_arrays a s ++ staticLocs frame_1_statics s) 68 4074) := by
  intro l hflags _ _ p e ha hc hk s m args below hf hfit hheap happ hpre
  obtain ⟨k, o, h1, h2, h3, rfl, hF⟩ := lw_comes l hflags p e ha hc hk s m args below hf hfit hheap happ hpre
  exact ⟨k, _, h1, h2, h3, hL args s _, lw_frame hF⟩
theorem i_vc : Claimed_1_1 ∧ Claimed_1_2 := ⟨lw_limb limb_1_1 (fun args s t => by simp [limb_1_1, Cond.after, Cond.holds, Cond.value]), lw_limb limb_1_2 (fun args s t => Cond.after_iff.mpr (by
  first | (rw [show limb_1_2 = Cond.eq .result (.int 1) from rfl, Cond.eq_ints (x := 1) (y := 1) rfl rfl]; simp; done) | (simp [limb_1_2, Cond.value, Term.eval]; done)))⟩
