set_option maxHeartbeats 4000000 in
set_option maxRecDepth 100000 in
theorem mX8_begin {l : Launch} {D : va_G} {cI cJ : ClassId} {adr : Nat → Nat} (p1 : Int32) (s0 : zkS) {z : Nat} {ro : Int32} {so : zkS} (hI : zInj 1 adr) (hf : fX8_begin p1 s0 = some (ro, so)) : Met l yX8_begin (Cond.code yX8_begin cX8_begin 2 (some .int) :: zTb) { frames := 2, cells := 0, slots := 0, locals := 40 } (zPre 1 D cI cJ adr s0 z [.ref (adr 0), .int p1]) (zQi 1 D cI cJ adr z ro so) 0 0 (zA 1 adr z) := by
  refine zen (cc := cX8_begin) (own := RX8) (by decide +kernel) rfl hI (Nat.le_of_ble_eq_true rfl) (fun p e s m args below meth c ls hC hr hlk hz hl hW => ?_)
  subst hz
  obtain ⟨hx, hb, -⟩ := id hC
  have hl : lv_has ls 2 [(0, .ref (adr 0)), (1, .int p1)] := hl
  refine zst hW (fun H locs hW => ?_)
  unfold fX8_begin at hf
  refine lv_iload_n hx hb dX8_begin_0 rfl (lv_at hl 1 rfl) ?_
  refine lv_i2l hx hb dX8_begin_1 rfl ?_
  refine lv_lconst (v := 0) hx hb dX8_begin_2 (by decide) ?_
  refine lv_ldc2 hx hb hC.2.2.2.1 (hC.2.2.2.2.1 _ wq_1034) dX8_begin_3 ?_
  refine zc_i hW (zrun_s (As := [.long ((p1 : Int32).toInt64), .long 0, .long 8]) (rest := []) hC hW (mX8_in ((p1 : Int32).toInt64) 0 8 s0 hC.2.2.2.2.2.2.2 rfl) cs_X8_57 rfl ⟨⟨rfl, rfl⟩, Nat.le_of_ble_eq_true rfl, Nat.le_of_ble_eq_true rfl⟩ (zlv_size hl) rfl (Nat.le_of_ble_eq_true rfl) dX8_begin_6 ⟨Nat.le_refl _, Nat.le_refl _⟩) (fun H locs hW => ?_)
  refine zi_if_ne (tgt := 15) hx hb dX8_begin_9 (by decide) hf (fun hc hf => ?_) (fun hc hf => ?_)
  · skip
    refine lv_bipush (v := (-2)) hx hb dX8_begin_12 (by decide) ?_
    exact zr_i hx hb hr hlk hW (zo1 hf) (zo2 hf) dX8_begin_14
  · skip
    refine lv_aload_n hx hb dX8_begin_15 rfl (lv_at hl 0 rfl) ?_
    refine zg_a (o := 0) hC hW fl_X8_11 zck_1_0 zcs_1_0 (show _ = 1 from rfl) dX8_begin_16 ?_
    refine lv_iconst (v := 2) hx hb dX8_begin_19 (by decide) ?_
    refine za_l hC hW hf zar_1_1 dX8_begin_20 (fun v2 hf => ?_)
    refine lv_iconst (v := 1) hx hb dX8_begin_21 (by decide) ?_
    refine zi_icmp_ne (tgt := 28) hx hb dX8_begin_22 (by decide) hf (fun hc hf => ?_) (fun hc hf => ?_)
    · skip
      refine lv_bipush (v := (-3)) hx hb dX8_begin_25 (by decide) ?_
      exact zr_i hx hb hr hlk hW (zo1 hf) (zo2 hf) dX8_begin_27
    · skip
      refine lv_aload_n hx hb dX8_begin_28 rfl (lv_at hl 0 rfl) ?_
      refine zg_a (o := 0) hC hW fl_X8_11 zck_1_0 zcs_1_0 (show _ = 1 from rfl) dX8_begin_29 ?_
      refine lv_iload_n hx hb dX8_begin_32 rfl (lv_at hl 1 rfl) ?_
      obtain ⟨s3, hq, hf⟩ := zb1_o hf
      refine zc_v hW (zrun_s (As := [.ref (adr 1), .int p1]) (rest := []) hC hW (mX8_starts zMc_1 p1 s0 hC.2.2.2.2.2.2.2 hq) cs_X8_212 rfl ⟨⟨rfl, rfl⟩, Nat.le_of_ble_eq_true rfl, Nat.le_of_ble_eq_true rfl⟩ (zlv_size hl) rfl (Nat.le_of_ble_eq_true rfl) dX8_begin_33 ⟨Nat.le_refl _, Nat.le_refl _⟩) (fun H locs hW => ?_)
      refine lv_aload_n hx hb dX8_begin_36 rfl (lv_at hl 0 rfl) ?_
      obtain ⟨v4, hq, hf⟩ := zb1_o hf
      refine zc_i hW (zrun_v (As := []) (rest := []) hC hW (mX8_there s3 hC.2.2.2.2.2.2.2 hq) cv_X8_215 zck_1_0 zcs_1_0 rfl ⟨⟨rfl, rfl⟩, Nat.le_of_ble_eq_true rfl, Nat.le_of_ble_eq_true rfl⟩ (zlv_size hl) rfl (Nat.le_of_ble_eq_true rfl) dX8_begin_37 ⟨Nat.le_refl _, Nat.le_refl _⟩) (fun H locs hW => ?_)
      exact zr_i hx hb hr hlk hW (zo1 hf) (zo2 hf) dX8_begin_40
set_option maxHeartbeats 4000000 in
set_option maxRecDepth 100000 in
theorem mX8_step {l : Launch} {D : va_G} {cI cJ : ClassId} {adr : Nat → Nat} (p1 : Int32) (s0 : zkS) {z : Nat} {ro : Int32} {so : zkS} (hI : zInj 1 adr) (hf : fX8_step p1 s0 = some (ro, so)) : Met l yX8_step (Cond.code yX8_step cX8_step 2 (some .int) :: zTb) { frames := 4, cells := 0, slots := 0, locals := 89 } (zPre 1 D cI cJ adr s0 z [.ref (adr 0), .int p1]) (zQi 1 D cI cJ adr z ro so) 0 0 (zA 1 adr z) := by
  refine zen (cc := cX8_step) (own := RX8) (by decide +kernel) rfl hI (Nat.le_of_ble_eq_true rfl) (fun p e s m args below meth c ls hC hr hlk hz hl hW => ?_)
  subst hz
  obtain ⟨hx, hb, -⟩ := id hC
  have hl : lv_has ls 2 [(0, .ref (adr 0)), (1, .int p1)] := hl
  refine zst hW (fun H locs hW => ?_)
  unfold fX8_step at hf
  refine lv_iload_n hx hb dX8_step_0 rfl (lv_at hl 1 rfl) ?_
  refine lv_i2l hx hb dX8_step_1 rfl ?_
  refine lv_lconst (v := 0) hx hb dX8_step_2 (by decide) ?_
  refine lv_ldc2 hx hb hC.2.2.2.1 (hC.2.2.2.2.1 _ wq_1047) dX8_step_3 ?_
  refine zc_i hW (zrun_s (As := [.long ((p1 : Int32).toInt64), .long 0, .long 99]) (rest := []) hC hW (mX8_in ((p1 : Int32).toInt64) 0 99 s0 hC.2.2.2.2.2.2.2 rfl) cs_X8_57 rfl ⟨⟨rfl, rfl⟩, Nat.le_of_ble_eq_true rfl, Nat.le_of_ble_eq_true rfl⟩ (zlv_size hl) rfl (Nat.le_of_ble_eq_true rfl) dX8_step_6 ⟨Nat.le_refl _, Nat.le_refl _⟩) (fun H locs hW => ?_)
  refine zi_if_ne (tgt := 15) hx hb dX8_step_9 (by decide) hf (fun hc hf => ?_) (fun hc hf => ?_)
  · skip
    refine lv_bipush (v := (-2)) hx hb dX8_step_12 (by decide) ?_
    exact zr_i hx hb hr hlk hW (zo1 hf) (zo2 hf) dX8_step_14
  · skip
    refine lv_aload_n hx hb dX8_step_15 rfl (lv_at hl 0 rfl) ?_
    refine zg_a (o := 0) hC hW fl_X8_11 zck_1_0 zcs_1_0 (show _ = 1 from rfl) dX8_step_16 ?_
    refine lv_iconst (v := 2) hx hb dX8_step_19 (by decide) ?_
    refine za_l hC hW hf zar_1_1 dX8_step_20 (fun v2 hf => ?_)
    refine zi_if_ne (tgt := 29) hx hb dX8_step_21 (by decide) hf (fun hc hf => ?_) (fun hc hf => ?_)
    · skip
      refine lv_bipush (v := (-3)) hx hb dX8_step_24 (by decide) ?_
      refine lv_goto (tgt := 37) hx hb dX8_step_26 (by decide) ?_
      exact zr_i hx hb hr hlk hW (zo1 hf) (zo2 hf) dX8_step_37
    · skip
      refine lv_aload_n hx hb dX8_step_29 rfl (lv_at hl 0 rfl) ?_
      refine zg_a (o := 0) hC hW fl_X8_11 zck_1_0 zcs_1_0 (show _ = 1 from rfl) dX8_step_30 ?_
      refine lv_iload_n hx hb dX8_step_33 rfl (lv_at hl 1 rfl) ?_
      obtain ⟨v3, s4, hq, hf⟩ := zb2_o hf
      refine zc_i hW (zrun_s (As := [.ref (adr 1), .int p1]) (rest := []) hC hW (mX8_goes zMc_1 p1 s0 hC.2.2.2.2.2.2.2 hq) cs_X8_221 rfl ⟨⟨rfl, rfl⟩, Nat.le_of_ble_eq_true rfl, Nat.le_of_ble_eq_true rfl⟩ (zlv_size hl) rfl (Nat.le_of_ble_eq_true rfl) dX8_step_34 ⟨Nat.le_refl _, Nat.le_refl _⟩) (fun H locs hW => ?_)
      exact zr_i hx hb hr hlk hW (zo1 hf) (zo2 hf) dX8_step_37
set_option maxHeartbeats 4000000 in
set_option maxRecDepth 100000 in
theorem mX8_leave {l : Launch} {D : va_G} {cI cJ : ClassId} {adr : Nat → Nat} (s0 : zkS) {z : Nat} {ro : Int32} {so : zkS} (hI : zInj 1 adr) (hf : fX8_leave s0 = some (ro, so)) : Met l yX8_leave (Cond.code yX8_leave cX8_leave 2 (some .int) :: zTb) { frames := 2, cells := 0, slots := 0, locals := 33 } (zPre 1 D cI cJ adr s0 z [.ref (adr 0)]) (zQi 1 D cI cJ adr z ro so) 0 0 (zA 1 adr z) := by
  refine zen (cc := cX8_leave) (own := RX8) (by decide +kernel) rfl hI (Nat.le_of_ble_eq_true rfl) (fun p e s m args below meth c ls hC hr hlk hz hl hW => ?_)
  subst hz
  obtain ⟨hx, hb, -⟩ := id hC
  have hl : lv_has ls 2 [(0, .ref (adr 0))] := hl
  refine zst hW (fun H locs hW => ?_)
  unfold fX8_leave at hf
  refine lv_aload_n hx hb dX8_leave_0 rfl (lv_at hl 0 rfl) ?_
  refine zg_a (o := 0) hC hW fl_X8_11 zck_1_0 zcs_1_0 (show _ = 1 from rfl) dX8_leave_1 ?_
  refine lv_iconst (v := 2) hx hb dX8_leave_4 (by decide) ?_
  refine za_l hC hW hf zar_1_1 dX8_leave_5 (fun v1 hf => ?_)
  refine zi_if_ne (tgt := 12) hx hb dX8_leave_6 (by decide) hf (fun hc hf => ?_) (fun hc hf => ?_)
  · skip
    refine lv_bipush (v := (-3)) hx hb dX8_leave_9 (by decide) ?_
    exact zr_i hx hb hr hlk hW (zo1 hf) (zo2 hf) dX8_leave_11
  · skip
    refine lv_aload_n hx hb dX8_leave_12 rfl (lv_at hl 0 rfl) ?_
    refine zg_a (o := 0) hC hW fl_X8_11 zck_1_0 zcs_1_0 (show _ = 1 from rfl) dX8_leave_13 ?_
    obtain ⟨v2, hq, hf⟩ := zb1_o hf
    refine zc_i hW (zrun_s (As := [.ref (adr 1)]) (rest := []) hC hW (mX8_turnedNow zMc_1 s0 hC.2.2.2.2.2.2.2 hq) cs_X8_129 rfl ⟨⟨rfl, rfl⟩, Nat.le_of_ble_eq_true rfl, Nat.le_of_ble_eq_true rfl⟩ (zlv_size hl) rfl (Nat.le_of_ble_eq_true rfl) dX8_leave_16 ⟨Nat.le_refl _, Nat.le_refl _⟩) (fun H locs hW => ?_)
    refine lv_istore_n (lv' := [(1, .int v2), (0, .ref (adr 0))]) hx hb dX8_leave_19 rfl hl (by decide) rfl (fun ls hl => ?_)
    refine lv_aload_n hx hb dX8_leave_20 rfl (lv_at hl 1 rfl) ?_
    refine zg_a (o := 0) hC hW fl_X8_11 zck_1_0 zcs_1_0 (show _ = 1 from rfl) dX8_leave_21 ?_
    refine lv_iconst (v := 2) hx hb dX8_leave_24 (by decide) ?_
    refine lv_iconst (v := 0) hx hb dX8_leave_25 (by decide) ?_
    refine za_s hC hW hf zar_1_1 dX8_leave_26 (fun s3 H locs hf hW => ?_)
    refine lv_iload_n hx hb dX8_leave_27 rfl (lv_at hl 0 rfl) ?_
    exact zr_i hx hb hr hlk hW (zo1 hf) (zo2 hf) dX8_leave_28
set_option maxHeartbeats 4000000 in
set_option maxRecDepth 100000 in
theorem mX8_sweep {l : Launch} {D : va_G} {cI cJ : ClassId} {adr : Nat → Nat} (s0 : zkS) {z : Nat} {ro : Int32} {so : zkS} (hI : zInj 1 adr) (hf : fX8_sweep s0 = some (ro, so)) : Met l yX8_sweep (Cond.code yX8_sweep cX8_sweep 4 (some .int) :: zTb) { frames := 1, cells := 0, slots := 0, locals := 21 } (zPre 1 D cI cJ adr s0 z [.ref (adr 0)]) (zQi 1 D cI cJ adr z ro so) 0 0 (zA 1 adr z) := by
  refine zen (cc := cX8_sweep) (own := RX8) (by decide +kernel) rfl hI (Nat.le_of_ble_eq_true rfl) (fun p e s m args below meth c ls hC hr hlk hz hl hW => ?_)
  subst hz
  obtain ⟨hx, hb, -⟩ := id hC
  have hl : lv_has ls 4 [(0, .ref (adr 0))] := hl
  refine zst hW (fun H locs hW => ?_)
  unfold fX8_sweep at hf
  refine lv_aload_n hx hb dX8_sweep_0 rfl (lv_at hl 0 rfl) ?_
  refine zg_a (o := 0) hC hW fl_X8_11 zck_1_0 zcs_1_0 (show _ = 1 from rfl) dX8_sweep_1 ?_
  refine lv_bipush (v := 15) hx hb dX8_sweep_4 (by decide) ?_
  refine za_l hC hW hf zar_1_1 dX8_sweep_6 (fun v1 hf => ?_)
  refine zi_if_ne (tgt := 13) hx hb dX8_sweep_7 (by decide) hf (fun hc hf => ?_) (fun hc hf => ?_)
  · skip
    refine lv_bipush (v := (-3)) hx hb dX8_sweep_10 (by decide) ?_
    exact zr_i hx hb hr hlk hW (zo1 hf) (zo2 hf) dX8_sweep_12
  · skip
    refine lv_aload_n hx hb dX8_sweep_13 rfl (lv_at hl 0 rfl) ?_
    refine zg_a (o := 0) hC hW fl_X8_11 zck_1_0 zcs_1_0 (show _ = 1 from rfl) dX8_sweep_14 ?_
    refine lv_iconst (v := 1) hx hb dX8_sweep_17 (by decide) ?_
    refine za_l hC hW hf zar_1_1 dX8_sweep_18 (fun v2 hf => ?_)
    refine lv_aload_n hx hb dX8_sweep_19 rfl (lv_at hl 0 rfl) ?_
    refine zg_a (o := 0) hC hW fl_X8_11 zck_1_0 zcs_1_0 (show _ = 1 from rfl) dX8_sweep_20 ?_
    refine lv_bipush (v := 12) hx hb dX8_sweep_23 (by decide) ?_
    refine za_l hC hW hf zar_1_1 dX8_sweep_25 (fun v3 hf => ?_)
    refine lv_iconst (v := (-1)) hx hb dX8_sweep_26 (by decide) ?_
    refine lv_ixor hx hb dX8_sweep_27 ?_
    refine lv_iand hx hb dX8_sweep_28 ?_
    refine zn_i hf (fun v4 hf => ?_)
    refine lv_istore_n (lv' := [(1, .int v4), (0, .ref (adr 0))]) hx hb dX8_sweep_29 rfl hl (by decide) rfl (fun ls hl => ?_)
    refine lv_aload_n hx hb dX8_sweep_30 rfl (lv_at hl 1 rfl) ?_
    refine zg_a (o := 0) hC hW fl_X8_11 zck_1_0 zcs_1_0 (show _ = 1 from rfl) dX8_sweep_31 ?_
    refine lv_iconst (v := 1) hx hb dX8_sweep_34 (by decide) ?_
    refine lv_dup2_11 hx hb dX8_sweep_35 rfl rfl ?_
    refine za_l hC hW hf zar_1_1 dX8_sweep_36 (fun v5 hf => ?_)
    refine lv_aload_n hx hb dX8_sweep_37 rfl (lv_at hl 1 rfl) ?_
    refine zg_a (o := 0) hC hW fl_X8_11 zck_1_0 zcs_1_0 (show _ = 1 from rfl) dX8_sweep_38 ?_
    refine lv_bipush (v := 12) hx hb dX8_sweep_41 (by decide) ?_
    refine za_l hC hW hf zar_1_1 dX8_sweep_43 (fun v6 hf => ?_)
    refine lv_iand hx hb dX8_sweep_44 ?_
    refine za_s hC hW hf zar_1_1 dX8_sweep_45 (fun s7 H locs hf hW => ?_)
    refine lv_iconst (v := 0) hx hb dX8_sweep_46 (by decide) ?_
    refine lv_istore_n (lv' := [(2, .int 0), (1, .int v4), (0, .ref (adr 0))]) hx hb dX8_sweep_47 rfl hl (by decide) rfl (fun ls hl => ?_)
    have hL48 : ∀ (n : Nat) (x1 : Int32) (x2 : Int32) (s8 : zkS) (K48 : zkS → Option (Int32 × zkS)) (H : Heap) (locs : List Loc) (ls : Array Slot), fX8_sweep_L48 n x1 x2 s8 K48 = some (ro, so) → zWo 1 D cI cJ adr s s8 H locs → lv_has ls 4 [(0, .ref (adr 0)), (1, .int x1), (2, .int x2)] → (∀ (s8 : zkS) (H : Heap) (locs : List Loc) (ls : Array Slot), K48 s8 = some (ro, so) → zWo 1 D cI cJ adr s s8 H locs → lv_has ls 4 [(0, .ref (adr 0)), (1, .int x1)] → W p l e { frames := 1, cells := 0, slots := 0, locals := 21 } s m args below meth c H locs 0 0 (MQ below (zQi 1 D cI cJ adr s.heap.size ro so) args s 0 0 (zA 1 adr s.heap.size)) (F0 m 116 ls [])) → W p l e { frames := 1, cells := 0, slots := 0, locals := 21 } s m args below meth c H locs 0 0 (MQ below (zQi 1 D cI cJ adr s.heap.size ro so) args s 0 0 (zA 1 adr s.heap.size)) (F0 m 48 ls []) := by
      intro n
      induction n with
      | zero =>
        intro x1 x2 s8 K48 H locs ls hf hW hl hK48
        rw [fX8_sweep_L48] at hf
        cases hf
      | succ n ih48 =>
        intro x1 x2 s8 K48 H locs ls hf hW hl hK48
        rw [fX8_sweep_L48] at hf
        refine lv_iload_n hx hb dX8_sweep_48 rfl (lv_at hl 2 rfl) ?_
        refine lv_sipush (v := 144) hx hb dX8_sweep_49 (by decide) ?_
        refine zi_icmp_ge (tgt := 116) hx hb dX8_sweep_52 (by decide) hf (fun hc hf => ?_) (fun hc hf => ?_)
        · skip
          exact hK48 s8 H locs ls hf hW (lv_sub hl [0, 1] rfl)
        · skip
          refine lv_aload_n hx hb dX8_sweep_55 rfl (lv_at hl 0 rfl) ?_
          refine zg_a (o := 0) hC hW fl_X8_11 zck_1_0 zcs_1_0 (show _ = 1 from rfl) dX8_sweep_56 ?_
          refine lv_sipush (v := 140) hx hb dX8_sweep_59 (by decide) ?_
          refine lv_iload_n hx hb dX8_sweep_62 rfl (lv_at hl 2 rfl) ?_
          refine lv_iadd hx hb dX8_sweep_63 ?_
          refine lv_aload_n hx hb dX8_sweep_64 rfl (lv_at hl 0 rfl) ?_
          refine zg_a (o := 0) hC hW fl_X8_11 zck_1_0 zcs_1_0 (show _ = 1 from rfl) dX8_sweep_65 ?_
          refine lv_sipush (v := 140) hx hb dX8_sweep_68 (by decide) ?_
          refine lv_iload_n hx hb dX8_sweep_71 rfl (lv_at hl 2 rfl) ?_
          refine lv_iadd hx hb dX8_sweep_72 ?_
          refine za_l hC hW hf zar_1_1 dX8_sweep_73 (fun v9 hf => ?_)
          refine zi_if_lt (tgt := 99) hx hb dX8_sweep_74 (by decide) hf (fun hc hf => ?_) (fun hc hf => ?_)
          · skip
            refine lv_aload_n hx hb dX8_sweep_99 rfl (lv_at hl 0 rfl) ?_
            refine zg_a (o := 0) hC hW fl_X8_11 zck_1_0 zcs_1_0 (show _ = 1 from rfl) dX8_sweep_100 ?_
            refine lv_sipush (v := 140) hx hb dX8_sweep_103 (by decide) ?_
            refine lv_iload_n hx hb dX8_sweep_106 rfl (lv_at hl 2 rfl) ?_
            refine lv_iadd hx hb dX8_sweep_107 ?_
            refine za_l hC hW hf zar_1_1 dX8_sweep_108 (fun v10 hf => ?_)
            refine za_s hC hW hf zar_1_1 dX8_sweep_109 (fun s11 H locs hf hW => ?_)
            refine zi_inc (v := (x2 + 1)) (lv' := fun v12 => [(2, .int v12), (0, .ref (adr 0)), (1, .int x1)]) hx hb dX8_sweep_110 hl (k := 2) rfl rfl (by decide) (fun _ => rfl) hf (fun v12 ls hf hl => ?_)
            refine lv_goto (tgt := 48) hx hb dX8_sweep_113 (by decide) ?_
            exact ih48 x1 v12 s11 _ H locs ls hf hW (lv_sub hl [1, 2, 0] rfl) hK48
          · skip
            refine lv_iload_n hx hb dX8_sweep_77 rfl (lv_at hl 1 rfl) ?_
            refine lv_aload_n hx hb dX8_sweep_78 rfl (lv_at hl 0 rfl) ?_
            refine zg_a (o := 0) hC hW fl_X8_11 zck_1_0 zcs_1_0 (show _ = 1 from rfl) dX8_sweep_79 ?_
            refine lv_sipush (v := 140) hx hb dX8_sweep_82 (by decide) ?_
            refine lv_iload_n hx hb dX8_sweep_85 rfl (lv_at hl 2 rfl) ?_
            refine lv_iadd hx hb dX8_sweep_86 ?_
            refine za_l hC hW hf zar_1_1 dX8_sweep_87 (fun v13 hf => ?_)
            refine zc_i hW (zrun_s (As := [.int x1, .int v13]) (rest := [.int (140 + x2), .ref (adr 1)]) hC hW (mX8_bit x1 v13 s8 hC.2.2.2.2.2.2.2 rfl) cs_X8_61 rfl ⟨⟨rfl, rfl⟩, Nat.le_of_ble_eq_true rfl, Nat.le_of_ble_eq_true rfl⟩ (zlv_size hl) rfl (Nat.le_of_ble_eq_true rfl) dX8_sweep_88 ⟨Nat.le_refl _, Nat.le_refl _⟩) (fun H locs hW => ?_)
            refine zi_if_eq (tgt := 99) hx hb dX8_sweep_91 (by decide) hf (fun hc hf => ?_) (fun hc hf => ?_)
            · skip
              refine lv_aload_n hx hb dX8_sweep_99 rfl (lv_at hl 0 rfl) ?_
              refine zg_a (o := 0) hC hW fl_X8_11 zck_1_0 zcs_1_0 (show _ = 1 from rfl) dX8_sweep_100 ?_
              refine lv_sipush (v := 140) hx hb dX8_sweep_103 (by decide) ?_
              refine lv_iload_n hx hb dX8_sweep_106 rfl (lv_at hl 2 rfl) ?_
              refine lv_iadd hx hb dX8_sweep_107 ?_
              refine za_l hC hW hf zar_1_1 dX8_sweep_108 (fun v15 hf => ?_)
              refine za_s hC hW hf zar_1_1 dX8_sweep_109 (fun s16 H locs hf hW => ?_)
              refine zi_inc (v := (x2 + 1)) (lv' := fun v17 => [(2, .int v17), (0, .ref (adr 0)), (1, .int x1)]) hx hb dX8_sweep_110 hl (k := 2) rfl rfl (by decide) (fun _ => rfl) hf (fun v17 ls hf hl => ?_)
              refine lv_goto (tgt := 48) hx hb dX8_sweep_113 (by decide) ?_
              exact ih48 x1 v17 s16 _ H locs ls hf hW (lv_sub hl [1, 2, 0] rfl) hK48
            · skip
              refine lv_bipush (v := (-5)) hx hb dX8_sweep_94 (by decide) ?_
              refine lv_goto (tgt := 109) hx hb dX8_sweep_96 (by decide) ?_
              refine za_s hC hW hf zar_1_1 dX8_sweep_109 (fun s18 H locs hf hW => ?_)
              refine zi_inc (v := (x2 + 1)) (lv' := fun v19 => [(2, .int v19), (0, .ref (adr 0)), (1, .int x1)]) hx hb dX8_sweep_110 hl (k := 2) rfl rfl (by decide) (fun _ => rfl) hf (fun v19 ls hf hl => ?_)
              refine lv_goto (tgt := 48) hx hb dX8_sweep_113 (by decide) ?_
              exact ih48 x1 v19 s18 _ H locs ls hf hW (lv_sub hl [1, 2, 0] rfl) hK48
    refine hL48 zFU v4 0 s7 _ H locs ls hf hW (lv_sub hl [2, 1, 0] rfl) (fun s20 H locs ls hf hW hl => ?_)
    refine lv_iconst (v := 0) hx hb dX8_sweep_116 (by decide) ?_
    refine lv_istore_n (lv' := [(2, .int 0), (0, .ref (adr 0)), (1, .int v4)]) hx hb dX8_sweep_117 rfl hl (by decide) rfl (fun ls hl => ?_)
    have hL118 : ∀ (n : Nat) (x1 : Int32) (x2 : Int32) (s21 : zkS) (K118 : zkS → Option (Int32 × zkS)) (H : Heap) (locs : List Loc) (ls : Array Slot), fX8_sweep_L118 n x1 x2 s21 K118 = some (ro, so) → zWo 1 D cI cJ adr s s21 H locs → lv_has ls 4 [(0, .ref (adr 0)), (1, .int x1), (2, .int x2)] → (∀ (s21 : zkS) (H : Heap) (locs : List Loc) (ls : Array Slot), K118 s21 = some (ro, so) → zWo 1 D cI cJ adr s s21 H locs → lv_has ls 4 [(0, .ref (adr 0)), (1, .int x1)] → W p l e { frames := 1, cells := 0, slots := 0, locals := 21 } s m args below meth c H locs 0 0 (MQ below (zQi 1 D cI cJ adr s.heap.size ro so) args s 0 0 (zA 1 adr s.heap.size)) (F0 m 169 ls [])) → W p l e { frames := 1, cells := 0, slots := 0, locals := 21 } s m args below meth c H locs 0 0 (MQ below (zQi 1 D cI cJ adr s.heap.size ro so) args s 0 0 (zA 1 adr s.heap.size)) (F0 m 118 ls []) := by
      intro n
      induction n with
      | zero =>
        intro x1 x2 s21 K118 H locs ls hf hW hl hK118
        rw [fX8_sweep_L118] at hf
        cases hf
      | succ n ih118 =>
        intro x1 x2 s21 K118 H locs ls hf hW hl hK118
        rw [fX8_sweep_L118] at hf
        refine lv_iload_n hx hb dX8_sweep_118 rfl (lv_at hl 2 rfl) ?_
        refine lv_bipush (v := 24) hx hb dX8_sweep_119 (by decide) ?_
        refine zi_icmp_ge (tgt := 169) hx hb dX8_sweep_121 (by decide) hf (fun hc hf => ?_) (fun hc hf => ?_)
        · skip
          exact hK118 s21 H locs ls hf hW (lv_sub hl [0, 1] rfl)
        · skip
          refine lv_iconst (v := 0) hx hb dX8_sweep_124 (by decide) ?_
          refine lv_istore_n (lv' := [(3, .int 0), (0, .ref (adr 0)), (1, .int x1), (2, .int x2)]) hx hb dX8_sweep_125 rfl hl (by decide) rfl (fun ls hl => ?_)
          have hL126 : ∀ (n : Nat) (x1 : Int32) (x2 : Int32) (x3 : Int32) (s22 : zkS) (K126 : zkS → Option (Int32 × zkS)) (H : Heap) (locs : List Loc) (ls : Array Slot), fX8_sweep_L126 n x1 x2 x3 s22 K126 = some (ro, so) → zWo 1 D cI cJ adr s s22 H locs → lv_has ls 4 [(0, .ref (adr 0)), (1, .int x1), (2, .int x2), (3, .int x3)] → (∀ (s22 : zkS) (H : Heap) (locs : List Loc) (ls : Array Slot), K126 s22 = some (ro, so) → zWo 1 D cI cJ adr s s22 H locs → lv_has ls 4 [(0, .ref (adr 0)), (1, .int x1), (2, .int x2)] → W p l e { frames := 1, cells := 0, slots := 0, locals := 21 } s m args below meth c H locs 0 0 (MQ below (zQi 1 D cI cJ adr s.heap.size ro so) args s 0 0 (zA 1 adr s.heap.size)) (F0 m 163 ls [])) → W p l e { frames := 1, cells := 0, slots := 0, locals := 21 } s m args below meth c H locs 0 0 (MQ below (zQi 1 D cI cJ adr s.heap.size ro so) args s 0 0 (zA 1 adr s.heap.size)) (F0 m 126 ls []) := by
            intro n
            induction n with
            | zero =>
              intro x1 x2 x3 s22 K126 H locs ls hf hW hl hK126
              rw [fX8_sweep_L126] at hf
              cases hf
            | succ n ih126 =>
              intro x1 x2 x3 s22 K126 H locs ls hf hW hl hK126
              rw [fX8_sweep_L126] at hf
              refine lv_iload_n hx hb dX8_sweep_126 rfl (lv_at hl 1 rfl) ?_
              refine lv_iload_n hx hb dX8_sweep_127 rfl (lv_at hl 2 rfl) ?_
              refine zc_i hW (zrun_s (As := [.int x1, .int x2]) (rest := []) hC hW (mX8_bit x1 x2 s22 hC.2.2.2.2.2.2.2 rfl) cs_X8_61 rfl ⟨⟨rfl, rfl⟩, Nat.le_of_ble_eq_true rfl, Nat.le_of_ble_eq_true rfl⟩ (zlv_size hl) rfl (Nat.le_of_ble_eq_true rfl) dX8_sweep_128 ⟨Nat.le_refl _, Nat.le_refl _⟩) (fun H locs hW => ?_)
              refine zi_if_eq (tgt := 163) hx hb dX8_sweep_131 (by decide) hf (fun hc hf => ?_) (fun hc hf => ?_)
              · skip
                exact hK126 s22 H locs ls hf hW (lv_sub hl [0, 1, 2] rfl)
              · skip
                refine lv_iload_n hx hb dX8_sweep_134 rfl (lv_at hl 3 rfl) ?_
                refine lv_bipush (v := 6) hx hb dX8_sweep_135 (by decide) ?_
                refine zi_icmp_ge (tgt := 163) hx hb dX8_sweep_137 (by decide) hf (fun hc hf => ?_) (fun hc hf => ?_)
                · skip
                  exact hK126 s22 H locs ls hf hW (lv_sub hl [0, 1, 2] rfl)
                · skip
                  refine lv_aload_n hx hb dX8_sweep_140 rfl (lv_at hl 0 rfl) ?_
                  refine zg_a (o := 0) hC hW fl_X8_11 zck_1_0 zcs_1_0 (show _ = 1 from rfl) dX8_sweep_141 ?_
                  refine lv_sipush (v := 140) hx hb dX8_sweep_144 (by decide) ?_
                  refine lv_bipush (v := 6) hx hb dX8_sweep_147 (by decide) ?_
                  refine lv_iload_n hx hb dX8_sweep_149 rfl (lv_at hl 2 rfl) ?_
                  refine lv_imul hx hb dX8_sweep_150 ?_
                  refine lv_iadd hx hb dX8_sweep_151 ?_
                  refine lv_iload_n hx hb dX8_sweep_152 rfl (lv_at hl 3 rfl) ?_
                  refine lv_iadd hx hb dX8_sweep_153 ?_
                  refine lv_bipush (v := (-5)) hx hb dX8_sweep_154 (by decide) ?_
                  refine za_s hC hW hf zar_1_1 dX8_sweep_156 (fun s24 H locs hf hW => ?_)
                  refine zi_inc (v := (x3 + 1)) (lv' := fun v25 => [(3, .int v25), (0, .ref (adr 0)), (1, .int x1), (2, .int x2)]) hx hb dX8_sweep_157 hl (k := 3) rfl rfl (by decide) (fun _ => rfl) hf (fun v25 ls hf hl => ?_)
                  refine lv_goto (tgt := 126) hx hb dX8_sweep_160 (by decide) ?_
                  exact ih126 x1 x2 v25 s24 _ H locs ls hf hW (lv_sub hl [1, 2, 3, 0] rfl) hK126
          refine hL126 zFU x1 x2 0 s21 _ H locs ls hf hW (lv_sub hl [1, 2, 3, 0] rfl) (fun s26 H locs ls hf hW hl => ?_)
          refine zi_inc (v := (x2 + 1)) (lv' := fun v27 => [(2, .int v27), (0, .ref (adr 0)), (1, .int x1)]) hx hb dX8_sweep_163 hl (k := 2) rfl rfl (by decide) (fun _ => rfl) hf (fun v27 ls hf hl => ?_)
          refine lv_goto (tgt := 118) hx hb dX8_sweep_166 (by decide) ?_
          exact ih118 x1 v27 s26 _ H locs ls hf hW (lv_sub hl [1, 2, 0] rfl) hK118
    refine hL118 zFU v4 0 s20 _ H locs ls hf hW (lv_sub hl [1, 2, 0] rfl) (fun s28 H locs ls hf hW hl => ?_)
    refine lv_aload_n hx hb dX8_sweep_169 rfl (lv_at hl 0 rfl) ?_
    refine zg_a (o := 0) hC hW fl_X8_11 zck_1_0 zcs_1_0 (show _ = 1 from rfl) dX8_sweep_170 ?_
    refine lv_bipush (v := 12) hx hb dX8_sweep_173 (by decide) ?_
    refine lv_iconst (v := 0) hx hb dX8_sweep_175 (by decide) ?_
    refine za_s hC hW hf zar_1_1 dX8_sweep_176 (fun s29 H locs hf hW => ?_)
    refine lv_aload_n hx hb dX8_sweep_177 rfl (lv_at hl 0 rfl) ?_
    refine zg_a (o := 0) hC hW fl_X8_11 zck_1_0 zcs_1_0 (show _ = 1 from rfl) dX8_sweep_178 ?_
    refine lv_bipush (v := 15) hx hb dX8_sweep_181 (by decide) ?_
    refine lv_iconst (v := 0) hx hb dX8_sweep_183 (by decide) ?_
    refine za_s hC hW hf zar_1_1 dX8_sweep_184 (fun s30 H locs hf hW => ?_)
    refine lv_iload_n hx hb dX8_sweep_185 rfl (lv_at hl 1 rfl) ?_
    refine zc_i hW (zrun_s (As := [.int v4]) (rest := []) hC hW (mJ6_bitCount_0f7a4 v4 s30 hC.2.2.2.2.2.2.2 rfl) cs_X8_205 rfl ⟨⟨rfl, rfl⟩, Nat.le_of_ble_eq_true rfl, Nat.le_of_ble_eq_true rfl⟩ (zlv_size hl) rfl (Nat.le_of_ble_eq_true rfl) dX8_sweep_186 ⟨Nat.le_refl _, Nat.le_refl _⟩) (fun H locs hW => ?_)
    exact zr_i hx hb hr hlk hW (zo1 hf) (zo2 hf) dX8_sweep_189
set_option maxHeartbeats 4000000 in
set_option maxRecDepth 100000 in
theorem mX8_left {l : Launch} {D : va_G} {cI cJ : ClassId} {adr : Nat → Nat} (s0 : zkS) {z : Nat} {ro : Int32} {so : zkS} (hI : zInj 1 adr) (hf : fX8_left s0 = some (ro, so)) : Met l yX8_left (Cond.code yX8_left cX8_left 2 (some .int) :: zTb) { frames := 3, cells := 0, slots := 0, locals := 67 } (zPre 1 D cI cJ adr s0 z [.ref (adr 0)]) (zQi 1 D cI cJ adr z ro so) 0 0 (zA 1 adr z) := by
  refine zen (cc := cX8_left) (own := RX8) (by decide +kernel) rfl hI (Nat.le_of_ble_eq_true rfl) (fun p e s m args below meth c ls hC hr hlk hz hl hW => ?_)
  subst hz
  obtain ⟨hx, hb, -⟩ := id hC
  have hl : lv_has ls 2 [(0, .ref (adr 0))] := hl
  refine zst hW (fun H locs hW => ?_)
  unfold fX8_left at hf
  refine lv_aload_n hx hb dX8_left_0 rfl (lv_at hl 0 rfl) ?_
  refine zg_a (o := 0) hC hW fl_X8_11 zck_1_0 zcs_1_0 (show _ = 1 from rfl) dX8_left_1 ?_
  refine lv_aload_n hx hb dX8_left_4 rfl (lv_at hl 0 rfl) ?_
  refine zg_a (o := 1) hC hW fl_X8_15 zck_1_0 zcs_1_0 (show _ = 2 from rfl) dX8_left_5 ?_
  obtain ⟨s1, hq, hf⟩ := zb1_o hf
  refine zc_v hW (zrun_s (As := [.ref (adr 1), .ref (adr 2)]) (rest := []) hC hW (mX8_copies zMc_1 zMc_2 s0 hC.2.2.2.2.2.2.2 hq) cs_X8_224 rfl ⟨⟨rfl, rfl⟩, Nat.le_of_ble_eq_true rfl, Nat.le_of_ble_eq_true rfl⟩ (zlv_size hl) rfl (Nat.le_of_ble_eq_true rfl) dX8_left_8 ⟨Nat.le_refl _, Nat.le_refl _⟩) (fun H locs hW => ?_)
  refine lv_iconst (v := 0) hx hb dX8_left_11 (by decide) ?_
  refine lv_istore_n (lv' := [(1, .int 0), (0, .ref (adr 0))]) hx hb dX8_left_12 rfl hl (by decide) rfl (fun ls hl => ?_)
  have hL13 : ∀ (n : Nat) (x1 : Int32) (s2 : zkS) (K13 : Int32 → zkS → Option (Int32 × zkS)) (H : Heap) (locs : List Loc) (ls : Array Slot), fX8_left_L13 n x1 s2 K13 = some (ro, so) → zWo 1 D cI cJ adr s s2 H locs → lv_has ls 2 [(0, .ref (adr 0)), (1, .int x1)] → (∀ (x1 : Int32) (s2 : zkS) (H : Heap) (locs : List Loc) (ls : Array Slot), K13 x1 s2 = some (ro, so) → zWo 1 D cI cJ adr s s2 H locs → lv_has ls 2 [(1, .int x1)] → W p l e { frames := 3, cells := 0, slots := 0, locals := 67 } s m args below meth c H locs 0 0 (MQ below (zQi 1 D cI cJ adr s.heap.size ro so) args s 0 0 (zA 1 adr s.heap.size)) (F0 m 36 ls [])) → W p l e { frames := 3, cells := 0, slots := 0, locals := 67 } s m args below meth c H locs 0 0 (MQ below (zQi 1 D cI cJ adr s.heap.size ro so) args s 0 0 (zA 1 adr s.heap.size)) (F0 m 13 ls []) := by
    intro n
    induction n with
    | zero =>
      intro x1 s2 K13 H locs ls hf hW hl hK13
      rw [fX8_left_L13] at hf
      cases hf
    | succ n ih13 =>
      intro x1 s2 K13 H locs ls hf hW hl hK13
      rw [fX8_left_L13] at hf
      refine lv_aload_n hx hb dX8_left_13 rfl (lv_at hl 0 rfl) ?_
      refine zg_a (o := 1) hC hW fl_X8_15 zck_1_0 zcs_1_0 (show _ = 2 from rfl) dX8_left_14 ?_
      refine lv_iconst (v := 2) hx hb dX8_left_17 (by decide) ?_
      refine za_l hC hW hf zar_1_2 dX8_left_18 (fun v3 hf => ?_)
      refine lv_iconst (v := 1) hx hb dX8_left_19 (by decide) ?_
      refine zi_icmp_ne (tgt := 36) hx hb dX8_left_20 (by decide) hf (fun hc hf => ?_) (fun hc hf => ?_)
      · skip
        refine lv_aload_n hx hb dX8_left_23 rfl (lv_at hl 0 rfl) ?_
        refine zg_a (o := 1) hC hW fl_X8_15 zck_1_0 zcs_1_0 (show _ = 2 from rfl) dX8_left_24 ?_
        obtain ⟨s4, hq, hf⟩ := zb1_o hf
        refine zc_v hW (zrun_s (As := [.ref (adr 2)]) (rest := []) hC hW (mX8_steps zMc_2 s2 hC.2.2.2.2.2.2.2 hq) cs_X8_202 rfl ⟨⟨rfl, rfl⟩, Nat.le_of_ble_eq_true rfl, Nat.le_of_ble_eq_true rfl⟩ (zlv_size hl) rfl (Nat.le_of_ble_eq_true rfl) dX8_left_27 ⟨Nat.le_refl _, Nat.le_refl _⟩) (fun H locs hW => ?_)
        refine zi_inc (v := (x1 + 1)) (lv' := fun v5 => [(1, .int v5), (0, .ref (adr 0))]) hx hb dX8_left_30 hl (k := 1) rfl rfl (by decide) (fun _ => rfl) hf (fun v5 ls hf hl => ?_)
        refine lv_goto (tgt := 13) hx hb dX8_left_33 (by decide) ?_
        exact ih13 v5 s4 _ H locs ls hf hW (lv_sub hl [1, 0] rfl) hK13
      · skip
        exact hK13 x1 s2 H locs ls hf hW (lv_sub hl [1] rfl)
  refine hL13 zFU 0 s1 _ H locs ls hf hW (lv_sub hl [1, 0] rfl) (fun x6 s7 H locs ls hf hW hl => ?_)
  refine lv_iload_n hx hb dX8_left_36 rfl (lv_at hl 0 rfl) ?_
  exact zr_i hx hb hr hlk hW (zo1 hf) (zo2 hf) dX8_left_37
set_option maxHeartbeats 4000000 in
set_option maxRecDepth 100000 in
theorem mX8_told_ {l : Launch} {D : va_G} {cI cJ : ClassId} {adr : Nat → Nat} (p1 : Int32) (s0 : zkS) {z : Nat} {ro : Int32} {so : zkS} (hI : zInj 1 adr) (hf : fX8_told_ p1 s0 = some (ro, so)) : Met l yX8_told_ (Cond.code yX8_told_ cX8_told_ 3 (some .int) :: zTb) { frames := 4, cells := 0, slots := 0, locals := 93 } (zPre 1 D cI cJ adr s0 z [.ref (adr 0), .int p1]) (zQi 1 D cI cJ adr z ro so) 0 0 (zA 1 adr z) := by
  refine zen (cc := cX8_told_) (own := RX8) (by decide +kernel) rfl hI (Nat.le_of_ble_eq_true rfl) (fun p e s m args below meth c ls hC hr hlk hz hl hW => ?_)
  subst hz
  obtain ⟨hx, hb, -⟩ := id hC
  have hl : lv_has ls 3 [(0, .ref (adr 0)), (1, .int p1)] := hl
  refine zst hW (fun H locs hW => ?_)
  unfold fX8_told_ at hf
  refine lv_aload_n hx hb dX8_told__0 rfl (lv_at hl 0 rfl) ?_
  refine zg_a (o := 0) hC hW fl_X8_11 zck_1_0 zcs_1_0 (show _ = 1 from rfl) dX8_told__1 ?_
  refine lv_iconst (v := 2) hx hb dX8_told__4 (by decide) ?_
  refine za_l hC hW hf zar_1_1 dX8_told__5 (fun v1 hf => ?_)
  refine lv_iconst (v := 1) hx hb dX8_told__6 (by decide) ?_
  refine zjn_e hf (fun J2 => ∀ (v3 : Int32) (H : Heap) (locs : List Loc) (ls : Array Slot), J2 v3 = some (ro, so) → zWo 1 D cI cJ adr s s0 H locs → lv_has ls 3 [(0, .ref (adr 0)), (1, .int p1)] → W p l e { frames := 4, cells := 0, slots := 0, locals := 93 } s m args below meth c H locs 0 0 (MQ below (zQi 1 D cI cJ adr s.heap.size ro so) args s 0 0 (zA 1 adr s.heap.size)) (F0 m 15 ls [.int v3])) ?_ (fun J2 hJ2 hf => ?_)
  · intro v3 H locs ls hf hW hl
    refine lv_istore_n (lv' := [(2, .int v3), (0, .ref (adr 0)), (1, .int p1)]) hx hb dX8_told__15 rfl hl (by decide) rfl (fun ls hl => ?_)
    refine lv_iload_n hx hb dX8_told__16 rfl (lv_at hl 2 rfl) ?_
    refine zi_c hf (fun h0 hf => ?_) (fun h0 hf => ?_)
    · skip
      refine zs_in (off := 75) (tgt := 92) hx hb h0 dX8_told__17 (by decide) (by decide) (by decide +kernel) (by decide) ?_
      refine lv_iload_n hx hb dX8_told__92 rfl (lv_at hl 0 rfl) ?_
      refine zc_i hW (zrun_s (As := [.int v3]) (rest := []) hC hW (mX8_flag v3 s0 hC.2.2.2.2.2.2.2 rfl) cs_X8_106 rfl ⟨⟨rfl, rfl⟩, Nat.le_of_ble_eq_true rfl, Nat.le_of_ble_eq_true rfl⟩ (zlv_size hl) rfl (Nat.le_of_ble_eq_true rfl) dX8_told__93 ⟨Nat.le_refl _, Nat.le_refl _⟩) (fun H locs hW => ?_)
      exact zr_i hx hb hr hlk hW (zo1 hf) (zo2 hf) dX8_told__96
    · skip
      refine zi_c hf (fun h1 hf => ?_) (fun h1 hf => ?_)
      · skip
        refine zs_in (off := 80) (tgt := 97) hx hb h1 dX8_told__17 (by decide) (by decide) (by decide +kernel) (by decide) ?_
        refine lv_iload_n hx hb dX8_told__97 rfl (lv_at hl 0 rfl) ?_
        refine zi_if_eq (tgt := 110) hx hb dX8_told__98 (by decide) hf (fun hc hf => ?_) (fun hc hf => ?_)
        · skip
          refine lv_bipush (v := (-5)) hx hb dX8_told__110 (by decide) ?_
          exact zr_i hx hb hr hlk hW (zo1 hf) (zo2 hf) dX8_told__112
        · skip
          refine lv_aload_n hx hb dX8_told__101 rfl (lv_at hl 1 rfl) ?_
          refine zg_a (o := 0) hC hW fl_X8_11 zck_1_0 zcs_1_0 (show _ = 1 from rfl) dX8_told__102 ?_
          refine lv_iconst (v := 4) hx hb dX8_told__105 (by decide) ?_
          refine za_l hC hW hf zar_1_1 dX8_told__106 (fun v5 hf => ?_)
          refine lv_goto (tgt := 112) hx hb dX8_told__107 (by decide) ?_
          exact zr_i hx hb hr hlk hW (zo1 hf) (zo2 hf) dX8_told__112
      · skip
        refine zi_c hf (fun h2 hf => ?_) (fun h2 hf => ?_)
        · skip
          refine zs_in (off := 96) (tgt := 113) hx hb h2 dX8_told__17 (by decide) (by decide) (by decide +kernel) (by decide) ?_
          refine lv_aload_n hx hb dX8_told__113 rfl (lv_at hl 1 rfl) ?_
          refine zg_a (o := 0) hC hW fl_X8_11 zck_1_0 zcs_1_0 (show _ = 1 from rfl) dX8_told__114 ?_
          obtain ⟨v6, hq, hf⟩ := zb1_o hf
          refine zc_i hW (zrun_s (As := [.ref (adr 1)]) (rest := []) hC hW (mX8_back zMc_1 s0 hC.2.2.2.2.2.2.2 hq) cs_X8_228 rfl ⟨⟨rfl, rfl⟩, Nat.le_of_ble_eq_true rfl, Nat.le_of_ble_eq_true rfl⟩ (zlv_size hl) rfl (Nat.le_of_ble_eq_true rfl) dX8_told__117 ⟨Nat.le_refl _, Nat.le_refl _⟩) (fun H locs hW => ?_)
          exact zr_i hx hb hr hlk hW (zo1 hf) (zo2 hf) dX8_told__120
        · skip
          refine zi_c hf (fun h3 hf => ?_) (fun h3 hf => ?_)
          · skip
            refine zs_in (off := 104) (tgt := 121) hx hb h3 dX8_told__17 (by decide) (by decide) (by decide +kernel) (by decide) ?_
            refine lv_aload_n hx hb dX8_told__121 rfl (lv_at hl 1 rfl) ?_
            refine zg_a (o := 0) hC hW fl_X8_11 zck_1_0 zcs_1_0 (show _ = 1 from rfl) dX8_told__122 ?_
            refine lv_bipush (v := 7) hx hb dX8_told__125 (by decide) ?_
            refine za_l hC hW hf zar_1_1 dX8_told__127 (fun v7 hf => ?_)
            exact zr_i hx hb hr hlk hW (zo1 hf) (zo2 hf) dX8_told__128
          · skip
            refine zi_c hf (fun h4 hf => ?_) (fun h4 hf => ?_)
            · skip
              refine zs_in (off := 112) (tgt := 129) hx hb h4 dX8_told__17 (by decide) (by decide) (by decide +kernel) (by decide) ?_
              refine lv_aload_n hx hb dX8_told__129 rfl (lv_at hl 1 rfl) ?_
              refine zg_a (o := 0) hC hW fl_X8_11 zck_1_0 zcs_1_0 (show _ = 1 from rfl) dX8_told__130 ?_
              refine lv_bipush (v := 8) hx hb dX8_told__133 (by decide) ?_
              refine za_l hC hW hf zar_1_1 dX8_told__135 (fun v8 hf => ?_)
              exact zr_i hx hb hr hlk hW (zo1 hf) (zo2 hf) dX8_told__136
            · skip
              refine zi_c hf (fun h5 hf => ?_) (fun h5 hf => ?_)
              · skip
                refine zs_in (off := 120) (tgt := 137) hx hb h5 dX8_told__17 (by decide) (by decide) (by decide +kernel) (by decide) ?_
                refine lv_aload_n hx hb dX8_told__137 rfl (lv_at hl 1 rfl) ?_
                refine zg_a (o := 0) hC hW fl_X8_11 zck_1_0 zcs_1_0 (show _ = 1 from rfl) dX8_told__138 ?_
                refine lv_bipush (v := 9) hx hb dX8_told__141 (by decide) ?_
                refine za_l hC hW hf zar_1_1 dX8_told__143 (fun v9 hf => ?_)
                exact zr_i hx hb hr hlk hW (zo1 hf) (zo2 hf) dX8_told__144
              · skip
                refine zi_c hf (fun h6 hf => ?_) (fun h6 hf => ?_)
                · skip
                  refine zs_in (off := 128) (tgt := 145) hx hb h6 dX8_told__17 (by decide) (by decide) (by decide +kernel) (by decide) ?_
                  refine lv_aload_n hx hb dX8_told__145 rfl (lv_at hl 1 rfl) ?_
                  refine zg_a (o := 0) hC hW fl_X8_11 zck_1_0 zcs_1_0 (show _ = 1 from rfl) dX8_told__146 ?_
                  refine lv_bipush (v := 10) hx hb dX8_told__149 (by decide) ?_
                  refine za_l hC hW hf zar_1_1 dX8_told__151 (fun v10 hf => ?_)
                  exact zr_i hx hb hr hlk hW (zo1 hf) (zo2 hf) dX8_told__152
                · skip
                  refine zi_c hf (fun h7 hf => ?_) (fun h7 hf => ?_)
                  · skip
                    refine zs_in (off := 136) (tgt := 153) hx hb h7 dX8_told__17 (by decide) (by decide) (by decide +kernel) (by decide) ?_
                    refine lv_aload_n hx hb dX8_told__153 rfl (lv_at hl 1 rfl) ?_
                    refine zg_a (o := 0) hC hW fl_X8_11 zck_1_0 zcs_1_0 (show _ = 1 from rfl) dX8_told__154 ?_
                    refine lv_bipush (v := 11) hx hb dX8_told__157 (by decide) ?_
                    refine za_l hC hW hf zar_1_1 dX8_told__159 (fun v11 hf => ?_)
                    exact zr_i hx hb hr hlk hW (zo1 hf) (zo2 hf) dX8_told__160
                  · skip
                    refine zi_c hf (fun h8 hf => ?_) (fun h8 hf => ?_)
                    · skip
                      refine zs_in (off := 144) (tgt := 161) hx hb h8 dX8_told__17 (by decide) (by decide) (by decide +kernel) (by decide) ?_
                      refine lv_aload_n hx hb dX8_told__161 rfl (lv_at hl 1 rfl) ?_
                      refine zg_a (o := 0) hC hW fl_X8_11 zck_1_0 zcs_1_0 (show _ = 1 from rfl) dX8_told__162 ?_
                      refine lv_bipush (v := 12) hx hb dX8_told__165 (by decide) ?_
                      refine za_l hC hW hf zar_1_1 dX8_told__167 (fun v12 hf => ?_)
                      exact zr_i hx hb hr hlk hW (zo1 hf) (zo2 hf) dX8_told__168
                    · skip
                      refine zi_c hf (fun h9 hf => ?_) (fun h9 hf => ?_)
                      · skip
                        refine zs_in (off := 152) (tgt := 169) hx hb h9 dX8_told__17 (by decide) (by decide) (by decide +kernel) (by decide) ?_
                        refine lv_aload_n hx hb dX8_told__169 rfl (lv_at hl 1 rfl) ?_
                        refine zg_a (o := 0) hC hW fl_X8_11 zck_1_0 zcs_1_0 (show _ = 1 from rfl) dX8_told__170 ?_
                        refine lv_bipush (v := 13) hx hb dX8_told__173 (by decide) ?_
                        refine za_l hC hW hf zar_1_1 dX8_told__175 (fun v13 hf => ?_)
                        exact zr_i hx hb hr hlk hW (zo1 hf) (zo2 hf) dX8_told__176
                      · skip
                        refine zi_c hf (fun h10 hf => ?_) (fun h10 hf => ?_)
                        · skip
                          refine zs_in (off := 160) (tgt := 177) hx hb h10 dX8_told__17 (by decide) (by decide) (by decide +kernel) (by decide) ?_
                          refine lv_aload_n hx hb dX8_told__177 rfl (lv_at hl 1 rfl) ?_
                          refine zg_a (o := 0) hC hW fl_X8_11 zck_1_0 zcs_1_0 (show _ = 1 from rfl) dX8_told__178 ?_
                          obtain ⟨v14, hq, hf⟩ := zb1_o hf
                          refine zc_i hW (zrun_s (As := [.ref (adr 1)]) (rest := []) hC hW (mX8_reached zMc_1 s0 hC.2.2.2.2.2.2.2 hq) cs_X8_99 rfl ⟨⟨rfl, rfl⟩, Nat.le_of_ble_eq_true rfl, Nat.le_of_ble_eq_true rfl⟩ (zlv_size hl) rfl (Nat.le_of_ble_eq_true rfl) dX8_told__181 ⟨Nat.le_refl _, Nat.le_refl _⟩) (fun H locs hW => ?_)
                          exact zr_i hx hb hr hlk hW (zo1 hf) (zo2 hf) dX8_told__184
                        · skip
                          refine zi_c hf (fun h11 hf => ?_) (fun h11 hf => ?_)
                          · skip
                            refine zs_in (off := 168) (tgt := 185) hx hb h11 dX8_told__17 (by decide) (by decide) (by decide +kernel) (by decide) ?_
                            refine lv_aload_n hx hb dX8_told__185 rfl (lv_at hl 1 rfl) ?_
                            obtain ⟨v15, s16, hq, hf⟩ := zb2_o hf
                            refine zc_i hW (zrun_v (As := []) (rest := []) hC hW (mX8_left s0 hC.2.2.2.2.2.2.2 hq) cv_X8_231 zck_1_0 zcs_1_0 rfl ⟨⟨rfl, rfl⟩, Nat.le_of_ble_eq_true rfl, Nat.le_of_ble_eq_true rfl⟩ (zlv_size hl) rfl (Nat.le_of_ble_eq_true rfl) dX8_told__186 ⟨Nat.le_refl _, Nat.le_refl _⟩) (fun H locs hW => ?_)
                            exact zr_i hx hb hr hlk hW (zo1 hf) (zo2 hf) dX8_told__189
                          · skip
                            refine zi_c hf (fun h12 hf => ?_) (fun h12 hf => ?_)
                            · skip
                              refine zs_in (off := 173) (tgt := 190) hx hb h12 dX8_told__17 (by decide) (by decide) (by decide +kernel) (by decide) ?_
                              refine lv_iload_n hx hb dX8_told__190 rfl (lv_at hl 0 rfl) ?_
                              refine zi_if_eq (tgt := 213) hx hb dX8_told__191 (by decide) hf (fun hc hf => ?_) (fun hc hf => ?_)
                              · skip
                                refine lv_iconst (v := 0) hx hb dX8_told__213 (by decide) ?_
                                exact zr_i hx hb hr hlk hW (zo1 hf) (zo2 hf) dX8_told__214
                              · skip
                                refine lv_aload_n hx hb dX8_told__194 rfl (lv_at hl 1 rfl) ?_
                                refine zg_a (o := 0) hC hW fl_X8_11 zck_1_0 zcs_1_0 (show _ = 1 from rfl) dX8_told__195 ?_
                                refine lv_bipush (v := 6) hx hb dX8_told__198 (by decide) ?_
                                refine za_l hC hW hf zar_1_1 dX8_told__200 (fun v17 hf => ?_)
                                refine lv_aload_n hx hb dX8_told__201 rfl (lv_at hl 1 rfl) ?_
                                refine zg_a (o := 0) hC hW fl_X8_11 zck_1_0 zcs_1_0 (show _ = 1 from rfl) dX8_told__202 ?_
                                refine lv_iconst (v := 3) hx hb dX8_told__205 (by decide) ?_
                                refine za_l hC hW hf zar_1_1 dX8_told__206 (fun v18 hf => ?_)
                                refine va_mmin hx hb (hC.2.2.1.trans (zlv_size hl).symm) hC.2.2.2.1 (hC.2.2.2.2.1 _ wq_1092) (hC.2.2.2.2.1 _ wq_1093) (hC.2.2.2.2.1 _ wq_50) (hC.2.2.2.2.1 _ wq_1094) (Nat.le_of_ble_eq_true rfl) (Nat.le_of_ble_eq_true rfl) (Nat.le_refl _) (Nat.le_refl _) dX8_told__207 ?_
                                refine lv_goto (tgt := 214) hx hb dX8_told__210 (by decide) ?_
                                exact zr_i hx hb hr hlk hW (zo1 hf) (zo2 hf) dX8_told__214
                            · skip
                              refine zi_c hf (fun h13 hf => ?_) (fun h13 hf => ?_)
                              · skip
                                refine zs_in (off := 198) (tgt := 215) hx hb h13 dX8_told__17 (by decide) (by decide) (by decide +kernel) (by decide) ?_
                                refine lv_aload_n hx hb dX8_told__215 rfl (lv_at hl 1 rfl) ?_
                                refine zg_a (o := 0) hC hW fl_X8_11 zck_1_0 zcs_1_0 (show _ = 1 from rfl) dX8_told__216 ?_
                                refine lv_iconst (v := 1) hx hb dX8_told__219 (by decide) ?_
                                refine za_l hC hW hf zar_1_1 dX8_told__220 (fun v19 hf => ?_)
                                exact zr_i hx hb hr hlk hW (zo1 hf) (zo2 hf) dX8_told__221
                              · skip
                                refine zi_c hf (fun h14 hf => ?_) (fun h14 hf => ?_)
                                · skip
                                  refine zs_in (off := 205) (tgt := 222) hx hb h14 dX8_told__17 (by decide) (by decide) (by decide +kernel) (by decide) ?_
                                  refine lv_aload_n hx hb dX8_told__222 rfl (lv_at hl 1 rfl) ?_
                                  refine zg_a (o := 0) hC hW fl_X8_11 zck_1_0 zcs_1_0 (show _ = 1 from rfl) dX8_told__223 ?_
                                  refine lv_bipush (v := 15) hx hb dX8_told__226 (by decide) ?_
                                  refine za_l hC hW hf zar_1_1 dX8_told__228 (fun v20 hf => ?_)
                                  exact zr_i hx hb hr hlk hW (zo1 hf) (zo2 hf) dX8_told__229
                                · skip
                                  refine lv_tableOut (tgt := 230) hx hb dX8_told__17 (by have n0 := lv_neT h0 (show (0 : Int32).toInt = 0 from rfl); have n1 := lv_neT h1 (show (1 : Int32).toInt = 1 from rfl); have n2 := lv_neT h2 (show (2 : Int32).toInt = 2 from rfl); have n3 := lv_neT h3 (show (3 : Int32).toInt = 3 from rfl); have n4 := lv_neT h4 (show (4 : Int32).toInt = 4 from rfl); have n5 := lv_neT h5 (show (5 : Int32).toInt = 5 from rfl); have n6 := lv_neT h6 (show (6 : Int32).toInt = 6 from rfl); have n7 := lv_neT h7 (show (7 : Int32).toInt = 7 from rfl); have n8 := lv_neT h8 (show (8 : Int32).toInt = 8 from rfl); have n9 := lv_neT h9 (show (9 : Int32).toInt = 9 from rfl); have n10 := lv_neT h10 (show (10 : Int32).toInt = 10 from rfl); have n11 := lv_neT h11 (show (11 : Int32).toInt = 11 from rfl); have n12 := lv_neT h12 (show (12 : Int32).toInt = 12 from rfl); have n13 := lv_neT h13 (show (13 : Int32).toInt = 13 from rfl); have n14 := lv_neT h14 (show (14 : Int32).toInt = 14 from rfl); omega) (by decide) ?_
                                  refine lv_iload_n hx hb dX8_told__230 rfl (lv_at hl 2 rfl) ?_
                                  refine lv_i2l hx hb dX8_told__231 rfl ?_
                                  refine lv_ldc2 hx hb hC.2.2.2.1 (hC.2.2.2.2.1 _ wq_1095) dX8_told__232 ?_
                                  refine lv_ldc2 hx hb hC.2.2.2.1 (hC.2.2.2.2.1 _ wq_1096) dX8_told__235 ?_
                                  refine zc_i hW (zrun_s (As := [.long ((p1 : Int32).toInt64), .long 15, .long 18]) (rest := []) hC hW (mX8_in ((p1 : Int32).toInt64) 15 18 s0 hC.2.2.2.2.2.2.2 rfl) cs_X8_57 rfl ⟨⟨rfl, rfl⟩, Nat.le_of_ble_eq_true rfl, Nat.le_of_ble_eq_true rfl⟩ (zlv_size hl) rfl (Nat.le_of_ble_eq_true rfl) dX8_told__238 ⟨Nat.le_refl _, Nat.le_refl _⟩) (fun H locs hW => ?_)
                                  refine zi_if_eq (tgt := 259) hx hb dX8_told__241 (by decide) hf (fun hc hf => ?_) (fun hc hf => ?_)
                                  · skip
                                    refine lv_iconst (v := (-1)) hx hb dX8_told__259 (by decide) ?_
                                    exact zr_i hx hb hr hlk hW (zo1 hf) (zo2 hf) dX8_told__260
                                  · skip
                                    refine lv_aload_n hx hb dX8_told__244 rfl (lv_at hl 1 rfl) ?_
                                    refine zg_a (o := 0) hC hW fl_X8_11 zck_1_0 zcs_1_0 (show _ = 1 from rfl) dX8_told__245 ?_
                                    refine lv_bipush (v := 16) hx hb dX8_told__248 (by decide) ?_
                                    refine lv_iload_n hx hb dX8_told__250 rfl (lv_at hl 2 rfl) ?_
                                    refine lv_iadd hx hb dX8_told__251 ?_
                                    refine lv_bipush (v := 15) hx hb dX8_told__252 (by decide) ?_
                                    refine lv_isub hx hb dX8_told__254 ?_
                                    refine za_l hC hW hf zar_1_1 dX8_told__255 (fun v22 hf => ?_)
                                    refine lv_goto (tgt := 260) hx hb dX8_told__256 (by decide) ?_
                                    exact zr_i hx hb hr hlk hW (zo1 hf) (zo2 hf) dX8_told__260
  refine zi_icmp_ne (tgt := 14) hx hb dX8_told__7 (by decide) hf (fun hc hf => ?_) (fun hc hf => ?_)
  · skip
    refine lv_iconst (v := 1) hx hb dX8_told__10 (by decide) ?_
    refine lv_goto (tgt := 15) hx hb dX8_told__11 (by decide) ?_
    exact hJ2 1 H locs ls hf hW (lv_sub hl [0, 1] rfl)
  · skip
    refine lv_iconst (v := 0) hx hb dX8_told__14 (by decide) ?_
    exact hJ2 0 H locs ls hf hW (lv_sub hl [0, 1] rfl)
set_option maxHeartbeats 4000000 in
set_option maxRecDepth 100000 in
theorem mX8_on {l : Launch} {D : va_G} {cI cJ : ClassId} {adr : Nat → Nat} (p1 : Int32) (p2 : Int32) (s0 : zkS) {z : Nat} {ro : Int32} {so : zkS} (hI : zInj 1 adr) (hf : fX8_on p1 p2 s0 = some (ro, so)) : Met l yX8_on (Cond.code yX8_on cX8_on 4 (some .int) :: zTb) { frames := 4, cells := 0, slots := 0, locals := 89 } (zPre 1 D cI cJ adr s0 z [.ref (adr 0), .int p1, .int p2]) (zQi 1 D cI cJ adr z ro so) 0 0 (zA 1 adr z) := by
  refine zen (cc := cX8_on) (own := RX8) (by decide +kernel) rfl hI (Nat.le_of_ble_eq_true rfl) (fun p e s m args below meth c ls hC hr hlk hz hl hW => ?_)
  subst hz
  obtain ⟨hx, hb, -⟩ := id hC
  have hl : lv_has ls 4 [(0, .ref (adr 0)), (1, .int p1), (2, .int p2)] := hl
  refine zst hW (fun H locs hW => ?_)
  unfold fX8_on at hf
  refine lv_iload_n hx hb dX8_on_0 rfl (lv_at hl 2 rfl) ?_
  refine lv_i2l hx hb dX8_on_1 rfl ?_
  refine lv_lconst (v := 0) hx hb dX8_on_2 (by decide) ?_
  refine lv_ldc2 hx hb hC.2.2.2.1 (hC.2.2.2.2.1 _ wq_1101) dX8_on_3 ?_
  refine zc_i hW (zrun_s (As := [.long ((p2 : Int32).toInt64), .long 0, .long 4]) (rest := []) hC hW (mX8_in ((p2 : Int32).toInt64) 0 4 s0 hC.2.2.2.2.2.2.2 rfl) cs_X8_57 rfl ⟨⟨rfl, rfl⟩, Nat.le_of_ble_eq_true rfl, Nat.le_of_ble_eq_true rfl⟩ (zlv_size hl) rfl (Nat.le_of_ble_eq_true rfl) dX8_on_6 ⟨Nat.le_refl _, Nat.le_refl _⟩) (fun H locs hW => ?_)
  refine zi_if_ne (tgt := 14) hx hb dX8_on_9 (by decide) hf (fun hc hf => ?_) (fun hc hf => ?_)
  · skip
    refine lv_iconst (v := (-1)) hx hb dX8_on_12 (by decide) ?_
    exact zr_i hx hb hr hlk hW (zo1 hf) (zo2 hf) dX8_on_13
  · skip
    refine lv_iload_n hx hb dX8_on_14 rfl (lv_at hl 1 rfl) ?_
    refine lv_i2l hx hb dX8_on_15 rfl ?_
    refine lv_lconst (v := 0) hx hb dX8_on_16 (by decide) ?_
    refine lv_ldc2 hx hb hC.2.2.2.1 (hC.2.2.2.2.1 _ wq_1102) dX8_on_17 ?_
    refine zc_i hW (zrun_s (As := [.long ((p1 : Int32).toInt64), .long 0, .long 400]) (rest := []) hC hW (mX8_in ((p1 : Int32).toInt64) 0 400 s0 hC.2.2.2.2.2.2.2 rfl) cs_X8_57 rfl ⟨⟨rfl, rfl⟩, Nat.le_of_ble_eq_true rfl, Nat.le_of_ble_eq_true rfl⟩ (zlv_size hl) rfl (Nat.le_of_ble_eq_true rfl) dX8_on_20 ⟨Nat.le_refl _, Nat.le_refl _⟩) (fun H locs hW => ?_)
    refine zi_if_ne (tgt := 29) hx hb dX8_on_23 (by decide) hf (fun hc hf => ?_) (fun hc hf => ?_)
    · skip
      refine lv_bipush (v := (-2)) hx hb dX8_on_26 (by decide) ?_
      exact zr_i hx hb hr hlk hW (zo1 hf) (zo2 hf) dX8_on_28
    · skip
      refine lv_aload_n hx hb dX8_on_29 rfl (lv_at hl 0 rfl) ?_
      refine zg_a (o := 0) hC hW fl_X8_11 zck_1_0 zcs_1_0 (show _ = 1 from rfl) dX8_on_30 ?_
      refine lv_aload_n hx hb dX8_on_33 rfl (lv_at hl 0 rfl) ?_
      refine zg_a (o := 1) hC hW fl_X8_15 zck_1_0 zcs_1_0 (show _ = 2 from rfl) dX8_on_34 ?_
      obtain ⟨s3, hq, hf⟩ := zb1_o hf
      refine zc_v hW (zrun_s (As := [.ref (adr 1), .ref (adr 2)]) (rest := []) hC hW (mX8_copies zMc_1 zMc_2 s0 hC.2.2.2.2.2.2.2 hq) cs_X8_224 rfl ⟨⟨rfl, rfl⟩, Nat.le_of_ble_eq_true rfl, Nat.le_of_ble_eq_true rfl⟩ (zlv_size hl) rfl (Nat.le_of_ble_eq_true rfl) dX8_on_37 ⟨Nat.le_refl _, Nat.le_refl _⟩) (fun H locs hW => ?_)
      refine lv_aload_n hx hb dX8_on_40 rfl (lv_at hl 0 rfl) ?_
      refine zg_a (o := 1) hC hW fl_X8_15 zck_1_0 zcs_1_0 (show _ = 2 from rfl) dX8_on_41 ?_
      refine lv_iload_n hx hb dX8_on_44 rfl (lv_at hl 1 rfl) ?_
      obtain ⟨v4, s5, hq, hf⟩ := zb2_o hf
      refine zc_i hW (zrun_s (As := [.ref (adr 2), .int p1]) (rest := []) hC hW (mX8_goes zMc_2 p1 s3 hC.2.2.2.2.2.2.2 hq) cs_X8_221 rfl ⟨⟨rfl, rfl⟩, Nat.le_of_ble_eq_true rfl, Nat.le_of_ble_eq_true rfl⟩ (zlv_size hl) rfl (Nat.le_of_ble_eq_true rfl) dX8_on_45 ⟨Nat.le_refl _, Nat.le_refl _⟩) (fun H locs hW => ?_)
      refine lv_istore_n (lv' := [(3, .int v4), (0, .ref (adr 0)), (1, .int p1), (2, .int p2)]) hx hb dX8_on_48 rfl hl (by decide) rfl (fun ls hl => ?_)
      refine lv_iload_n hx hb dX8_on_49 rfl (lv_at hl 3 rfl) ?_
      refine zi_c hf (fun h0 hf => ?_) (fun h0 hf => ?_)
      · skip
        refine zs_in (off := 30) (tgt := 80) hx hb h0 dX8_on_50 (by decide) (by decide) (by decide +kernel) (by decide) ?_
        refine lv_aload_n hx hb dX8_on_80 rfl (lv_at hl 1 rfl) ?_
        refine zg_a (o := 1) hC hW fl_X8_15 zck_1_0 zcs_1_0 (show _ = 2 from rfl) dX8_on_81 ?_
        refine lv_iconst (v := 2) hx hb dX8_on_84 (by decide) ?_
        refine za_l hC hW hf zar_1_2 dX8_on_85 (fun v6 hf => ?_)
        refine lv_iconst (v := 1) hx hb dX8_on_86 (by decide) ?_
        refine zi_icmp_ne (tgt := 99) hx hb dX8_on_87 (by decide) hf (fun hc hf => ?_) (fun hc hf => ?_)
        · skip
          refine lv_aload_n hx hb dX8_on_90 rfl (lv_at hl 1 rfl) ?_
          refine zg_a (o := 1) hC hW fl_X8_15 zck_1_0 zcs_1_0 (show _ = 2 from rfl) dX8_on_91 ?_
          refine lv_iconst (v := 4) hx hb dX8_on_94 (by decide) ?_
          refine za_l hC hW hf zar_1_2 dX8_on_95 (fun v7 hf => ?_)
          refine lv_goto (tgt := 101) hx hb dX8_on_96 (by decide) ?_
          exact zr_i hx hb hr hlk hW (zo1 hf) (zo2 hf) dX8_on_101
        · skip
          refine lv_bipush (v := (-5)) hx hb dX8_on_99 (by decide) ?_
          exact zr_i hx hb hr hlk hW (zo1 hf) (zo2 hf) dX8_on_101
      · skip
        refine zi_c hf (fun h1 hf => ?_) (fun h1 hf => ?_)
        · skip
          refine zs_in (off := 52) (tgt := 102) hx hb h1 dX8_on_50 (by decide) (by decide) (by decide +kernel) (by decide) ?_
          refine lv_aload_n hx hb dX8_on_102 rfl (lv_at hl 1 rfl) ?_
          refine zg_a (o := 1) hC hW fl_X8_15 zck_1_0 zcs_1_0 (show _ = 2 from rfl) dX8_on_103 ?_
          obtain ⟨v8, hq, hf⟩ := zb1_o hf
          refine zc_i hW (zrun_s (As := [.ref (adr 2)]) (rest := []) hC hW (mX8_back zMc_2 s5 hC.2.2.2.2.2.2.2 hq) cs_X8_228 rfl ⟨⟨rfl, rfl⟩, Nat.le_of_ble_eq_true rfl, Nat.le_of_ble_eq_true rfl⟩ (zlv_size hl) rfl (Nat.le_of_ble_eq_true rfl) dX8_on_106 ⟨Nat.le_refl _, Nat.le_refl _⟩) (fun H locs hW => ?_)
          exact zr_i hx hb hr hlk hW (zo1 hf) (zo2 hf) dX8_on_109
        · skip
          refine zi_c hf (fun h2 hf => ?_) (fun h2 hf => ?_)
          · skip
            refine zs_in (off := 60) (tgt := 110) hx hb h2 dX8_on_50 (by decide) (by decide) (by decide +kernel) (by decide) ?_
            refine lv_aload_n hx hb dX8_on_110 rfl (lv_at hl 1 rfl) ?_
            refine zg_a (o := 1) hC hW fl_X8_15 zck_1_0 zcs_1_0 (show _ = 2 from rfl) dX8_on_111 ?_
            refine lv_bipush (v := 12) hx hb dX8_on_114 (by decide) ?_
            refine za_l hC hW hf zar_1_2 dX8_on_116 (fun v9 hf => ?_)
            exact zr_i hx hb hr hlk hW (zo1 hf) (zo2 hf) dX8_on_117
          · skip
            refine zi_c hf (fun h3 hf => ?_) (fun h3 hf => ?_)
            · skip
              refine zs_in (off := 68) (tgt := 118) hx hb h3 dX8_on_50 (by decide) (by decide) (by decide +kernel) (by decide) ?_
              refine lv_aload_n hx hb dX8_on_118 rfl (lv_at hl 1 rfl) ?_
              refine zg_a (o := 1) hC hW fl_X8_15 zck_1_0 zcs_1_0 (show _ = 2 from rfl) dX8_on_119 ?_
              obtain ⟨v10, hq, hf⟩ := zb1_o hf
              refine zc_i hW (zrun_s (As := [.ref (adr 2)]) (rest := []) hC hW (mX8_turnedNow zMc_2 s5 hC.2.2.2.2.2.2.2 hq) cs_X8_129 rfl ⟨⟨rfl, rfl⟩, Nat.le_of_ble_eq_true rfl, Nat.le_of_ble_eq_true rfl⟩ (zlv_size hl) rfl (Nat.le_of_ble_eq_true rfl) dX8_on_122 ⟨Nat.le_refl _, Nat.le_refl _⟩) (fun H locs hW => ?_)
              exact zr_i hx hb hr hlk hW (zo1 hf) (zo2 hf) dX8_on_125
            · skip
              refine lv_tableOut (tgt := 126) hx hb dX8_on_50 (by have n0 := lv_neT h0 (show (0 : Int32).toInt = 0 from rfl); have n1 := lv_neT h1 (show (1 : Int32).toInt = 1 from rfl); have n2 := lv_neT h2 (show (2 : Int32).toInt = 2 from rfl); have n3 := lv_neT h3 (show (3 : Int32).toInt = 3 from rfl); omega) (by decide) ?_
              refine lv_aload_n hx hb dX8_on_126 rfl (lv_at hl 1 rfl) ?_
              refine zg_a (o := 1) hC hW fl_X8_15 zck_1_0 zcs_1_0 (show _ = 2 from rfl) dX8_on_127 ?_
              refine lv_bipush (v := 7) hx hb dX8_on_130 (by decide) ?_
              refine za_l hC hW hf zar_1_2 dX8_on_132 (fun v11 hf => ?_)
              exact zr_i hx hb hr hlk hW (zo1 hf) (zo2 hf) dX8_on_133
set_option maxHeartbeats 4000000 in
set_option maxRecDepth 100000 in
theorem mX8_needs {l : Launch} {D : va_G} {cI cJ : ClassId} {adr : Nat → Nat} (p1 : Int32) (p2 : Int32) (s0 : zkS) {z : Nat} {ro : Int32} {so : zkS} (hI : zInj 1 adr) (hf : fX8_needs p1 p2 s0 = some (ro, so)) : Met l yX8_needs (Cond.code yX8_needs cX8_needs 3 (some .int) :: zTb) { frames := 3, cells := 0, slots := 0, locals := 67 } (zPre 1 D cI cJ adr s0 z [.ref (adr 0), .int p1, .int p2]) (zQi 1 D cI cJ adr z ro so) 0 0 (zA 1 adr z) := by
  refine zen (cc := cX8_needs) (own := RX8) (by decide +kernel) rfl hI (Nat.le_of_ble_eq_true rfl) (fun p e s m args below meth c ls hC hr hlk hz hl hW => ?_)
  subst hz
  obtain ⟨hx, hb, -⟩ := id hC
  have hl : lv_has ls 3 [(0, .ref (adr 0)), (1, .int p1), (2, .int p2)] := hl
  refine zst hW (fun H locs hW => ?_)
  unfold fX8_needs at hf
  refine lv_aload_n hx hb dX8_needs_0 rfl (lv_at hl 0 rfl) ?_
  refine zg_a (o := 0) hC hW fl_X8_11 zck_1_0 zcs_1_0 (show _ = 1 from rfl) dX8_needs_1 ?_
  refine lv_aload_n hx hb dX8_needs_4 rfl (lv_at hl 0 rfl) ?_
  refine zg_a (o := 1) hC hW fl_X8_15 zck_1_0 zcs_1_0 (show _ = 2 from rfl) dX8_needs_5 ?_
  obtain ⟨s1, hq, hf⟩ := zb1_o hf
  refine zc_v hW (zrun_s (As := [.ref (adr 1), .ref (adr 2)]) (rest := []) hC hW (mX8_copies zMc_1 zMc_2 s0 hC.2.2.2.2.2.2.2 hq) cs_X8_224 rfl ⟨⟨rfl, rfl⟩, Nat.le_of_ble_eq_true rfl, Nat.le_of_ble_eq_true rfl⟩ (zlv_size hl) rfl (Nat.le_of_ble_eq_true rfl) dX8_needs_8 ⟨Nat.le_refl _, Nat.le_refl _⟩) (fun H locs hW => ?_)
  refine lv_aload_n hx hb dX8_needs_11 rfl (lv_at hl 0 rfl) ?_
  refine zg_a (o := 1) hC hW fl_X8_15 zck_1_0 zcs_1_0 (show _ = 2 from rfl) dX8_needs_12 ?_
  refine lv_iload_n hx hb dX8_needs_15 rfl (lv_at hl 1 rfl) ?_
  obtain ⟨s2, hq, hf⟩ := zb1_o hf
  refine zc_v hW (zrun_s (As := [.ref (adr 2), .int p1]) (rest := []) hC hW (mX8_starts zMc_2 p1 s1 hC.2.2.2.2.2.2.2 hq) cs_X8_212 rfl ⟨⟨rfl, rfl⟩, Nat.le_of_ble_eq_true rfl, Nat.le_of_ble_eq_true rfl⟩ (zlv_size hl) rfl (Nat.le_of_ble_eq_true rfl) dX8_needs_16 ⟨Nat.le_refl _, Nat.le_refl _⟩) (fun H locs hW => ?_)
  have hL19 : ∀ (n : Nat)  (s3 : zkS) (K19 : zkS → Option (Int32 × zkS)) (H : Heap) (locs : List Loc) (ls : Array Slot), fX8_needs_L19 n s3 K19 = some (ro, so) → zWo 1 D cI cJ adr s s3 H locs → lv_has ls 3 [(0, .ref (adr 0)), (2, .int p2)] → (∀ (s3 : zkS) (H : Heap) (locs : List Loc) (ls : Array Slot), K19 s3 = some (ro, so) → zWo 1 D cI cJ adr s s3 H locs → lv_has ls 3 [(0, .ref (adr 0)), (2, .int p2)] → W p l e { frames := 3, cells := 0, slots := 0, locals := 67 } s m args below meth c H locs 0 0 (MQ below (zQi 1 D cI cJ adr s.heap.size ro so) args s 0 0 (zA 1 adr s.heap.size)) (F0 m 39 ls [])) → W p l e { frames := 3, cells := 0, slots := 0, locals := 67 } s m args below meth c H locs 0 0 (MQ below (zQi 1 D cI cJ adr s.heap.size ro so) args s 0 0 (zA 1 adr s.heap.size)) (F0 m 19 ls []) := by
    intro n
    induction n with
    | zero =>
      intro  s3 K19 H locs ls hf hW hl hK19
      rw [fX8_needs_L19] at hf
      cases hf
    | succ n ih19 =>
      intro  s3 K19 H locs ls hf hW hl hK19
      rw [fX8_needs_L19] at hf
      refine lv_aload_n hx hb dX8_needs_19 rfl (lv_at hl 0 rfl) ?_
      refine zg_a (o := 1) hC hW fl_X8_15 zck_1_0 zcs_1_0 (show _ = 2 from rfl) dX8_needs_20 ?_
      refine lv_iconst (v := 2) hx hb dX8_needs_23 (by decide) ?_
      refine za_l hC hW hf zar_1_2 dX8_needs_24 (fun v4 hf => ?_)
      refine lv_iconst (v := 1) hx hb dX8_needs_25 (by decide) ?_
      refine zi_icmp_ne (tgt := 39) hx hb dX8_needs_26 (by decide) hf (fun hc hf => ?_) (fun hc hf => ?_)
      · skip
        refine lv_aload_n hx hb dX8_needs_29 rfl (lv_at hl 0 rfl) ?_
        refine zg_a (o := 1) hC hW fl_X8_15 zck_1_0 zcs_1_0 (show _ = 2 from rfl) dX8_needs_30 ?_
        obtain ⟨s5, hq, hf⟩ := zb1_o hf
        refine zc_v hW (zrun_s (As := [.ref (adr 2)]) (rest := []) hC hW (mX8_steps zMc_2 s3 hC.2.2.2.2.2.2.2 hq) cs_X8_202 rfl ⟨⟨rfl, rfl⟩, Nat.le_of_ble_eq_true rfl, Nat.le_of_ble_eq_true rfl⟩ (zlv_size hl) rfl (Nat.le_of_ble_eq_true rfl) dX8_needs_33 ⟨Nat.le_refl _, Nat.le_refl _⟩) (fun H locs hW => ?_)
        refine lv_goto (tgt := 19) hx hb dX8_needs_36 (by decide) ?_
        exact ih19  s5 _ H locs ls hf hW (lv_sub hl [0, 1] rfl) hK19
      · skip
        exact hK19 s3 H locs ls hf hW (lv_sub hl [0, 1] rfl)
  refine hL19 zFU  s2 _ H locs ls hf hW (lv_sub hl [0, 2] rfl) (fun s6 H locs ls hf hW hl => ?_)
  refine lv_aload_n hx hb dX8_needs_39 rfl (lv_at hl 0 rfl) ?_
  refine zg_a (o := 1) hC hW fl_X8_15 zck_1_0 zcs_1_0 (show _ = 2 from rfl) dX8_needs_40 ?_
  refine lv_bipush (v := 7) hx hb dX8_needs_43 (by decide) ?_
  refine lv_iload_n hx hb dX8_needs_45 rfl (lv_at hl 1 rfl) ?_
  refine lv_iadd hx hb dX8_needs_46 ?_
  refine za_l hC hW hf zar_1_2 dX8_needs_47 (fun v7 hf => ?_)
  exact zr_i hx hb hr hlk hW (zo1 hf) (zo2 hf) dX8_needs_48
set_option maxHeartbeats 4000000 in
set_option maxRecDepth 100000 in
theorem mX8_need {l : Launch} {D : va_G} {cI cJ : ClassId} {adr : Nat → Nat} (p1 : Int32) (p2 : Int32) (s0 : zkS) {z : Nat} {ro : Int32} {so : zkS} (hI : zInj 1 adr) (hf : fX8_need p1 p2 s0 = some (ro, so)) : Met l yX8_need (Cond.code yX8_need cX8_need 3 (some .int) :: zTb) { frames := 4, cells := 0, slots := 0, locals := 89 } (zPre 1 D cI cJ adr s0 z [.ref (adr 0), .int p1, .int p2]) (zQi 1 D cI cJ adr z ro so) 0 0 (zA 1 adr z) := by
  refine zen (cc := cX8_need) (own := RX8) (by decide +kernel) rfl hI (Nat.le_of_ble_eq_true rfl) (fun p e s m args below meth c ls hC hr hlk hz hl hW => ?_)
  subst hz
  obtain ⟨hx, hb, -⟩ := id hC
  have hl : lv_has ls 3 [(0, .ref (adr 0)), (1, .int p1), (2, .int p2)] := hl
  refine zst hW (fun H locs hW => ?_)
  unfold fX8_need at hf
  refine lv_iload_n hx hb dX8_need_0 rfl (lv_at hl 2 rfl) ?_
  refine lv_i2l hx hb dX8_need_1 rfl ?_
  refine lv_lconst (v := 0) hx hb dX8_need_2 (by decide) ?_
  refine lv_ldc2 hx hb hC.2.2.2.1 (hC.2.2.2.2.1 _ wq_1101) dX8_need_3 ?_
  refine zc_i hW (zrun_s (As := [.long ((p2 : Int32).toInt64), .long 0, .long 4]) (rest := []) hC hW (mX8_in ((p2 : Int32).toInt64) 0 4 s0 hC.2.2.2.2.2.2.2 rfl) cs_X8_57 rfl ⟨⟨rfl, rfl⟩, Nat.le_of_ble_eq_true rfl, Nat.le_of_ble_eq_true rfl⟩ (zlv_size hl) rfl (Nat.le_of_ble_eq_true rfl) dX8_need_6 ⟨Nat.le_refl _, Nat.le_refl _⟩) (fun H locs hW => ?_)
  refine zi_if_ne (tgt := 14) hx hb dX8_need_9 (by decide) hf (fun hc hf => ?_) (fun hc hf => ?_)
  · skip
    refine lv_iconst (v := (-1)) hx hb dX8_need_12 (by decide) ?_
    exact zr_i hx hb hr hlk hW (zo1 hf) (zo2 hf) dX8_need_13
  · skip
    refine lv_iload_n hx hb dX8_need_14 rfl (lv_at hl 1 rfl) ?_
    refine lv_i2l hx hb dX8_need_15 rfl ?_
    refine lv_lconst (v := 0) hx hb dX8_need_16 (by decide) ?_
    refine lv_ldc2 hx hb hC.2.2.2.1 (hC.2.2.2.2.1 _ wq_1034) dX8_need_17 ?_
    refine zc_i hW (zrun_s (As := [.long ((p1 : Int32).toInt64), .long 0, .long 8]) (rest := []) hC hW (mX8_in ((p1 : Int32).toInt64) 0 8 s0 hC.2.2.2.2.2.2.2 rfl) cs_X8_57 rfl ⟨⟨rfl, rfl⟩, Nat.le_of_ble_eq_true rfl, Nat.le_of_ble_eq_true rfl⟩ (zlv_size hl) rfl (Nat.le_of_ble_eq_true rfl) dX8_need_20 ⟨Nat.le_refl _, Nat.le_refl _⟩) (fun H locs hW => ?_)
    refine zi_if_ne (tgt := 29) hx hb dX8_need_23 (by decide) hf (fun hc hf => ?_) (fun hc hf => ?_)
    · skip
      refine lv_bipush (v := (-2)) hx hb dX8_need_26 (by decide) ?_
      exact zr_i hx hb hr hlk hW (zo1 hf) (zo2 hf) dX8_need_28
    · skip
      refine lv_aload_n hx hb dX8_need_29 rfl (lv_at hl 0 rfl) ?_
      refine zg_a (o := 0) hC hW fl_X8_11 zck_1_0 zcs_1_0 (show _ = 1 from rfl) dX8_need_30 ?_
      refine lv_iconst (v := 2) hx hb dX8_need_33 (by decide) ?_
      refine za_l hC hW hf zar_1_1 dX8_need_34 (fun v3 hf => ?_)
      refine lv_iconst (v := 1) hx hb dX8_need_35 (by decide) ?_
      refine zi_icmp_ne (tgt := 44) hx hb dX8_need_36 (by decide) hf (fun hc hf => ?_) (fun hc hf => ?_)
      · skip
        refine lv_bipush (v := (-3)) hx hb dX8_need_39 (by decide) ?_
        refine lv_goto (tgt := 50) hx hb dX8_need_41 (by decide) ?_
        exact zr_i hx hb hr hlk hW (zo1 hf) (zo2 hf) dX8_need_50
      · skip
        refine lv_aload_n hx hb dX8_need_44 rfl (lv_at hl 0 rfl) ?_
        refine lv_iload_n hx hb dX8_need_45 rfl (lv_at hl 1 rfl) ?_
        refine lv_iload_n hx hb dX8_need_46 rfl (lv_at hl 2 rfl) ?_
        obtain ⟨v4, s5, hq, hf⟩ := zb2_o hf
        refine zc_i hW (zrun_v (As := [.int p1, .int p2]) (rest := []) hC hW (mX8_needs p1 p2 s0 hC.2.2.2.2.2.2.2 hq) cv_X8_245 zck_1_0 zcs_1_0 rfl ⟨⟨rfl, rfl⟩, Nat.le_of_ble_eq_true rfl, Nat.le_of_ble_eq_true rfl⟩ (zlv_size hl) rfl (Nat.le_of_ble_eq_true rfl) dX8_need_47 ⟨Nat.le_refl _, Nat.le_refl _⟩) (fun H locs hW => ?_)
        exact zr_i hx hb hr hlk hW (zo1 hf) (zo2 hf) dX8_need_50
set_option maxHeartbeats 4000000 in
set_option maxRecDepth 100000 in
theorem mX8_least {l : Launch} {D : va_G} {cI cJ : ClassId} {adr : Nat → Nat} (p1 : Int32) (s0 : zkS) {z : Nat} {ro : Int32} {so : zkS} (hI : zInj 1 adr) (hf : fX8_least p1 s0 = some (ro, so)) : Met l yX8_least (Cond.code yX8_least cX8_least 3 (some .int) :: zTb) { frames := 4, cells := 0, slots := 0, locals := 89 } (zPre 1 D cI cJ adr s0 z [.ref (adr 0), .int p1]) (zQi 1 D cI cJ adr z ro so) 0 0 (zA 1 adr z) := by
  refine zen (cc := cX8_least) (own := RX8) (by decide +kernel) rfl hI (Nat.le_of_ble_eq_true rfl) (fun p e s m args below meth c ls hC hr hlk hz hl hW => ?_)
  subst hz
  obtain ⟨hx, hb, -⟩ := id hC
  have hl : lv_has ls 3 [(0, .ref (adr 0)), (1, .int p1)] := hl
  refine zst hW (fun H locs hW => ?_)
  unfold fX8_least at hf
  refine lv_iload_n hx hb dX8_least_0 rfl (lv_at hl 1 rfl) ?_
  refine lv_i2l hx hb dX8_least_1 rfl ?_
  refine lv_lconst (v := 0) hx hb dX8_least_2 (by decide) ?_
  refine lv_lconst (v := 1) hx hb dX8_least_3 (by decide) ?_
  refine zc_i hW (zrun_s (As := [.long ((p1 : Int32).toInt64), .long 0, .long 1]) (rest := []) hC hW (mX8_in ((p1 : Int32).toInt64) 0 1 s0 hC.2.2.2.2.2.2.2 rfl) cs_X8_57 rfl ⟨⟨rfl, rfl⟩, Nat.le_of_ble_eq_true rfl, Nat.le_of_ble_eq_true rfl⟩ (zlv_size hl) rfl (Nat.le_of_ble_eq_true rfl) dX8_least_4 ⟨Nat.le_refl _, Nat.le_refl _⟩) (fun H locs hW => ?_)
  refine zi_if_ne (tgt := 12) hx hb dX8_least_7 (by decide) hf (fun hc hf => ?_) (fun hc hf => ?_)
  · skip
    refine lv_iconst (v := (-1)) hx hb dX8_least_10 (by decide) ?_
    exact zr_i hx hb hr hlk hW (zo1 hf) (zo2 hf) dX8_least_11
  · skip
    refine lv_aload_n hx hb dX8_least_12 rfl (lv_at hl 0 rfl) ?_
    refine zg_a (o := 0) hC hW fl_X8_11 zck_1_0 zcs_1_0 (show _ = 1 from rfl) dX8_least_13 ?_
    refine lv_iconst (v := 2) hx hb dX8_least_16 (by decide) ?_
    refine za_l hC hW hf zar_1_1 dX8_least_17 (fun v2 hf => ?_)
    refine lv_iconst (v := 1) hx hb dX8_least_18 (by decide) ?_
    refine zi_icmp_ne (tgt := 25) hx hb dX8_least_19 (by decide) hf (fun hc hf => ?_) (fun hc hf => ?_)
    · skip
      refine lv_bipush (v := (-3)) hx hb dX8_least_22 (by decide) ?_
      exact zr_i hx hb hr hlk hW (zo1 hf) (zo2 hf) dX8_least_24
    · skip
      refine lv_iconst (v := 0) hx hb dX8_least_25 (by decide) ?_
      refine lv_istore_n (lv' := [(2, .int 0), (0, .ref (adr 0)), (1, .int p1)]) hx hb dX8_least_26 rfl hl (by decide) rfl (fun ls hl => ?_)
      have hL27 : ∀ (n : Nat) (x1 : Int32) (x2 : Int32) (s3 : zkS) (K27 : zkS → Option (Int32 × zkS)) (H : Heap) (locs : List Loc) (ls : Array Slot), fX8_least_L27 n x1 x2 s3 K27 = some (ro, so) → zWo 1 D cI cJ adr s s3 H locs → lv_has ls 3 [(0, .ref (adr 0)), (1, .int x1), (2, .int x2)] → (∀ (s3 : zkS) (H : Heap) (locs : List Loc) (ls : Array Slot), K27 s3 = some (ro, so) → zWo 1 D cI cJ adr s s3 H locs → lv_has ls 3 [] → W p l e { frames := 4, cells := 0, slots := 0, locals := 89 } s m args below meth c H locs 0 0 (MQ below (zQi 1 D cI cJ adr s.heap.size ro so) args s 0 0 (zA 1 adr s.heap.size)) (F0 m 58 ls [])) → W p l e { frames := 4, cells := 0, slots := 0, locals := 89 } s m args below meth c H locs 0 0 (MQ below (zQi 1 D cI cJ adr s.heap.size ro so) args s 0 0 (zA 1 adr s.heap.size)) (F0 m 27 ls []) := by
        intro n
        induction n with
        | zero =>
          intro x1 x2 s3 K27 H locs ls hf hW hl hK27
          rw [fX8_least_L27] at hf
          cases hf
        | succ n ih27 =>
          intro x1 x2 s3 K27 H locs ls hf hW hl hK27
          rw [fX8_least_L27] at hf
          refine lv_iload_n hx hb dX8_least_27 rfl (lv_at hl 2 rfl) ?_
          refine lv_bipush (v := 8) hx hb dX8_least_28 (by decide) ?_
          refine zi_icmp_gt (tgt := 58) hx hb dX8_least_30 (by decide) hf (fun hc hf => ?_) (fun hc hf => ?_)
          · skip
            exact hK27 s3 H locs ls hf hW (lv_sub hl [] rfl)
          · skip
            refine lv_aload_n hx hb dX8_least_33 rfl (lv_at hl 0 rfl) ?_
            refine lv_iload_n hx hb dX8_least_34 rfl (lv_at hl 2 rfl) ?_
            refine lv_iload_n hx hb dX8_least_35 rfl (lv_at hl 1 rfl) ?_
            refine zi_if_ne (tgt := 43) hx hb dX8_least_36 (by decide) hf (fun hc hf => ?_) (fun hc hf => ?_)
            · skip
              refine lv_iconst (v := 1) hx hb dX8_least_39 (by decide) ?_
              refine lv_goto (tgt := 44) hx hb dX8_least_40 (by decide) ?_
              obtain ⟨v4, s5, hq, hf⟩ := zb2_o hf
              refine zc_i hW (zrun_v (As := [.int x2, .int 1]) (rest := []) hC hW (mX8_needs x2 1 s3 hC.2.2.2.2.2.2.2 hq) cv_X8_245 zck_1_0 zcs_1_0 rfl ⟨⟨rfl, rfl⟩, Nat.le_of_ble_eq_true rfl, Nat.le_of_ble_eq_true rfl⟩ (zlv_size hl) rfl (Nat.le_of_ble_eq_true rfl) dX8_least_44 ⟨Nat.le_refl _, Nat.le_refl _⟩) (fun H locs hW => ?_)
              refine zi_if_ne (tgt := 52) hx hb dX8_least_47 (by decide) hf (fun hc hf => ?_) (fun hc hf => ?_)
              · skip
                refine lv_iload_n hx hb dX8_least_50 rfl (lv_at hl 2 rfl) ?_
                exact zr_i hx hb hr hlk hW (zo1 hf) (zo2 hf) dX8_least_51
              · skip
                refine zi_inc (v := (x2 + 1)) (lv' := fun v6 => [(2, .int v6), (0, .ref (adr 0)), (1, .int x1)]) hx hb dX8_least_52 hl (k := 2) rfl rfl (by decide) (fun _ => rfl) hf (fun v6 ls hf hl => ?_)
                refine lv_goto (tgt := 27) hx hb dX8_least_55 (by decide) ?_
                exact ih27 x1 v6 s5 _ H locs ls hf hW (lv_sub hl [1, 2, 0] rfl) hK27
            · skip
              refine lv_iconst (v := 3) hx hb dX8_least_43 (by decide) ?_
              obtain ⟨v7, s8, hq, hf⟩ := zb2_o hf
              refine zc_i hW (zrun_v (As := [.int x2, .int 3]) (rest := []) hC hW (mX8_needs x2 3 s3 hC.2.2.2.2.2.2.2 hq) cv_X8_245 zck_1_0 zcs_1_0 rfl ⟨⟨rfl, rfl⟩, Nat.le_of_ble_eq_true rfl, Nat.le_of_ble_eq_true rfl⟩ (zlv_size hl) rfl (Nat.le_of_ble_eq_true rfl) dX8_least_44 ⟨Nat.le_refl _, Nat.le_refl _⟩) (fun H locs hW => ?_)
              refine zi_if_ne (tgt := 52) hx hb dX8_least_47 (by decide) hf (fun hc hf => ?_) (fun hc hf => ?_)
              · skip
                refine lv_iload_n hx hb dX8_least_50 rfl (lv_at hl 2 rfl) ?_
                exact zr_i hx hb hr hlk hW (zo1 hf) (zo2 hf) dX8_least_51
              · skip
                refine zi_inc (v := (x2 + 1)) (lv' := fun v9 => [(2, .int v9), (0, .ref (adr 0)), (1, .int x1)]) hx hb dX8_least_52 hl (k := 2) rfl rfl (by decide) (fun _ => rfl) hf (fun v9 ls hf hl => ?_)
                refine lv_goto (tgt := 27) hx hb dX8_least_55 (by decide) ?_
                exact ih27 x1 v9 s8 _ H locs ls hf hW (lv_sub hl [1, 2, 0] rfl) hK27
      refine hL27 zFU p1 0 s0 _ H locs ls hf hW (lv_sub hl [1, 2, 0] rfl) (fun s10 H locs ls hf hW hl => ?_)
      refine lv_bipush (v := (-5)) hx hb dX8_least_58 (by decide) ?_
      exact zr_i hx hb hr hlk hW (zo1 hf) (zo2 hf) dX8_least_60
set_option maxHeartbeats 4000000 in
set_option maxRecDepth 100000 in
theorem mX8_see {l : Launch} {D : va_G} {cI cJ : ClassId} {adr : Nat → Nat} (p1 : Int32) (p2 : Int32) (p3 : Int32) (s0 : zkS) {z : Nat} {ro : Int32} {so : zkS} (hI : zInj 1 adr) (hf : fX8_see p1 p2 p3 s0 = some (ro, so)) : Met l yX8_see (Cond.code yX8_see cX8_see 5 (some .int) :: zTb) { frames := 2, cells := 0, slots := 0, locals := 46 } (zPre 1 D cI cJ adr s0 z [.ref (adr 0), .int p1, .int p2, .int p3]) (zQi 1 D cI cJ adr z ro so) 0 0 (zA 1 adr z) := by
  refine zen (cc := cX8_see) (own := RX8) (by decide +kernel) rfl hI (Nat.le_of_ble_eq_true rfl) (fun p e s m args below meth c ls hC hr hlk hz hl hW => ?_)
  subst hz
  obtain ⟨hx, hb, -⟩ := id hC
  have hl : lv_has ls 5 [(0, .ref (adr 0)), (1, .int p1), (2, .int p2), (3, .int p3)] := hl
  refine zst hW (fun H locs hW => ?_)
  unfold fX8_see at hf
  refine lv_iload_n hx hb dX8_see_0 rfl (lv_at hl 1 rfl) ?_
  refine lv_iconst (v := (-1)) hx hb dX8_see_1 (by decide) ?_
  refine zi_icmp_ne (tgt := 16) hx hb dX8_see_2 (by decide) hf (fun hc hf => ?_) (fun hc hf => ?_)
  · skip
    refine lv_aload_n hx hb dX8_see_5 rfl (lv_at hl 0 rfl) ?_
    refine zg_a (o := 0) hC hW fl_X8_11 zck_1_0 zcs_1_0 (show _ = 1 from rfl) dX8_see_6 ?_
    refine lv_sipush (v := 299) hx hb dX8_see_9 (by decide) ?_
    refine lv_iconst (v := 0) hx hb dX8_see_12 (by decide) ?_
    refine za_s hC hW hf zar_1_1 dX8_see_13 (fun s1 H locs hf hW => ?_)
    refine lv_iconst (v := 0) hx hb dX8_see_14 (by decide) ?_
    exact zr_i hx hb hr hlk hW (zo1 hf) (zo2 hf) dX8_see_15
  · skip
    refine lv_aload_n hx hb dX8_see_16 rfl (lv_at hl 0 rfl) ?_
    refine lv_iload_n hx hb dX8_see_17 rfl (lv_at hl 1 rfl) ?_
    obtain ⟨v2, hq, hf⟩ := zb1_o hf
    refine zc_i hW (zrun_v (As := [.int p1]) (rest := []) hC hW (mX8_isThere p1 s0 hC.2.2.2.2.2.2.2 hq) cv_X8_65 zck_1_0 zcs_1_0 rfl ⟨⟨rfl, rfl⟩, Nat.le_of_ble_eq_true rfl, Nat.le_of_ble_eq_true rfl⟩ (zlv_size hl) rfl (Nat.le_of_ble_eq_true rfl) dX8_see_18 ⟨Nat.le_refl _, Nat.le_refl _⟩) (fun H locs hW => ?_)
    refine zi_if_ne (tgt := 26) hx hb dX8_see_21 (by decide) hf (fun hc hf => ?_) (fun hc hf => ?_)
    · skip
      refine lv_iconst (v := (-1)) hx hb dX8_see_24 (by decide) ?_
      exact zr_i hx hb hr hlk hW (zo1 hf) (zo2 hf) dX8_see_25
    · skip
      refine lv_iload_n hx hb dX8_see_26 rfl (lv_at hl 2 rfl) ?_
      refine lv_i2l hx hb dX8_see_27 rfl ?_
      refine lv_lconst (v := 0) hx hb dX8_see_28 (by decide) ?_
      refine lv_ldc2 hx hb hC.2.2.2.1 (hC.2.2.2.2.1 _ wq_1119) dX8_see_29 ?_
      refine zc_i hW (zrun_s (As := [.long ((p2 : Int32).toInt64), .long 0, .long 40]) (rest := []) hC hW (mX8_in ((p2 : Int32).toInt64) 0 40 s0 hC.2.2.2.2.2.2.2 rfl) cs_X8_57 rfl ⟨⟨rfl, rfl⟩, Nat.le_of_ble_eq_true rfl, Nat.le_of_ble_eq_true rfl⟩ (zlv_size hl) rfl (Nat.le_of_ble_eq_true rfl) dX8_see_32 ⟨Nat.le_refl _, Nat.le_refl _⟩) (fun H locs hW => ?_)
      refine zi_if_ne (tgt := 41) hx hb dX8_see_35 (by decide) hf (fun hc hf => ?_) (fun hc hf => ?_)
      · skip
        refine lv_bipush (v := (-2)) hx hb dX8_see_38 (by decide) ?_
        exact zr_i hx hb hr hlk hW (zo1 hf) (zo2 hf) dX8_see_40
      · skip
        refine lv_aload_n hx hb dX8_see_41 rfl (lv_at hl 0 rfl) ?_
        refine zg_a (o := 0) hC hW fl_X8_11 zck_1_0 zcs_1_0 (show _ = 1 from rfl) dX8_see_42 ?_
        refine lv_sipush (v := 299) hx hb dX8_see_45 (by decide) ?_
        refine za_l hC hW hf zar_1_1 dX8_see_48 (fun v4 hf => ?_)
        refine lv_istore (lv' := [(4, .int v4), (0, .ref (adr 0)), (1, .int p1), (2, .int p2), (3, .int p3)]) hx hb dX8_see_49 hl (by decide) rfl (fun ls hl => ?_)
        refine lv_iload hx hb dX8_see_51 (lv_at hl 0 rfl) ?_
        refine lv_iconst (v := 5) hx hb dX8_see_53 (by decide) ?_
        refine zi_icmp_ne (tgt := 60) hx hb dX8_see_54 (by decide) hf (fun hc hf => ?_) (fun hc hf => ?_)
        · skip
          refine lv_bipush (v := (-4)) hx hb dX8_see_57 (by decide) ?_
          exact zr_i hx hb hr hlk hW (zo1 hf) (zo2 hf) dX8_see_59
        · skip
          refine lv_aload_n hx hb dX8_see_60 rfl (lv_at hl 1 rfl) ?_
          refine zg_a (o := 0) hC hW fl_X8_11 zck_1_0 zcs_1_0 (show _ = 1 from rfl) dX8_see_61 ?_
          refine lv_sipush (v := 284) hx hb dX8_see_64 (by decide) ?_
          refine lv_iconst (v := 3) hx hb dX8_see_67 (by decide) ?_
          refine lv_iload hx hb dX8_see_68 (lv_at hl 0 rfl) ?_
          refine lv_imul hx hb dX8_see_70 ?_
          refine lv_iadd hx hb dX8_see_71 ?_
          refine lv_iload_n hx hb dX8_see_72 rfl (lv_at hl 2 rfl) ?_
          refine za_s hC hW hf zar_1_1 dX8_see_73 (fun s5 H locs hf hW => ?_)
          refine lv_aload_n hx hb dX8_see_74 rfl (lv_at hl 1 rfl) ?_
          refine zg_a (o := 0) hC hW fl_X8_11 zck_1_0 zcs_1_0 (show _ = 1 from rfl) dX8_see_75 ?_
          refine lv_sipush (v := 284) hx hb dX8_see_78 (by decide) ?_
          refine lv_iconst (v := 3) hx hb dX8_see_81 (by decide) ?_
          refine lv_iload hx hb dX8_see_82 (lv_at hl 0 rfl) ?_
          refine lv_imul hx hb dX8_see_84 ?_
          refine lv_iadd hx hb dX8_see_85 ?_
          refine lv_iconst (v := 1) hx hb dX8_see_86 (by decide) ?_
          refine lv_iadd hx hb dX8_see_87 ?_
          refine lv_iload_n hx hb dX8_see_88 rfl (lv_at hl 3 rfl) ?_
          refine za_s hC hW hf zar_1_1 dX8_see_89 (fun s6 H locs hf hW => ?_)
          refine lv_aload_n hx hb dX8_see_90 rfl (lv_at hl 1 rfl) ?_
          refine zg_a (o := 0) hC hW fl_X8_11 zck_1_0 zcs_1_0 (show _ = 1 from rfl) dX8_see_91 ?_
          refine lv_sipush (v := 284) hx hb dX8_see_94 (by decide) ?_
          refine lv_iconst (v := 3) hx hb dX8_see_97 (by decide) ?_
          refine lv_iload hx hb dX8_see_98 (lv_at hl 0 rfl) ?_
          refine lv_imul hx hb dX8_see_100 ?_
          refine lv_iadd hx hb dX8_see_101 ?_
          refine lv_iconst (v := 2) hx hb dX8_see_102 (by decide) ?_
          refine lv_iadd hx hb dX8_see_103 ?_
          refine lv_iload_n hx hb dX8_see_104 rfl (lv_at hl 4 rfl) ?_
          refine zc_i hW (zrun_s (As := [.int p3]) (rest := [.int ((284 + (3 * v4)) + 2), .ref (adr 1)]) hC hW (mX8_flag p3 s6 hC.2.2.2.2.2.2.2 rfl) cs_X8_106 rfl ⟨⟨rfl, rfl⟩, Nat.le_of_ble_eq_true rfl, Nat.le_of_ble_eq_true rfl⟩ (zlv_size hl) rfl (Nat.le_of_ble_eq_true rfl) dX8_see_105 ⟨Nat.le_refl _, Nat.le_refl _⟩) (fun H locs hW => ?_)
          refine za_s hC hW hf zar_1_1 dX8_see_108 (fun s8 H locs hf hW => ?_)
          refine lv_aload_n hx hb dX8_see_109 rfl (lv_at hl 1 rfl) ?_
          refine zg_a (o := 0) hC hW fl_X8_11 zck_1_0 zcs_1_0 (show _ = 1 from rfl) dX8_see_110 ?_
          refine lv_sipush (v := 299) hx hb dX8_see_113 (by decide) ?_
          refine lv_iload hx hb dX8_see_116 (lv_at hl 0 rfl) ?_
          refine lv_iconst (v := 1) hx hb dX8_see_118 (by decide) ?_
          refine lv_iadd hx hb dX8_see_119 ?_
          refine za_s hC hW hf zar_1_1 dX8_see_120 (fun s9 H locs hf hW => ?_)
          refine lv_iload hx hb dX8_see_121 (lv_at hl 0 rfl) ?_
          refine lv_iconst (v := 1) hx hb dX8_see_123 (by decide) ?_
          refine lv_iadd hx hb dX8_see_124 ?_
          exact zr_i hx hb hr hlk hW (zo1 hf) (zo2 hf) dX8_see_125
set_option maxHeartbeats 4000000 in
set_option maxRecDepth 100000 in
theorem mX8_isSeen {l : Launch} {D : va_G} {cI cJ : ClassId} {adr : Nat → Nat} {w1 : Nat} (k1 : zM w1) (p2 : Int32) (s0 : zkS) {z : Nat} {ro : Int32} {so : zkS} (hI : zInj 1 adr) (hf : fX8_isSeen w1 p2 s0 = some (ro, so)) : Met l yX8_isSeen (Cond.code yX8_isSeen cX8_isSeen 5 (some .boolean) :: zTb) { frames := 4, cells := 0, slots := 0, locals := 89 } (zPre 1 D cI cJ adr s0 z [.ref (adr 0), .ref (adr w1), .int p2]) (zQi 1 D cI cJ adr z ro so) 0 0 (zA 1 adr z) := by
  refine zen (cc := cX8_isSeen) (own := RX8) (by decide +kernel) rfl hI (Nat.le_of_ble_eq_true rfl) (fun p e s m args below meth c ls hC hr hlk hz hl hW => ?_)
  subst hz
  obtain ⟨hx, hb, -⟩ := id hC
  have hl : lv_has ls 5 [(0, .ref (adr 0)), (1, .ref (adr w1)), (2, .int p2)] := hl
  refine zst hW (fun H locs hW => ?_)
  unfold fX8_isSeen at hf
  refine lv_aload_n hx hb dX8_isSeen_0 rfl (lv_at hl 1 rfl) ?_
  refine lv_iload_n hx hb dX8_isSeen_1 rfl (lv_at hl 2 rfl) ?_
  obtain ⟨s1, hq, hf⟩ := zb1_o hf
  refine zc_v hW (zrun_s (As := [.ref (adr w1), .int p2]) (rest := []) hC hW (mX8_starts k1 p2 s0 hC.2.2.2.2.2.2.2 hq) cs_X8_212 rfl ⟨⟨rfl, rfl⟩, Nat.le_of_ble_eq_true rfl, Nat.le_of_ble_eq_true rfl⟩ (zlv_size hl) rfl (Nat.le_of_ble_eq_true rfl) dX8_isSeen_2 ⟨Nat.le_refl _, Nat.le_refl _⟩) (fun H locs hW => ?_)
  refine lv_iconst (v := 0) hx hb dX8_isSeen_5 (by decide) ?_
  refine lv_istore_n (lv' := [(3, .int 0), (0, .ref (adr 0)), (1, .ref (adr w1)), (2, .int p2)]) hx hb dX8_isSeen_6 rfl hl (by decide) rfl (fun ls hl => ?_)
  have hL7 : ∀ (n : Nat) (x3 : Int32) (s2 : zkS) (K7 : zkS → Option (Int32 × zkS)) (H : Heap) (locs : List Loc) (ls : Array Slot), fX8_isSeen_L7 n w1 x3 s2 K7 = some (ro, so) → zWo 1 D cI cJ adr s s2 H locs → lv_has ls 5 [(1, .ref (adr w1)), (3, .int x3)] → (∀ (s2 : zkS) (H : Heap) (locs : List Loc) (ls : Array Slot), K7 s2 = some (ro, so) → zWo 1 D cI cJ adr s s2 H locs → lv_has ls 5 [] → W p l e { frames := 4, cells := 0, slots := 0, locals := 89 } s m args below meth c H locs 0 0 (MQ below (zQi 1 D cI cJ adr s.heap.size ro so) args s 0 0 (zA 1 adr s.heap.size)) (F0 m 98 ls [])) → W p l e { frames := 4, cells := 0, slots := 0, locals := 89 } s m args below meth c H locs 0 0 (MQ below (zQi 1 D cI cJ adr s.heap.size ro so) args s 0 0 (zA 1 adr s.heap.size)) (F0 m 7 ls []) := by
    intro n
    induction n with
    | zero =>
      intro x3 s2 K7 H locs ls hf hW hl hK7
      rw [fX8_isSeen_L7] at hf
      cases hf
    | succ n ih7 =>
      intro x3 s2 K7 H locs ls hf hW hl hK7
      rw [fX8_isSeen_L7] at hf
      refine lv_iload_n hx hb dX8_isSeen_7 rfl (lv_at hl 1 rfl) ?_
      refine lv_bipush (v := 40) hx hb dX8_isSeen_8 (by decide) ?_
      refine zi_icmp_gt (tgt := 98) hx hb dX8_isSeen_10 (by decide) hf (fun hc hf => ?_) (fun hc hf => ?_)
      · skip
        exact hK7 s2 H locs ls hf hW (lv_sub hl [] rfl)
      · skip
        refine lv_iconst (v := 0) hx hb dX8_isSeen_13 (by decide) ?_
        refine lv_istore (lv' := [(4, .int 0), (1, .ref (adr w1)), (3, .int x3)]) hx hb dX8_isSeen_14 hl (by decide) rfl (fun ls hl => ?_)
        have hL16 : ∀ (n : Nat) (x3 : Int32) (x4 : Int32) (K16 : Unit → Option (Int32 × zkS)) (H : Heap) (locs : List Loc) (ls : Array Slot), fX8_isSeen_L16 n w1 s2 x3 x4 K16 = some (ro, so) → zWo 1 D cI cJ adr s s2 H locs → lv_has ls 5 [(1, .ref (adr w1)), (3, .int x3), (4, .int x4)] → (∀  (H : Heap) (locs : List Loc) (ls : Array Slot), K16 () = some (ro, so) → zWo 1 D cI cJ adr s s2 H locs → lv_has ls 5 [(1, .ref (adr w1)), (3, .int x3)] → W p l e { frames := 4, cells := 0, slots := 0, locals := 89 } s m args below meth c H locs 0 0 (MQ below (zQi 1 D cI cJ adr s.heap.size ro so) args s 0 0 (zA 1 adr s.heap.size)) (F0 m 85 ls [])) → W p l e { frames := 4, cells := 0, slots := 0, locals := 89 } s m args below meth c H locs 0 0 (MQ below (zQi 1 D cI cJ adr s.heap.size ro so) args s 0 0 (zA 1 adr s.heap.size)) (F0 m 16 ls []) := by
          intro n
          induction n with
          | zero =>
            intro x3 x4 K16 H locs ls hf hW hl hK16
            rw [fX8_isSeen_L16] at hf
            cases hf
          | succ n ih16 =>
            intro x3 x4 K16 H locs ls hf hW hl hK16
            rw [fX8_isSeen_L16] at hf
            refine lv_iload hx hb dX8_isSeen_16 (lv_at hl 2 rfl) ?_
            refine lv_aload_n hx hb dX8_isSeen_18 rfl (lv_at hl 0 rfl) ?_
            refine lv_sipush (v := 299) hx hb dX8_isSeen_19 (by decide) ?_
            refine za_l hC hW hf (zM_a k1) dX8_isSeen_22 (fun v3 hf => ?_)
            refine zi_icmp_ge (tgt := 85) hx hb dX8_isSeen_23 (by decide) hf (fun hc hf => ?_) (fun hc hf => ?_)
            · skip
              exact hK16  H locs ls hf hW (lv_sub hl [0, 1] rfl)
            · skip
              refine lv_aload_n hx hb dX8_isSeen_26 rfl (lv_at hl 0 rfl) ?_
              refine lv_sipush (v := 284) hx hb dX8_isSeen_27 (by decide) ?_
              refine lv_iconst (v := 3) hx hb dX8_isSeen_30 (by decide) ?_
              refine lv_iload hx hb dX8_isSeen_31 (lv_at hl 2 rfl) ?_
              refine lv_imul hx hb dX8_isSeen_33 ?_
              refine lv_iadd hx hb dX8_isSeen_34 ?_
              refine lv_iconst (v := 1) hx hb dX8_isSeen_35 (by decide) ?_
              refine lv_iadd hx hb dX8_isSeen_36 ?_
              refine za_l hC hW hf (zM_a k1) dX8_isSeen_37 (fun v4 hf => ?_)
              refine lv_iload_n hx hb dX8_isSeen_38 rfl (lv_at hl 1 rfl) ?_
              refine zi_icmp_ne (tgt := 79) hx hb dX8_isSeen_39 (by decide) hf (fun hc hf => ?_) (fun hc hf => ?_)
              · skip
                refine lv_aload_n hx hb dX8_isSeen_42 rfl (lv_at hl 0 rfl) ?_
                refine lv_bipush (v := 12) hx hb dX8_isSeen_43 (by decide) ?_
                refine za_l hC hW hf (zM_a k1) dX8_isSeen_45 (fun v5 hf => ?_)
                refine lv_aload_n hx hb dX8_isSeen_46 rfl (lv_at hl 0 rfl) ?_
                refine lv_sipush (v := 284) hx hb dX8_isSeen_47 (by decide) ?_
                refine lv_iconst (v := 3) hx hb dX8_isSeen_50 (by decide) ?_
                refine lv_iload hx hb dX8_isSeen_51 (lv_at hl 2 rfl) ?_
                refine lv_imul hx hb dX8_isSeen_53 ?_
                refine lv_iadd hx hb dX8_isSeen_54 ?_
                refine za_l hC hW hf (zM_a k1) dX8_isSeen_55 (fun v6 hf => ?_)
                refine zc_i hW (zrun_s (As := [.int v5, .int v6]) (rest := []) hC hW (mX8_bit v5 v6 s2 hC.2.2.2.2.2.2.2 rfl) cs_X8_61 rfl ⟨⟨rfl, rfl⟩, Nat.le_of_ble_eq_true rfl, Nat.le_of_ble_eq_true rfl⟩ (zlv_size hl) rfl (Nat.le_of_ble_eq_true rfl) dX8_isSeen_56 ⟨Nat.le_refl _, Nat.le_refl _⟩) (fun H locs hW => ?_)
                refine zc_i hW (zrun_s (As := [.int (fX8_bit v5 v6)]) (rest := []) hC hW (mX8_flag (fX8_bit v5 v6) s2 hC.2.2.2.2.2.2.2 rfl) cs_X8_106 rfl ⟨⟨rfl, rfl⟩, Nat.le_of_ble_eq_true rfl, Nat.le_of_ble_eq_true rfl⟩ (zlv_size hl) rfl (Nat.le_of_ble_eq_true rfl) dX8_isSeen_59 ⟨Nat.le_refl _, Nat.le_refl _⟩) (fun H locs hW => ?_)
                refine lv_aload_n hx hb dX8_isSeen_62 rfl (lv_at hl 0 rfl) ?_
                refine lv_sipush (v := 284) hx hb dX8_isSeen_63 (by decide) ?_
                refine lv_iconst (v := 3) hx hb dX8_isSeen_66 (by decide) ?_
                refine lv_iload hx hb dX8_isSeen_67 (lv_at hl 2 rfl) ?_
                refine lv_imul hx hb dX8_isSeen_69 ?_
                refine lv_iadd hx hb dX8_isSeen_70 ?_
                refine lv_iconst (v := 2) hx hb dX8_isSeen_71 (by decide) ?_
                refine lv_iadd hx hb dX8_isSeen_72 ?_
                refine za_l hC hW hf (zM_a k1) dX8_isSeen_73 (fun v9 hf => ?_)
                refine zi_icmp_eq (tgt := 79) hx hb dX8_isSeen_74 (by decide) hf (fun hc hf => ?_) (fun hc hf => ?_)
                · skip
                  refine zi_inc (v := (x4 + 1)) (lv' := fun v10 => [(4, .int v10), (1, .ref (adr w1)), (3, .int x3)]) hx hb dX8_isSeen_79 hl (k := 2) rfl rfl (by decide) (fun _ => rfl) hf (fun v10 ls hf hl => ?_)
                  refine lv_goto (tgt := 16) hx hb dX8_isSeen_82 (by decide) ?_
                  exact ih16 x3 v10 _ H locs ls hf hW (lv_sub hl [1, 2, 0] rfl) hK16
                · skip
                  refine lv_iconst (v := 0) hx hb dX8_isSeen_77 (by decide) ?_
                  exact zr_z hx hb hr hlk hW (by decide) (zo1 hf) (zo2 hf) dX8_isSeen_78
              · skip
                refine zi_inc (v := (x4 + 1)) (lv' := fun v11 => [(4, .int v11), (1, .ref (adr w1)), (3, .int x3)]) hx hb dX8_isSeen_79 hl (k := 2) rfl rfl (by decide) (fun _ => rfl) hf (fun v11 ls hf hl => ?_)
                refine lv_goto (tgt := 16) hx hb dX8_isSeen_82 (by decide) ?_
                exact ih16 x3 v11 _ H locs ls hf hW (lv_sub hl [1, 2, 0] rfl) hK16
        refine hL16 zFU x3 0 _ H locs ls hf hW (lv_sub hl [1, 2, 0] rfl) (fun  H locs ls hf hW hl => ?_)
        refine lv_aload_n hx hb dX8_isSeen_85 rfl (lv_at hl 0 rfl) ?_
        refine lv_iconst (v := 1) hx hb dX8_isSeen_86 (by decide) ?_
        obtain ⟨v12, s13, hq, hf⟩ := zb2_o hf
        refine zc_i hW (zrun_s (As := [.ref (adr w1), .int 1]) (rest := []) hC hW (mX8_goes k1 1 s2 hC.2.2.2.2.2.2.2 hq) cs_X8_221 rfl ⟨⟨rfl, rfl⟩, Nat.le_of_ble_eq_true rfl, Nat.le_of_ble_eq_true rfl⟩ (zlv_size hl) rfl (Nat.le_of_ble_eq_true rfl) dX8_isSeen_87 ⟨Nat.le_refl _, Nat.le_refl _⟩) (fun H locs hW => ?_)
        refine lv_istore (lv' := [(4, .int v12), (1, .ref (adr w1)), (3, .int x3)]) hx hb dX8_isSeen_90 hl (by decide) rfl (fun ls hl => ?_)
        refine zi_inc (v := (x3 + 1)) (lv' := fun v14 => [(3, .int v14), (4, .int v12), (1, .ref (adr w1))]) hx hb dX8_isSeen_92 hl (k := 2) rfl rfl (by decide) (fun _ => rfl) hf (fun v14 ls hf hl => ?_)
        refine lv_goto (tgt := 7) hx hb dX8_isSeen_95 (by decide) ?_
        exact ih7 v14 s13 _ H locs ls hf hW (lv_sub hl [2, 0] rfl) hK7
  refine hL7 zFU 0 s1 _ H locs ls hf hW (lv_sub hl [2, 0] rfl) (fun s15 H locs ls hf hW hl => ?_)
  refine lv_iconst (v := 1) hx hb dX8_isSeen_98 (by decide) ?_
  exact zr_z hx hb hr hlk hW (by decide) (zo1 hf) (zo2 hf) dX8_isSeen_99
set_option maxHeartbeats 4000000 in
set_option maxRecDepth 100000 in
theorem mX8_fits {l : Launch} {D : va_G} {cI cJ : ClassId} {adr : Nat → Nat} (p1 : Int32) (s0 : zkS) {z : Nat} {ro : Int32} {so : zkS} (hI : zInj 1 adr) (hf : fX8_fits p1 s0 = some (ro, so)) : Met l yX8_fits (Cond.code yX8_fits cX8_fits 4 (some .int) :: zTb) { frames := 5, cells := 0, slots := 0, locals := 113 } (zPre 1 D cI cJ adr s0 z [.ref (adr 0), .int p1]) (zQi 1 D cI cJ adr z ro so) 0 0 (zA 1 adr z) := by
  refine zen (cc := cX8_fits) (own := RX8) (by decide +kernel) rfl hI (Nat.le_of_ble_eq_true rfl) (fun p e s m args below meth c ls hC hr hlk hz hl hW => ?_)
  subst hz
  obtain ⟨hx, hb, -⟩ := id hC
  have hl : lv_has ls 4 [(0, .ref (adr 0)), (1, .int p1)] := hl
  refine zst hW (fun H locs hW => ?_)
  unfold fX8_fits at hf
  refine lv_iload_n hx hb dX8_fits_0 rfl (lv_at hl 1 rfl) ?_
  refine lv_i2l hx hb dX8_fits_1 rfl ?_
  refine lv_lconst (v := 0) hx hb dX8_fits_2 (by decide) ?_
  refine lv_ldc2 hx hb hC.2.2.2.1 (hC.2.2.2.2.1 _ wq_1034) dX8_fits_3 ?_
  refine zc_i hW (zrun_s (As := [.long ((p1 : Int32).toInt64), .long 0, .long 8]) (rest := []) hC hW (mX8_in ((p1 : Int32).toInt64) 0 8 s0 hC.2.2.2.2.2.2.2 rfl) cs_X8_57 rfl ⟨⟨rfl, rfl⟩, Nat.le_of_ble_eq_true rfl, Nat.le_of_ble_eq_true rfl⟩ (zlv_size hl) rfl (Nat.le_of_ble_eq_true rfl) dX8_fits_6 ⟨Nat.le_refl _, Nat.le_refl _⟩) (fun H locs hW => ?_)
  refine zi_if_ne (tgt := 15) hx hb dX8_fits_9 (by decide) hf (fun hc hf => ?_) (fun hc hf => ?_)
  · skip
    refine lv_bipush (v := (-2)) hx hb dX8_fits_12 (by decide) ?_
    exact zr_i hx hb hr hlk hW (zo1 hf) (zo2 hf) dX8_fits_14
  · skip
    refine lv_aload_n hx hb dX8_fits_15 rfl (lv_at hl 0 rfl) ?_
    refine zg_a (o := 0) hC hW fl_X8_11 zck_1_0 zcs_1_0 (show _ = 1 from rfl) dX8_fits_16 ?_
    refine lv_iconst (v := 2) hx hb dX8_fits_19 (by decide) ?_
    refine za_l hC hW hf zar_1_1 dX8_fits_20 (fun v2 hf => ?_)
    refine lv_iconst (v := 1) hx hb dX8_fits_21 (by decide) ?_
    refine zi_icmp_ne (tgt := 28) hx hb dX8_fits_22 (by decide) hf (fun hc hf => ?_) (fun hc hf => ?_)
    · skip
      refine lv_bipush (v := (-3)) hx hb dX8_fits_25 (by decide) ?_
      exact zr_i hx hb hr hlk hW (zo1 hf) (zo2 hf) dX8_fits_27
    · skip
      refine lv_iconst (v := 0) hx hb dX8_fits_28 (by decide) ?_
      refine lv_istore_n (lv' := [(2, .int 0), (0, .ref (adr 0)), (1, .int p1)]) hx hb dX8_fits_29 rfl hl (by decide) rfl (fun ls hl => ?_)
      refine lv_iconst (v := 0) hx hb dX8_fits_30 (by decide) ?_
      refine lv_istore_n (lv' := [(3, .int 0), (2, .int 0), (0, .ref (adr 0)), (1, .int p1)]) hx hb dX8_fits_31 rfl hl (by decide) rfl (fun ls hl => ?_)
      have hL32 : ∀ (n : Nat) (x1 : Int32) (x2 : Int32) (x3 : Int32) (s3 : zkS) (K32 : Int32 → zkS → Option (Int32 × zkS)) (H : Heap) (locs : List Loc) (ls : Array Slot), fX8_fits_L32 n x1 x2 x3 s3 K32 = some (ro, so) → zWo 1 D cI cJ adr s s3 H locs → lv_has ls 4 [(0, .ref (adr 0)), (1, .int x1), (2, .int x2), (3, .int x3)] → (∀ (x2 : Int32) (s3 : zkS) (H : Heap) (locs : List Loc) (ls : Array Slot), K32 x2 s3 = some (ro, so) → zWo 1 D cI cJ adr s s3 H locs → lv_has ls 4 [(2, .int x2)] → W p l e { frames := 5, cells := 0, slots := 0, locals := 113 } s m args below meth c H locs 0 0 (MQ below (zQi 1 D cI cJ adr s.heap.size ro so) args s 0 0 (zA 1 adr s.heap.size)) (F0 m 93 ls [])) → W p l e { frames := 5, cells := 0, slots := 0, locals := 113 } s m args below meth c H locs 0 0 (MQ below (zQi 1 D cI cJ adr s.heap.size ro so) args s 0 0 (zA 1 adr s.heap.size)) (F0 m 32 ls []) := by
        intro n
        induction n with
        | zero =>
          intro x1 x2 x3 s3 K32 H locs ls hf hW hl hK32
          rw [fX8_fits_L32] at hf
          cases hf
        | succ n ih32 =>
          intro x1 x2 x3 s3 K32 H locs ls hf hW hl hK32
          rw [fX8_fits_L32] at hf
          refine lv_iload_n hx hb dX8_fits_32 rfl (lv_at hl 3 rfl) ?_
          refine lv_bipush (v := 24) hx hb dX8_fits_33 (by decide) ?_
          refine zi_icmp_ge (tgt := 93) hx hb dX8_fits_35 (by decide) hf (fun hc hf => ?_) (fun hc hf => ?_)
          · skip
            exact hK32 x2 s3 H locs ls hf hW (lv_sub hl [2] rfl)
          · skip
            refine lv_aload_n hx hb dX8_fits_38 rfl (lv_at hl 0 rfl) ?_
            refine lv_iload_n hx hb dX8_fits_39 rfl (lv_at hl 3 rfl) ?_
            obtain ⟨v4, hq, hf⟩ := zb1_o hf
            refine zc_i hW (zrun_v (As := [.int x3]) (rest := []) hC hW (mX8_isThere x3 s3 hC.2.2.2.2.2.2.2 hq) cv_X8_65 zck_1_0 zcs_1_0 rfl ⟨⟨rfl, rfl⟩, Nat.le_of_ble_eq_true rfl, Nat.le_of_ble_eq_true rfl⟩ (zlv_size hl) rfl (Nat.le_of_ble_eq_true rfl) dX8_fits_40 ⟨Nat.le_refl _, Nat.le_refl _⟩) (fun H locs hW => ?_)
            refine zi_if_eq (tgt := 87) hx hb dX8_fits_43 (by decide) hf (fun hc hf => ?_) (fun hc hf => ?_)
            · skip
              refine zi_inc (v := (x3 + 1)) (lv' := fun v5 => [(3, .int v5), (0, .ref (adr 0)), (1, .int x1), (2, .int x2)]) hx hb dX8_fits_87 hl (k := 3) rfl rfl (by decide) (fun _ => rfl) hf (fun v5 ls hf hl => ?_)
              refine lv_goto (tgt := 32) hx hb dX8_fits_90 (by decide) ?_
              exact ih32 x1 x2 v5 s3 _ H locs ls hf hW (lv_sub hl [1, 2, 3, 0] rfl) hK32
            · skip
              refine lv_aload_n hx hb dX8_fits_46 rfl (lv_at hl 0 rfl) ?_
              refine zg_a (o := 0) hC hW fl_X8_11 zck_1_0 zcs_1_0 (show _ = 1 from rfl) dX8_fits_47 ?_
              refine lv_aload_n hx hb dX8_fits_50 rfl (lv_at hl 0 rfl) ?_
              refine zg_a (o := 1) hC hW fl_X8_15 zck_1_0 zcs_1_0 (show _ = 2 from rfl) dX8_fits_51 ?_
              obtain ⟨s6, hq, hf⟩ := zb1_o hf
              refine zc_v hW (zrun_s (As := [.ref (adr 1), .ref (adr 2)]) (rest := []) hC hW (mX8_copies zMc_1 zMc_2 s3 hC.2.2.2.2.2.2.2 hq) cs_X8_224 rfl ⟨⟨rfl, rfl⟩, Nat.le_of_ble_eq_true rfl, Nat.le_of_ble_eq_true rfl⟩ (zlv_size hl) rfl (Nat.le_of_ble_eq_true rfl) dX8_fits_54 ⟨Nat.le_refl _, Nat.le_refl _⟩) (fun H locs hW => ?_)
              refine lv_aload_n hx hb dX8_fits_57 rfl (lv_at hl 0 rfl) ?_
              refine zg_a (o := 1) hC hW fl_X8_15 zck_1_0 zcs_1_0 (show _ = 2 from rfl) dX8_fits_58 ?_
              refine lv_bipush (v := 16) hx hb dX8_fits_61 (by decide) ?_
              refine lv_iload_n hx hb dX8_fits_63 rfl (lv_at hl 3 rfl) ?_
              refine za_s hC hW hf zar_1_2 dX8_fits_64 (fun s7 H locs hf hW => ?_)
              refine lv_iload_n hx hb dX8_fits_65 rfl (lv_at hl 2 rfl) ?_
              refine lv_aload_n hx hb dX8_fits_66 rfl (lv_at hl 0 rfl) ?_
              refine lv_aload_n hx hb dX8_fits_67 rfl (lv_at hl 0 rfl) ?_
              refine zg_a (o := 1) hC hW fl_X8_15 zck_1_0 zcs_1_0 (show _ = 2 from rfl) dX8_fits_68 ?_
              refine lv_iload_n hx hb dX8_fits_71 rfl (lv_at hl 1 rfl) ?_
              obtain ⟨v8, s9, hq, hf⟩ := zb2_o hf
              refine zc_i hW (zrun_v (As := [.ref (adr 2), .int x1]) (rest := [.int x2]) hC hW (mX8_isSeen zMc_2 x1 s7 hC.2.2.2.2.2.2.2 hq) cv_X8_250 zck_1_0 zcs_1_0 rfl ⟨⟨rfl, rfl⟩, Nat.le_of_ble_eq_true rfl, Nat.le_of_ble_eq_true rfl⟩ (zlv_size hl) rfl (Nat.le_of_ble_eq_true rfl) dX8_fits_72 ⟨Nat.le_refl _, Nat.le_refl _⟩) (fun H locs hW => ?_)
              refine zi_if_eq (tgt := 84) hx hb dX8_fits_75 (by decide) hf (fun hc hf => ?_) (fun hc hf => ?_)
              · skip
                refine lv_iconst (v := 0) hx hb dX8_fits_84 (by decide) ?_
                refine lv_ior hx hb dX8_fits_85 ?_
                refine zn_i hf (fun v10 hf => ?_)
                refine lv_istore_n (lv' := [(2, .int v10), (0, .ref (adr 0)), (1, .int x1), (3, .int x3)]) hx hb dX8_fits_86 rfl hl (by decide) rfl (fun ls hl => ?_)
                refine zi_inc (v := (x3 + 1)) (lv' := fun v11 => [(3, .int v11), (2, .int v10), (0, .ref (adr 0)), (1, .int x1)]) hx hb dX8_fits_87 hl (k := 3) rfl rfl (by decide) (fun _ => rfl) hf (fun v11 ls hf hl => ?_)
                refine lv_goto (tgt := 32) hx hb dX8_fits_90 (by decide) ?_
                exact ih32 x1 v10 v11 s9 _ H locs ls hf hW (lv_sub hl [2, 3, 1, 0] rfl) hK32
              · skip
                refine lv_iconst (v := 1) hx hb dX8_fits_78 (by decide) ?_
                refine lv_iload_n hx hb dX8_fits_79 rfl (lv_at hl 3 rfl) ?_
                refine lv_ishl hx hb dX8_fits_80 ?_
                refine lv_goto (tgt := 85) hx hb dX8_fits_81 (by decide) ?_
                refine lv_ior hx hb dX8_fits_85 ?_
                refine zn_i hf (fun v12 hf => ?_)
                refine lv_istore_n (lv' := [(2, .int v12), (0, .ref (adr 0)), (1, .int x1), (3, .int x3)]) hx hb dX8_fits_86 rfl hl (by decide) rfl (fun ls hl => ?_)
                refine zi_inc (v := (x3 + 1)) (lv' := fun v13 => [(3, .int v13), (2, .int v12), (0, .ref (adr 0)), (1, .int x1)]) hx hb dX8_fits_87 hl (k := 3) rfl rfl (by decide) (fun _ => rfl) hf (fun v13 ls hf hl => ?_)
                refine lv_goto (tgt := 32) hx hb dX8_fits_90 (by decide) ?_
                exact ih32 x1 v12 v13 s9 _ H locs ls hf hW (lv_sub hl [2, 3, 1, 0] rfl) hK32
      refine hL32 zFU p1 0 0 s0 _ H locs ls hf hW (lv_sub hl [2, 3, 1, 0] rfl) (fun x14 s15 H locs ls hf hW hl => ?_)
      refine lv_iload_n hx hb dX8_fits_93 rfl (lv_at hl 0 rfl) ?_
      exact zr_i hx hb hr hlk hW (zo1 hf) (zo2 hf) dX8_fits_94
set_option maxHeartbeats 4000000 in
set_option maxRecDepth 100000 in
theorem mX8_can {l : Launch} {D : va_G} {cI cJ : ClassId} {adr : Nat → Nat} (p1 : Int32) (p2 : Int32) (p3 : Int32) (s0 : zkS) {z : Nat} {ro : Int32} {so : zkS} (hI : zInj 1 adr) (hf : fX8_can p1 p2 p3 s0 = some (ro, so)) : Met l yX8_can (Cond.code yX8_can cX8_can 7 (some .int) :: zTb) { frames := 5, cells := 0, slots := 0, locals := 113 } (zPre 1 D cI cJ adr s0 z [.ref (adr 0), .int p1, .int p2, .int p3]) (zQi 1 D cI cJ adr z ro so) 0 0 (zA 1 adr z) := by
  refine zen (cc := cX8_can) (own := RX8) (by decide +kernel) rfl hI (Nat.le_of_ble_eq_true rfl) (fun p e s m args below meth c ls hC hr hlk hz hl hW => ?_)
  subst hz
  obtain ⟨hx, hb, -⟩ := id hC
  have hl : lv_has ls 7 [(0, .ref (adr 0)), (1, .int p1), (2, .int p2), (3, .int p3)] := hl
  refine zst hW (fun H locs hW => ?_)
  unfold fX8_can at hf
  refine lv_aload_n hx hb dX8_can_0 rfl (lv_at hl 0 rfl) ?_
  refine lv_iload_n hx hb dX8_can_1 rfl (lv_at hl 1 rfl) ?_
  obtain ⟨v1, hq, hf⟩ := zb1_o hf
  refine zc_i hW (zrun_v (As := [.int p1]) (rest := []) hC hW (mX8_isThere p1 s0 hC.2.2.2.2.2.2.2 hq) cv_X8_65 zck_1_0 zcs_1_0 rfl ⟨⟨rfl, rfl⟩, Nat.le_of_ble_eq_true rfl, Nat.le_of_ble_eq_true rfl⟩ (zlv_size hl) rfl (Nat.le_of_ble_eq_true rfl) dX8_can_2 ⟨Nat.le_refl _, Nat.le_refl _⟩) (fun H locs hW => ?_)
  refine zi_if_eq (tgt := 18) hx hb dX8_can_5 (by decide) hf (fun hc hf => ?_) (fun hc hf => ?_)
  · skip
    refine lv_iconst (v := (-1)) hx hb dX8_can_18 (by decide) ?_
    exact zr_i hx hb hr hlk hW (zo1 hf) (zo2 hf) dX8_can_19
  · skip
    refine lv_iload_n hx hb dX8_can_8 rfl (lv_at hl 3 rfl) ?_
    refine lv_i2l hx hb dX8_can_9 rfl ?_
    refine lv_lconst (v := 0) hx hb dX8_can_10 (by decide) ?_
    refine lv_lconst (v := 1) hx hb dX8_can_11 (by decide) ?_
    refine zc_i hW (zrun_s (As := [.long ((p3 : Int32).toInt64), .long 0, .long 1]) (rest := []) hC hW (mX8_in ((p3 : Int32).toInt64) 0 1 s0 hC.2.2.2.2.2.2.2 rfl) cs_X8_57 rfl ⟨⟨rfl, rfl⟩, Nat.le_of_ble_eq_true rfl, Nat.le_of_ble_eq_true rfl⟩ (zlv_size hl) rfl (Nat.le_of_ble_eq_true rfl) dX8_can_12 ⟨Nat.le_refl _, Nat.le_refl _⟩) (fun H locs hW => ?_)
    refine zi_if_ne (tgt := 20) hx hb dX8_can_15 (by decide) hf (fun hc hf => ?_) (fun hc hf => ?_)
    · skip
      refine lv_iconst (v := (-1)) hx hb dX8_can_18 (by decide) ?_
      exact zr_i hx hb hr hlk hW (zo1 hf) (zo2 hf) dX8_can_19
    · skip
      refine lv_iload_n hx hb dX8_can_20 rfl (lv_at hl 2 rfl) ?_
      refine lv_i2l hx hb dX8_can_21 rfl ?_
      refine lv_lconst (v := 0) hx hb dX8_can_22 (by decide) ?_
      refine lv_ldc2 hx hb hC.2.2.2.1 (hC.2.2.2.2.1 _ wq_1034) dX8_can_23 ?_
      refine zc_i hW (zrun_s (As := [.long ((p2 : Int32).toInt64), .long 0, .long 8]) (rest := []) hC hW (mX8_in ((p2 : Int32).toInt64) 0 8 s0 hC.2.2.2.2.2.2.2 rfl) cs_X8_57 rfl ⟨⟨rfl, rfl⟩, Nat.le_of_ble_eq_true rfl, Nat.le_of_ble_eq_true rfl⟩ (zlv_size hl) rfl (Nat.le_of_ble_eq_true rfl) dX8_can_26 ⟨Nat.le_refl _, Nat.le_refl _⟩) (fun H locs hW => ?_)
      refine zi_if_ne (tgt := 35) hx hb dX8_can_29 (by decide) hf (fun hc hf => ?_) (fun hc hf => ?_)
      · skip
        refine lv_bipush (v := (-2)) hx hb dX8_can_32 (by decide) ?_
        exact zr_i hx hb hr hlk hW (zo1 hf) (zo2 hf) dX8_can_34
      · skip
        refine lv_aload_n hx hb dX8_can_35 rfl (lv_at hl 0 rfl) ?_
        refine zg_a (o := 0) hC hW fl_X8_11 zck_1_0 zcs_1_0 (show _ = 1 from rfl) dX8_can_36 ?_
        refine lv_iconst (v := 2) hx hb dX8_can_39 (by decide) ?_
        refine za_l hC hW hf zar_1_1 dX8_can_40 (fun v4 hf => ?_)
        refine lv_iconst (v := 1) hx hb dX8_can_41 (by decide) ?_
        refine zi_icmp_ne (tgt := 48) hx hb dX8_can_42 (by decide) hf (fun hc hf => ?_) (fun hc hf => ?_)
        · skip
          refine lv_bipush (v := (-3)) hx hb dX8_can_45 (by decide) ?_
          exact zr_i hx hb hr hlk hW (zo1 hf) (zo2 hf) dX8_can_47
        · skip
          refine lv_iconst (v := 0) hx hb dX8_can_48 (by decide) ?_
          refine lv_istore (lv' := [(4, .int 0), (0, .ref (adr 0)), (1, .int p1), (2, .int p2), (3, .int p3)]) hx hb dX8_can_49 hl (by decide) rfl (fun ls hl => ?_)
          refine lv_bipush (v := (-5)) hx hb dX8_can_51 (by decide) ?_
          refine lv_istore (lv' := [(5, .int (-5)), (4, .int 0), (0, .ref (adr 0)), (1, .int p1), (2, .int p2), (3, .int p3)]) hx hb dX8_can_53 hl (by decide) rfl (fun ls hl => ?_)
          refine lv_bipush (v := 9) hx hb dX8_can_55 (by decide) ?_
          refine lv_istore (lv' := [(6, .int 9), (5, .int (-5)), (4, .int 0), (0, .ref (adr 0)), (1, .int p1), (2, .int p2), (3, .int p3)]) hx hb dX8_can_57 hl (by decide) rfl (fun ls hl => ?_)
          have hL59 : ∀ (n : Nat) (x1 : Int32) (x2 : Int32) (x4 : Int32) (x5 : Int32) (x6 : Int32) (s5 : zkS) (K59 : Int32 → Int32 → zkS → Option (Int32 × zkS)) (H : Heap) (locs : List Loc) (ls : Array Slot), fX8_can_L59 n x1 x2 x4 x5 x6 s5 K59 = some (ro, so) → zWo 1 D cI cJ adr s s5 H locs → lv_has ls 7 [(0, .ref (adr 0)), (1, .int x1), (2, .int x2), (3, .int p3), (4, .int x4), (5, .int x5), (6, .int x6)] → (∀ (x4 : Int32) (x5 : Int32) (s5 : zkS) (H : Heap) (locs : List Loc) (ls : Array Slot), K59 x4 x5 s5 = some (ro, so) → zWo 1 D cI cJ adr s s5 H locs → lv_has ls 7 [(3, .int p3), (4, .int x4), (5, .int x5)] → W p l e { frames := 5, cells := 0, slots := 0, locals := 113 } s m args below meth c H locs 0 0 (MQ below (zQi 1 D cI cJ adr s.heap.size ro so) args s 0 0 (zA 1 adr s.heap.size)) (F0 m 111 ls [])) → W p l e { frames := 5, cells := 0, slots := 0, locals := 113 } s m args below meth c H locs 0 0 (MQ below (zQi 1 D cI cJ adr s.heap.size ro so) args s 0 0 (zA 1 adr s.heap.size)) (F0 m 59 ls []) := by
            intro n
            induction n with
            | zero =>
              intro x1 x2 x4 x5 x6 s5 K59 H locs ls hf hW hl hK59
              rw [fX8_can_L59] at hf
              cases hf
            | succ n ih59 =>
              intro x1 x2 x4 x5 x6 s5 K59 H locs ls hf hW hl hK59
              rw [fX8_can_L59] at hf
              refine lv_iload hx hb dX8_can_59 (lv_at hl 6 rfl) ?_
              refine zi_if_lt (tgt := 111) hx hb dX8_can_61 (by decide) hf (fun hc hf => ?_) (fun hc hf => ?_)
              · skip
                exact hK59 x4 x5 s5 H locs ls hf hW (lv_sub hl [3, 4, 5] rfl)
              · skip
                refine lv_aload_n hx hb dX8_can_64 rfl (lv_at hl 0 rfl) ?_
                refine zg_a (o := 0) hC hW fl_X8_11 zck_1_0 zcs_1_0 (show _ = 1 from rfl) dX8_can_65 ?_
                refine lv_aload_n hx hb dX8_can_68 rfl (lv_at hl 0 rfl) ?_
                refine zg_a (o := 1) hC hW fl_X8_15 zck_1_0 zcs_1_0 (show _ = 2 from rfl) dX8_can_69 ?_
                obtain ⟨s6, hq, hf⟩ := zb1_o hf
                refine zc_v hW (zrun_s (As := [.ref (adr 1), .ref (adr 2)]) (rest := []) hC hW (mX8_copies zMc_1 zMc_2 s5 hC.2.2.2.2.2.2.2 hq) cs_X8_224 rfl ⟨⟨rfl, rfl⟩, Nat.le_of_ble_eq_true rfl, Nat.le_of_ble_eq_true rfl⟩ (zlv_size hl) rfl (Nat.le_of_ble_eq_true rfl) dX8_can_72 ⟨Nat.le_refl _, Nat.le_refl _⟩) (fun H locs hW => ?_)
                refine lv_aload_n hx hb dX8_can_75 rfl (lv_at hl 0 rfl) ?_
                refine zg_a (o := 1) hC hW fl_X8_15 zck_1_0 zcs_1_0 (show _ = 2 from rfl) dX8_can_76 ?_
                refine lv_bipush (v := 44) hx hb dX8_can_79 (by decide) ?_
                refine lv_iload_n hx hb dX8_can_81 rfl (lv_at hl 1 rfl) ?_
                refine lv_iadd hx hb dX8_can_82 ?_
                refine lv_iload hx hb dX8_can_83 (lv_at hl 6 rfl) ?_
                refine za_s hC hW hf zar_1_2 dX8_can_85 (fun s7 H locs hf hW => ?_)
                refine lv_aload_n hx hb dX8_can_86 rfl (lv_at hl 0 rfl) ?_
                refine lv_aload_n hx hb dX8_can_87 rfl (lv_at hl 0 rfl) ?_
                refine zg_a (o := 1) hC hW fl_X8_15 zck_1_0 zcs_1_0 (show _ = 2 from rfl) dX8_can_88 ?_
                refine lv_iload_n hx hb dX8_can_91 rfl (lv_at hl 2 rfl) ?_
                obtain ⟨v8, s9, hq, hf⟩ := zb2_o hf
                refine zc_i hW (zrun_v (As := [.ref (adr 2), .int x2]) (rest := []) hC hW (mX8_isSeen zMc_2 x2 s7 hC.2.2.2.2.2.2.2 hq) cv_X8_250 zck_1_0 zcs_1_0 rfl ⟨⟨rfl, rfl⟩, Nat.le_of_ble_eq_true rfl, Nat.le_of_ble_eq_true rfl⟩ (zlv_size hl) rfl (Nat.le_of_ble_eq_true rfl) dX8_can_92 ⟨Nat.le_refl _, Nat.le_refl _⟩) (fun H locs hW => ?_)
                refine zi_if_eq (tgt := 105) hx hb dX8_can_95 (by decide) hf (fun hc hf => ?_) (fun hc hf => ?_)
                · skip
                  refine zi_inc (v := (x6 + (-1))) (lv' := fun v10 => [(6, .int v10), (0, .ref (adr 0)), (1, .int x1), (2, .int x2), (3, .int p3), (4, .int x4), (5, .int x5)]) hx hb dX8_can_105 hl (k := 6) rfl rfl (by decide) (fun _ => rfl) hf (fun v10 ls hf hl => ?_)
                  refine lv_goto (tgt := 59) hx hb dX8_can_108 (by decide) ?_
                  exact ih59 x1 x2 x4 x5 v10 s9 _ H locs ls hf hW (lv_sub hl [1, 2, 3, 4, 5, 6, 0] rfl) hK59
                · skip
                  refine zi_inc (v := (x4 + 1)) (lv' := fun v11 => [(4, .int v11), (0, .ref (adr 0)), (1, .int x1), (2, .int x2), (3, .int p3), (5, .int x5), (6, .int x6)]) hx hb dX8_can_98 hl (k := 4) rfl rfl (by decide) (fun _ => rfl) hf (fun v11 ls hf hl => ?_)
                  refine lv_iload hx hb dX8_can_101 (lv_at hl 6 rfl) ?_
                  refine lv_istore (lv' := [(5, .int x6), (4, .int v11), (0, .ref (adr 0)), (1, .int x1), (2, .int x2), (3, .int p3), (6, .int x6)]) hx hb dX8_can_103 hl (by decide) rfl (fun ls hl => ?_)
                  refine zi_inc (v := (x6 + (-1))) (lv' := fun v12 => [(6, .int v12), (5, .int x6), (4, .int v11), (0, .ref (adr 0)), (1, .int x1), (2, .int x2), (3, .int p3)]) hx hb dX8_can_105 hl (k := 6) rfl rfl (by decide) (fun _ => rfl) hf (fun v12 ls hf hl => ?_)
                  refine lv_goto (tgt := 59) hx hb dX8_can_108 (by decide) ?_
                  exact ih59 x1 x2 v11 x6 v12 s9 _ H locs ls hf hW (lv_sub hl [3, 4, 5, 6, 2, 1, 0] rfl) hK59
          refine hL59 zFU p1 p2 0 (-5) 9 s0 _ H locs ls hf hW (lv_sub hl [3, 4, 5, 6, 2, 1, 0] rfl) (fun x13 x14 s15 H locs ls hf hW hl => ?_)
          refine lv_iload_n hx hb dX8_can_111 rfl (lv_at hl 0 rfl) ?_
          refine zi_if_ne (tgt := 120) hx hb dX8_can_112 (by decide) hf (fun hc hf => ?_) (fun hc hf => ?_)
          · skip
            refine lv_iload hx hb dX8_can_115 (lv_at hl 1 rfl) ?_
            refine lv_goto (tgt := 122) hx hb dX8_can_117 (by decide) ?_
            exact zr_i hx hb hr hlk hW (zo1 hf) (zo2 hf) dX8_can_122
          · skip
            refine lv_iload hx hb dX8_can_120 (lv_at hl 2 rfl) ?_
            exact zr_i hx hb hr hlk hW (zo1 hf) (zo2 hf) dX8_can_122
set_option maxHeartbeats 4000000 in
set_option maxRecDepth 100000 in
theorem mX8_lowest {l : Launch} {D : va_G} {cI cJ : ClassId} {adr : Nat → Nat} {u : Nat} (p1 : Int64) (p2 : Int64) (p3 : Int32) (s0 : zkS) {z : Nat} {ro : Int64} (hI : zInj u adr) (hf : fX8_lowest p1 p2 p3 = some ro) : Met l yX8_lowest (Cond.code yX8_lowest cX8_lowest 11 (some .long) :: zTb) { frames := 0, cells := 0, slots := 0, locals := 0 } (zPre u D cI cJ adr s0 z [.long p1, .long p2, .int p3]) (zQl u D cI cJ adr z ro s0) 0 0 (zA u adr z) := by
  refine zen (cc := cX8_lowest) (own := RX8) (by decide +kernel) rfl hI (Nat.le_of_ble_eq_true rfl) (fun p e s m args below meth c ls hC hr hlk hz hl hW => ?_)
  subst hz
  obtain ⟨hx, hb, -⟩ := id hC
  have hl : lv_has ls 11 [(0, .long p1), (2, .long p2), (4, .int p3)] := hl
  refine zst hW (fun H locs hW => ?_)
  unfold fX8_lowest at hf
  refine lv_lload_n hx hb dX8_lowest_0 rfl (lv_at hl 0 rfl) ?_
  refine lv_lstore (lv' := [(5, .long p1), (0, .long p1), (2, .long p2), (4, .int p3)]) hx hb dX8_lowest_1 hl (by decide) rfl (fun ls hl => ?_)
  refine lv_lload_n hx hb dX8_lowest_3 rfl (lv_at hl 2 rfl) ?_
  refine lv_lstore (lv' := [(7, .long p2), (5, .long p1), (0, .long p1), (2, .long p2), (4, .int p3)]) hx hb dX8_lowest_4 hl (by decide) rfl (fun ls hl => ?_)
  have hL6 : ∀ (n : Nat) (x5 : Int64) (x7 : Int64) (K6 : Int64 → Option (Int64)) (H : Heap) (locs : List Loc) (ls : Array Slot), fX8_lowest_L6 n x5 x7 K6 = some ro → zWo u D cI cJ adr s s0 H locs → lv_has ls 11 [(0, .long p1), (2, .long p2), (4, .int p3), (5, .long x5), (7, .long x7)] → (∀ (x5 : Int64) (H : Heap) (locs : List Loc) (ls : Array Slot), K6 x5 = some ro → zWo u D cI cJ adr s s0 H locs → lv_has ls 11 [(0, .long p1), (2, .long p2), (4, .int p3), (5, .long x5)] → W p l e { frames := 0, cells := 0, slots := 0, locals := 0 } s m args below meth c H locs 0 0 (MQ below (zQl u D cI cJ adr s.heap.size ro s0) args s 0 0 (zA u adr s.heap.size)) (F0 m 31 ls [])) → W p l e { frames := 0, cells := 0, slots := 0, locals := 0 } s m args below meth c H locs 0 0 (MQ below (zQl u D cI cJ adr s.heap.size ro s0) args s 0 0 (zA u adr s.heap.size)) (F0 m 6 ls []) := by
    intro n
    induction n with
    | zero =>
      intro x5 x7 K6 H locs ls hf hW hl hK6
      rw [fX8_lowest_L6] at hf
      cases hf
    | succ n ih6 =>
      intro x5 x7 K6 H locs ls hf hW hl hK6
      rw [fX8_lowest_L6] at hf
      refine lv_lload hx hb dX8_lowest_6 (lv_at hl 4 rfl) ?_
      refine lv_lconst (v := 0) hx hb dX8_lowest_8 (by decide) ?_
      refine W.lcmp hx hb dX8_lowest_9 ?_
      refine zi_if_eq (tgt := 31) hx hb dX8_lowest_10 (by decide) hf (fun hc hf => ?_) (fun hc hf => ?_)
      · skip
        exact hK6 x5 H locs ls hf hW (lv_sub hl [0, 1, 2, 3] rfl)
      · skip
        refine lv_lload hx hb dX8_lowest_13 (lv_at hl 3 rfl) ?_
        refine lv_lload hx hb dX8_lowest_15 (lv_at hl 4 rfl) ?_
        refine zd_rL hx hb hf dX8_lowest_17 (fun v1 hf => ?_)
        refine lv_lstore (lv' := [(9, .long v1), (0, .long p1), (2, .long p2), (4, .int p3), (5, .long x5), (7, .long x7)]) hx hb dX8_lowest_18 hl (by decide) rfl (fun ls hl => ?_)
        refine lv_lload hx hb dX8_lowest_20 (lv_at hl 5 rfl) ?_
        refine lv_lstore (lv' := [(5, .long x7), (9, .long v1), (0, .long p1), (2, .long p2), (4, .int p3), (7, .long x7)]) hx hb dX8_lowest_22 hl (by decide) rfl (fun ls hl => ?_)
        refine lv_lload hx hb dX8_lowest_24 (lv_at hl 1 rfl) ?_
        refine lv_lstore (lv' := [(7, .long v1), (5, .long x7), (9, .long v1), (0, .long p1), (2, .long p2), (4, .int p3)]) hx hb dX8_lowest_26 hl (by decide) rfl (fun ls hl => ?_)
        refine lv_goto (tgt := 6) hx hb dX8_lowest_28 (by decide) ?_
        exact ih6 x7 v1 _ H locs ls hf hW (lv_sub hl [3, 4, 5, 1, 0] rfl) hK6
  refine hL6 zFU p1 p2 _ H locs ls hf hW (lv_sub hl [2, 3, 4, 1, 0] rfl) (fun x2 H locs ls hf hW hl => ?_)
  refine lv_iload hx hb dX8_lowest_31 (lv_at hl 2 rfl) ?_
  refine zi_if_ne (tgt := 40) hx hb dX8_lowest_33 (by decide) hf (fun hc hf => ?_) (fun hc hf => ?_)
  · skip
    refine lv_lload_n hx hb dX8_lowest_36 rfl (lv_at hl 0 rfl) ?_
    refine lv_goto (tgt := 41) hx hb dX8_lowest_37 (by decide) ?_
    refine lv_lload hx hb dX8_lowest_41 (lv_at hl 3 rfl) ?_
    refine zd_iL hx hb hf dX8_lowest_43 (fun v3 hf => ?_)
    exact zr_l hx hb hr hlk hW (Option.some.inj hf) rfl dX8_lowest_44
  · skip
    refine lv_lload_n hx hb dX8_lowest_40 rfl (lv_at hl 1 rfl) ?_
    refine lv_lload hx hb dX8_lowest_41 (lv_at hl 3 rfl) ?_
    refine zd_iL hx hb hf dX8_lowest_43 (fun v4 hf => ?_)
    exact zr_l hx hb hr hlk hW (Option.some.inj hf) rfl dX8_lowest_44
set_option maxHeartbeats 4000000 in
set_option maxRecDepth 100000 in
theorem mX8_odds {l : Launch} {D : va_G} {cI cJ : ClassId} {adr : Nat → Nat} (p1 : Int32) (p2 : Int32) (s0 : zkS) {z : Nat} {ro : Int64} {so : zkS} (hI : zInj 1 adr) (hf : fX8_odds p1 p2 s0 = some (ro, so)) : Met l yX8_odds (Cond.code yX8_odds cX8_odds 9 (some .long) :: zTb) { frames := 5, cells := 0, slots := 0, locals := 118 } (zPre 1 D cI cJ adr s0 z [.ref (adr 0), .int p1, .int p2]) (zQl 1 D cI cJ adr z ro so) 0 0 (zA 1 adr z) := by
  refine zen (cc := cX8_odds) (own := RX8) (by decide +kernel) rfl hI (Nat.le_of_ble_eq_true rfl) (fun p e s m args below meth c ls hC hr hlk hz hl hW => ?_)
  subst hz
  obtain ⟨hx, hb, -⟩ := id hC
  have hl : lv_has ls 9 [(0, .ref (adr 0)), (1, .int p1), (2, .int p2)] := hl
  refine zst hW (fun H locs hW => ?_)
  unfold fX8_odds at hf
  refine lv_aload_n hx hb dX8_odds_0 rfl (lv_at hl 0 rfl) ?_
  refine lv_iload_n hx hb dX8_odds_1 rfl (lv_at hl 1 rfl) ?_
  obtain ⟨v1, hq, hf⟩ := zb1_o hf
  refine zc_i hW (zrun_v (As := [.int p1]) (rest := []) hC hW (mX8_isThere p1 s0 hC.2.2.2.2.2.2.2 hq) cv_X8_65 zck_1_0 zcs_1_0 rfl ⟨⟨rfl, rfl⟩, Nat.le_of_ble_eq_true rfl, Nat.le_of_ble_eq_true rfl⟩ (zlv_size hl) rfl (Nat.le_of_ble_eq_true rfl) dX8_odds_2 ⟨Nat.le_refl _, Nat.le_refl _⟩) (fun H locs hW => ?_)
  refine zi_if_eq (tgt := 18) hx hb dX8_odds_5 (by decide) hf (fun hc hf => ?_) (fun hc hf => ?_)
  · skip
    refine lv_ldc2 hx hb hC.2.2.2.1 (hC.2.2.2.2.1 _ wq_1136) dX8_odds_18 ?_
    exact zr_l hx hb hr hlk hW (zo1 hf) (zo2 hf) dX8_odds_21
  · skip
    refine lv_iload_n hx hb dX8_odds_8 rfl (lv_at hl 2 rfl) ?_
    refine lv_i2l hx hb dX8_odds_9 rfl ?_
    refine lv_lconst (v := 0) hx hb dX8_odds_10 (by decide) ?_
    refine lv_lconst (v := 1) hx hb dX8_odds_11 (by decide) ?_
    refine zc_i hW (zrun_s (As := [.long ((p2 : Int32).toInt64), .long 0, .long 1]) (rest := []) hC hW (mX8_in ((p2 : Int32).toInt64) 0 1 s0 hC.2.2.2.2.2.2.2 rfl) cs_X8_57 rfl ⟨⟨rfl, rfl⟩, Nat.le_of_ble_eq_true rfl, Nat.le_of_ble_eq_true rfl⟩ (zlv_size hl) rfl (Nat.le_of_ble_eq_true rfl) dX8_odds_12 ⟨Nat.le_refl _, Nat.le_refl _⟩) (fun H locs hW => ?_)
    refine zi_if_ne (tgt := 22) hx hb dX8_odds_15 (by decide) hf (fun hc hf => ?_) (fun hc hf => ?_)
    · skip
      refine lv_ldc2 hx hb hC.2.2.2.1 (hC.2.2.2.2.1 _ wq_1136) dX8_odds_18 ?_
      exact zr_l hx hb hr hlk hW (zo1 hf) (zo2 hf) dX8_odds_21
    · skip
      refine lv_lconst (v := 0) hx hb dX8_odds_22 (by decide) ?_
      refine lv_lstore_n (lv' := [(3, .long 0), (0, .ref (adr 0)), (1, .int p1), (2, .int p2)]) hx hb dX8_odds_23 rfl hl (by decide) rfl (fun ls hl => ?_)
      refine lv_lconst (v := 0) hx hb dX8_odds_24 (by decide) ?_
      refine lv_lstore (lv' := [(5, .long 0), (3, .long 0), (0, .ref (adr 0)), (1, .int p1), (2, .int p2)]) hx hb dX8_odds_25 hl (by decide) rfl (fun ls hl => ?_)
      refine lv_iconst (v := 0) hx hb dX8_odds_27 (by decide) ?_
      refine lv_istore (lv' := [(7, .int 0), (5, .long 0), (3, .long 0), (0, .ref (adr 0)), (1, .int p1), (2, .int p2)]) hx hb dX8_odds_28 hl (by decide) rfl (fun ls hl => ?_)
      have hL30 : ∀ (n : Nat) (x1 : Int32) (x3 : Int64) (x5 : Int64) (x7 : Int32) (s3 : zkS) (K30 : Int64 → Int64 → zkS → Option (Int64 × zkS)) (H : Heap) (locs : List Loc) (ls : Array Slot), fX8_odds_L30 n x1 x3 x5 x7 s3 K30 = some (ro, so) → zWo 1 D cI cJ adr s s3 H locs → lv_has ls 9 [(0, .ref (adr 0)), (1, .int x1), (2, .int p2), (3, .long x3), (5, .long x5), (7, .int x7)] → (∀ (x3 : Int64) (x5 : Int64) (s3 : zkS) (H : Heap) (locs : List Loc) (ls : Array Slot), K30 x3 x5 s3 = some (ro, so) → zWo 1 D cI cJ adr s s3 H locs → lv_has ls 9 [(2, .int p2), (3, .long x3), (5, .long x5)] → W p l e { frames := 5, cells := 0, slots := 0, locals := 118 } s m args below meth c H locs 0 0 (MQ below (zQl 1 D cI cJ adr s.heap.size ro so) args s 0 0 (zA 1 adr s.heap.size)) (F0 m 103 ls [])) → W p l e { frames := 5, cells := 0, slots := 0, locals := 118 } s m args below meth c H locs 0 0 (MQ below (zQl 1 D cI cJ adr s.heap.size ro so) args s 0 0 (zA 1 adr s.heap.size)) (F0 m 30 ls []) := by
        intro n
        induction n with
        | zero =>
          intro x1 x3 x5 x7 s3 K30 H locs ls hf hW hl hK30
          rw [fX8_odds_L30] at hf
          cases hf
        | succ n ih30 =>
          intro x1 x3 x5 x7 s3 K30 H locs ls hf hW hl hK30
          rw [fX8_odds_L30] at hf
          refine lv_iload hx hb dX8_odds_30 (lv_at hl 5 rfl) ?_
          refine lv_bipush (v := 24) hx hb dX8_odds_32 (by decide) ?_
          refine zi_icmp_ge (tgt := 103) hx hb dX8_odds_34 (by decide) hf (fun hc hf => ?_) (fun hc hf => ?_)
          · skip
            exact hK30 x3 x5 s3 H locs ls hf hW (lv_sub hl [2, 3, 4] rfl)
          · skip
            refine lv_iconst (v := 0) hx hb dX8_odds_37 (by decide) ?_
            refine lv_istore (lv' := [(8, .int 0), (0, .ref (adr 0)), (1, .int x1), (2, .int p2), (3, .long x3), (5, .long x5), (7, .int x7)]) hx hb dX8_odds_38 hl (by decide) rfl (fun ls hl => ?_)
            have hL40 : ∀ (n : Nat) (x1 : Int32) (x7 : Int32) (x3 : Int64) (x5 : Int64) (x8 : Int32) (s4 : zkS) (K40 : Int64 → Int64 → zkS → Option (Int64 × zkS)) (H : Heap) (locs : List Loc) (ls : Array Slot), fX8_odds_L40 n x1 x7 x3 x5 x8 s4 K40 = some (ro, so) → zWo 1 D cI cJ adr s s4 H locs → lv_has ls 9 [(0, .ref (adr 0)), (1, .int x1), (2, .int p2), (3, .long x3), (5, .long x5), (7, .int x7), (8, .int x8)] → (∀ (x3 : Int64) (x5 : Int64) (s4 : zkS) (H : Heap) (locs : List Loc) (ls : Array Slot), K40 x3 x5 s4 = some (ro, so) → zWo 1 D cI cJ adr s s4 H locs → lv_has ls 9 [(0, .ref (adr 0)), (1, .int x1), (2, .int p2), (3, .long x3), (5, .long x5), (7, .int x7)] → W p l e { frames := 5, cells := 0, slots := 0, locals := 118 } s m args below meth c H locs 0 0 (MQ below (zQl 1 D cI cJ adr s.heap.size ro so) args s 0 0 (zA 1 adr s.heap.size)) (F0 m 97 ls [])) → W p l e { frames := 5, cells := 0, slots := 0, locals := 118 } s m args below meth c H locs 0 0 (MQ below (zQl 1 D cI cJ adr s.heap.size ro so) args s 0 0 (zA 1 adr s.heap.size)) (F0 m 40 ls []) := by
              intro n
              induction n with
              | zero =>
                intro x1 x7 x3 x5 x8 s4 K40 H locs ls hf hW hl hK40
                rw [fX8_odds_L40] at hf
                cases hf
              | succ n ih40 =>
                intro x1 x7 x3 x5 x8 s4 K40 H locs ls hf hW hl hK40
                rw [fX8_odds_L40] at hf
                refine lv_aload_n hx hb dX8_odds_40 rfl (lv_at hl 0 rfl) ?_
                refine lv_iload hx hb dX8_odds_41 (lv_at hl 5 rfl) ?_
                refine lv_iload hx hb dX8_odds_43 (lv_at hl 6 rfl) ?_
                obtain ⟨v5, hq, hf⟩ := zb1_o hf
                refine zc_i hW (zrun_v (As := [.int x7, .int x8]) (rest := []) hC hW (mX8_isField x7 x8 s4 hC.2.2.2.2.2.2.2 hq) cv_X8_96 zck_1_0 zcs_1_0 rfl ⟨⟨rfl, rfl⟩, Nat.le_of_ble_eq_true rfl, Nat.le_of_ble_eq_true rfl⟩ (zlv_size hl) rfl (Nat.le_of_ble_eq_true rfl) dX8_odds_45 ⟨Nat.le_refl _, Nat.le_refl _⟩) (fun H locs hW => ?_)
                refine zi_if_eq (tgt := 97) hx hb dX8_odds_48 (by decide) hf (fun hc hf => ?_) (fun hc hf => ?_)
                · skip
                  exact hK40 x3 x5 s4 H locs ls hf hW (lv_sub hl [0, 1, 2, 3, 4, 5] rfl)
                · skip
                  refine lv_aload_n hx hb dX8_odds_51 rfl (lv_at hl 0 rfl) ?_
                  refine zg_a (o := 0) hC hW fl_X8_11 zck_1_0 zcs_1_0 (show _ = 1 from rfl) dX8_odds_52 ?_
                  refine lv_iload hx hb dX8_odds_55 (lv_at hl 5 rfl) ?_
                  refine lv_iload hx hb dX8_odds_57 (lv_at hl 6 rfl) ?_
                  obtain ⟨v6, hq, hf⟩ := zb1_o hf
                  refine zc_i hW (zrun_s (As := [.ref (adr 1), .int x7, .int x8]) (rest := []) hC hW (mX8_leads zMc_1 x7 x8 s4 hC.2.2.2.2.2.2.2 hq) cs_X8_85 rfl ⟨⟨rfl, rfl⟩, Nat.le_of_ble_eq_true rfl, Nat.le_of_ble_eq_true rfl⟩ (zlv_size hl) rfl (Nat.le_of_ble_eq_true rfl) dX8_odds_59 ⟨Nat.le_refl _, Nat.le_refl _⟩) (fun H locs hW => ?_)
                  refine zi_if_lt (tgt := 91) hx hb dX8_odds_62 (by decide) hf (fun hc hf => ?_) (fun hc hf => ?_)
                  · skip
                    refine zi_inc (v := (x8 + 1)) (lv' := fun v7 => [(8, .int v7), (0, .ref (adr 0)), (1, .int x1), (2, .int p2), (3, .long x3), (5, .long x5), (7, .int x7)]) hx hb dX8_odds_91 hl (k := 6) rfl rfl (by decide) (fun _ => rfl) hf (fun v7 ls hf hl => ?_)
                    refine lv_goto (tgt := 40) hx hb dX8_odds_94 (by decide) ?_
                    exact ih40 x1 x7 x3 x5 v7 s4 _ H locs ls hf hW (lv_sub hl [1, 2, 3, 4, 5, 6, 0] rfl) hK40
                  · skip
                    refine lv_lload_n hx hb dX8_odds_65 rfl (lv_at hl 3 rfl) ?_
                    refine lv_lconst (v := 1) hx hb dX8_odds_66 (by decide) ?_
                    refine lv_ladd hx hb dX8_odds_67 ?_
                    refine zn_l hf (fun v8 hf => ?_)
                    refine lv_lstore_n (lv' := [(3, .long v8), (0, .ref (adr 0)), (1, .int x1), (2, .int p2), (5, .long x5), (7, .int x7), (8, .int x8)]) hx hb dX8_odds_68 rfl hl (by decide) rfl (fun ls hl => ?_)
                    refine lv_lload hx hb dX8_odds_69 (lv_at hl 4 rfl) ?_
                    refine lv_aload_n hx hb dX8_odds_71 rfl (lv_at hl 1 rfl) ?_
                    refine lv_iload hx hb dX8_odds_72 (lv_at hl 5 rfl) ?_
                    refine lv_iload hx hb dX8_odds_74 (lv_at hl 6 rfl) ?_
                    refine lv_iload_n hx hb dX8_odds_76 rfl (lv_at hl 2 rfl) ?_
                    obtain ⟨v9, s10, hq, hf⟩ := zb2_o hf
                    refine zc_i hW (zrun_v (As := [.int x7, .int x8, .int x1]) (rest := [.long x5]) hC hW (mX8_isReachedCut x7 x8 x1 s4 hC.2.2.2.2.2.2.2 hq) cv_X8_102 zck_1_0 zcs_1_0 rfl ⟨⟨rfl, rfl⟩, Nat.le_of_ble_eq_true rfl, Nat.le_of_ble_eq_true rfl⟩ (zlv_size hl) rfl (Nat.le_of_ble_eq_true rfl) dX8_odds_77 ⟨Nat.le_refl _, Nat.le_refl _⟩) (fun H locs hW => ?_)
                    refine zi_if_eq (tgt := 87) hx hb dX8_odds_80 (by decide) hf (fun hc hf => ?_) (fun hc hf => ?_)
                    · skip
                      refine lv_lconst (v := 0) hx hb dX8_odds_87 (by decide) ?_
                      refine lv_ladd hx hb dX8_odds_88 ?_
                      refine zn_l hf (fun v11 hf => ?_)
                      refine lv_lstore (lv' := [(5, .long v11), (3, .long v8), (0, .ref (adr 0)), (1, .int x1), (2, .int p2), (7, .int x7), (8, .int x8)]) hx hb dX8_odds_89 hl (by decide) rfl (fun ls hl => ?_)
                      refine zi_inc (v := (x8 + 1)) (lv' := fun v12 => [(8, .int v12), (5, .long v11), (3, .long v8), (0, .ref (adr 0)), (1, .int x1), (2, .int p2), (7, .int x7)]) hx hb dX8_odds_91 hl (k := 6) rfl rfl (by decide) (fun _ => rfl) hf (fun v12 ls hf hl => ?_)
                      refine lv_goto (tgt := 40) hx hb dX8_odds_94 (by decide) ?_
                      exact ih40 x1 x7 v8 v11 v12 s10 _ H locs ls hf hW (lv_sub hl [3, 4, 5, 2, 1, 6, 0] rfl) hK40
                    · skip
                      refine lv_lconst (v := 1) hx hb dX8_odds_83 (by decide) ?_
                      refine lv_goto (tgt := 88) hx hb dX8_odds_84 (by decide) ?_
                      refine lv_ladd hx hb dX8_odds_88 ?_
                      refine zn_l hf (fun v13 hf => ?_)
                      refine lv_lstore (lv' := [(5, .long v13), (3, .long v8), (0, .ref (adr 0)), (1, .int x1), (2, .int p2), (7, .int x7), (8, .int x8)]) hx hb dX8_odds_89 hl (by decide) rfl (fun ls hl => ?_)
                      refine zi_inc (v := (x8 + 1)) (lv' := fun v14 => [(8, .int v14), (5, .long v13), (3, .long v8), (0, .ref (adr 0)), (1, .int x1), (2, .int p2), (7, .int x7)]) hx hb dX8_odds_91 hl (k := 6) rfl rfl (by decide) (fun _ => rfl) hf (fun v14 ls hf hl => ?_)
                      refine lv_goto (tgt := 40) hx hb dX8_odds_94 (by decide) ?_
                      exact ih40 x1 x7 v8 v13 v14 s10 _ H locs ls hf hW (lv_sub hl [3, 4, 5, 2, 1, 6, 0] rfl) hK40
            refine hL40 zFU x1 x7 x3 x5 0 s3 _ H locs ls hf hW (lv_sub hl [1, 2, 3, 4, 5, 6, 0] rfl) (fun x15 x16 s17 H locs ls hf hW hl => ?_)
            refine zi_inc (v := (x7 + 1)) (lv' := fun v18 => [(7, .int v18), (0, .ref (adr 0)), (1, .int x1), (2, .int p2), (3, .long x15), (5, .long x16)]) hx hb dX8_odds_97 hl (k := 5) rfl rfl (by decide) (fun _ => rfl) hf (fun v18 ls hf hl => ?_)
            refine lv_goto (tgt := 30) hx hb dX8_odds_100 (by decide) ?_
            exact ih30 x1 x15 x16 v18 s17 _ H locs ls hf hW (lv_sub hl [1, 2, 3, 4, 5, 0] rfl) hK30
      refine hL30 zFU p1 0 0 0 s0 _ H locs ls hf hW (lv_sub hl [3, 4, 5, 2, 1, 0] rfl) (fun x19 x20 s21 H locs ls hf hW hl => ?_)
      refine lv_lload_n hx hb dX8_odds_103 rfl (lv_at hl 1 rfl) ?_
      refine lv_lconst (v := 0) hx hb dX8_odds_104 (by decide) ?_
      refine W.lcmp hx hb dX8_odds_105 ?_
      refine zi_if_ne (tgt := 115) hx hb dX8_odds_106 (by decide) hf (fun hc hf => ?_) (fun hc hf => ?_)
      · skip
        refine lv_ldc2 hx hb hC.2.2.2.1 (hC.2.2.2.2.1 _ wq_1136) dX8_odds_109 ?_
        refine lv_goto (tgt := 122) hx hb dX8_odds_112 (by decide) ?_
        exact zr_l hx hb hr hlk hW (zo1 hf) (zo2 hf) dX8_odds_122
      · skip
        refine lv_lload hx hb dX8_odds_115 (lv_at hl 2 rfl) ?_
        refine lv_lload_n hx hb dX8_odds_117 rfl (lv_at hl 1 rfl) ?_
        refine lv_iload_n hx hb dX8_odds_118 rfl (lv_at hl 0 rfl) ?_
        obtain ⟨v22, hq, hf⟩ := zb1_o hf
        refine zc_l hW (zrun_s (As := [.long x20, .long x19, .int p2]) (rest := []) hC hW (mX8_lowest x20 x19 p2 s21 hC.2.2.2.2.2.2.2 hq) cs_X8_256 rfl ⟨⟨rfl, rfl⟩, Nat.le_of_ble_eq_true rfl, Nat.le_of_ble_eq_true rfl⟩ (zlv_size hl) rfl (Nat.le_of_ble_eq_true rfl) dX8_odds_119 ⟨Nat.le_refl _, Nat.le_refl _⟩) (fun H locs hW => ?_)
        exact zr_l hx hb hr hlk hW (zo1 hf) (zo2 hf) dX8_odds_122
set_option maxHeartbeats 4000000 in
set_option maxRecDepth 100000 in
theorem mX8_mean {l : Launch} {D : va_G} {cI cJ : ClassId} {adr : Nat → Nat} (p1 : Int32) (s0 : zkS) {z : Nat} {ro : Int64} (hI : zInj 1 adr) (hf : fX8_mean p1 s0 = some ro) : Met l yX8_mean (Cond.code yX8_mean cX8_mean 6 (some .long) :: zTb) { frames := 4, cells := 0, slots := 0, locals := 93 } (zPre 1 D cI cJ adr s0 z [.ref (adr 0), .int p1]) (zQl 1 D cI cJ adr z ro s0) 0 0 (zA 1 adr z) := by
  refine zen (cc := cX8_mean) (own := RX8) (by decide +kernel) rfl hI (Nat.le_of_ble_eq_true rfl) (fun p e s m args below meth c ls hC hr hlk hz hl hW => ?_)
  subst hz
  obtain ⟨hx, hb, -⟩ := id hC
  have hl : lv_has ls 6 [(0, .ref (adr 0)), (1, .int p1)] := hl
  refine zst hW (fun H locs hW => ?_)
  unfold fX8_mean at hf
  refine lv_aload_n hx hb dX8_mean_0 rfl (lv_at hl 0 rfl) ?_
  refine zg_a (o := 0) hC hW fl_X8_11 zck_1_0 zcs_1_0 (show _ = 1 from rfl) dX8_mean_1 ?_
  obtain ⟨v1, hq, hf⟩ := zb1_o hf
  refine zc_i hW (zrun_s (As := [.ref (adr 1)]) (rest := []) hC hW (mX8_reached zMc_1 s0 hC.2.2.2.2.2.2.2 hq) cs_X8_99 rfl ⟨⟨rfl, rfl⟩, Nat.le_of_ble_eq_true rfl, Nat.le_of_ble_eq_true rfl⟩ (zlv_size hl) rfl (Nat.le_of_ble_eq_true rfl) dX8_mean_4 ⟨Nat.le_refl _, Nat.le_refl _⟩) (fun H locs hW => ?_)
  refine lv_istore_n (lv' := [(2, .int v1), (0, .ref (adr 0)), (1, .int p1)]) hx hb dX8_mean_7 rfl hl (by decide) rfl (fun ls hl => ?_)
  refine lv_iload_n hx hb dX8_mean_8 rfl (lv_at hl 2 rfl) ?_
  refine lv_i2l hx hb dX8_mean_9 rfl ?_
  refine lv_lconst (v := 0) hx hb dX8_mean_10 (by decide) ?_
  refine lv_lconst (v := 1) hx hb dX8_mean_11 (by decide) ?_
  refine zc_i hW (zrun_s (As := [.long ((p1 : Int32).toInt64), .long 0, .long 1]) (rest := []) hC hW (mX8_in ((p1 : Int32).toInt64) 0 1 s0 hC.2.2.2.2.2.2.2 rfl) cs_X8_57 rfl ⟨⟨rfl, rfl⟩, Nat.le_of_ble_eq_true rfl, Nat.le_of_ble_eq_true rfl⟩ (zlv_size hl) rfl (Nat.le_of_ble_eq_true rfl) dX8_mean_12 ⟨Nat.le_refl _, Nat.le_refl _⟩) (fun H locs hW => ?_)
  refine zi_if_eq (tgt := 22) hx hb dX8_mean_15 (by decide) hf (fun hc hf => ?_) (fun hc hf => ?_)
  · skip
    refine lv_ldc2 hx hb hC.2.2.2.1 (hC.2.2.2.2.1 _ wq_1136) dX8_mean_22 ?_
    exact zr_l hx hb hr hlk hW (Option.some.inj hf) rfl dX8_mean_25
  · skip
    refine lv_iload_n hx hb dX8_mean_18 rfl (lv_at hl 0 rfl) ?_
    refine zi_if_ne (tgt := 26) hx hb dX8_mean_19 (by decide) hf (fun hc hf => ?_) (fun hc hf => ?_)
    · skip
      refine lv_ldc2 hx hb hC.2.2.2.1 (hC.2.2.2.2.1 _ wq_1136) dX8_mean_22 ?_
      exact zr_l hx hb hr hlk hW (Option.some.inj hf) rfl dX8_mean_25
    · skip
      refine lv_lconst (v := 0) hx hb dX8_mean_26 (by decide) ?_
      refine lv_lstore_n (lv' := [(3, .long 0), (2, .int v1), (0, .ref (adr 0)), (1, .int p1)]) hx hb dX8_mean_27 rfl hl (by decide) rfl (fun ls hl => ?_)
      refine lv_iconst (v := 0) hx hb dX8_mean_28 (by decide) ?_
      refine lv_istore (lv' := [(5, .int 0), (3, .long 0), (2, .int v1), (0, .ref (adr 0)), (1, .int p1)]) hx hb dX8_mean_29 hl (by decide) rfl (fun ls hl => ?_)
      have hL31 : ∀ (n : Nat) (x2 : Int32) (x3 : Int64) (x5 : Int32) (K31 : Int64 → Option (Int64)) (H : Heap) (locs : List Loc) (ls : Array Slot), fX8_mean_L31 n s0 x2 x3 x5 K31 = some ro → zWo 1 D cI cJ adr s s0 H locs → lv_has ls 6 [(0, .ref (adr 0)), (1, .int p1), (2, .int x2), (3, .long x3), (5, .int x5)] → (∀ (x3 : Int64) (H : Heap) (locs : List Loc) (ls : Array Slot), K31 x3 = some ro → zWo 1 D cI cJ adr s s0 H locs → lv_has ls 6 [(1, .int p1), (2, .int x2), (3, .long x3)] → W p l e { frames := 4, cells := 0, slots := 0, locals := 93 } s m args below meth c H locs 0 0 (MQ below (zQl 1 D cI cJ adr s.heap.size ro s0) args s 0 0 (zA 1 adr s.heap.size)) (F0 m 70 ls [])) → W p l e { frames := 4, cells := 0, slots := 0, locals := 93 } s m args below meth c H locs 0 0 (MQ below (zQl 1 D cI cJ adr s.heap.size ro s0) args s 0 0 (zA 1 adr s.heap.size)) (F0 m 31 ls []) := by
        intro n
        induction n with
        | zero =>
          intro x2 x3 x5 K31 H locs ls hf hW hl hK31
          rw [fX8_mean_L31] at hf
          cases hf
        | succ n ih31 =>
          intro x2 x3 x5 K31 H locs ls hf hW hl hK31
          rw [fX8_mean_L31] at hf
          refine lv_iload hx hb dX8_mean_31 (lv_at hl 4 rfl) ?_
          refine lv_bipush (v := 24) hx hb dX8_mean_33 (by decide) ?_
          refine zi_icmp_ge (tgt := 70) hx hb dX8_mean_35 (by decide) hf (fun hc hf => ?_) (fun hc hf => ?_)
          · skip
            exact hK31 x3 H locs ls hf hW (lv_sub hl [1, 2, 3] rfl)
          · skip
            refine lv_lload_n hx hb dX8_mean_38 rfl (lv_at hl 3 rfl) ?_
            refine lv_iload_n hx hb dX8_mean_39 rfl (lv_at hl 2 rfl) ?_
            refine lv_iload hx hb dX8_mean_40 (lv_at hl 4 rfl) ?_
            refine zc_i hW (zrun_s (As := [.int x2, .int x5]) (rest := [.long x3]) hC hW (mX8_bit x2 x5 s0 hC.2.2.2.2.2.2.2 rfl) cs_X8_61 rfl ⟨⟨rfl, rfl⟩, Nat.le_of_ble_eq_true rfl, Nat.le_of_ble_eq_true rfl⟩ (zlv_size hl) rfl (Nat.le_of_ble_eq_true rfl) dX8_mean_42 ⟨Nat.le_refl _, Nat.le_refl _⟩) (fun H locs hW => ?_)
            refine zi_if_eq (tgt := 61) hx hb dX8_mean_45 (by decide) hf (fun hc hf => ?_) (fun hc hf => ?_)
            · skip
              refine lv_lconst (v := 0) hx hb dX8_mean_61 (by decide) ?_
              refine lv_ladd hx hb dX8_mean_62 ?_
              refine zn_l hf (fun v4 hf => ?_)
              refine lv_lstore_n (lv' := [(3, .long v4), (0, .ref (adr 0)), (1, .int p1), (2, .int x2), (5, .int x5)]) hx hb dX8_mean_63 rfl hl (by decide) rfl (fun ls hl => ?_)
              refine zi_inc (v := (x5 + 1)) (lv' := fun v5 => [(5, .int v5), (3, .long v4), (0, .ref (adr 0)), (1, .int p1), (2, .int x2)]) hx hb dX8_mean_64 hl (k := 4) rfl rfl (by decide) (fun _ => rfl) hf (fun v5 ls hf hl => ?_)
              refine lv_goto (tgt := 31) hx hb dX8_mean_67 (by decide) ?_
              exact ih31 x2 v4 v5 _ H locs ls hf hW (lv_sub hl [2, 3, 4, 1, 0] rfl) hK31
            · skip
              refine lv_aload_n hx hb dX8_mean_48 rfl (lv_at hl 0 rfl) ?_
              refine zg_a (o := 0) hC hW fl_X8_11 zck_1_0 zcs_1_0 (show _ = 1 from rfl) dX8_mean_49 ?_
              refine lv_iload hx hb dX8_mean_52 (lv_at hl 4 rfl) ?_
              obtain ⟨v6, hq, hf⟩ := zb1_o hf
              refine zc_i hW (zrun_s (As := [.ref (adr 1), .int x5]) (rest := [.long x3]) hC hW (mX8_far zMc_1 x5 s0 hC.2.2.2.2.2.2.2 hq) cs_X8_114 rfl ⟨⟨rfl, rfl⟩, Nat.le_of_ble_eq_true rfl, Nat.le_of_ble_eq_true rfl⟩ (zlv_size hl) rfl (Nat.le_of_ble_eq_true rfl) dX8_mean_54 ⟨Nat.le_refl _, Nat.le_refl _⟩) (fun H locs hW => ?_)
              refine lv_i2l hx hb dX8_mean_57 rfl ?_
              refine lv_goto (tgt := 62) hx hb dX8_mean_58 (by decide) ?_
              refine lv_ladd hx hb dX8_mean_62 ?_
              refine zn_l hf (fun v7 hf => ?_)
              refine lv_lstore_n (lv' := [(3, .long v7), (0, .ref (adr 0)), (1, .int p1), (2, .int x2), (5, .int x5)]) hx hb dX8_mean_63 rfl hl (by decide) rfl (fun ls hl => ?_)
              refine zi_inc (v := (x5 + 1)) (lv' := fun v8 => [(5, .int v8), (3, .long v7), (0, .ref (adr 0)), (1, .int p1), (2, .int x2)]) hx hb dX8_mean_64 hl (k := 4) rfl rfl (by decide) (fun _ => rfl) hf (fun v8 ls hf hl => ?_)
              refine lv_goto (tgt := 31) hx hb dX8_mean_67 (by decide) ?_
              exact ih31 x2 v7 v8 _ H locs ls hf hW (lv_sub hl [2, 3, 4, 1, 0] rfl) hK31
      refine hL31 zFU v1 0 0 _ H locs ls hf hW (lv_sub hl [3, 4, 2, 1, 0] rfl) (fun x9 H locs ls hf hW hl => ?_)
      refine lv_lload_n hx hb dX8_mean_70 rfl (lv_at hl 2 rfl) ?_
      refine lv_iload_n hx hb dX8_mean_71 rfl (lv_at hl 1 rfl) ?_
      refine zc_i hW (zrun_s (As := [.int v1]) (rest := [.long x9]) hC hW (mJ6_bitCount_0f7a4 v1 s0 hC.2.2.2.2.2.2.2 rfl) cs_X8_205 rfl ⟨⟨rfl, rfl⟩, Nat.le_of_ble_eq_true rfl, Nat.le_of_ble_eq_true rfl⟩ (zlv_size hl) rfl (Nat.le_of_ble_eq_true rfl) dX8_mean_72 ⟨Nat.le_refl _, Nat.le_refl _⟩) (fun H locs hW => ?_)
      refine lv_i2l hx hb dX8_mean_75 rfl ?_
      refine lv_iload_n hx hb dX8_mean_76 rfl (lv_at hl 0 rfl) ?_
      obtain ⟨v11, hq, hf⟩ := zb1_o hf
      refine zc_l hW (zrun_s (As := [.long x9, .long (((fJ6_bitCount_0f7a4 v1) : Int32).toInt64), .int p1]) (rest := []) hC hW (mX8_lowest x9 (((fJ6_bitCount_0f7a4 v1) : Int32).toInt64) p1 s0 hC.2.2.2.2.2.2.2 hq) cs_X8_256 rfl ⟨⟨rfl, rfl⟩, Nat.le_of_ble_eq_true rfl, Nat.le_of_ble_eq_true rfl⟩ (zlv_size hl) rfl (Nat.le_of_ble_eq_true rfl) dX8_mean_77 ⟨Nat.le_refl _, Nat.le_refl _⟩) (fun H locs hW => ?_)
      exact zr_l hx hb hr hlk hW (Option.some.inj hf) rfl dX8_mean_80
set_option maxHeartbeats 4000000 in
set_option maxRecDepth 100000 in
theorem mX8_isPlanned {l : Launch} {D : va_G} {cI cJ : ClassId} {adr : Nat → Nat} (p1 : Int32) (p2 : Int32) (s0 : zkS) {z : Nat} {ro : Int32} (hI : zInj 1 adr) (hf : fX8_isPlanned p1 p2 s0 = some ro) : Met l yX8_isPlanned (Cond.code yX8_isPlanned cX8_isPlanned 3 (some .boolean) :: zTb) { frames := 3, cells := 0, slots := 0, locals := 68 } (zPre 1 D cI cJ adr s0 z [.ref (adr 0), .int p1, .int p2]) (zQi 1 D cI cJ adr z ro s0) 0 0 (zA 1 adr z) := by
  refine zen (cc := cX8_isPlanned) (own := RX8) (by decide +kernel) rfl hI (Nat.le_of_ble_eq_true rfl) (fun p e s m args below meth c ls hC hr hlk hz hl hW => ?_)
  subst hz
  obtain ⟨hx, hb, -⟩ := id hC
  have hl : lv_has ls 3 [(0, .ref (adr 0)), (1, .int p1), (2, .int p2)] := hl
  refine zst hW (fun H locs hW => ?_)
  unfold fX8_isPlanned at hf
  refine lv_iload_n hx hb dX8_isPlanned_0 rfl (lv_at hl 1 rfl) ?_
  refine zjn_e hf (fun J1 => ∀ (u2 : Unit) (H : Heap) (locs : List Loc) (ls : Array Slot), J1 u2 = some ro → zWo 1 D cI cJ adr s s0 H locs → lv_has ls 3 [(0, .ref (adr 0)), (1, .int p1), (2, .int p2)] → W p l e { frames := 3, cells := 0, slots := 0, locals := 68 } s m args below meth c H locs 0 0 (MQ below (zQi 1 D cI cJ adr s.heap.size ro s0) args s 0 0 (zA 1 adr s.heap.size)) (F0 m 23 ls [])) ?_ (fun J1 hJ1 hf => ?_)
  · intro u2 H locs ls hf hW hl
    refine lv_iload_n hx hb dX8_isPlanned_23 rfl (lv_at hl 1 rfl) ?_
    refine lv_iconst (v := 1) hx hb dX8_isPlanned_24 (by decide) ?_
    refine zjn_e hf (fun J3 => ∀ (u4 : Unit) (H : Heap) (locs : List Loc) (ls : Array Slot), J3 u4 = some ro → zWo 1 D cI cJ adr s s0 H locs → lv_has ls 3 [(0, .ref (adr 0)), (1, .int p1), (2, .int p2)] → W p l e { frames := 3, cells := 0, slots := 0, locals := 68 } s m args below meth c H locs 0 0 (MQ below (zQi 1 D cI cJ adr s.heap.size ro s0) args s 0 0 (zA 1 adr s.heap.size)) (F0 m 40 ls [])) ?_ (fun J3 hJ3 hf => ?_)
    · intro u4 H locs ls hf hW hl
      refine lv_iload_n hx hb dX8_isPlanned_40 rfl (lv_at hl 1 rfl) ?_
      refine lv_iconst (v := 2) hx hb dX8_isPlanned_41 (by decide) ?_
      refine zi_icmp_ne (tgt := 57) hx hb dX8_isPlanned_42 (by decide) hf (fun hc hf => ?_) (fun hc hf => ?_)
      · skip
        refine lv_aload_n hx hb dX8_isPlanned_45 rfl (lv_at hl 0 rfl) ?_
        refine lv_iload_n hx hb dX8_isPlanned_46 rfl (lv_at hl 2 rfl) ?_
        obtain ⟨v5, hq, hf⟩ := zb1_o hf
        refine zc_i hW (zrun_v (As := [.int p2]) (rest := []) hC hW (mX8_isThere p2 s0 hC.2.2.2.2.2.2.2 hq) cv_X8_65 zck_1_0 zcs_1_0 rfl ⟨⟨rfl, rfl⟩, Nat.le_of_ble_eq_true rfl, Nat.le_of_ble_eq_true rfl⟩ (zlv_size hl) rfl (Nat.le_of_ble_eq_true rfl) dX8_isPlanned_47 ⟨Nat.le_refl _, Nat.le_refl _⟩) (fun H locs hW => ?_)
        refine zi_if_eq (tgt := 57) hx hb dX8_isPlanned_50 (by decide) hf (fun hc hf => ?_) (fun hc hf => ?_)
        · skip
          refine lv_iconst (v := 0) hx hb dX8_isPlanned_57 (by decide) ?_
          exact zr_z hx hb hr hlk hW (by decide) (Option.some.inj hf) rfl dX8_isPlanned_58
        · skip
          refine lv_iconst (v := 1) hx hb dX8_isPlanned_53 (by decide) ?_
          refine lv_goto (tgt := 58) hx hb dX8_isPlanned_54 (by decide) ?_
          exact zr_z hx hb hr hlk hW (by decide) (Option.some.inj hf) rfl dX8_isPlanned_58
      · skip
        refine lv_iconst (v := 0) hx hb dX8_isPlanned_57 (by decide) ?_
        exact zr_z hx hb hr hlk hW (by decide) (Option.some.inj hf) rfl dX8_isPlanned_58
    refine zi_icmp_ne (tgt := 40) hx hb dX8_isPlanned_25 (by decide) hf (fun hc hf => ?_) (fun hc hf => ?_)
    · skip
      refine lv_iload_n hx hb dX8_isPlanned_28 rfl (lv_at hl 2 rfl) ?_
      refine lv_i2l hx hb dX8_isPlanned_29 rfl ?_
      refine lv_lconst (v := 0) hx hb dX8_isPlanned_30 (by decide) ?_
      refine lv_ldc2 hx hb hC.2.2.2.1 (hC.2.2.2.2.1 _ wq_986) dX8_isPlanned_31 ?_
      refine zc_i hW (zrun_s (As := [.long ((p2 : Int32).toInt64), .long 0, .long 3]) (rest := []) hC hW (mX8_in ((p2 : Int32).toInt64) 0 3 s0 hC.2.2.2.2.2.2.2 rfl) cs_X8_57 rfl ⟨⟨rfl, rfl⟩, Nat.le_of_ble_eq_true rfl, Nat.le_of_ble_eq_true rfl⟩ (zlv_size hl) rfl (Nat.le_of_ble_eq_true rfl) dX8_isPlanned_34 ⟨Nat.le_refl _, Nat.le_refl _⟩) (fun H locs hW => ?_)
      refine zi_if_ne (tgt := 53) hx hb dX8_isPlanned_37 (by decide) hf (fun hc hf => ?_) (fun hc hf => ?_)
      · skip
        exact hJ3 () H locs ls hf hW (lv_sub hl [0, 1, 2] rfl)
      · skip
        refine lv_iconst (v := 1) hx hb dX8_isPlanned_53 (by decide) ?_
        refine lv_goto (tgt := 58) hx hb dX8_isPlanned_54 (by decide) ?_
        exact zr_z hx hb hr hlk hW (by decide) (Option.some.inj hf) rfl dX8_isPlanned_58
    · skip
      exact hJ3 () H locs ls hf hW (lv_sub hl [0, 1, 2] rfl)
  refine zi_if_ne (tgt := 23) hx hb dX8_isPlanned_1 (by decide) hf (fun hc hf => ?_) (fun hc hf => ?_)
  · skip
    refine lv_iload_n hx hb dX8_isPlanned_4 rfl (lv_at hl 2 rfl) ?_
    refine zi_if_lt (tgt := 23) hx hb dX8_isPlanned_5 (by decide) hf (fun hc hf => ?_) (fun hc hf => ?_)
    · skip
      exact hJ1 () H locs ls hf hW (lv_sub hl [0, 1, 2] rfl)
    · skip
      refine lv_aload_n hx hb dX8_isPlanned_8 rfl (lv_at hl 0 rfl) ?_
      refine lv_iload_n hx hb dX8_isPlanned_9 rfl (lv_at hl 2 rfl) ?_
      refine lv_bipush (v := 10) hx hb dX8_isPlanned_10 (by decide) ?_
      refine lv_idiv hx hb dX8_isPlanned_12 (by decide) ?_
      refine lv_iload_n hx hb dX8_isPlanned_13 rfl (lv_at hl 2 rfl) ?_
      refine lv_bipush (v := 10) hx hb dX8_isPlanned_14 (by decide) ?_
      refine lv_irem hx hb dX8_isPlanned_16 (by decide) ?_
      obtain ⟨v7, hq, hf⟩ := zb1_o hf
      refine zc_i hW (zrun_v (As := [.int (p2 / 10), .int (p2 - p2 / 10 * 10)]) (rest := []) hC hW (mX8_isField (p2 / 10) (p2 - p2 / 10 * 10) s0 hC.2.2.2.2.2.2.2 hq) cv_X8_96 zck_1_0 zcs_1_0 rfl ⟨⟨rfl, rfl⟩, Nat.le_of_ble_eq_true rfl, Nat.le_of_ble_eq_true rfl⟩ (zlv_size hl) rfl (Nat.le_of_ble_eq_true rfl) dX8_isPlanned_17 ⟨Nat.le_refl _, Nat.le_refl _⟩) (fun H locs hW => ?_)
      refine zi_if_ne (tgt := 53) hx hb dX8_isPlanned_20 (by decide) hf (fun hc hf => ?_) (fun hc hf => ?_)
      · skip
        exact hJ1 () H locs ls hf hW (lv_sub hl [0, 1, 2] rfl)
      · skip
        refine lv_iconst (v := 1) hx hb dX8_isPlanned_53 (by decide) ?_
        refine lv_goto (tgt := 58) hx hb dX8_isPlanned_54 (by decide) ?_
        exact zr_z hx hb hr hlk hW (by decide) (Option.some.inj hf) rfl dX8_isPlanned_58
  · skip
    exact hJ1 () H locs ls hf hW (lv_sub hl [0, 1, 2] rfl)
set_option maxHeartbeats 4000000 in
set_option maxRecDepth 100000 in
theorem mX8_plan {l : Launch} {D : va_G} {cI cJ : ClassId} {adr : Nat → Nat} (p1 : Int32) (p2 : Int32) (s0 : zkS) {z : Nat} {ro : Int32} {so : zkS} (hI : zInj 1 adr) (hf : fX8_plan p1 p2 s0 = some (ro, so)) : Met l yX8_plan (Cond.code yX8_plan cX8_plan 4 (some .int) :: zTb) { frames := 4, cells := 0, slots := 0, locals := 90 } (zPre 1 D cI cJ adr s0 z [.ref (adr 0), .int p1, .int p2]) (zQi 1 D cI cJ adr z ro so) 0 0 (zA 1 adr z) := by
  refine zen (cc := cX8_plan) (own := RX8) (by decide +kernel) rfl hI (Nat.le_of_ble_eq_true rfl) (fun p e s m args below meth c ls hC hr hlk hz hl hW => ?_)
  subst hz
  obtain ⟨hx, hb, -⟩ := id hC
  have hl : lv_has ls 4 [(0, .ref (adr 0)), (1, .int p1), (2, .int p2)] := hl
  refine zst hW (fun H locs hW => ?_)
  unfold fX8_plan at hf
  refine lv_iload_n hx hb dX8_plan_0 rfl (lv_at hl 1 rfl) ?_
  refine lv_iconst (v := (-1)) hx hb dX8_plan_1 (by decide) ?_
  refine zi_icmp_ne (tgt := 16) hx hb dX8_plan_2 (by decide) hf (fun hc hf => ?_) (fun hc hf => ?_)
  · skip
    refine lv_aload_n hx hb dX8_plan_5 rfl (lv_at hl 0 rfl) ?_
    refine zg_a (o := 0) hC hW fl_X8_11 zck_1_0 zcs_1_0 (show _ = 1 from rfl) dX8_plan_6 ?_
    refine lv_sipush (v := 320) hx hb dX8_plan_9 (by decide) ?_
    refine lv_iconst (v := 0) hx hb dX8_plan_12 (by decide) ?_
    refine za_s hC hW hf zar_1_1 dX8_plan_13 (fun s1 H locs hf hW => ?_)
    refine lv_iconst (v := 0) hx hb dX8_plan_14 (by decide) ?_
    exact zr_i hx hb hr hlk hW (zo1 hf) (zo2 hf) dX8_plan_15
  · skip
    refine lv_aload_n hx hb dX8_plan_16 rfl (lv_at hl 0 rfl) ?_
    refine lv_iload_n hx hb dX8_plan_17 rfl (lv_at hl 1 rfl) ?_
    refine lv_iload_n hx hb dX8_plan_18 rfl (lv_at hl 2 rfl) ?_
    obtain ⟨v2, hq, hf⟩ := zb1_o hf
    refine zc_i hW (zrun_v (As := [.int p1, .int p2]) (rest := []) hC hW (mX8_isPlanned p1 p2 s0 hC.2.2.2.2.2.2.2 hq) cv_X8_260 zck_1_0 zcs_1_0 rfl ⟨⟨rfl, rfl⟩, Nat.le_of_ble_eq_true rfl, Nat.le_of_ble_eq_true rfl⟩ (zlv_size hl) rfl (Nat.le_of_ble_eq_true rfl) dX8_plan_19 ⟨Nat.le_refl _, Nat.le_refl _⟩) (fun H locs hW => ?_)
    refine zi_if_ne (tgt := 27) hx hb dX8_plan_22 (by decide) hf (fun hc hf => ?_) (fun hc hf => ?_)
    · skip
      refine lv_iconst (v := (-1)) hx hb dX8_plan_25 (by decide) ?_
      exact zr_i hx hb hr hlk hW (zo1 hf) (zo2 hf) dX8_plan_26
    · skip
      refine lv_aload_n hx hb dX8_plan_27 rfl (lv_at hl 0 rfl) ?_
      refine zg_a (o := 0) hC hW fl_X8_11 zck_1_0 zcs_1_0 (show _ = 1 from rfl) dX8_plan_28 ?_
      refine lv_sipush (v := 320) hx hb dX8_plan_31 (by decide) ?_
      refine za_l hC hW hf zar_1_1 dX8_plan_34 (fun v3 hf => ?_)
      refine lv_istore_n (lv' := [(3, .int v3), (0, .ref (adr 0)), (1, .int p1), (2, .int p2)]) hx hb dX8_plan_35 rfl hl (by decide) rfl (fun ls hl => ?_)
      refine lv_iload_n hx hb dX8_plan_36 rfl (lv_at hl 0 rfl) ?_
      refine lv_bipush (v := 10) hx hb dX8_plan_37 (by decide) ?_
      refine zi_icmp_ne (tgt := 45) hx hb dX8_plan_39 (by decide) hf (fun hc hf => ?_) (fun hc hf => ?_)
      · skip
        refine lv_bipush (v := (-4)) hx hb dX8_plan_42 (by decide) ?_
        exact zr_i hx hb hr hlk hW (zo1 hf) (zo2 hf) dX8_plan_44
      · skip
        refine lv_aload_n hx hb dX8_plan_45 rfl (lv_at hl 1 rfl) ?_
        refine zg_a (o := 0) hC hW fl_X8_11 zck_1_0 zcs_1_0 (show _ = 1 from rfl) dX8_plan_46 ?_
        refine lv_sipush (v := 300) hx hb dX8_plan_49 (by decide) ?_
        refine lv_iconst (v := 2) hx hb dX8_plan_52 (by decide) ?_
        refine lv_iload_n hx hb dX8_plan_53 rfl (lv_at hl 0 rfl) ?_
        refine lv_imul hx hb dX8_plan_54 ?_
        refine lv_iadd hx hb dX8_plan_55 ?_
        refine lv_iload_n hx hb dX8_plan_56 rfl (lv_at hl 2 rfl) ?_
        refine za_s hC hW hf zar_1_1 dX8_plan_57 (fun s4 H locs hf hW => ?_)
        refine lv_aload_n hx hb dX8_plan_58 rfl (lv_at hl 1 rfl) ?_
        refine zg_a (o := 0) hC hW fl_X8_11 zck_1_0 zcs_1_0 (show _ = 1 from rfl) dX8_plan_59 ?_
        refine lv_sipush (v := 300) hx hb dX8_plan_62 (by decide) ?_
        refine lv_iconst (v := 2) hx hb dX8_plan_65 (by decide) ?_
        refine lv_iload_n hx hb dX8_plan_66 rfl (lv_at hl 0 rfl) ?_
        refine lv_imul hx hb dX8_plan_67 ?_
        refine lv_iadd hx hb dX8_plan_68 ?_
        refine lv_iconst (v := 1) hx hb dX8_plan_69 (by decide) ?_
        refine lv_iadd hx hb dX8_plan_70 ?_
        refine lv_iload_n hx hb dX8_plan_71 rfl (lv_at hl 3 rfl) ?_
        refine za_s hC hW hf zar_1_1 dX8_plan_72 (fun s5 H locs hf hW => ?_)
        refine lv_aload_n hx hb dX8_plan_73 rfl (lv_at hl 1 rfl) ?_
        refine zg_a (o := 0) hC hW fl_X8_11 zck_1_0 zcs_1_0 (show _ = 1 from rfl) dX8_plan_74 ?_
        refine lv_sipush (v := 320) hx hb dX8_plan_77 (by decide) ?_
        refine lv_iload_n hx hb dX8_plan_80 rfl (lv_at hl 0 rfl) ?_
        refine lv_iconst (v := 1) hx hb dX8_plan_81 (by decide) ?_
        refine lv_iadd hx hb dX8_plan_82 ?_
        refine za_s hC hW hf zar_1_1 dX8_plan_83 (fun s6 H locs hf hW => ?_)
        refine lv_iload_n hx hb dX8_plan_84 rfl (lv_at hl 0 rfl) ?_
        refine lv_iconst (v := 1) hx hb dX8_plan_85 (by decide) ?_
        refine lv_iadd hx hb dX8_plan_86 ?_
        exact zr_i hx hb hr hlk hW (zo1 hf) (zo2 hf) dX8_plan_87
