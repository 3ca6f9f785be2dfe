set_option maxHeartbeats 4000000 in
set_option maxRecDepth 100000 in
theorem mX7_item {l : Launch} {D : va_G} {cI cJ : ClassId} {adr : Nat → Nat} (p1 : Int32) (p2 : Int32) (p3 : Int64) (s0 : zkS) {z : Nat} {ro : Int32} {so : zkS} (hI : zInj 0 adr) (hf : fX7_item p1 p2 p3 s0 = some (ro, so)) : Met l yX7_item (Cond.code yX7_item cX7_item 5 (some .int) :: zTb) { frames := 3, cells := 0, slots := 0, locals := 66 } (zPre 0 D cI cJ adr s0 z [.ref (adr 0), .int p1, .int p2, .long p3]) (zQi 0 D cI cJ adr z ro so) 0 0 (zA 0 adr z) := by
  refine zen (cc := cX7_item) (own := RX7) (by decide +kernel) rfl hI (Nat.le_of_ble_eq_true rfl) (fun p e s m args below meth c ls hC hr hlk hz hl hW => ?_)
  subst hz
  obtain ⟨hx, hb, -⟩ := id hC
  have hl : lv_has ls 5 [(0, .ref (adr 0)), (1, .int p1), (2, .int p2), (3, .long p3)] := hl
  refine zst hW (fun H locs hW => ?_)
  unfold fX7_item at hf
  refine lv_iload_n hx hb dX7_item_0 rfl (lv_at hl 1 rfl) ?_
  refine zc_i hW (zrun_s (As := [.int p1]) (rest := []) hC hW (mX7_isTape p1 s0 hC.2.2.2.2.2.2.2 rfl) cs_X7_293 rfl ⟨⟨rfl, rfl⟩, Nat.le_of_ble_eq_true rfl, Nat.le_of_ble_eq_true rfl⟩ (zlv_size hl) rfl (Nat.le_of_ble_eq_true rfl) dX7_item_1 ⟨Nat.le_refl _, Nat.le_refl _⟩) (fun H locs hW => ?_)
  refine zi_if_ne (tgt := 9) hx hb dX7_item_4 (by decide) hf (fun hc hf => ?_) (fun hc hf => ?_)
  · skip
    refine lv_iconst (v := (-1)) hx hb dX7_item_7 (by decide) ?_
    exact zr_i hx hb hr hlk hW (zo1 hf) (zo2 hf) dX7_item_8
  · skip
    refine lv_aload_n hx hb dX7_item_9 rfl (lv_at hl 0 rfl) ?_
    refine zg_a (o := 48) hC hW fl_X7_56 zck_0_0 zcs_0_0 (show _ = 49 from rfl) dX7_item_10 ?_
    refine lv_iload_n hx hb dX7_item_13 rfl (lv_at hl 1 rfl) ?_
    obtain ⟨v2, hq, hf⟩ := zb1_o hf
    refine zc_i hW (zrun_v (As := [.int p1]) (rest := []) hC hW (mX5_sortOf p1 s0 hC.2.2.2.2.2.2.2 hq) cv_X7_296 zck_0_49 zcs_0_49 rfl ⟨⟨rfl, rfl⟩, Nat.le_of_ble_eq_true rfl, Nat.le_of_ble_eq_true rfl⟩ (zlv_size hl) rfl (Nat.le_of_ble_eq_true rfl) dX7_item_14 ⟨Nat.le_refl _, Nat.le_refl _⟩) (fun H locs hW => ?_)
    refine lv_bipush (v := (-5)) hx hb dX7_item_17 (by decide) ?_
    refine zi_icmp_ne (tgt := 25) hx hb dX7_item_19 (by decide) hf (fun hc hf => ?_) (fun hc hf => ?_)
    · skip
      refine lv_bipush (v := (-11)) hx hb dX7_item_22 (by decide) ?_
      exact zr_i hx hb hr hlk hW (zo1 hf) (zo2 hf) dX7_item_24
    · skip
      refine lv_aload_n hx hb dX7_item_25 rfl (lv_at hl 0 rfl) ?_
      refine zg_a (o := 48) hC hW fl_X7_56 zck_0_0 zcs_0_0 (show _ = 49 from rfl) dX7_item_26 ?_
      refine lv_iload_n hx hb dX7_item_29 rfl (lv_at hl 1 rfl) ?_
      refine lv_iload_n hx hb dX7_item_30 rfl (lv_at hl 2 rfl) ?_
      obtain ⟨v3, hq, hf⟩ := zb1_o hf
      refine zc_i hW (zrun_v (As := [.int p1, .int p2]) (rest := []) hC hW (mX5_isPlace p1 p2 s0 hC.2.2.2.2.2.2.2 hq) cv_X7_299 zck_0_49 zcs_0_49 rfl ⟨⟨rfl, rfl⟩, Nat.le_of_ble_eq_true rfl, Nat.le_of_ble_eq_true rfl⟩ (zlv_size hl) rfl (Nat.le_of_ble_eq_true rfl) dX7_item_31 ⟨Nat.le_refl _, Nat.le_refl _⟩) (fun H locs hW => ?_)
      refine zi_if_ne (tgt := 40) hx hb dX7_item_34 (by decide) hf (fun hc hf => ?_) (fun hc hf => ?_)
      · skip
        refine lv_bipush (v := (-13)) hx hb dX7_item_37 (by decide) ?_
        exact zr_i hx hb hr hlk hW (zo1 hf) (zo2 hf) dX7_item_39
      · skip
        refine lv_aload_n hx hb dX7_item_40 rfl (lv_at hl 0 rfl) ?_
        refine zg_a (o := 48) hC hW fl_X7_56 zck_0_0 zcs_0_0 (show _ = 49 from rfl) dX7_item_41 ?_
        refine lv_iload_n hx hb dX7_item_44 rfl (lv_at hl 1 rfl) ?_
        refine lv_iload_n hx hb dX7_item_45 rfl (lv_at hl 2 rfl) ?_
        refine lv_lload_n hx hb dX7_item_46 rfl (lv_at hl 3 rfl) ?_
        obtain ⟨s4, hq, hf⟩ := zb1_o hf
        refine zc_v hW (zrun_v (As := [.int p1, .int p2, .long p3]) (rest := []) hC hW (mX5_write p1 p2 p3 s0 hC.2.2.2.2.2.2.2 hq) cv_X7_315 zck_0_49 zcs_0_49 rfl ⟨⟨rfl, rfl⟩, Nat.le_of_ble_eq_true rfl, Nat.le_of_ble_eq_true rfl⟩ (zlv_size hl) rfl (Nat.le_of_ble_eq_true rfl) dX7_item_47 ⟨Nat.le_refl _, Nat.le_refl _⟩) (fun H locs hW => ?_)
        refine lv_iconst (v := 1) hx hb dX7_item_50 (by decide) ?_
        exact zr_i hx hb hr hlk hW (zo1 hf) (zo2 hf) dX7_item_51
set_option maxHeartbeats 4000000 in
set_option maxRecDepth 100000 in
theorem mX7_read {l : Launch} {D : va_G} {cI cJ : ClassId} {adr : Nat → Nat} (p1 : Int32) (p2 : Int32) (s0 : zkS) {z : Nat} {ro : Int64} (hI : zInj 0 adr) (hf : fX7_read p1 p2 s0 = some ro) : Met l yX7_read (Cond.code yX7_read cX7_read 3 (some .long) :: zTb) { frames := 3, cells := 0, slots := 0, locals := 64 } (zPre 0 D cI cJ adr s0 z [.ref (adr 0), .int p1, .int p2]) (zQl 0 D cI cJ adr z ro s0) 0 0 (zA 0 adr z) := by
  refine zen (cc := cX7_read) (own := RX7) (by decide +kernel) rfl hI (Nat.le_of_ble_eq_true rfl) (fun p e s m args below meth c ls hC hr hlk hz hl hW => ?_)
  subst hz
  obtain ⟨hx, hb, -⟩ := id hC
  have hl : lv_has ls 3 [(0, .ref (adr 0)), (1, .int p1), (2, .int p2)] := hl
  refine zst hW (fun H locs hW => ?_)
  unfold fX7_read at hf
  refine lv_aload_n hx hb dX7_read_0 rfl (lv_at hl 0 rfl) ?_
  refine zg_a (o := 48) hC hW fl_X7_56 zck_0_0 zcs_0_0 (show _ = 49 from rfl) dX7_read_1 ?_
  refine lv_iload_n hx hb dX7_read_4 rfl (lv_at hl 1 rfl) ?_
  refine lv_iload_n hx hb dX7_read_5 rfl (lv_at hl 2 rfl) ?_
  obtain ⟨v1, hq, hf⟩ := zb1_o hf
  refine zc_i hW (zrun_v (As := [.int p1, .int p2]) (rest := []) hC hW (mX5_isPlace p1 p2 s0 hC.2.2.2.2.2.2.2 hq) cv_X7_299 zck_0_49 zcs_0_49 rfl ⟨⟨rfl, rfl⟩, Nat.le_of_ble_eq_true rfl, Nat.le_of_ble_eq_true rfl⟩ (zlv_size hl) rfl (Nat.le_of_ble_eq_true rfl) dX7_read_6 ⟨Nat.le_refl _, Nat.le_refl _⟩) (fun H locs hW => ?_)
  refine zi_if_eq (tgt := 24) hx hb dX7_read_9 (by decide) hf (fun hc hf => ?_) (fun hc hf => ?_)
  · skip
    refine lv_ldc2 hx hb hC.2.2.2.1 (hC.2.2.2.2.1 _ wq_701) dX7_read_24 ?_
    exact zr_l hx hb hr hlk hW (Option.some.inj hf) rfl dX7_read_27
  · skip
    refine lv_aload_n hx hb dX7_read_12 rfl (lv_at hl 0 rfl) ?_
    refine zg_a (o := 48) hC hW fl_X7_56 zck_0_0 zcs_0_0 (show _ = 49 from rfl) dX7_read_13 ?_
    refine lv_iload_n hx hb dX7_read_16 rfl (lv_at hl 1 rfl) ?_
    refine lv_iload_n hx hb dX7_read_17 rfl (lv_at hl 2 rfl) ?_
    obtain ⟨v2, hq, hf⟩ := zb1_o hf
    refine zc_l hW (zrun_v (As := [.int p1, .int p2]) (rest := []) hC hW (mX5_itemAt p1 p2 s0 hC.2.2.2.2.2.2.2 hq) cv_X7_302 zck_0_49 zcs_0_49 rfl ⟨⟨rfl, rfl⟩, Nat.le_of_ble_eq_true rfl, Nat.le_of_ble_eq_true rfl⟩ (zlv_size hl) rfl (Nat.le_of_ble_eq_true rfl) dX7_read_18 ⟨Nat.le_refl _, Nat.le_refl _⟩) (fun H locs hW => ?_)
    refine lv_goto (tgt := 27) hx hb dX7_read_21 (by decide) ?_
    exact zr_l hx hb hr hlk hW (Option.some.inj hf) rfl dX7_read_27
set_option maxHeartbeats 4000000 in
set_option maxRecDepth 100000 in
theorem mX5_isSpan {l : Launch} {D : va_G} {cI cJ : ClassId} {adr : Nat → Nat} (p1 : Int32) (p2 : Int32) (p3 : Int32) (s0 : zkS) {z : Nat} {ro : Int32} (hI : zInj 0 adr) (hf : fX5_isSpan p1 p2 p3 s0 = some ro) : Met l yX5_isSpan (Cond.code yX5_isSpan cX5_isSpan 4 (some .boolean) :: zTb) { frames := 1, cells := 0, slots := 0, locals := 20 } (zPre 0 D cI cJ adr s0 z [.ref (adr 49), .int p1, .int p2, .int p3]) (zQi 0 D cI cJ adr z ro s0) 0 0 (zA 0 adr z) := by
  refine zen (cc := cX5_isSpan) (own := RX5) (by decide +kernel) rfl hI (Nat.le_of_ble_eq_true rfl) (fun p e s m args below meth c ls hC hr hlk hz hl hW => ?_)
  subst hz
  obtain ⟨hx, hb, -⟩ := id hC
  have hl : lv_has ls 4 [(0, .ref (adr 49)), (1, .int p1), (2, .int p2), (3, .int p3)] := hl
  refine zst hW (fun H locs hW => ?_)
  unfold fX5_isSpan at hf
  refine lv_iload_n hx hb dX5_isSpan_0 rfl (lv_at hl 1 rfl) ?_
  refine zc_i hW (zrun_n (As := [.int p1]) (rest := []) hC hW (mX7_isTape p1 s0 hC.2.2.2.2.2.2.2 rfl) cn_X5_28 rfl ⟨⟨rfl, rfl⟩, Nat.le_of_ble_eq_true rfl, Nat.le_of_ble_eq_true rfl⟩ (zlv_size hl) rfl (Nat.le_of_ble_eq_true rfl) dX5_isSpan_1 ⟨Nat.le_refl _, Nat.le_refl _⟩) (fun H locs hW => ?_)
  refine zi_if_eq (tgt := 41) hx hb dX5_isSpan_4 (by decide) hf (fun hc hf => ?_) (fun hc hf => ?_)
  · skip
    refine lv_iconst (v := 0) hx hb dX5_isSpan_41 (by decide) ?_
    exact zr_z hx hb hr hlk hW (by decide) (Option.some.inj hf) rfl dX5_isSpan_42
  · skip
    refine lv_iload_n hx hb dX5_isSpan_7 rfl (lv_at hl 3 rfl) ?_
    refine zi_if_lt (tgt := 41) hx hb dX5_isSpan_8 (by decide) hf (fun hc hf => ?_) (fun hc hf => ?_)
    · skip
      refine lv_iconst (v := 0) hx hb dX5_isSpan_41 (by decide) ?_
      exact zr_z hx hb hr hlk hW (by decide) (Option.some.inj hf) rfl dX5_isSpan_42
    · skip
      refine lv_iload_n hx hb dX5_isSpan_11 rfl (lv_at hl 2 rfl) ?_
      refine zi_if_lt (tgt := 41) hx hb dX5_isSpan_12 (by decide) hf (fun hc hf => ?_) (fun hc hf => ?_)
      · skip
        refine lv_iconst (v := 0) hx hb dX5_isSpan_41 (by decide) ?_
        exact zr_z hx hb hr hlk hW (by decide) (Option.some.inj hf) rfl dX5_isSpan_42
      · skip
        refine lv_iload_n hx hb dX5_isSpan_15 rfl (lv_at hl 2 rfl) ?_
        refine lv_aload_n hx hb dX5_isSpan_16 rfl (lv_at hl 0 rfl) ?_
        refine zg_a (o := 1) hC hW fl_X5_15 zck_0_49 zcs_0_49 (show _ = 51 from rfl) dX5_isSpan_17 ?_
        refine lv_iload_n hx hb dX5_isSpan_20 rfl (lv_at hl 1 rfl) ?_
        refine za_l hC hW hf zar_0_51 dX5_isSpan_21 (fun v2 hf => ?_)
        refine zi_icmp_gt (tgt := 41) hx hb dX5_isSpan_22 (by decide) hf (fun hc hf => ?_) (fun hc hf => ?_)
        · skip
          refine lv_iconst (v := 0) hx hb dX5_isSpan_41 (by decide) ?_
          exact zr_z hx hb hr hlk hW (by decide) (Option.some.inj hf) rfl dX5_isSpan_42
        · skip
          refine lv_iload_n hx hb dX5_isSpan_25 rfl (lv_at hl 3 rfl) ?_
          refine lv_aload_n hx hb dX5_isSpan_26 rfl (lv_at hl 0 rfl) ?_
          refine zg_a (o := 1) hC hW fl_X5_15 zck_0_49 zcs_0_49 (show _ = 51 from rfl) dX5_isSpan_27 ?_
          refine lv_iload_n hx hb dX5_isSpan_30 rfl (lv_at hl 1 rfl) ?_
          refine za_l hC hW hf zar_0_51 dX5_isSpan_31 (fun v3 hf => ?_)
          refine lv_iload_n hx hb dX5_isSpan_32 rfl (lv_at hl 2 rfl) ?_
          refine lv_isub hx hb dX5_isSpan_33 ?_
          refine zi_icmp_gt (tgt := 41) hx hb dX5_isSpan_34 (by decide) hf (fun hc hf => ?_) (fun hc hf => ?_)
          · skip
            refine lv_iconst (v := 0) hx hb dX5_isSpan_41 (by decide) ?_
            exact zr_z hx hb hr hlk hW (by decide) (Option.some.inj hf) rfl dX5_isSpan_42
          · skip
            refine lv_iconst (v := 1) hx hb dX5_isSpan_37 (by decide) ?_
            refine lv_goto (tgt := 42) hx hb dX5_isSpan_38 (by decide) ?_
            exact zr_z hx hb hr hlk hW (by decide) (Option.some.inj hf) rfl dX5_isSpan_42
set_option maxHeartbeats 4000000 in
set_option maxRecDepth 100000 in
theorem mX5_move {l : Launch} {D : va_G} {cI cJ : ClassId} {adr : Nat → Nat} (p1 : Int32) (p2 : Int32) (p3 : Int32) (p4 : Int32) (p5 : Int32) (s0 : zkS) {z : Nat} {so : zkS} (hI : zInj 0 adr) (hf : fX5_move p1 p2 p3 p4 p5 s0 = some so) : Met l yX5_move (Cond.code yX5_move cX5_move 6 none :: zTb) { frames := 2, cells := 0, slots := 0, locals := 43 } (zPre 0 D cI cJ adr s0 z [.ref (adr 49), .int p1, .int p2, .int p3, .int p4, .int p5]) (zQv 0 D cI cJ adr z so) 0 0 (zA 0 adr z) := by
  refine zen (cc := cX5_move) (own := RX5) (by decide +kernel) rfl hI (Nat.le_of_ble_eq_true rfl) (fun p e s m args below meth c ls hC hr hlk hz hl hW => ?_)
  subst hz
  obtain ⟨hx, hb, -⟩ := id hC
  have hl : lv_has ls 6 [(0, .ref (adr 49)), (1, .int p1), (2, .int p2), (3, .int p3), (4, .int p4), (5, .int p5)] := hl
  refine zst hW (fun H locs hW => ?_)
  unfold fX5_move at hf
  refine lv_aload_n hx hb dX5_move_0 rfl (lv_at hl 0 rfl) ?_
  refine lv_iload_n hx hb dX5_move_1 rfl (lv_at hl 1 rfl) ?_
  refine lv_iload_n hx hb dX5_move_2 rfl (lv_at hl 2 rfl) ?_
  refine lv_iload hx hb dX5_move_3 (lv_at hl 5 rfl) ?_
  obtain ⟨v1, hq, hf⟩ := zb1_o hf
  refine zc_i hW (zrun_v (As := [.int p1, .int p2, .int p5]) (rest := []) hC hW (mX5_isSpan p1 p2 p5 s0 hC.2.2.2.2.2.2.2 hq) cv_X5_43 zck_0_49 zcs_0_49 rfl ⟨⟨rfl, rfl⟩, Nat.le_of_ble_eq_true rfl, Nat.le_of_ble_eq_true rfl⟩ (zlv_size hl) rfl (Nat.le_of_ble_eq_true rfl) dX5_move_5 ⟨Nat.le_refl _, Nat.le_refl _⟩) (fun H locs hW => ?_)
  refine zi_if_eq (tgt := 49) hx hb dX5_move_8 (by decide) hf (fun hc hf => ?_) (fun hc hf => ?_)
  · skip
    exact zr_v hx hb hr hlk hW (Option.some.inj hf) dX5_move_49
  · skip
    refine lv_aload_n hx hb dX5_move_11 rfl (lv_at hl 0 rfl) ?_
    refine lv_iload_n hx hb dX5_move_12 rfl (lv_at hl 3 rfl) ?_
    refine lv_iload hx hb dX5_move_13 (lv_at hl 4 rfl) ?_
    refine lv_iload hx hb dX5_move_15 (lv_at hl 5 rfl) ?_
    obtain ⟨v2, hq, hf⟩ := zb1_o hf
    refine zc_i hW (zrun_v (As := [.int p3, .int p4, .int p5]) (rest := []) hC hW (mX5_isSpan p3 p4 p5 s0 hC.2.2.2.2.2.2.2 hq) cv_X5_43 zck_0_49 zcs_0_49 rfl ⟨⟨rfl, rfl⟩, Nat.le_of_ble_eq_true rfl, Nat.le_of_ble_eq_true rfl⟩ (zlv_size hl) rfl (Nat.le_of_ble_eq_true rfl) dX5_move_17 ⟨Nat.le_refl _, Nat.le_refl _⟩) (fun H locs hW => ?_)
    refine zi_if_eq (tgt := 49) hx hb dX5_move_20 (by decide) hf (fun hc hf => ?_) (fun hc hf => ?_)
    · skip
      exact zr_v hx hb hr hlk hW (Option.some.inj hf) dX5_move_49
    · skip
      refine lv_aload_n hx hb dX5_move_23 rfl (lv_at hl 0 rfl) ?_
      refine zg_a (o := 2) hC hW fl_X5_18 zck_0_49 zcs_0_49 (show _ = 52 from rfl) dX5_move_24 ?_
      refine lv_iload_n hx hb dX5_move_27 rfl (lv_at hl 1 rfl) ?_
      refine lv_bipush (v := 60) hx hb dX5_move_28 (by decide) ?_
      refine lv_imul hx hb dX5_move_30 ?_
      refine lv_iload_n hx hb dX5_move_31 rfl (lv_at hl 2 rfl) ?_
      refine lv_iadd hx hb dX5_move_32 ?_
      refine lv_aload_n hx hb dX5_move_33 rfl (lv_at hl 0 rfl) ?_
      refine zg_a (o := 2) hC hW fl_X5_18 zck_0_49 zcs_0_49 (show _ = 52 from rfl) dX5_move_34 ?_
      refine lv_iload_n hx hb dX5_move_37 rfl (lv_at hl 3 rfl) ?_
      refine lv_bipush (v := 60) hx hb dX5_move_38 (by decide) ?_
      refine lv_imul hx hb dX5_move_40 ?_
      refine lv_iload hx hb dX5_move_41 (lv_at hl 4 rfl) ?_
      refine lv_iadd hx hb dX5_move_43 ?_
      refine lv_iload hx hb dX5_move_44 (lv_at hl 5 rfl) ?_
      refine za_cL hC hW hf cy_X5_47 zaj_0_52 (zlv_size hl) ⟨Nat.le_of_ble_eq_true rfl, Nat.le_of_ble_eq_true rfl⟩ dX5_move_46 (fun s3 H locs hf hW => ?_)
      exact zr_v hx hb hr hlk hW (Option.some.inj hf) dX5_move_49
set_option maxHeartbeats 4000000 in
set_option maxRecDepth 100000 in
theorem mX7_shift {l : Launch} {D : va_G} {cI cJ : ClassId} {adr : Nat → Nat} (p1 : Int32) (p2 : Int32) (p3 : Int32) (p4 : Int32) (p5 : Int32) (s0 : zkS) {z : Nat} {ro : Int32} {so : zkS} (hI : zInj 0 adr) (hf : fX7_shift p1 p2 p3 p4 p5 s0 = some (ro, so)) : Met l yX7_shift (Cond.code yX7_shift cX7_shift 6 (some .int) :: zTb) { frames := 3, cells := 0, slots := 0, locals := 68 } (zPre 0 D cI cJ adr s0 z [.ref (adr 0), .int p1, .int p2, .int p3, .int p4, .int p5]) (zQi 0 D cI cJ adr z ro so) 0 0 (zA 0 adr z) := by
  refine zen (cc := cX7_shift) (own := RX7) (by decide +kernel) rfl hI (Nat.le_of_ble_eq_true rfl) (fun p e s m args below meth c ls hC hr hlk hz hl hW => ?_)
  subst hz
  obtain ⟨hx, hb, -⟩ := id hC
  have hl : lv_has ls 6 [(0, .ref (adr 0)), (1, .int p1), (2, .int p2), (3, .int p3), (4, .int p4), (5, .int p5)] := hl
  refine zst hW (fun H locs hW => ?_)
  unfold fX7_shift at hf
  refine lv_iload_n hx hb dX7_shift_0 rfl (lv_at hl 1 rfl) ?_
  refine zc_i hW (zrun_s (As := [.int p1]) (rest := []) hC hW (mX7_isTape p1 s0 hC.2.2.2.2.2.2.2 rfl) cs_X7_293 rfl ⟨⟨rfl, rfl⟩, Nat.le_of_ble_eq_true rfl, Nat.le_of_ble_eq_true rfl⟩ (zlv_size hl) rfl (Nat.le_of_ble_eq_true rfl) dX7_shift_1 ⟨Nat.le_refl _, Nat.le_refl _⟩) (fun H locs hW => ?_)
  refine zi_if_eq (tgt := 14) hx hb dX7_shift_4 (by decide) hf (fun hc hf => ?_) (fun hc hf => ?_)
  · skip
    refine lv_iconst (v := (-1)) hx hb dX7_shift_14 (by decide) ?_
    exact zr_i hx hb hr hlk hW (zo1 hf) (zo2 hf) dX7_shift_15
  · skip
    refine lv_iload_n hx hb dX7_shift_7 rfl (lv_at hl 3 rfl) ?_
    refine zc_i hW (zrun_s (As := [.int p3]) (rest := []) hC hW (mX7_isTape p3 s0 hC.2.2.2.2.2.2.2 rfl) cs_X7_293 rfl ⟨⟨rfl, rfl⟩, Nat.le_of_ble_eq_true rfl, Nat.le_of_ble_eq_true rfl⟩ (zlv_size hl) rfl (Nat.le_of_ble_eq_true rfl) dX7_shift_8 ⟨Nat.le_refl _, Nat.le_refl _⟩) (fun H locs hW => ?_)
    refine zi_if_ne (tgt := 16) hx hb dX7_shift_11 (by decide) hf (fun hc hf => ?_) (fun hc hf => ?_)
    · skip
      refine lv_iconst (v := (-1)) hx hb dX7_shift_14 (by decide) ?_
      exact zr_i hx hb hr hlk hW (zo1 hf) (zo2 hf) dX7_shift_15
    · skip
      refine lv_aload_n hx hb dX7_shift_16 rfl (lv_at hl 0 rfl) ?_
      refine zg_a (o := 48) hC hW fl_X7_56 zck_0_0 zcs_0_0 (show _ = 49 from rfl) dX7_shift_17 ?_
      refine lv_iload_n hx hb dX7_shift_20 rfl (lv_at hl 1 rfl) ?_
      obtain ⟨v3, hq, hf⟩ := zb1_o hf
      refine zc_i hW (zrun_v (As := [.int p1]) (rest := []) hC hW (mX5_sortOf p1 s0 hC.2.2.2.2.2.2.2 hq) cv_X7_296 zck_0_49 zcs_0_49 rfl ⟨⟨rfl, rfl⟩, Nat.le_of_ble_eq_true rfl, Nat.le_of_ble_eq_true rfl⟩ (zlv_size hl) rfl (Nat.le_of_ble_eq_true rfl) dX7_shift_21 ⟨Nat.le_refl _, Nat.le_refl _⟩) (fun H locs hW => ?_)
      refine lv_bipush (v := (-5)) hx hb dX7_shift_24 (by decide) ?_
      refine zi_icmp_eq (tgt := 42) hx hb dX7_shift_26 (by decide) hf (fun hc hf => ?_) (fun hc hf => ?_)
      · skip
        refine lv_bipush (v := (-11)) hx hb dX7_shift_42 (by decide) ?_
        exact zr_i hx hb hr hlk hW (zo1 hf) (zo2 hf) dX7_shift_44
      · skip
        refine lv_aload_n hx hb dX7_shift_29 rfl (lv_at hl 0 rfl) ?_
        refine zg_a (o := 48) hC hW fl_X7_56 zck_0_0 zcs_0_0 (show _ = 49 from rfl) dX7_shift_30 ?_
        refine lv_iload_n hx hb dX7_shift_33 rfl (lv_at hl 3 rfl) ?_
        obtain ⟨v4, hq, hf⟩ := zb1_o hf
        refine zc_i hW (zrun_v (As := [.int p3]) (rest := []) hC hW (mX5_sortOf p3 s0 hC.2.2.2.2.2.2.2 hq) cv_X7_296 zck_0_49 zcs_0_49 rfl ⟨⟨rfl, rfl⟩, Nat.le_of_ble_eq_true rfl, Nat.le_of_ble_eq_true rfl⟩ (zlv_size hl) rfl (Nat.le_of_ble_eq_true rfl) dX7_shift_34 ⟨Nat.le_refl _, Nat.le_refl _⟩) (fun H locs hW => ?_)
        refine lv_bipush (v := (-5)) hx hb dX7_shift_37 (by decide) ?_
        refine zi_icmp_ne (tgt := 45) hx hb dX7_shift_39 (by decide) hf (fun hc hf => ?_) (fun hc hf => ?_)
        · skip
          refine lv_bipush (v := (-11)) hx hb dX7_shift_42 (by decide) ?_
          exact zr_i hx hb hr hlk hW (zo1 hf) (zo2 hf) dX7_shift_44
        · skip
          refine lv_aload_n hx hb dX7_shift_45 rfl (lv_at hl 0 rfl) ?_
          refine zg_a (o := 48) hC hW fl_X7_56 zck_0_0 zcs_0_0 (show _ = 49 from rfl) dX7_shift_46 ?_
          refine lv_iload_n hx hb dX7_shift_49 rfl (lv_at hl 1 rfl) ?_
          obtain ⟨v5, hq, hf⟩ := zb1_o hf
          refine zc_i hW (zrun_v (As := [.int p1]) (rest := []) hC hW (mX5_sortOf p1 s0 hC.2.2.2.2.2.2.2 hq) cv_X7_296 zck_0_49 zcs_0_49 rfl ⟨⟨rfl, rfl⟩, Nat.le_of_ble_eq_true rfl, Nat.le_of_ble_eq_true rfl⟩ (zlv_size hl) rfl (Nat.le_of_ble_eq_true rfl) dX7_shift_50 ⟨Nat.le_refl _, Nat.le_refl _⟩) (fun H locs hW => ?_)
          refine lv_aload_n hx hb dX7_shift_53 rfl (lv_at hl 0 rfl) ?_
          refine zg_a (o := 48) hC hW fl_X7_56 zck_0_0 zcs_0_0 (show _ = 49 from rfl) dX7_shift_54 ?_
          refine lv_iload_n hx hb dX7_shift_57 rfl (lv_at hl 3 rfl) ?_
          obtain ⟨v6, hq, hf⟩ := zb1_o hf
          refine zc_i hW (zrun_v (As := [.int p3]) (rest := [.int v5]) hC hW (mX5_sortOf p3 s0 hC.2.2.2.2.2.2.2 hq) cv_X7_296 zck_0_49 zcs_0_49 rfl ⟨⟨rfl, rfl⟩, Nat.le_of_ble_eq_true rfl, Nat.le_of_ble_eq_true rfl⟩ (zlv_size hl) rfl (Nat.le_of_ble_eq_true rfl) dX7_shift_58 ⟨Nat.le_refl _, Nat.le_refl _⟩) (fun H locs hW => ?_)
          refine zi_icmp_eq (tgt := 67) hx hb dX7_shift_61 (by decide) hf (fun hc hf => ?_) (fun hc hf => ?_)
          · skip
            refine lv_aload_n hx hb dX7_shift_67 rfl (lv_at hl 0 rfl) ?_
            refine zg_a (o := 48) hC hW fl_X7_56 zck_0_0 zcs_0_0 (show _ = 49 from rfl) dX7_shift_68 ?_
            refine lv_iload_n hx hb dX7_shift_71 rfl (lv_at hl 1 rfl) ?_
            refine lv_iload_n hx hb dX7_shift_72 rfl (lv_at hl 2 rfl) ?_
            refine lv_iload hx hb dX7_shift_73 (lv_at hl 5 rfl) ?_
            obtain ⟨v7, hq, hf⟩ := zb1_o hf
            refine zc_i hW (zrun_v (As := [.int p1, .int p2, .int p5]) (rest := []) hC hW (mX5_isSpan p1 p2 p5 s0 hC.2.2.2.2.2.2.2 hq) cv_X7_319 zck_0_49 zcs_0_49 rfl ⟨⟨rfl, rfl⟩, Nat.le_of_ble_eq_true rfl, Nat.le_of_ble_eq_true rfl⟩ (zlv_size hl) rfl (Nat.le_of_ble_eq_true rfl) dX7_shift_75 ⟨Nat.le_refl _, Nat.le_refl _⟩) (fun H locs hW => ?_)
            refine zi_if_eq (tgt := 96) hx hb dX7_shift_78 (by decide) hf (fun hc hf => ?_) (fun hc hf => ?_)
            · skip
              refine lv_bipush (v := (-13)) hx hb dX7_shift_96 (by decide) ?_
              exact zr_i hx hb hr hlk hW (zo1 hf) (zo2 hf) dX7_shift_98
            · skip
              refine lv_aload_n hx hb dX7_shift_81 rfl (lv_at hl 0 rfl) ?_
              refine zg_a (o := 48) hC hW fl_X7_56 zck_0_0 zcs_0_0 (show _ = 49 from rfl) dX7_shift_82 ?_
              refine lv_iload_n hx hb dX7_shift_85 rfl (lv_at hl 3 rfl) ?_
              refine lv_iload hx hb dX7_shift_86 (lv_at hl 4 rfl) ?_
              refine lv_iload hx hb dX7_shift_88 (lv_at hl 5 rfl) ?_
              obtain ⟨v8, hq, hf⟩ := zb1_o hf
              refine zc_i hW (zrun_v (As := [.int p3, .int p4, .int p5]) (rest := []) hC hW (mX5_isSpan p3 p4 p5 s0 hC.2.2.2.2.2.2.2 hq) cv_X7_319 zck_0_49 zcs_0_49 rfl ⟨⟨rfl, rfl⟩, Nat.le_of_ble_eq_true rfl, Nat.le_of_ble_eq_true rfl⟩ (zlv_size hl) rfl (Nat.le_of_ble_eq_true rfl) dX7_shift_90 ⟨Nat.le_refl _, Nat.le_refl _⟩) (fun H locs hW => ?_)
              refine zi_if_ne (tgt := 99) hx hb dX7_shift_93 (by decide) hf (fun hc hf => ?_) (fun hc hf => ?_)
              · skip
                refine lv_bipush (v := (-13)) hx hb dX7_shift_96 (by decide) ?_
                exact zr_i hx hb hr hlk hW (zo1 hf) (zo2 hf) dX7_shift_98
              · skip
                refine lv_aload_n hx hb dX7_shift_99 rfl (lv_at hl 0 rfl) ?_
                refine zg_a (o := 48) hC hW fl_X7_56 zck_0_0 zcs_0_0 (show _ = 49 from rfl) dX7_shift_100 ?_
                refine lv_iload_n hx hb dX7_shift_103 rfl (lv_at hl 1 rfl) ?_
                refine lv_iload_n hx hb dX7_shift_104 rfl (lv_at hl 2 rfl) ?_
                refine lv_iload_n hx hb dX7_shift_105 rfl (lv_at hl 3 rfl) ?_
                refine lv_iload hx hb dX7_shift_106 (lv_at hl 4 rfl) ?_
                refine lv_iload hx hb dX7_shift_108 (lv_at hl 5 rfl) ?_
                obtain ⟨s9, hq, hf⟩ := zb1_o hf
                refine zc_v hW (zrun_v (As := [.int p1, .int p2, .int p3, .int p4, .int p5]) (rest := []) hC hW (mX5_move p1 p2 p3 p4 p5 s0 hC.2.2.2.2.2.2.2 hq) cv_X7_323 zck_0_49 zcs_0_49 rfl ⟨⟨rfl, rfl⟩, Nat.le_of_ble_eq_true rfl, Nat.le_of_ble_eq_true rfl⟩ (zlv_size hl) rfl (Nat.le_of_ble_eq_true rfl) dX7_shift_110 ⟨Nat.le_refl _, Nat.le_refl _⟩) (fun H locs hW => ?_)
                refine lv_iload hx hb dX7_shift_113 (lv_at hl 5 rfl) ?_
                exact zr_i hx hb hr hlk hW (zo1 hf) (zo2 hf) dX7_shift_115
          · skip
            refine lv_bipush (v := (-12)) hx hb dX7_shift_64 (by decide) ?_
            exact zr_i hx hb hr hlk hW (zo1 hf) (zo2 hf) dX7_shift_66
set_option maxHeartbeats 4000000 in
set_option maxRecDepth 100000 in
theorem mX8_in {l : Launch} {D : va_G} {cI cJ : ClassId} {adr : Nat → Nat} {u : Nat} (p1 : Int64) (p2 : Int64) (p3 : Int64) (s0 : zkS) {z : Nat} {ro : Int32} (hI : zInj u adr) (hf : fX8_in p1 p2 p3 = ro) : Met l yX8_in (Cond.code yX8_in cX8_in 6 (some .boolean) :: zTb) { frames := 0, cells := 0, slots := 0, locals := 0 } (zPre u D cI cJ adr s0 z [.long p1, .long p2, .long p3]) (zQi u D cI cJ adr z ro s0) 0 0 (zA u adr z) := by
  refine zen (cc := cX8_in) (own := RX8) (by decide +kernel) rfl hI (Nat.le_of_ble_eq_true rfl) (fun p e s m args below meth c ls hC hr hlk hz hl hW => ?_)
  subst hz
  obtain ⟨hx, hb, -⟩ := id hC
  have hl : lv_has ls 6 [(0, .long p1), (2, .long p2), (4, .long p3)] := hl
  refine zst hW (fun H locs hW => ?_)
  unfold fX8_in at hf
  refine lv_lload_n hx hb dX8_in_0 rfl (lv_at hl 0 rfl) ?_
  refine lv_lload_n hx hb dX8_in_1 rfl (lv_at hl 1 rfl) ?_
  refine W.lcmp hx hb dX8_in_2 ?_
  refine zi_if_lt (tgt := 17) hx hb dX8_in_3 (by decide) hf (fun hc hf => ?_) (fun hc hf => ?_)
  · skip
    refine lv_iconst (v := 0) hx hb dX8_in_17 (by decide) ?_
    exact zr_z hx hb hr hlk hW (by decide) hf rfl dX8_in_18
  · skip
    refine lv_lload_n hx hb dX8_in_6 rfl (lv_at hl 0 rfl) ?_
    refine lv_lload hx hb dX8_in_7 (lv_at hl 2 rfl) ?_
    refine W.lcmp hx hb dX8_in_9 ?_
    refine zi_if_gt (tgt := 17) hx hb dX8_in_10 (by decide) hf (fun hc hf => ?_) (fun hc hf => ?_)
    · skip
      refine lv_iconst (v := 0) hx hb dX8_in_17 (by decide) ?_
      exact zr_z hx hb hr hlk hW (by decide) hf rfl dX8_in_18
    · skip
      refine lv_iconst (v := 1) hx hb dX8_in_13 (by decide) ?_
      refine lv_goto (tgt := 18) hx hb dX8_in_14 (by decide) ?_
      exact zr_z hx hb hr hlk hW (by decide) hf rfl dX8_in_18
set_option maxHeartbeats 4000000 in
set_option maxRecDepth 100000 in
theorem mX8_bit {l : Launch} {D : va_G} {cI cJ : ClassId} {adr : Nat → Nat} {u : Nat} (p1 : Int32) (p2 : Int32) (s0 : zkS) {z : Nat} {ro : Int32} (hI : zInj u adr) (hf : fX8_bit p1 p2 = ro) : Met l yX8_bit (Cond.code yX8_bit cX8_bit 2 (some .boolean) :: zTb) { frames := 0, cells := 0, slots := 0, locals := 0 } (zPre u D cI cJ adr s0 z [.int p1, .int p2]) (zQi u D cI cJ adr z ro s0) 0 0 (zA u adr z) := by
  refine zen (cc := cX8_bit) (own := RX8) (by decide +kernel) rfl hI (Nat.le_of_ble_eq_true rfl) (fun p e s m args below meth c ls hC hr hlk hz hl hW => ?_)
  subst hz
  obtain ⟨hx, hb, -⟩ := id hC
  have hl : lv_has ls 2 [(0, .int p1), (1, .int p2)] := hl
  refine zst hW (fun H locs hW => ?_)
  unfold fX8_bit at hf
  refine lv_iload_n hx hb dX8_bit_0 rfl (lv_at hl 0 rfl) ?_
  refine lv_iload_n hx hb dX8_bit_1 rfl (lv_at hl 1 rfl) ?_
  refine lv_ishr hx hb dX8_bit_2 ?_
  refine lv_iconst (v := 1) hx hb dX8_bit_3 (by decide) ?_
  refine lv_iand hx hb dX8_bit_4 ?_
  refine lv_iconst (v := 1) hx hb dX8_bit_5 (by decide) ?_
  refine zi_icmp_ne (tgt := 13) hx hb dX8_bit_6 (by decide) hf (fun hc hf => ?_) (fun hc hf => ?_)
  · skip
    refine lv_iconst (v := 1) hx hb dX8_bit_9 (by decide) ?_
    refine lv_goto (tgt := 14) hx hb dX8_bit_10 (by decide) ?_
    exact zr_z hx hb hr hlk hW (by decide) hf rfl dX8_bit_14
  · skip
    refine lv_iconst (v := 0) hx hb dX8_bit_13 (by decide) ?_
    exact zr_z hx hb hr hlk hW (by decide) hf rfl dX8_bit_14
set_option maxHeartbeats 4000000 in
set_option maxRecDepth 100000 in
theorem mX8_copies {l : Launch} {D : va_G} {cI cJ : ClassId} {adr : Nat → Nat} {w1 : Nat} {w2 : Nat} (k1 : zM w1) (k2 : zM w2) (s0 : zkS) {z : Nat} {so : zkS} (hI : zInj 1 adr) (hf : fX8_copies w1 w2 s0 = some so) : Met l yX8_copies (Cond.code yX8_copies cX8_copies 3 none :: zTb) { frames := 0, cells := 0, slots := 0, locals := 0 } (zPre 1 D cI cJ adr s0 z [.ref (adr w1), .ref (adr w2)]) (zQv 1 D cI cJ adr z so) 0 0 (zA 1 adr z) := by
  refine zen (cc := cX8_copies) (own := RX8) (by decide +kernel) rfl hI (Nat.le_of_ble_eq_true rfl) (fun p e s m args below meth c ls hC hr hlk hz hl hW => ?_)
  subst hz
  obtain ⟨hx, hb, -⟩ := id hC
  have hl : lv_has ls 3 [(0, .ref (adr w1)), (1, .ref (adr w2))] := hl
  refine zst hW (fun H locs hW => ?_)
  unfold fX8_copies at hf
  refine lv_iconst (v := 0) hx hb dX8_copies_0 (by decide) ?_
  refine lv_istore_n (lv' := [(2, .int 0), (0, .ref (adr w1)), (1, .ref (adr w2))]) hx hb dX8_copies_1 rfl hl (by decide) rfl (fun ls hl => ?_)
  have hL2 : ∀ (n : Nat) (x2 : Int32) (s1 : zkS) (K2 : zkS → Option (zkS)) (H : Heap) (locs : List Loc) (ls : Array Slot), fX8_copies_L2 n w1 w2 x2 s1 K2 = some so → zWo 1 D cI cJ adr s s1 H locs → lv_has ls 3 [(0, .ref (adr w1)), (1, .ref (adr w2)), (2, .int x2)] → (∀ (s1 : zkS) (H : Heap) (locs : List Loc) (ls : Array Slot), K2 s1 = some so → zWo 1 D cI cJ adr s s1 H locs → lv_has ls 3 [] → W p l e { frames := 0, cells := 0, slots := 0, locals := 0 } s m args below meth c H locs 0 0 (MQ below (zQv 1 D cI cJ adr s.heap.size so) args s 0 0 (zA 1 adr s.heap.size)) (F0 m 21 ls [])) → W p l e { frames := 0, cells := 0, slots := 0, locals := 0 } s m args below meth c H locs 0 0 (MQ below (zQv 1 D cI cJ adr s.heap.size so) args s 0 0 (zA 1 adr s.heap.size)) (F0 m 2 ls []) := by
    intro n
    induction n with
    | zero =>
      intro x2 s1 K2 H locs ls hf hW hl hK2
      rw [fX8_copies_L2] at hf
      cases hf
    | succ n ih2 =>
      intro x2 s1 K2 H locs ls hf hW hl hK2
      rw [fX8_copies_L2] at hf
      refine lv_iload_n hx hb dX8_copies_2 rfl (lv_at hl 2 rfl) ?_
      refine lv_sipush (v := 346) hx hb dX8_copies_3 (by decide) ?_
      refine zi_icmp_ge (tgt := 21) hx hb dX8_copies_6 (by decide) hf (fun hc hf => ?_) (fun hc hf => ?_)
      · skip
        exact hK2 s1 H locs ls hf hW (lv_sub hl [] rfl)
      · skip
        refine lv_aload_n hx hb dX8_copies_9 rfl (lv_at hl 1 rfl) ?_
        refine lv_iload_n hx hb dX8_copies_10 rfl (lv_at hl 2 rfl) ?_
        refine lv_aload_n hx hb dX8_copies_11 rfl (lv_at hl 0 rfl) ?_
        refine lv_iload_n hx hb dX8_copies_12 rfl (lv_at hl 2 rfl) ?_
        refine za_l hC hW hf (zM_a k1) dX8_copies_13 (fun v2 hf => ?_)
        refine za_s hC hW hf (zM_a k2) dX8_copies_14 (fun s3 H locs hf hW => ?_)
        refine zi_inc (v := (x2 + 1)) (lv' := fun v4 => [(2, .int v4), (0, .ref (adr w1)), (1, .ref (adr w2))]) hx hb dX8_copies_15 hl (k := 2) rfl rfl (by decide) (fun _ => rfl) hf (fun v4 ls hf hl => ?_)
        refine lv_goto (tgt := 2) hx hb dX8_copies_18 (by decide) ?_
        exact ih2 v4 s3 _ H locs ls hf hW (lv_sub hl [1, 2, 0] rfl) hK2
  refine hL2 zFU 0 s0 _ H locs ls hf hW (lv_sub hl [1, 2, 0] rfl) (fun s5 H locs ls hf hW hl => ?_)
  exact zr_v hx hb hr hlk hW (Option.some.inj hf) dX8_copies_21
set_option maxHeartbeats 4000000 in
set_option maxRecDepth 100000 in
theorem mX8_isThere {l : Launch} {D : va_G} {cI cJ : ClassId} {adr : Nat → Nat} (p1 : Int32) (s0 : zkS) {z : Nat} {ro : Int32} (hI : zInj 1 adr) (hf : fX8_isThere p1 s0 = some ro) : Met l yX8_isThere (Cond.code yX8_isThere cX8_isThere 2 (some .boolean) :: zTb) { frames := 1, cells := 0, slots := 0, locals := 25 } (zPre 1 D cI cJ adr s0 z [.ref (adr 0), .int p1]) (zQi 1 D cI cJ adr z ro s0) 0 0 (zA 1 adr z) := by
  refine zen (cc := cX8_isThere) (own := RX8) (by decide +kernel) rfl hI (Nat.le_of_ble_eq_true rfl) (fun p e s m args below meth c ls hC hr hlk hz hl hW => ?_)
  subst hz
  obtain ⟨hx, hb, -⟩ := id hC
  have hl : lv_has ls 2 [(0, .ref (adr 0)), (1, .int p1)] := hl
  refine zst hW (fun H locs hW => ?_)
  unfold fX8_isThere at hf
  refine lv_iload_n hx hb dX8_isThere_0 rfl (lv_at hl 1 rfl) ?_
  refine lv_i2l hx hb dX8_isThere_1 rfl ?_
  refine lv_lconst (v := 0) hx hb dX8_isThere_2 (by decide) ?_
  refine lv_ldc2 hx hb hC.2.2.2.1 (hC.2.2.2.2.1 _ wq_918) dX8_isThere_3 ?_
  refine zc_i hW (zrun_s (As := [.long ((p1 : Int32).toInt64), .long 0, .long 23]) (rest := []) hC hW (mX8_in ((p1 : Int32).toInt64) 0 23 s0 hC.2.2.2.2.2.2.2 rfl) cs_X8_57 rfl ⟨⟨rfl, rfl⟩, Nat.le_of_ble_eq_true rfl, Nat.le_of_ble_eq_true rfl⟩ (zlv_size hl) rfl (Nat.le_of_ble_eq_true rfl) dX8_isThere_6 ⟨Nat.le_refl _, Nat.le_refl _⟩) (fun H locs hW => ?_)
  refine zi_if_eq (tgt := 29) hx hb dX8_isThere_9 (by decide) hf (fun hc hf => ?_) (fun hc hf => ?_)
  · skip
    refine lv_iconst (v := 0) hx hb dX8_isThere_29 (by decide) ?_
    exact zr_z hx hb hr hlk hW (by decide) (Option.some.inj hf) rfl dX8_isThere_30
  · skip
    refine lv_aload_n hx hb dX8_isThere_12 rfl (lv_at hl 0 rfl) ?_
    refine zg_a (o := 0) hC hW fl_X8_11 zck_1_0 zcs_1_0 (show _ = 1 from rfl) dX8_isThere_13 ?_
    refine lv_iconst (v := 1) hx hb dX8_isThere_16 (by decide) ?_
    refine za_l hC hW hf zar_1_1 dX8_isThere_17 (fun v2 hf => ?_)
    refine lv_iload_n hx hb dX8_isThere_18 rfl (lv_at hl 1 rfl) ?_
    refine zc_i hW (zrun_s (As := [.int v2, .int p1]) (rest := []) hC hW (mX8_bit v2 p1 s0 hC.2.2.2.2.2.2.2 rfl) cs_X8_61 rfl ⟨⟨rfl, rfl⟩, Nat.le_of_ble_eq_true rfl, Nat.le_of_ble_eq_true rfl⟩ (zlv_size hl) rfl (Nat.le_of_ble_eq_true rfl) dX8_isThere_19 ⟨Nat.le_refl _, Nat.le_refl _⟩) (fun H locs hW => ?_)
    refine zi_if_eq (tgt := 29) hx hb dX8_isThere_22 (by decide) hf (fun hc hf => ?_) (fun hc hf => ?_)
    · skip
      refine lv_iconst (v := 0) hx hb dX8_isThere_29 (by decide) ?_
      exact zr_z hx hb hr hlk hW (by decide) (Option.some.inj hf) rfl dX8_isThere_30
    · skip
      refine lv_iconst (v := 1) hx hb dX8_isThere_25 (by decide) ?_
      refine lv_goto (tgt := 30) hx hb dX8_isThere_26 (by decide) ?_
      exact zr_z hx hb hr hlk hW (by decide) (Option.some.inj hf) rfl dX8_isThere_30
set_option maxHeartbeats 4000000 in
set_option maxRecDepth 100000 in
theorem mX8_isField {l : Launch} {D : va_G} {cI cJ : ClassId} {adr : Nat → Nat} (p1 : Int32) (p2 : Int32) (s0 : zkS) {z : Nat} {ro : Int32} (hI : zInj 1 adr) (hf : fX8_isField p1 p2 s0 = some ro) : Met l yX8_isField (Cond.code yX8_isField cX8_isField 3 (some .boolean) :: zTb) { frames := 2, cells := 0, slots := 0, locals := 46 } (zPre 1 D cI cJ adr s0 z [.ref (adr 0), .int p1, .int p2]) (zQi 1 D cI cJ adr z ro s0) 0 0 (zA 1 adr z) := by
  refine zen (cc := cX8_isField) (own := RX8) (by decide +kernel) rfl hI (Nat.le_of_ble_eq_true rfl) (fun p e s m args below meth c ls hC hr hlk hz hl hW => ?_)
  subst hz
  obtain ⟨hx, hb, -⟩ := id hC
  have hl : lv_has ls 3 [(0, .ref (adr 0)), (1, .int p1), (2, .int p2)] := hl
  refine zst hW (fun H locs hW => ?_)
  unfold fX8_isField at hf
  refine lv_aload_n hx hb dX8_isField_0 rfl (lv_at hl 0 rfl) ?_
  refine lv_iload_n hx hb dX8_isField_1 rfl (lv_at hl 1 rfl) ?_
  obtain ⟨v1, hq, hf⟩ := zb1_o hf
  refine zc_i hW (zrun_v (As := [.int p1]) (rest := []) hC hW (mX8_isThere p1 s0 hC.2.2.2.2.2.2.2 hq) cv_X8_65 zck_1_0 zcs_1_0 rfl ⟨⟨rfl, rfl⟩, Nat.le_of_ble_eq_true rfl, Nat.le_of_ble_eq_true rfl⟩ (zlv_size hl) rfl (Nat.le_of_ble_eq_true rfl) dX8_isField_2 ⟨Nat.le_refl _, Nat.le_refl _⟩) (fun H locs hW => ?_)
  refine zi_if_eq (tgt := 33) hx hb dX8_isField_5 (by decide) hf (fun hc hf => ?_) (fun hc hf => ?_)
  · skip
    refine lv_iconst (v := 0) hx hb dX8_isField_33 (by decide) ?_
    exact zr_z hx hb hr hlk hW (by decide) (Option.some.inj hf) rfl dX8_isField_34
  · skip
    refine lv_iload_n hx hb dX8_isField_8 rfl (lv_at hl 2 rfl) ?_
    refine lv_i2l hx hb dX8_isField_9 rfl ?_
    refine lv_lconst (v := 0) hx hb dX8_isField_10 (by decide) ?_
    refine lv_aload_n hx hb dX8_isField_11 rfl (lv_at hl 0 rfl) ?_
    refine zg_a (o := 0) hC hW fl_X8_11 zck_1_0 zcs_1_0 (show _ = 1 from rfl) dX8_isField_12 ?_
    refine lv_bipush (v := 68) hx hb dX8_isField_15 (by decide) ?_
    refine lv_iload_n hx hb dX8_isField_17 rfl (lv_at hl 1 rfl) ?_
    refine lv_iadd hx hb dX8_isField_18 ?_
    refine za_l hC hW hf zar_1_1 dX8_isField_19 (fun v2 hf => ?_)
    refine lv_iconst (v := 1) hx hb dX8_isField_20 (by decide) ?_
    refine lv_isub hx hb dX8_isField_21 ?_
    refine lv_i2l hx hb dX8_isField_22 rfl ?_
    refine zc_i hW (zrun_s (As := [.long ((p2 : Int32).toInt64), .long 0, .long (((v2 - 1) : Int32).toInt64)]) (rest := []) hC hW (mX8_in ((p2 : Int32).toInt64) 0 (((v2 - 1) : Int32).toInt64) s0 hC.2.2.2.2.2.2.2 rfl) cs_X8_57 rfl ⟨⟨rfl, rfl⟩, Nat.le_of_ble_eq_true rfl, Nat.le_of_ble_eq_true rfl⟩ (zlv_size hl) rfl (Nat.le_of_ble_eq_true rfl) dX8_isField_23 ⟨Nat.le_refl _, Nat.le_refl _⟩) (fun H locs hW => ?_)
    refine zi_if_eq (tgt := 33) hx hb dX8_isField_26 (by decide) hf (fun hc hf => ?_) (fun hc hf => ?_)
    · skip
      refine lv_iconst (v := 0) hx hb dX8_isField_33 (by decide) ?_
      exact zr_z hx hb hr hlk hW (by decide) (Option.some.inj hf) rfl dX8_isField_34
    · skip
      refine lv_iconst (v := 1) hx hb dX8_isField_29 (by decide) ?_
      refine lv_goto (tgt := 34) hx hb dX8_isField_30 (by decide) ?_
      exact zr_z hx hb hr hlk hW (by decide) (Option.some.inj hf) rfl dX8_isField_34
set_option maxHeartbeats 4000000 in
set_option maxRecDepth 100000 in
theorem mX8_comes {l : Launch} {D : va_G} {cI cJ : ClassId} {adr : Nat → Nat} {w1 : Nat} (k1 : zM w1) (p2 : Int32) (p3 : Int32) (p4 : Int32) (s0 : zkS) {z : Nat} {ro : Int32} {so : zkS} (hI : zInj 1 adr) (hf : fX8_comes w1 p2 p3 p4 s0 = some (ro, so)) : Met l yX8_comes (Cond.code yX8_comes cX8_comes 6 (some .int) :: zTb) { frames := 0, cells := 0, slots := 0, locals := 0 } (zPre 1 D cI cJ adr s0 z [.ref (adr w1), .int p2, .int p3, .int p4]) (zQi 1 D cI cJ adr z ro so) 0 0 (zA 1 adr z) := by
  refine zen (cc := cX8_comes) (own := RX8) (by decide +kernel) rfl hI (Nat.le_of_ble_eq_true rfl) (fun p e s m args below meth c ls hC hr hlk hz hl hW => ?_)
  subst hz
  obtain ⟨hx, hb, -⟩ := id hC
  have hl : lv_has ls 6 [(0, .ref (adr w1)), (1, .int p2), (2, .int p3), (3, .int p4)] := hl
  refine zst hW (fun H locs hW => ?_)
  unfold fX8_comes at hf
  refine lv_aload_n hx hb dX8_comes_0 rfl (lv_at hl 0 rfl) ?_
  refine lv_iconst (v := 0) hx hb dX8_comes_1 (by decide) ?_
  refine za_l hC hW hf (zM_a k1) dX8_comes_2 (fun v1 hf => ?_)
  refine lv_istore (lv' := [(4, .int v1), (0, .ref (adr w1)), (1, .int p2), (2, .int p3), (3, .int p4)]) hx hb dX8_comes_3 hl (by decide) rfl (fun ls hl => ?_)
  refine lv_aload_n hx hb dX8_comes_5 rfl (lv_at hl 1 rfl) ?_
  refine lv_bipush (v := 20) hx hb dX8_comes_6 (by decide) ?_
  refine lv_iload hx hb dX8_comes_8 (lv_at hl 0 rfl) ?_
  refine lv_iadd hx hb dX8_comes_10 ?_
  refine lv_iload_n hx hb dX8_comes_11 rfl (lv_at hl 2 rfl) ?_
  refine za_s hC hW hf (zM_a k1) dX8_comes_12 (fun s2 H locs hf hW => ?_)
  refine lv_aload_n hx hb dX8_comes_13 rfl (lv_at hl 1 rfl) ?_
  refine lv_bipush (v := 44) hx hb dX8_comes_14 (by decide) ?_
  refine lv_iload hx hb dX8_comes_16 (lv_at hl 0 rfl) ?_
  refine lv_iadd hx hb dX8_comes_18 ?_
  refine lv_iload_n hx hb dX8_comes_19 rfl (lv_at hl 3 rfl) ?_
  refine za_s hC hW hf (zM_a k1) dX8_comes_20 (fun s3 H locs hf hW => ?_)
  refine lv_aload_n hx hb dX8_comes_21 rfl (lv_at hl 1 rfl) ?_
  refine lv_bipush (v := 68) hx hb dX8_comes_22 (by decide) ?_
  refine lv_iload hx hb dX8_comes_24 (lv_at hl 0 rfl) ?_
  refine lv_iadd hx hb dX8_comes_26 ?_
  refine lv_iload_n hx hb dX8_comes_27 rfl (lv_at hl 4 rfl) ?_
  refine za_s hC hW hf (zM_a k1) dX8_comes_28 (fun s4 H locs hf hW => ?_)
  refine lv_aload_n hx hb dX8_comes_29 rfl (lv_at hl 1 rfl) ?_
  refine lv_bipush (v := 92) hx hb dX8_comes_30 (by decide) ?_
  refine lv_iload hx hb dX8_comes_32 (lv_at hl 0 rfl) ?_
  refine lv_iadd hx hb dX8_comes_34 ?_
  refine lv_iconst (v := 0) hx hb dX8_comes_35 (by decide) ?_
  refine za_s hC hW hf (zM_a k1) dX8_comes_36 (fun s5 H locs hf hW => ?_)
  refine lv_iconst (v := 0) hx hb dX8_comes_37 (by decide) ?_
  refine lv_istore (lv' := [(5, .int 0), (4, .int v1), (0, .ref (adr w1)), (1, .int p2), (2, .int p3), (3, .int p4)]) hx hb dX8_comes_38 hl (by decide) rfl (fun ls hl => ?_)
  have hL40 : ∀ (n : Nat) (x4 : Int32) (x5 : Int32) (s6 : zkS) (K40 : zkS → Option (Int32 × zkS)) (H : Heap) (locs : List Loc) (ls : Array Slot), fX8_comes_L40 n w1 x4 x5 s6 K40 = some (ro, so) → zWo 1 D cI cJ adr s s6 H locs → lv_has ls 6 [(0, .ref (adr w1)), (4, .int x4), (5, .int x5)] → (∀ (s6 : zkS) (H : Heap) (locs : List Loc) (ls : Array Slot), K40 s6 = some (ro, so) → zWo 1 D cI cJ adr s s6 H locs → lv_has ls 6 [(0, .ref (adr w1)), (4, .int x4)] → W p l e { frames := 0, cells := 0, slots := 0, locals := 0 } s m args below meth c H locs 0 0 (MQ below (zQi 1 D cI cJ adr s.heap.size ro so) args s 0 0 (zA 1 adr s.heap.size)) (F0 m 69 ls [])) → W p l e { frames := 0, cells := 0, slots := 0, locals := 0 } s m args below meth c H locs 0 0 (MQ below (zQi 1 D cI cJ adr s.heap.size ro so) args s 0 0 (zA 1 adr s.heap.size)) (F0 m 40 ls []) := by
    intro n
    induction n with
    | zero =>
      intro x4 x5 s6 K40 H locs ls hf hW hl hK40
      rw [fX8_comes_L40] at hf
      cases hf
    | succ n ih40 =>
      intro x4 x5 s6 K40 H locs ls hf hW hl hK40
      rw [fX8_comes_L40] at hf
      refine lv_iload hx hb dX8_comes_40 (lv_at hl 2 rfl) ?_
      refine lv_bipush (v := 6) hx hb dX8_comes_42 (by decide) ?_
      refine zi_icmp_ge (tgt := 69) hx hb dX8_comes_44 (by decide) hf (fun hc hf => ?_) (fun hc hf => ?_)
      · skip
        exact hK40 s6 H locs ls hf hW (lv_sub hl [0, 1] rfl)
      · skip
        refine lv_aload_n hx hb dX8_comes_47 rfl (lv_at hl 0 rfl) ?_
        refine lv_sipush (v := 140) hx hb dX8_comes_48 (by decide) ?_
        refine lv_bipush (v := 6) hx hb dX8_comes_51 (by decide) ?_
        refine lv_iload hx hb dX8_comes_53 (lv_at hl 1 rfl) ?_
        refine lv_imul hx hb dX8_comes_55 ?_
        refine lv_iadd hx hb dX8_comes_56 ?_
        refine lv_iload hx hb dX8_comes_57 (lv_at hl 2 rfl) ?_
        refine lv_iadd hx hb dX8_comes_59 ?_
        refine lv_bipush (v := (-5)) hx hb dX8_comes_60 (by decide) ?_
        refine za_s hC hW hf (zM_a k1) dX8_comes_62 (fun s7 H locs hf hW => ?_)
        refine zi_inc (v := (x5 + 1)) (lv' := fun v8 => [(5, .int v8), (0, .ref (adr w1)), (4, .int x4)]) hx hb dX8_comes_63 hl (k := 2) rfl rfl (by decide) (fun _ => rfl) hf (fun v8 ls hf hl => ?_)
        refine lv_goto (tgt := 40) hx hb dX8_comes_66 (by decide) ?_
        exact ih40 x4 v8 s7 _ H locs ls hf hW (lv_sub hl [1, 2, 0] rfl) hK40
  refine hL40 zFU v1 0 s5 _ H locs ls hf hW (lv_sub hl [2, 1, 0] rfl) (fun s9 H locs ls hf hW hl => ?_)
  refine lv_aload_n hx hb dX8_comes_69 rfl (lv_at hl 0 rfl) ?_
  refine lv_iconst (v := 1) hx hb dX8_comes_70 (by decide) ?_
  refine lv_dup2_11 hx hb dX8_comes_71 rfl rfl ?_
  refine za_l hC hW hf (zM_a k1) dX8_comes_72 (fun v10 hf => ?_)
  refine lv_iconst (v := 1) hx hb dX8_comes_73 (by decide) ?_
  refine lv_iload hx hb dX8_comes_74 (lv_at hl 1 rfl) ?_
  refine lv_ishl hx hb dX8_comes_76 ?_
  refine lv_ior hx hb dX8_comes_77 ?_
  refine za_s hC hW hf (zM_a k1) dX8_comes_78 (fun s11 H locs hf hW => ?_)
  refine lv_aload_n hx hb dX8_comes_79 rfl (lv_at hl 0 rfl) ?_
  refine lv_bipush (v := 12) hx hb dX8_comes_80 (by decide) ?_
  refine lv_dup2_11 hx hb dX8_comes_82 rfl rfl ?_
  refine za_l hC hW hf (zM_a k1) dX8_comes_83 (fun v12 hf => ?_)
  refine lv_iconst (v := 1) hx hb dX8_comes_84 (by decide) ?_
  refine lv_iload hx hb dX8_comes_85 (lv_at hl 1 rfl) ?_
  refine lv_ishl hx hb dX8_comes_87 ?_
  refine lv_iconst (v := (-1)) hx hb dX8_comes_88 (by decide) ?_
  refine lv_ixor hx hb dX8_comes_89 ?_
  refine lv_iand hx hb dX8_comes_90 ?_
  refine za_s hC hW hf (zM_a k1) dX8_comes_91 (fun s13 H locs hf hW => ?_)
  refine lv_aload_n hx hb dX8_comes_92 rfl (lv_at hl 0 rfl) ?_
  refine lv_bipush (v := 13) hx hb dX8_comes_93 (by decide) ?_
  refine lv_dup2_11 hx hb dX8_comes_95 rfl rfl ?_
  refine za_l hC hW hf (zM_a k1) dX8_comes_96 (fun v14 hf => ?_)
  refine lv_iconst (v := 1) hx hb dX8_comes_97 (by decide) ?_
  refine lv_iload hx hb dX8_comes_98 (lv_at hl 1 rfl) ?_
  refine lv_ishl hx hb dX8_comes_100 ?_
  refine lv_iconst (v := (-1)) hx hb dX8_comes_101 (by decide) ?_
  refine lv_ixor hx hb dX8_comes_102 ?_
  refine lv_iand hx hb dX8_comes_103 ?_
  refine za_s hC hW hf (zM_a k1) dX8_comes_104 (fun s15 H locs hf hW => ?_)
  refine lv_aload_n hx hb dX8_comes_105 rfl (lv_at hl 0 rfl) ?_
  refine lv_bipush (v := 14) hx hb dX8_comes_106 (by decide) ?_
  refine lv_dup2_11 hx hb dX8_comes_108 rfl rfl ?_
  refine za_l hC hW hf (zM_a k1) dX8_comes_109 (fun v16 hf => ?_)
  refine lv_iconst (v := 1) hx hb dX8_comes_110 (by decide) ?_
  refine lv_iload hx hb dX8_comes_111 (lv_at hl 1 rfl) ?_
  refine lv_ishl hx hb dX8_comes_113 ?_
  refine lv_iconst (v := (-1)) hx hb dX8_comes_114 (by decide) ?_
  refine lv_ixor hx hb dX8_comes_115 ?_
  refine lv_iand hx hb dX8_comes_116 ?_
  refine za_s hC hW hf (zM_a k1) dX8_comes_117 (fun s17 H locs hf hW => ?_)
  refine lv_aload_n hx hb dX8_comes_118 rfl (lv_at hl 0 rfl) ?_
  refine lv_iconst (v := 0) hx hb dX8_comes_119 (by decide) ?_
  refine lv_iload hx hb dX8_comes_120 (lv_at hl 1 rfl) ?_
  refine lv_iconst (v := 1) hx hb dX8_comes_122 (by decide) ?_
  refine lv_iadd hx hb dX8_comes_123 ?_
  refine za_s hC hW hf (zM_a k1) dX8_comes_124 (fun s18 H locs hf hW => ?_)
  refine lv_aload_n hx hb dX8_comes_125 rfl (lv_at hl 0 rfl) ?_
  refine lv_bipush (v := 15) hx hb dX8_comes_126 (by decide) ?_
  refine lv_iconst (v := 0) hx hb dX8_comes_128 (by decide) ?_
  refine za_s hC hW hf (zM_a k1) dX8_comes_129 (fun s19 H locs hf hW => ?_)
  refine lv_iload hx hb dX8_comes_130 (lv_at hl 1 rfl) ?_
  exact zr_i hx hb hr hlk hW (zo1 hf) (zo2 hf) dX8_comes_132
set_option maxHeartbeats 4000000 in
set_option maxRecDepth 100000 in
theorem mX8_manyOf {l : Launch} {D : va_G} {cI cJ : ClassId} {adr : Nat → Nat} {u : Nat} (p1 : Int32) (p2 : Int32) (s0 : zkS) {z : Nat} {ro : Int32} (hI : zInj u adr) (hf : fX8_manyOf p1 p2 = ro) : Met l yX8_manyOf (Cond.code yX8_manyOf cX8_manyOf 2 (some .int) :: zTb) { frames := 0, cells := 0, slots := 0, locals := 0 } (zPre u D cI cJ adr s0 z [.int p1, .int p2]) (zQi u D cI cJ adr z ro s0) 0 0 (zA u adr z) := by
  refine zen (cc := cX8_manyOf) (own := RX8) (by decide +kernel) rfl hI (Nat.le_of_ble_eq_true rfl) (fun p e s m args below meth c ls hC hr hlk hz hl hW => ?_)
  subst hz
  obtain ⟨hx, hb, -⟩ := id hC
  have hl : lv_has ls 2 [(0, .int p1), (1, .int p2)] := hl
  refine zst hW (fun H locs hW => ?_)
  unfold fX8_manyOf at hf
  refine lv_iload_n hx hb dX8_manyOf_0 rfl (lv_at hl 0 rfl) ?_
  refine zi_if_ne (tgt := 8) hx hb dX8_manyOf_1 (by decide) hf (fun hc hf => ?_) (fun hc hf => ?_)
  · skip
    refine lv_iconst (v := 0) hx hb dX8_manyOf_4 (by decide) ?_
    refine lv_goto (tgt := 38) hx hb dX8_manyOf_5 (by decide) ?_
    exact zr_i hx hb hr hlk hW hf rfl dX8_manyOf_38
  · skip
    refine lv_iload_n hx hb dX8_manyOf_8 rfl (lv_at hl 0 rfl) ?_
    refine lv_iconst (v := 1) hx hb dX8_manyOf_9 (by decide) ?_
    refine zi_icmp_eq (tgt := 19) hx hb dX8_manyOf_10 (by decide) hf (fun hc hf => ?_) (fun hc hf => ?_)
    · skip
      refine lv_iconst (v := 2) hx hb dX8_manyOf_19 (by decide) ?_
      refine lv_goto (tgt := 38) hx hb dX8_manyOf_20 (by decide) ?_
      exact zr_i hx hb hr hlk hW hf rfl dX8_manyOf_38
    · skip
      refine lv_iload_n hx hb dX8_manyOf_13 rfl (lv_at hl 0 rfl) ?_
      refine lv_bipush (v := 6) hx hb dX8_manyOf_14 (by decide) ?_
      refine zi_icmp_ne (tgt := 23) hx hb dX8_manyOf_16 (by decide) hf (fun hc hf => ?_) (fun hc hf => ?_)
      · skip
        refine lv_iconst (v := 2) hx hb dX8_manyOf_19 (by decide) ?_
        refine lv_goto (tgt := 38) hx hb dX8_manyOf_20 (by decide) ?_
        exact zr_i hx hb hr hlk hW hf rfl dX8_manyOf_38
      · skip
        refine lv_iload_n hx hb dX8_manyOf_23 rfl (lv_at hl 0 rfl) ?_
        refine lv_iconst (v := 2) hx hb dX8_manyOf_24 (by decide) ?_
        refine zi_icmp_eq (tgt := 33) hx hb dX8_manyOf_25 (by decide) hf (fun hc hf => ?_) (fun hc hf => ?_)
        · skip
          refine lv_iload_n hx hb dX8_manyOf_33 rfl (lv_at hl 1 rfl) ?_
          refine lv_goto (tgt := 38) hx hb dX8_manyOf_34 (by decide) ?_
          exact zr_i hx hb hr hlk hW hf rfl dX8_manyOf_38
        · skip
          refine lv_iload_n hx hb dX8_manyOf_28 rfl (lv_at hl 0 rfl) ?_
          refine lv_iconst (v := 5) hx hb dX8_manyOf_29 (by decide) ?_
          refine zi_icmp_ne (tgt := 37) hx hb dX8_manyOf_30 (by decide) hf (fun hc hf => ?_) (fun hc hf => ?_)
          · skip
            refine lv_iload_n hx hb dX8_manyOf_33 rfl (lv_at hl 1 rfl) ?_
            refine lv_goto (tgt := 38) hx hb dX8_manyOf_34 (by decide) ?_
            exact zr_i hx hb hr hlk hW hf rfl dX8_manyOf_38
          · skip
            refine lv_iconst (v := 1) hx hb dX8_manyOf_37 (by decide) ?_
            exact zr_i hx hb hr hlk hW hf rfl dX8_manyOf_38
set_option maxHeartbeats 4000000 in
set_option maxRecDepth 100000 in
theorem mX8_cell {l : Launch} {D : va_G} {cI cJ : ClassId} {adr : Nat → Nat} (p1 : Int32) (p2 : Int32) (p3 : Int32) (s0 : zkS) {z : Nat} {ro : Int32} {so : zkS} (hI : zInj 1 adr) (hf : fX8_cell p1 p2 p3 s0 = some (ro, so)) : Met l yX8_cell (Cond.code yX8_cell cX8_cell 4 (some .int) :: zTb) { frames := 1, cells := 0, slots := 0, locals := 25 } (zPre 1 D cI cJ adr s0 z [.ref (adr 0), .int p1, .int p2, .int p3]) (zQi 1 D cI cJ adr z ro so) 0 0 (zA 1 adr z) := by
  refine zen (cc := cX8_cell) (own := RX8) (by decide +kernel) rfl hI (Nat.le_of_ble_eq_true rfl) (fun p e s m args below meth c ls hC hr hlk hz hl hW => ?_)
  subst hz
  obtain ⟨hx, hb, -⟩ := id hC
  have hl : lv_has ls 4 [(0, .ref (adr 0)), (1, .int p1), (2, .int p2), (3, .int p3)] := hl
  refine zst hW (fun H locs hW => ?_)
  unfold fX8_cell at hf
  refine lv_iload_n hx hb dX8_cell_0 rfl (lv_at hl 1 rfl) ?_
  refine lv_i2l hx hb dX8_cell_1 rfl ?_
  refine lv_lconst (v := 0) hx hb dX8_cell_2 (by decide) ?_
  refine lv_ldc2 hx hb hC.2.2.2.1 (hC.2.2.2.2.1 _ wq_899) dX8_cell_3 ?_
  refine zc_i hW (zrun_s (As := [.long ((p1 : Int32).toInt64), .long 0, .long 6]) (rest := []) hC hW (mX8_in ((p1 : Int32).toInt64) 0 6 s0 hC.2.2.2.2.2.2.2 rfl) cs_X8_57 rfl ⟨⟨rfl, rfl⟩, Nat.le_of_ble_eq_true rfl, Nat.le_of_ble_eq_true rfl⟩ (zlv_size hl) rfl (Nat.le_of_ble_eq_true rfl) dX8_cell_6 ⟨Nat.le_refl _, Nat.le_refl _⟩) (fun H locs hW => ?_)
  refine zi_if_ne (tgt := 14) hx hb dX8_cell_9 (by decide) hf (fun hc hf => ?_) (fun hc hf => ?_)
  · skip
    refine lv_iconst (v := (-1)) hx hb dX8_cell_12 (by decide) ?_
    exact zr_i hx hb hr hlk hW (zo1 hf) (zo2 hf) dX8_cell_13
  · skip
    refine lv_iload_n hx hb dX8_cell_14 rfl (lv_at hl 2 rfl) ?_
    refine lv_i2l hx hb dX8_cell_15 rfl ?_
    refine lv_lconst (v := 0) hx hb dX8_cell_16 (by decide) ?_
    refine lv_ldc2 hx hb hC.2.2.2.1 (hC.2.2.2.2.1 _ wq_903) dX8_cell_17 ?_
    refine zc_i hW (zrun_s (As := [.long ((p2 : Int32).toInt64), .long 0, .long 9]) (rest := []) hC hW (mX8_in ((p2 : Int32).toInt64) 0 9 s0 hC.2.2.2.2.2.2.2 rfl) cs_X8_57 rfl ⟨⟨rfl, rfl⟩, Nat.le_of_ble_eq_true rfl, Nat.le_of_ble_eq_true rfl⟩ (zlv_size hl) rfl (Nat.le_of_ble_eq_true rfl) dX8_cell_20 ⟨Nat.le_refl _, Nat.le_refl _⟩) (fun H locs hW => ?_)
    refine zi_if_eq (tgt := 48) hx hb dX8_cell_23 (by decide) hf (fun hc hf => ?_) (fun hc hf => ?_)
    · skip
      refine lv_bipush (v := (-2)) hx hb dX8_cell_48 (by decide) ?_
      exact zr_i hx hb hr hlk hW (zo1 hf) (zo2 hf) dX8_cell_50
    · skip
      refine lv_iload_n hx hb dX8_cell_26 rfl (lv_at hl 1 rfl) ?_
      refine lv_iconst (v := 2) hx hb dX8_cell_27 (by decide) ?_
      refine zjn_e hf (fun J3 => ∀ (u4 : Unit) (H : Heap) (locs : List Loc) (ls : Array Slot), J3 u4 = some (ro, so) → zWo 1 D cI cJ adr s s0 H locs → lv_has ls 4 [(0, .ref (adr 0)), (1, .int p1), (2, .int p2), (3, .int p3)] → W p l e { frames := 1, cells := 0, slots := 0, locals := 25 } s m args below meth c H locs 0 0 (MQ below (zQi 1 D cI cJ adr s.heap.size ro so) args s 0 0 (zA 1 adr s.heap.size)) (F0 m 51 ls [])) ?_ (fun J3 hJ3 hf => ?_)
      · intro u4 H locs ls hf hW hl
        refine lv_aload_n hx hb dX8_cell_51 rfl (lv_at hl 0 rfl) ?_
        refine zg_a (o := 0) hC hW fl_X8_11 zck_1_0 zcs_1_0 (show _ = 1 from rfl) dX8_cell_52 ?_
        refine lv_iconst (v := 2) hx hb dX8_cell_55 (by decide) ?_
        refine za_l hC hW hf zar_1_1 dX8_cell_56 (fun v5 hf => ?_)
        refine lv_iconst (v := 1) hx hb dX8_cell_57 (by decide) ?_
        refine zi_icmp_ne (tgt := 64) hx hb dX8_cell_58 (by decide) hf (fun hc hf => ?_) (fun hc hf => ?_)
        · skip
          refine lv_bipush (v := (-3)) hx hb dX8_cell_61 (by decide) ?_
          exact zr_i hx hb hr hlk hW (zo1 hf) (zo2 hf) dX8_cell_63
        · skip
          refine lv_aload_n hx hb dX8_cell_64 rfl (lv_at hl 0 rfl) ?_
          refine zg_a (o := 0) hC hW fl_X8_11 zck_1_0 zcs_1_0 (show _ = 1 from rfl) dX8_cell_65 ?_
          refine lv_iconst (v := 0) hx hb dX8_cell_68 (by decide) ?_
          refine za_l hC hW hf zar_1_1 dX8_cell_69 (fun v6 hf => ?_)
          refine lv_bipush (v := 24) hx hb dX8_cell_70 (by decide) ?_
          refine zi_icmp_ne (tgt := 80) hx hb dX8_cell_72 (by decide) hf (fun hc hf => ?_) (fun hc hf => ?_)
          · skip
            refine lv_bipush (v := (-4)) hx hb dX8_cell_75 (by decide) ?_
            refine lv_goto (tgt := 94) hx hb dX8_cell_77 (by decide) ?_
            exact zr_i hx hb hr hlk hW (zo1 hf) (zo2 hf) dX8_cell_94
          · skip
            refine lv_aload_n hx hb dX8_cell_80 rfl (lv_at hl 0 rfl) ?_
            refine zg_a (o := 0) hC hW fl_X8_11 zck_1_0 zcs_1_0 (show _ = 1 from rfl) dX8_cell_81 ?_
            refine lv_iload_n hx hb dX8_cell_84 rfl (lv_at hl 1 rfl) ?_
            refine lv_iload_n hx hb dX8_cell_85 rfl (lv_at hl 2 rfl) ?_
            refine lv_iload_n hx hb dX8_cell_86 rfl (lv_at hl 1 rfl) ?_
            refine lv_iload_n hx hb dX8_cell_87 rfl (lv_at hl 3 rfl) ?_
            refine zc_i hW (zrun_s (As := [.int p1, .int p3]) (rest := [.int p2, .int p1, .ref (adr 1)]) hC hW (mX8_manyOf p1 p3 s0 hC.2.2.2.2.2.2.2 rfl) cs_X8_73 rfl ⟨⟨rfl, rfl⟩, Nat.le_of_ble_eq_true rfl, Nat.le_of_ble_eq_true rfl⟩ (zlv_size hl) rfl (Nat.le_of_ble_eq_true rfl) dX8_cell_88 ⟨Nat.le_refl _, Nat.le_refl _⟩) (fun H locs hW => ?_)
            obtain ⟨v8, s9, hq, hf⟩ := zb2_o hf
            refine zc_i hW (zrun_s (As := [.ref (adr 1), .int p1, .int p2, .int (fX8_manyOf p1 p3)]) (rest := []) hC hW (mX8_comes zMc_1 p1 p2 (fX8_manyOf p1 p3) s0 hC.2.2.2.2.2.2.2 hq) cs_X8_77 rfl ⟨⟨rfl, rfl⟩, Nat.le_of_ble_eq_true rfl, Nat.le_of_ble_eq_true rfl⟩ (zlv_size hl) rfl (Nat.le_of_ble_eq_true rfl) dX8_cell_91 ⟨Nat.le_refl _, Nat.le_refl _⟩) (fun H locs hW => ?_)
            exact zr_i hx hb hr hlk hW (zo1 hf) (zo2 hf) dX8_cell_94
      refine zjn_e hf (fun J10 => ∀ (u11 : Unit) (H : Heap) (locs : List Loc) (ls : Array Slot), J10 u11 = some (ro, so) → zWo 1 D cI cJ adr s s0 H locs → lv_has ls 4 [(0, .ref (adr 0)), (1, .int p1), (2, .int p2), (3, .int p3)] → W p l e { frames := 1, cells := 0, slots := 0, locals := 25 } s m args below meth c H locs 0 0 (MQ below (zQi 1 D cI cJ adr s.heap.size ro so) args s 0 0 (zA 1 adr s.heap.size)) (F0 m 36 ls [])) ?_ (fun J10 hJ10 hf => ?_)
      · intro u11 H locs ls hf hW hl
        refine lv_iload_n hx hb dX8_cell_36 rfl (lv_at hl 3 rfl) ?_
        refine lv_i2l hx hb dX8_cell_37 rfl ?_
        refine lv_lconst (v := 0) hx hb dX8_cell_38 (by decide) ?_
        refine lv_ldc2 hx hb hC.2.2.2.1 (hC.2.2.2.2.1 _ wq_899) dX8_cell_39 ?_
        refine zc_i hW (zrun_s (As := [.long ((p3 : Int32).toInt64), .long 0, .long 6]) (rest := []) hC hW (mX8_in ((p3 : Int32).toInt64) 0 6 s0 hC.2.2.2.2.2.2.2 rfl) cs_X8_57 rfl ⟨⟨rfl, rfl⟩, Nat.le_of_ble_eq_true rfl, Nat.le_of_ble_eq_true rfl⟩ (zlv_size hl) rfl (Nat.le_of_ble_eq_true rfl) dX8_cell_42 ⟨Nat.le_refl _, Nat.le_refl _⟩) (fun H locs hW => ?_)
        refine zi_if_ne (tgt := 51) hx hb dX8_cell_45 (by decide) hf (fun hc hf => ?_) (fun hc hf => ?_)
        · skip
          refine lv_bipush (v := (-2)) hx hb dX8_cell_48 (by decide) ?_
          exact zr_i hx hb hr hlk hW (zo1 hf) (zo2 hf) dX8_cell_50
        · skip
          exact hJ3 () H locs ls hf hW (lv_sub hl [0, 1, 2, 3] rfl)
      refine zi_icmp_eq (tgt := 36) hx hb dX8_cell_28 (by decide) hf (fun hc hf => ?_) (fun hc hf => ?_)
      · skip
        exact hJ10 () H locs ls hf hW (lv_sub hl [0, 1, 2, 3] rfl)
      · skip
        refine lv_iload_n hx hb dX8_cell_31 rfl (lv_at hl 1 rfl) ?_
        refine lv_iconst (v := 5) hx hb dX8_cell_32 (by decide) ?_
        refine zi_icmp_ne (tgt := 51) hx hb dX8_cell_33 (by decide) hf (fun hc hf => ?_) (fun hc hf => ?_)
        · skip
          exact hJ10 () H locs ls hf hW (lv_sub hl [0, 1, 2, 3] rfl)
        · skip
          exact hJ3 () H locs ls hf hW (lv_sub hl [0, 1, 2, 3] rfl)
set_option maxHeartbeats 4000000 in
set_option maxRecDepth 100000 in
theorem mX8_isFollowed {l : Launch} {D : va_G} {cI cJ : ClassId} {adr : Nat → Nat} {w1 : Nat} (k1 : zM w1) (p2 : Int32) (p3 : Int32) (s0 : zkS) {z : Nat} {ro : Int32} (hI : zInj 1 adr) (hf : fX8_isFollowed w1 p2 p3 s0 = some ro) : Met l yX8_isFollowed (Cond.code yX8_isFollowed cX8_isFollowed 4 (some .boolean) :: zTb) { frames := 0, cells := 0, slots := 0, locals := 0 } (zPre 1 D cI cJ adr s0 z [.ref (adr w1), .int p2, .int p3]) (zQi 1 D cI cJ adr z ro s0) 0 0 (zA 1 adr z) := by
  refine zen (cc := cX8_isFollowed) (own := RX8) (by decide +kernel) rfl hI (Nat.le_of_ble_eq_true rfl) (fun p e s m args below meth c ls hC hr hlk hz hl hW => ?_)
  subst hz
  obtain ⟨hx, hb, -⟩ := id hC
  have hl : lv_has ls 4 [(0, .ref (adr w1)), (1, .int p2), (2, .int p3)] := hl
  refine zst hW (fun H locs hW => ?_)
  unfold fX8_isFollowed at hf
  refine lv_aload_n hx hb dX8_isFollowed_0 rfl (lv_at hl 0 rfl) ?_
  refine lv_bipush (v := 20) hx hb dX8_isFollowed_1 (by decide) ?_
  refine lv_iload_n hx hb dX8_isFollowed_3 rfl (lv_at hl 1 rfl) ?_
  refine lv_iadd hx hb dX8_isFollowed_4 ?_
  refine za_l hC hW hf (zM_a k1) dX8_isFollowed_5 (fun v1 hf => ?_)
  refine lv_istore_n (lv' := [(3, .int v1), (0, .ref (adr w1)), (1, .int p2), (2, .int p3)]) hx hb dX8_isFollowed_6 rfl hl (by decide) rfl (fun ls hl => ?_)
  refine lv_iload_n hx hb dX8_isFollowed_7 rfl (lv_at hl 0 rfl) ?_
  refine lv_iconst (v := 4) hx hb dX8_isFollowed_8 (by decide) ?_
  refine zi_icmp_eq (tgt := 50) hx hb dX8_isFollowed_9 (by decide) hf (fun hc hf => ?_) (fun hc hf => ?_)
  · skip
    refine lv_iconst (v := 0) hx hb dX8_isFollowed_50 (by decide) ?_
    exact zr_z hx hb hr hlk hW (by decide) (Option.some.inj hf) rfl dX8_isFollowed_51
  · skip
    refine lv_iload_n hx hb dX8_isFollowed_12 rfl (lv_at hl 0 rfl) ?_
    refine lv_iconst (v := 5) hx hb dX8_isFollowed_13 (by decide) ?_
    refine zjn_e hf (fun J2 => ∀ (u3 : Unit) (H : Heap) (locs : List Loc) (ls : Array Slot), J2 u3 = some ro → zWo 1 D cI cJ adr s s0 H locs → lv_has ls 4 [(0, .ref (adr w1)), (1, .int p2), (2, .int p3), (3, .int v1)] → W p l e { frames := 0, cells := 0, slots := 0, locals := 0 } s m args below meth c H locs 0 0 (MQ below (zQi 1 D cI cJ adr s.heap.size ro s0) args s 0 0 (zA 1 adr s.heap.size)) (F0 m 24 ls [])) ?_ (fun J2 hJ2 hf => ?_)
    · intro u3 H locs ls hf hW hl
      refine lv_iload_n hx hb dX8_isFollowed_24 rfl (lv_at hl 3 rfl) ?_
      refine lv_bipush (v := 6) hx hb dX8_isFollowed_25 (by decide) ?_
      refine zi_icmp_ne (tgt := 46) hx hb dX8_isFollowed_27 (by decide) hf (fun hc hf => ?_) (fun hc hf => ?_)
      · skip
        refine lv_iload_n hx hb dX8_isFollowed_30 rfl (lv_at hl 2 rfl) ?_
        refine zi_if_eq (tgt := 46) hx hb dX8_isFollowed_31 (by decide) hf (fun hc hf => ?_) (fun hc hf => ?_)
        · skip
          refine lv_iconst (v := 1) hx hb dX8_isFollowed_46 (by decide) ?_
          refine lv_goto (tgt := 51) hx hb dX8_isFollowed_47 (by decide) ?_
          exact zr_z hx hb hr hlk hW (by decide) (Option.some.inj hf) rfl dX8_isFollowed_51
        · skip
          refine lv_aload_n hx hb dX8_isFollowed_34 rfl (lv_at hl 0 rfl) ?_
          refine lv_bipush (v := 44) hx hb dX8_isFollowed_35 (by decide) ?_
          refine lv_iload_n hx hb dX8_isFollowed_37 rfl (lv_at hl 1 rfl) ?_
          refine lv_iadd hx hb dX8_isFollowed_38 ?_
          refine za_l hC hW hf (zM_a k1) dX8_isFollowed_39 (fun v4 hf => ?_)
          refine lv_iconst (v := 2) hx hb dX8_isFollowed_40 (by decide) ?_
          refine lv_irem hx hb dX8_isFollowed_41 (by decide) ?_
          refine lv_iconst (v := 1) hx hb dX8_isFollowed_42 (by decide) ?_
          refine zi_icmp_ne (tgt := 50) hx hb dX8_isFollowed_43 (by decide) hf (fun hc hf => ?_) (fun hc hf => ?_)
          · skip
            refine lv_iconst (v := 1) hx hb dX8_isFollowed_46 (by decide) ?_
            refine lv_goto (tgt := 51) hx hb dX8_isFollowed_47 (by decide) ?_
            exact zr_z hx hb hr hlk hW (by decide) (Option.some.inj hf) rfl dX8_isFollowed_51
          · skip
            refine lv_iconst (v := 0) hx hb dX8_isFollowed_50 (by decide) ?_
            exact zr_z hx hb hr hlk hW (by decide) (Option.some.inj hf) rfl dX8_isFollowed_51
      · skip
        refine lv_iconst (v := 1) hx hb dX8_isFollowed_46 (by decide) ?_
        refine lv_goto (tgt := 51) hx hb dX8_isFollowed_47 (by decide) ?_
        exact zr_z hx hb hr hlk hW (by decide) (Option.some.inj hf) rfl dX8_isFollowed_51
    refine zi_icmp_ne (tgt := 24) hx hb dX8_isFollowed_14 (by decide) hf (fun hc hf => ?_) (fun hc hf => ?_)
    · skip
      refine lv_iload_n hx hb dX8_isFollowed_17 rfl (lv_at hl 3 rfl) ?_
      refine lv_iconst (v := 2) hx hb dX8_isFollowed_18 (by decide) ?_
      refine lv_irem hx hb dX8_isFollowed_19 (by decide) ?_
      refine lv_iconst (v := 1) hx hb dX8_isFollowed_20 (by decide) ?_
      refine zi_icmp_ne (tgt := 50) hx hb dX8_isFollowed_21 (by decide) hf (fun hc hf => ?_) (fun hc hf => ?_)
      · skip
        exact hJ2 () H locs ls hf hW (lv_sub hl [1, 2, 3, 0] rfl)
      · skip
        refine lv_iconst (v := 0) hx hb dX8_isFollowed_50 (by decide) ?_
        exact zr_z hx hb hr hlk hW (by decide) (Option.some.inj hf) rfl dX8_isFollowed_51
    · skip
      exact hJ2 () H locs ls hf hW (lv_sub hl [1, 2, 3, 0] rfl)
set_option maxHeartbeats 4000000 in
set_option maxRecDepth 100000 in
theorem mX8_leads {l : Launch} {D : va_G} {cI cJ : ClassId} {adr : Nat → Nat} {w1 : Nat} (k1 : zM w1) (p2 : Int32) (p3 : Int32) (s0 : zkS) {z : Nat} {ro : Int32} (hI : zInj 1 adr) (hf : fX8_leads w1 p2 p3 s0 = some ro) : Met l yX8_leads (Cond.code yX8_leads cX8_leads 3 (some .int) :: zTb) { frames := 1, cells := 0, slots := 0, locals := 23 } (zPre 1 D cI cJ adr s0 z [.ref (adr w1), .int p2, .int p3]) (zQi 1 D cI cJ adr z ro s0) 0 0 (zA 1 adr z) := by
  refine zen (cc := cX8_leads) (own := RX8) (by decide +kernel) rfl hI (Nat.le_of_ble_eq_true rfl) (fun p e s m args below meth c ls hC hr hlk hz hl hW => ?_)
  subst hz
  obtain ⟨hx, hb, -⟩ := id hC
  have hl : lv_has ls 3 [(0, .ref (adr w1)), (1, .int p2), (2, .int p3)] := hl
  refine zst hW (fun H locs hW => ?_)
  unfold fX8_leads at hf
  refine lv_aload_n hx hb dX8_leads_0 rfl (lv_at hl 0 rfl) ?_
  refine lv_iload_n hx hb dX8_leads_1 rfl (lv_at hl 1 rfl) ?_
  refine lv_iload_n hx hb dX8_leads_2 rfl (lv_at hl 2 rfl) ?_
  obtain ⟨v1, hq, hf⟩ := zb1_o hf
  refine zc_i hW (zrun_s (As := [.ref (adr w1), .int p2, .int p3]) (rest := []) hC hW (mX8_isFollowed k1 p2 p3 s0 hC.2.2.2.2.2.2.2 hq) cs_X8_81 rfl ⟨⟨rfl, rfl⟩, Nat.le_of_ble_eq_true rfl, Nat.le_of_ble_eq_true rfl⟩ (zlv_size hl) rfl (Nat.le_of_ble_eq_true rfl) dX8_leads_3 ⟨Nat.le_refl _, Nat.le_refl _⟩) (fun H locs hW => ?_)
  refine zi_if_eq (tgt := 24) hx hb dX8_leads_6 (by decide) hf (fun hc hf => ?_) (fun hc hf => ?_)
  · skip
    refine lv_bipush (v := (-5)) hx hb dX8_leads_24 (by decide) ?_
    exact zr_i hx hb hr hlk hW (Option.some.inj hf) rfl dX8_leads_26
  · skip
    refine lv_aload_n hx hb dX8_leads_9 rfl (lv_at hl 0 rfl) ?_
    refine lv_sipush (v := 140) hx hb dX8_leads_10 (by decide) ?_
    refine lv_bipush (v := 6) hx hb dX8_leads_13 (by decide) ?_
    refine lv_iload_n hx hb dX8_leads_15 rfl (lv_at hl 1 rfl) ?_
    refine lv_imul hx hb dX8_leads_16 ?_
    refine lv_iadd hx hb dX8_leads_17 ?_
    refine lv_iload_n hx hb dX8_leads_18 rfl (lv_at hl 2 rfl) ?_
    refine lv_iadd hx hb dX8_leads_19 ?_
    refine za_l hC hW hf (zM_a k1) dX8_leads_20 (fun v2 hf => ?_)
    refine lv_goto (tgt := 26) hx hb dX8_leads_21 (by decide) ?_
    exact zr_i hx hb hr hlk hW (Option.some.inj hf) rfl dX8_leads_26
set_option maxHeartbeats 4000000 in
set_option maxRecDepth 100000 in
theorem mX8_reach {l : Launch} {D : va_G} {cI cJ : ClassId} {adr : Nat → Nat} {w1 : Nat} (k1 : zM w1) (p2 : Int32) (p3 : Int32) (s0 : zkS) {z : Nat} {ro : Int32} (hI : zInj 1 adr) (hf : fX8_reach w1 p2 p3 s0 = some ro) : Met l yX8_reach (Cond.code yX8_reach cX8_reach 9 (some .int) :: zTb) { frames := 2, cells := 0, slots := 0, locals := 45 } (zPre 1 D cI cJ adr s0 z [.ref (adr w1), .int p2, .int p3]) (zQi 1 D cI cJ adr z ro s0) 0 0 (zA 1 adr z) := by
  refine zen (cc := cX8_reach) (own := RX8) (by decide +kernel) rfl hI (Nat.le_of_ble_eq_true rfl) (fun p e s m args below meth c ls hC hr hlk hz hl hW => ?_)
  subst hz
  obtain ⟨hx, hb, -⟩ := id hC
  have hl : lv_has ls 9 [(0, .ref (adr w1)), (1, .int p2), (2, .int p3)] := hl
  refine zst hW (fun H locs hW => ?_)
  unfold fX8_reach at hf
  refine lv_iload_n hx hb dX8_reach_0 rfl (lv_at hl 2 rfl) ?_
  refine lv_bipush (v := 24) hx hb dX8_reach_1 (by decide) ?_
  refine zjn_e hf (fun J1 => ∀ (v2 : Int32) (H : Heap) (locs : List Loc) (ls : Array Slot), J1 v2 = some ro → zWo 1 D cI cJ adr s s0 H locs → lv_has ls 9 [(0, .ref (adr w1)), (2, .int p3)] → W p l e { frames := 2, cells := 0, slots := 0, locals := 45 } s m args below meth c H locs 0 0 (MQ below (zQi 1 D cI cJ adr s.heap.size ro s0) args s 0 0 (zA 1 adr s.heap.size)) (F0 m 17 ls [.int v2])) ?_ (fun J1 hJ1 hf => ?_)
  · intro v2 H locs ls hf hW hl
    refine lv_istore_n (lv' := [(3, .int v2), (0, .ref (adr w1)), (2, .int p3)]) hx hb dX8_reach_17 rfl hl (by decide) rfl (fun ls hl => ?_)
    refine lv_iconst (v := 1) hx hb dX8_reach_18 (by decide) ?_
    refine lv_istore (lv' := [(4, .int 1), (3, .int v2), (0, .ref (adr w1)), (2, .int p3)]) hx hb dX8_reach_19 hl (by decide) rfl (fun ls hl => ?_)
    have hL21 : ∀ (n : Nat) (x2 : Int32) (x3 : Int32) (x4 : Int32) (K21 : Int32 → Option (Int32)) (H : Heap) (locs : List Loc) (ls : Array Slot), fX8_reach_L21 n w1 s0 x2 x3 x4 K21 = some ro → zWo 1 D cI cJ adr s s0 H locs → lv_has ls 9 [(0, .ref (adr w1)), (2, .int x2), (3, .int x3), (4, .int x4)] → (∀ (x3 : Int32) (H : Heap) (locs : List Loc) (ls : Array Slot), K21 x3 = some ro → zWo 1 D cI cJ adr s s0 H locs → lv_has ls 9 [(3, .int x3)] → W p l e { frames := 2, cells := 0, slots := 0, locals := 45 } s m args below meth c H locs 0 0 (MQ below (zQi 1 D cI cJ adr s.heap.size ro s0) args s 0 0 (zA 1 adr s.heap.size)) (F0 m 120 ls [])) → W p l e { frames := 2, cells := 0, slots := 0, locals := 45 } s m args below meth c H locs 0 0 (MQ below (zQi 1 D cI cJ adr s.heap.size ro s0) args s 0 0 (zA 1 adr s.heap.size)) (F0 m 21 ls []) := by
      intro n
      induction n with
      | zero =>
        intro x2 x3 x4 K21 H locs ls hf hW hl hK21
        rw [fX8_reach_L21] at hf
        cases hf
      | succ n ih21 =>
        intro x2 x3 x4 K21 H locs ls hf hW hl hK21
        rw [fX8_reach_L21] at hf
        refine lv_iload hx hb dX8_reach_21 (lv_at hl 3 rfl) ?_
        refine zi_if_eq (tgt := 120) hx hb dX8_reach_23 (by decide) hf (fun hc hf => ?_) (fun hc hf => ?_)
        · skip
          exact hK21 x3 H locs ls hf hW (lv_sub hl [2] rfl)
        · skip
          refine lv_iload_n hx hb dX8_reach_26 rfl (lv_at hl 2 rfl) ?_
          refine lv_istore (lv' := [(5, .int x3), (0, .ref (adr w1)), (2, .int x2), (3, .int x3), (4, .int x4)]) hx hb dX8_reach_27 hl (by decide) rfl (fun ls hl => ?_)
          refine lv_iconst (v := 0) hx hb dX8_reach_29 (by decide) ?_
          refine lv_istore (lv' := [(6, .int 0), (5, .int x3), (0, .ref (adr w1)), (2, .int x2), (3, .int x3), (4, .int x4)]) hx hb dX8_reach_30 hl (by decide) rfl (fun ls hl => ?_)
          have hL32 : ∀ (n : Nat) (x2 : Int32) (x5 : Int32) (x3 : Int32) (x6 : Int32) (K32 : Int32 → Option (Int32)) (H : Heap) (locs : List Loc) (ls : Array Slot), fX8_reach_L32 n w1 s0 x2 x5 x3 x6 K32 = some ro → zWo 1 D cI cJ adr s s0 H locs → lv_has ls 9 [(0, .ref (adr w1)), (2, .int x2), (3, .int x3), (5, .int x5), (6, .int x6)] → (∀ (x3 : Int32) (H : Heap) (locs : List Loc) (ls : Array Slot), K32 x3 = some ro → zWo 1 D cI cJ adr s s0 H locs → lv_has ls 9 [(0, .ref (adr w1)), (2, .int x2), (3, .int x3), (5, .int x5)] → W p l e { frames := 2, cells := 0, slots := 0, locals := 45 } s m args below meth c H locs 0 0 (MQ below (zQi 1 D cI cJ adr s.heap.size ro s0) args s 0 0 (zA 1 adr s.heap.size)) (F0 m 104 ls [])) → W p l e { frames := 2, cells := 0, slots := 0, locals := 45 } s m args below meth c H locs 0 0 (MQ below (zQi 1 D cI cJ adr s.heap.size ro s0) args s 0 0 (zA 1 adr s.heap.size)) (F0 m 32 ls []) := by
            intro n
            induction n with
            | zero =>
              intro x2 x5 x3 x6 K32 H locs ls hf hW hl hK32
              rw [fX8_reach_L32] at hf
              cases hf
            | succ n ih32 =>
              intro x2 x5 x3 x6 K32 H locs ls hf hW hl hK32
              rw [fX8_reach_L32] at hf
              refine lv_iload hx hb dX8_reach_32 (lv_at hl 4 rfl) ?_
              refine lv_bipush (v := 24) hx hb dX8_reach_34 (by decide) ?_
              refine zi_icmp_ge (tgt := 104) hx hb dX8_reach_36 (by decide) hf (fun hc hf => ?_) (fun hc hf => ?_)
              · skip
                exact hK32 x3 H locs ls hf hW (lv_sub hl [0, 1, 2, 3] rfl)
              · skip
                refine lv_iconst (v := 0) hx hb dX8_reach_39 (by decide) ?_
                refine lv_istore (lv' := [(7, .int 0), (0, .ref (adr w1)), (2, .int x2), (3, .int x3), (5, .int x5), (6, .int x6)]) hx hb dX8_reach_40 hl (by decide) rfl (fun ls hl => ?_)
                have hL42 : ∀ (n : Nat) (x2 : Int32) (x5 : Int32) (x6 : Int32) (x3 : Int32) (x7 : Int32) (K42 : Int32 → Option (Int32)) (H : Heap) (locs : List Loc) (ls : Array Slot), fX8_reach_L42 n w1 s0 x2 x5 x6 x3 x7 K42 = some ro → zWo 1 D cI cJ adr s s0 H locs → lv_has ls 9 [(0, .ref (adr w1)), (2, .int x2), (3, .int x3), (5, .int x5), (6, .int x6), (7, .int x7)] → (∀ (x3 : Int32) (H : Heap) (locs : List Loc) (ls : Array Slot), K42 x3 = some ro → zWo 1 D cI cJ adr s s0 H locs → lv_has ls 9 [(0, .ref (adr w1)), (2, .int x2), (3, .int x3), (5, .int x5), (6, .int x6)] → W p l e { frames := 2, cells := 0, slots := 0, locals := 45 } s m args below meth c H locs 0 0 (MQ below (zQi 1 D cI cJ adr s.heap.size ro s0) args s 0 0 (zA 1 adr s.heap.size)) (F0 m 98 ls [])) → W p l e { frames := 2, cells := 0, slots := 0, locals := 45 } s m args below meth c H locs 0 0 (MQ below (zQi 1 D cI cJ adr s.heap.size ro s0) args s 0 0 (zA 1 adr s.heap.size)) (F0 m 42 ls []) := by
                  intro n
                  induction n with
                  | zero =>
                    intro x2 x5 x6 x3 x7 K42 H locs ls hf hW hl hK42
                    rw [fX8_reach_L42] at hf
                    cases hf
                  | succ n ih42 =>
                    intro x2 x5 x6 x3 x7 K42 H locs ls hf hW hl hK42
                    rw [fX8_reach_L42] at hf
                    refine lv_iload hx hb dX8_reach_42 (lv_at hl 3 rfl) ?_
                    refine lv_iload hx hb dX8_reach_44 (lv_at hl 4 rfl) ?_
                    refine zc_i hW (zrun_s (As := [.int x5, .int x6]) (rest := []) hC hW (mX8_bit x5 x6 s0 hC.2.2.2.2.2.2.2 rfl) cs_X8_61 rfl ⟨⟨rfl, rfl⟩, Nat.le_of_ble_eq_true rfl, Nat.le_of_ble_eq_true rfl⟩ (zlv_size hl) rfl (Nat.le_of_ble_eq_true rfl) dX8_reach_46 ⟨Nat.le_refl _, Nat.le_refl _⟩) (fun H locs hW => ?_)
                    refine zi_if_eq (tgt := 98) hx hb dX8_reach_49 (by decide) hf (fun hc hf => ?_) (fun hc hf => ?_)
                    · skip
                      exact hK42 x3 H locs ls hf hW (lv_sub hl [0, 1, 2, 3, 4] rfl)
                    · skip
                      refine lv_iload hx hb dX8_reach_52 (lv_at hl 5 rfl) ?_
                      refine lv_aload_n hx hb dX8_reach_54 rfl (lv_at hl 0 rfl) ?_
                      refine lv_bipush (v := 68) hx hb dX8_reach_55 (by decide) ?_
                      refine lv_iload hx hb dX8_reach_57 (lv_at hl 4 rfl) ?_
                      refine lv_iadd hx hb dX8_reach_59 ?_
                      refine za_l hC hW hf (zM_a k1) dX8_reach_60 (fun v4 hf => ?_)
                      refine zi_icmp_ge (tgt := 98) hx hb dX8_reach_61 (by decide) hf (fun hc hf => ?_) (fun hc hf => ?_)
                      · skip
                        exact hK42 x3 H locs ls hf hW (lv_sub hl [0, 1, 2, 3, 4] rfl)
                      · skip
                        refine lv_aload_n hx hb dX8_reach_64 rfl (lv_at hl 0 rfl) ?_
                        refine lv_iload hx hb dX8_reach_65 (lv_at hl 4 rfl) ?_
                        refine lv_iload hx hb dX8_reach_67 (lv_at hl 5 rfl) ?_
                        obtain ⟨v5, hq, hf⟩ := zb1_o hf
                        refine zc_i hW (zrun_s (As := [.ref (adr w1), .int x6, .int x7]) (rest := []) hC hW (mX8_leads k1 x6 x7 s0 hC.2.2.2.2.2.2.2 hq) cs_X8_85 rfl ⟨⟨rfl, rfl⟩, Nat.le_of_ble_eq_true rfl, Nat.le_of_ble_eq_true rfl⟩ (zlv_size hl) rfl (Nat.le_of_ble_eq_true rfl) dX8_reach_69 ⟨Nat.le_refl _, Nat.le_refl _⟩) (fun H locs hW => ?_)
                        refine lv_istore (lv' := [(8, .int v5), (0, .ref (adr w1)), (2, .int x2), (3, .int x3), (5, .int x5), (6, .int x6), (7, .int x7)]) hx hb dX8_reach_72 hl (by decide) rfl (fun ls hl => ?_)
                        refine lv_iload hx hb dX8_reach_74 (lv_at hl 0 rfl) ?_
                        refine zi_if_lt (tgt := 92) hx hb dX8_reach_76 (by decide) hf (fun hc hf => ?_) (fun hc hf => ?_)
                        · skip
                          refine zi_inc (v := (x7 + 1)) (lv' := fun v6 => [(7, .int v6), (8, .int v5), (0, .ref (adr w1)), (2, .int x2), (3, .int x3), (5, .int x5), (6, .int x6)]) hx hb dX8_reach_92 hl (k := 6) rfl rfl (by decide) (fun _ => rfl) hf (fun v6 ls hf hl => ?_)
                          refine lv_goto (tgt := 42) hx hb dX8_reach_95 (by decide) ?_
                          exact ih42 x2 x5 x6 x3 v6 _ H locs ls hf hW (lv_sub hl [2, 3, 4, 5, 6, 0] rfl) hK42
                        · skip
                          refine lv_iload hx hb dX8_reach_79 (lv_at hl 0 rfl) ?_
                          refine lv_iload_n hx hb dX8_reach_81 rfl (lv_at hl 2 rfl) ?_
                          refine zi_icmp_eq (tgt := 92) hx hb dX8_reach_82 (by decide) hf (fun hc hf => ?_) (fun hc hf => ?_)
                          · skip
                            refine zi_inc (v := (x7 + 1)) (lv' := fun v7 => [(7, .int v7), (8, .int v5), (0, .ref (adr w1)), (2, .int x2), (3, .int x3), (5, .int x5), (6, .int x6)]) hx hb dX8_reach_92 hl (k := 6) rfl rfl (by decide) (fun _ => rfl) hf (fun v7 ls hf hl => ?_)
                            refine lv_goto (tgt := 42) hx hb dX8_reach_95 (by decide) ?_
                            exact ih42 x2 x5 x6 x3 v7 _ H locs ls hf hW (lv_sub hl [2, 3, 4, 5, 6, 0] rfl) hK42
                          · skip
                            refine lv_iload_n hx hb dX8_reach_85 rfl (lv_at hl 3 rfl) ?_
                            refine lv_iconst (v := 1) hx hb dX8_reach_86 (by decide) ?_
                            refine lv_iload hx hb dX8_reach_87 (lv_at hl 0 rfl) ?_
                            refine lv_ishl hx hb dX8_reach_89 ?_
                            refine lv_ior hx hb dX8_reach_90 ?_
                            refine zn_i hf (fun v8 hf => ?_)
                            refine lv_istore_n (lv' := [(3, .int v8), (8, .int v5), (0, .ref (adr w1)), (2, .int x2), (5, .int x5), (6, .int x6), (7, .int x7)]) hx hb dX8_reach_91 rfl hl (by decide) rfl (fun ls hl => ?_)
                            refine zi_inc (v := (x7 + 1)) (lv' := fun v9 => [(7, .int v9), (3, .int v8), (8, .int v5), (0, .ref (adr w1)), (2, .int x2), (5, .int x5), (6, .int x6)]) hx hb dX8_reach_92 hl (k := 6) rfl rfl (by decide) (fun _ => rfl) hf (fun v9 ls hf hl => ?_)
                            refine lv_goto (tgt := 42) hx hb dX8_reach_95 (by decide) ?_
                            exact ih42 x2 x5 x6 v8 v9 _ H locs ls hf hW (lv_sub hl [3, 4, 1, 5, 6, 0] rfl) hK42
                refine hL42 zFU x2 x5 x6 x3 0 _ H locs ls hf hW (lv_sub hl [1, 2, 3, 4, 5, 0] rfl) (fun x10 H locs ls hf hW hl => ?_)
                refine zi_inc (v := (x6 + 1)) (lv' := fun v11 => [(6, .int v11), (0, .ref (adr w1)), (2, .int x2), (3, .int x10), (5, .int x5)]) hx hb dX8_reach_98 hl (k := 4) rfl rfl (by decide) (fun _ => rfl) hf (fun v11 ls hf hl => ?_)
                refine lv_goto (tgt := 32) hx hb dX8_reach_101 (by decide) ?_
                exact ih32 x2 x5 x10 v11 _ H locs ls hf hW (lv_sub hl [1, 2, 3, 4, 0] rfl) hK32
          refine hL32 zFU x2 x3 x3 0 _ H locs ls hf hW (lv_sub hl [2, 3, 4, 1, 0] rfl) (fun x12 H locs ls hf hW hl => ?_)
          refine lv_iload_n hx hb dX8_reach_104 rfl (lv_at hl 2 rfl) ?_
          refine lv_iload hx hb dX8_reach_105 (lv_at hl 3 rfl) ?_
          refine zi_icmp_eq (tgt := 114) hx hb dX8_reach_107 (by decide) hf (fun hc hf => ?_) (fun hc hf => ?_)
          · skip
            refine lv_iconst (v := 0) hx hb dX8_reach_114 (by decide) ?_
            refine lv_istore (lv' := [(4, .int 0), (0, .ref (adr w1)), (2, .int x2), (3, .int x12), (5, .int x3)]) hx hb dX8_reach_115 hl (by decide) rfl (fun ls hl => ?_)
            refine lv_goto (tgt := 21) hx hb dX8_reach_117 (by decide) ?_
            exact ih21 x2 x12 0 _ H locs ls hf hW (lv_sub hl [1, 2, 3, 0] rfl) hK21
          · skip
            refine lv_iconst (v := 1) hx hb dX8_reach_110 (by decide) ?_
            refine lv_goto (tgt := 115) hx hb dX8_reach_111 (by decide) ?_
            refine lv_istore (lv' := [(4, .int 1), (0, .ref (adr w1)), (2, .int x2), (3, .int x12), (5, .int x3)]) hx hb dX8_reach_115 hl (by decide) rfl (fun ls hl => ?_)
            refine lv_goto (tgt := 21) hx hb dX8_reach_117 (by decide) ?_
            exact ih21 x2 x12 1 _ H locs ls hf hW (lv_sub hl [1, 2, 3, 0] rfl) hK21
    refine hL21 zFU p3 v2 1 _ H locs ls hf hW (lv_sub hl [2, 3, 1, 0] rfl) (fun x13 H locs ls hf hW hl => ?_)
    refine lv_iload_n hx hb dX8_reach_120 rfl (lv_at hl 0 rfl) ?_
    exact zr_i hx hb hr hlk hW (Option.some.inj hf) rfl dX8_reach_121
  refine zi_icmp_ge (tgt := 16) hx hb dX8_reach_3 (by decide) hf (fun hc hf => ?_) (fun hc hf => ?_)
  · skip
    refine lv_iload_n hx hb dX8_reach_16 rfl (lv_at hl 1 rfl) ?_
    exact hJ1 p2 H locs ls hf hW (lv_sub hl [0, 2] rfl)
  · skip
    refine lv_iload_n hx hb dX8_reach_6 rfl (lv_at hl 1 rfl) ?_
    refine lv_iconst (v := 1) hx hb dX8_reach_7 (by decide) ?_
    refine lv_iload_n hx hb dX8_reach_8 rfl (lv_at hl 2 rfl) ?_
    refine lv_ishl hx hb dX8_reach_9 ?_
    refine lv_iconst (v := (-1)) hx hb dX8_reach_10 (by decide) ?_
    refine lv_ixor hx hb dX8_reach_11 ?_
    refine lv_iand hx hb dX8_reach_12 ?_
    refine lv_goto (tgt := 17) hx hb dX8_reach_13 (by decide) ?_
    exact hJ1 (p2 &&& ((1 <<< (p3 &&& 31)) ^^^ (-1))) H locs ls hf hW (lv_sub hl [0, 2] rfl)
set_option maxHeartbeats 4000000 in
set_option maxRecDepth 100000 in
theorem mX8_rooted {l : Launch} {D : va_G} {cI cJ : ClassId} {adr : Nat → Nat} {w1 : Nat} (k1 : zM w1) (s0 : zkS) {z : Nat} {ro : Int32} (hI : zInj 1 adr) (hf : fX8_rooted w1 s0 = some ro) : Met l yX8_rooted (Cond.code yX8_rooted cX8_rooted 3 (some .int) :: zTb) { frames := 0, cells := 0, slots := 0, locals := 0 } (zPre 1 D cI cJ adr s0 z [.ref (adr w1)]) (zQi 1 D cI cJ adr z ro s0) 0 0 (zA 1 adr z) := by
  refine zen (cc := cX8_rooted) (own := RX8) (by decide +kernel) rfl hI (Nat.le_of_ble_eq_true rfl) (fun p e s m args below meth c ls hC hr hlk hz hl hW => ?_)
  subst hz
  obtain ⟨hx, hb, -⟩ := id hC
  have hl : lv_has ls 3 [(0, .ref (adr w1))] := hl
  refine zst hW (fun H locs hW => ?_)
  unfold fX8_rooted at hf
  refine lv_iconst (v := 0) hx hb dX8_rooted_0 (by decide) ?_
  refine lv_istore_n (lv' := [(1, .int 0), (0, .ref (adr w1))]) hx hb dX8_rooted_1 rfl hl (by decide) rfl (fun ls hl => ?_)
  refine lv_iconst (v := 0) hx hb dX8_rooted_2 (by decide) ?_
  refine lv_istore_n (lv' := [(2, .int 0), (1, .int 0), (0, .ref (adr w1))]) hx hb dX8_rooted_3 rfl hl (by decide) rfl (fun ls hl => ?_)
  have hL4 : ∀ (n : Nat) (x1 : Int32) (x2 : Int32) (K4 : Int32 → Option (Int32)) (H : Heap) (locs : List Loc) (ls : Array Slot), fX8_rooted_L4 n w1 s0 x1 x2 K4 = some ro → zWo 1 D cI cJ adr s s0 H locs → lv_has ls 3 [(0, .ref (adr w1)), (1, .int x1), (2, .int x2)] → (∀ (x1 : Int32) (H : Heap) (locs : List Loc) (ls : Array Slot), K4 x1 = some ro → zWo 1 D cI cJ adr s s0 H locs → lv_has ls 3 [(1, .int x1)] → W p l e { frames := 0, cells := 0, slots := 0, locals := 0 } s m args below meth c H locs 0 0 (MQ below (zQi 1 D cI cJ adr s.heap.size ro s0) args s 0 0 (zA 1 adr s.heap.size)) (F0 m 39 ls [])) → W p l e { frames := 0, cells := 0, slots := 0, locals := 0 } s m args below meth c H locs 0 0 (MQ below (zQi 1 D cI cJ adr s.heap.size ro s0) args s 0 0 (zA 1 adr s.heap.size)) (F0 m 4 ls []) := by
    intro n
    induction n with
    | zero =>
      intro x1 x2 K4 H locs ls hf hW hl hK4
      rw [fX8_rooted_L4] at hf
      cases hf
    | succ n ih4 =>
      intro x1 x2 K4 H locs ls hf hW hl hK4
      rw [fX8_rooted_L4] at hf
      refine lv_iload_n hx hb dX8_rooted_4 rfl (lv_at hl 2 rfl) ?_
      refine lv_iconst (v := 4) hx hb dX8_rooted_5 (by decide) ?_
      refine zi_icmp_ge (tgt := 39) hx hb dX8_rooted_6 (by decide) hf (fun hc hf => ?_) (fun hc hf => ?_)
      · skip
        exact hK4 x1 H locs ls hf hW (lv_sub hl [1] rfl)
      · skip
        refine lv_iload_n hx hb dX8_rooted_9 rfl (lv_at hl 1 rfl) ?_
        refine lv_aload_n hx hb dX8_rooted_10 rfl (lv_at hl 0 rfl) ?_
        refine lv_bipush (v := 16) hx hb dX8_rooted_11 (by decide) ?_
        refine lv_iload_n hx hb dX8_rooted_13 rfl (lv_at hl 2 rfl) ?_
        refine lv_iadd hx hb dX8_rooted_14 ?_
        refine za_l hC hW hf (zM_a k1) dX8_rooted_15 (fun v1 hf => ?_)
        refine zi_if_lt (tgt := 30) hx hb dX8_rooted_16 (by decide) hf (fun hc hf => ?_) (fun hc hf => ?_)
        · skip
          refine lv_iconst (v := 0) hx hb dX8_rooted_30 (by decide) ?_
          refine lv_ior hx hb dX8_rooted_31 ?_
          refine zn_i hf (fun v2 hf => ?_)
          refine lv_istore_n (lv' := [(1, .int v2), (0, .ref (adr w1)), (2, .int x2)]) hx hb dX8_rooted_32 rfl hl (by decide) rfl (fun ls hl => ?_)
          refine zi_inc (v := (x2 + 1)) (lv' := fun v3 => [(2, .int v3), (1, .int v2), (0, .ref (adr w1))]) hx hb dX8_rooted_33 hl (k := 2) rfl rfl (by decide) (fun _ => rfl) hf (fun v3 ls hf hl => ?_)
          refine lv_goto (tgt := 4) hx hb dX8_rooted_36 (by decide) ?_
          exact ih4 v2 v3 _ H locs ls hf hW (lv_sub hl [2, 1, 0] rfl) hK4
        · skip
          refine lv_iconst (v := 1) hx hb dX8_rooted_19 (by decide) ?_
          refine lv_aload_n hx hb dX8_rooted_20 rfl (lv_at hl 0 rfl) ?_
          refine lv_bipush (v := 16) hx hb dX8_rooted_21 (by decide) ?_
          refine lv_iload_n hx hb dX8_rooted_23 rfl (lv_at hl 2 rfl) ?_
          refine lv_iadd hx hb dX8_rooted_24 ?_
          refine za_l hC hW hf (zM_a k1) dX8_rooted_25 (fun v4 hf => ?_)
          refine lv_ishl hx hb dX8_rooted_26 ?_
          refine lv_goto (tgt := 31) hx hb dX8_rooted_27 (by decide) ?_
          refine lv_ior hx hb dX8_rooted_31 ?_
          refine zn_i hf (fun v5 hf => ?_)
          refine lv_istore_n (lv' := [(1, .int v5), (0, .ref (adr w1)), (2, .int x2)]) hx hb dX8_rooted_32 rfl hl (by decide) rfl (fun ls hl => ?_)
          refine zi_inc (v := (x2 + 1)) (lv' := fun v6 => [(2, .int v6), (1, .int v5), (0, .ref (adr w1))]) hx hb dX8_rooted_33 hl (k := 2) rfl rfl (by decide) (fun _ => rfl) hf (fun v6 ls hf hl => ?_)
          refine lv_goto (tgt := 4) hx hb dX8_rooted_36 (by decide) ?_
          exact ih4 v5 v6 _ H locs ls hf hW (lv_sub hl [2, 1, 0] rfl) hK4
  refine hL4 zFU 0 0 _ H locs ls hf hW (lv_sub hl [2, 1, 0] rfl) (fun x7 H locs ls hf hW hl => ?_)
  refine lv_iload_n hx hb dX8_rooted_39 rfl (lv_at hl 0 rfl) ?_
  exact zr_i hx hb hr hlk hW (Option.some.inj hf) rfl dX8_rooted_40
set_option maxHeartbeats 4000000 in
set_option maxRecDepth 100000 in
theorem mX8_reached {l : Launch} {D : va_G} {cI cJ : ClassId} {adr : Nat → Nat} {w1 : Nat} (k1 : zM w1) (s0 : zkS) {z : Nat} {ro : Int32} (hI : zInj 1 adr) (hf : fX8_reached w1 s0 = some ro) : Met l yX8_reached (Cond.code yX8_reached cX8_reached 1 (some .int) :: zTb) { frames := 3, cells := 0, slots := 0, locals := 73 } (zPre 1 D cI cJ adr s0 z [.ref (adr w1)]) (zQi 1 D cI cJ adr z ro s0) 0 0 (zA 1 adr z) := by
  refine zen (cc := cX8_reached) (own := RX8) (by decide +kernel) rfl hI (Nat.le_of_ble_eq_true rfl) (fun p e s m args below meth c ls hC hr hlk hz hl hW => ?_)
  subst hz
  obtain ⟨hx, hb, -⟩ := id hC
  have hl : lv_has ls 1 [(0, .ref (adr w1))] := hl
  refine zst hW (fun H locs hW => ?_)
  unfold fX8_reached at hf
  refine lv_aload_n hx hb dX8_reached_0 rfl (lv_at hl 0 rfl) ?_
  refine lv_aload_n hx hb dX8_reached_1 rfl (lv_at hl 0 rfl) ?_
  obtain ⟨v1, hq, hf⟩ := zb1_o hf
  refine zc_i hW (zrun_s (As := [.ref (adr w1)]) (rest := [.ref (adr w1)]) hC hW (mX8_rooted k1 s0 hC.2.2.2.2.2.2.2 hq) cs_X8_89 rfl ⟨⟨rfl, rfl⟩, Nat.le_of_ble_eq_true rfl, Nat.le_of_ble_eq_true rfl⟩ (zlv_size hl) rfl (Nat.le_of_ble_eq_true rfl) dX8_reached_2 ⟨Nat.le_refl _, Nat.le_refl _⟩) (fun H locs hW => ?_)
  refine lv_bipush (v := 24) hx hb dX8_reached_5 (by decide) ?_
  obtain ⟨v2, hq, hf⟩ := zb1_o hf
  refine zc_i hW (zrun_s (As := [.ref (adr w1), .int v1, .int 24]) (rest := []) hC hW (mX8_reach k1 v1 24 s0 hC.2.2.2.2.2.2.2 hq) cs_X8_93 rfl ⟨⟨rfl, rfl⟩, Nat.le_of_ble_eq_true rfl, Nat.le_of_ble_eq_true rfl⟩ (zlv_size hl) rfl (Nat.le_of_ble_eq_true rfl) dX8_reached_7 ⟨Nat.le_refl _, Nat.le_refl _⟩) (fun H locs hW => ?_)
  exact zr_i hx hb hr hlk hW (Option.some.inj hf) rfl dX8_reached_10
set_option maxHeartbeats 4000000 in
set_option maxRecDepth 100000 in
theorem mX8_far {l : Launch} {D : va_G} {cI cJ : ClassId} {adr : Nat → Nat} {w1 : Nat} (k1 : zM w1) (p2 : Int32) (s0 : zkS) {z : Nat} {ro : Int32} (hI : zInj 1 adr) (hf : fX8_far w1 p2 s0 = some ro) : Met l yX8_far (Cond.code yX8_far cX8_far 8 (some .int) :: zTb) { frames := 2, cells := 0, slots := 0, locals := 45 } (zPre 1 D cI cJ adr s0 z [.ref (adr w1), .int p2]) (zQi 1 D cI cJ adr z ro s0) 0 0 (zA 1 adr z) := by
  refine zen (cc := cX8_far) (own := RX8) (by decide +kernel) rfl hI (Nat.le_of_ble_eq_true rfl) (fun p e s m args below meth c ls hC hr hlk hz hl hW => ?_)
  subst hz
  obtain ⟨hx, hb, -⟩ := id hC
  have hl : lv_has ls 8 [(0, .ref (adr w1)), (1, .int p2)] := hl
  refine zst hW (fun H locs hW => ?_)
  unfold fX8_far at hf
  refine lv_aload_n hx hb dX8_far_0 rfl (lv_at hl 0 rfl) ?_
  obtain ⟨v1, hq, hf⟩ := zb1_o hf
  refine zc_i hW (zrun_s (As := [.ref (adr w1)]) (rest := []) hC hW (mX8_rooted k1 s0 hC.2.2.2.2.2.2.2 hq) cs_X8_89 rfl ⟨⟨rfl, rfl⟩, Nat.le_of_ble_eq_true rfl, Nat.le_of_ble_eq_true rfl⟩ (zlv_size hl) rfl (Nat.le_of_ble_eq_true rfl) dX8_far_1 ⟨Nat.le_refl _, Nat.le_refl _⟩) (fun H locs hW => ?_)
  refine lv_istore_n (lv' := [(2, .int v1), (0, .ref (adr w1)), (1, .int p2)]) hx hb dX8_far_4 rfl hl (by decide) rfl (fun ls hl => ?_)
  refine lv_iconst (v := 0) hx hb dX8_far_5 (by decide) ?_
  refine lv_istore_n (lv' := [(3, .int 0), (2, .int v1), (0, .ref (adr w1)), (1, .int p2)]) hx hb dX8_far_6 rfl hl (by decide) rfl (fun ls hl => ?_)
  have hL7 : ∀ (n : Nat) (x1 : Int32) (x2 : Int32) (x3 : Int32) (K7 : Unit → Option (Int32)) (H : Heap) (locs : List Loc) (ls : Array Slot), fX8_far_L7 n w1 s0 x1 x2 x3 K7 = some ro → zWo 1 D cI cJ adr s s0 H locs → lv_has ls 8 [(0, .ref (adr w1)), (1, .int x1), (2, .int x2), (3, .int x3)] → (∀  (H : Heap) (locs : List Loc) (ls : Array Slot), K7 () = some ro → zWo 1 D cI cJ adr s s0 H locs → lv_has ls 8 [] → W p l e { frames := 2, cells := 0, slots := 0, locals := 45 } s m args below meth c H locs 0 0 (MQ below (zQi 1 D cI cJ adr s.heap.size ro s0) args s 0 0 (zA 1 adr s.heap.size)) (F0 m 105 ls [])) → W p l e { frames := 2, cells := 0, slots := 0, locals := 45 } s m args below meth c H locs 0 0 (MQ below (zQi 1 D cI cJ adr s.heap.size ro s0) args s 0 0 (zA 1 adr s.heap.size)) (F0 m 7 ls []) := by
    intro n
    induction n with
    | zero =>
      intro x1 x2 x3 K7 H locs ls hf hW hl hK7
      rw [fX8_far_L7] at hf
      cases hf
    | succ n ih7 =>
      intro x1 x2 x3 K7 H locs ls hf hW hl hK7
      rw [fX8_far_L7] at hf
      refine lv_iload_n hx hb dX8_far_7 rfl (lv_at hl 3 rfl) ?_
      refine lv_bipush (v := 25) hx hb dX8_far_8 (by decide) ?_
      refine zi_icmp_ge (tgt := 105) hx hb dX8_far_10 (by decide) hf (fun hc hf => ?_) (fun hc hf => ?_)
      · skip
        exact hK7  H locs ls hf hW (lv_sub hl [] rfl)
      · skip
        refine lv_iload_n hx hb dX8_far_13 rfl (lv_at hl 2 rfl) ?_
        refine lv_iload_n hx hb dX8_far_14 rfl (lv_at hl 1 rfl) ?_
        refine zc_i hW (zrun_s (As := [.int x2, .int x1]) (rest := []) hC hW (mX8_bit x2 x1 s0 hC.2.2.2.2.2.2.2 rfl) cs_X8_61 rfl ⟨⟨rfl, rfl⟩, Nat.le_of_ble_eq_true rfl, Nat.le_of_ble_eq_true rfl⟩ (zlv_size hl) rfl (Nat.le_of_ble_eq_true rfl) dX8_far_15 ⟨Nat.le_refl _, Nat.le_refl _⟩) (fun H locs hW => ?_)
        refine zi_if_eq (tgt := 23) hx hb dX8_far_18 (by decide) hf (fun hc hf => ?_) (fun hc hf => ?_)
        · skip
          refine lv_iload_n hx hb dX8_far_23 rfl (lv_at hl 2 rfl) ?_
          refine lv_istore (lv' := [(4, .int x2), (0, .ref (adr w1)), (1, .int x1), (2, .int x2), (3, .int x3)]) hx hb dX8_far_24 hl (by decide) rfl (fun ls hl => ?_)
          refine lv_iconst (v := 0) hx hb dX8_far_26 (by decide) ?_
          refine lv_istore (lv' := [(5, .int 0), (4, .int x2), (0, .ref (adr w1)), (1, .int x1), (2, .int x2), (3, .int x3)]) hx hb dX8_far_27 hl (by decide) rfl (fun ls hl => ?_)
          have hL29 : ∀ (n : Nat) (x4 : Int32) (x2 : Int32) (x5 : Int32) (K29 : Int32 → Option (Int32)) (H : Heap) (locs : List Loc) (ls : Array Slot), fX8_far_L29 n w1 s0 x4 x2 x5 K29 = some ro → zWo 1 D cI cJ adr s s0 H locs → lv_has ls 8 [(0, .ref (adr w1)), (1, .int x1), (2, .int x2), (3, .int x3), (4, .int x4), (5, .int x5)] → (∀ (x2 : Int32) (H : Heap) (locs : List Loc) (ls : Array Slot), K29 x2 = some ro → zWo 1 D cI cJ adr s s0 H locs → lv_has ls 8 [(0, .ref (adr w1)), (1, .int x1), (2, .int x2), (3, .int x3)] → W p l e { frames := 2, cells := 0, slots := 0, locals := 45 } s m args below meth c H locs 0 0 (MQ below (zQi 1 D cI cJ adr s.heap.size ro s0) args s 0 0 (zA 1 adr s.heap.size)) (F0 m 99 ls [])) → W p l e { frames := 2, cells := 0, slots := 0, locals := 45 } s m args below meth c H locs 0 0 (MQ below (zQi 1 D cI cJ adr s.heap.size ro s0) args s 0 0 (zA 1 adr s.heap.size)) (F0 m 29 ls []) := by
            intro n
            induction n with
            | zero =>
              intro x4 x2 x5 K29 H locs ls hf hW hl hK29
              rw [fX8_far_L29] at hf
              cases hf
            | succ n ih29 =>
              intro x4 x2 x5 K29 H locs ls hf hW hl hK29
              rw [fX8_far_L29] at hf
              refine lv_iload hx hb dX8_far_29 (lv_at hl 5 rfl) ?_
              refine lv_bipush (v := 24) hx hb dX8_far_31 (by decide) ?_
              refine zi_icmp_ge (tgt := 99) hx hb dX8_far_33 (by decide) hf (fun hc hf => ?_) (fun hc hf => ?_)
              · skip
                exact hK29 x2 H locs ls hf hW (lv_sub hl [0, 1, 2, 3] rfl)
              · skip
                refine lv_iconst (v := 0) hx hb dX8_far_36 (by decide) ?_
                refine lv_istore (lv' := [(6, .int 0), (0, .ref (adr w1)), (1, .int x1), (2, .int x2), (3, .int x3), (4, .int x4), (5, .int x5)]) hx hb dX8_far_37 hl (by decide) rfl (fun ls hl => ?_)
                have hL39 : ∀ (n : Nat) (x4 : Int32) (x5 : Int32) (x2 : Int32) (x6 : Int32) (K39 : Int32 → Option (Int32)) (H : Heap) (locs : List Loc) (ls : Array Slot), fX8_far_L39 n w1 s0 x4 x5 x2 x6 K39 = some ro → zWo 1 D cI cJ adr s s0 H locs → lv_has ls 8 [(0, .ref (adr w1)), (1, .int x1), (2, .int x2), (3, .int x3), (4, .int x4), (5, .int x5), (6, .int x6)] → (∀ (x2 : Int32) (H : Heap) (locs : List Loc) (ls : Array Slot), K39 x2 = some ro → zWo 1 D cI cJ adr s s0 H locs → lv_has ls 8 [(0, .ref (adr w1)), (1, .int x1), (2, .int x2), (3, .int x3), (4, .int x4), (5, .int x5)] → W p l e { frames := 2, cells := 0, slots := 0, locals := 45 } s m args below meth c H locs 0 0 (MQ below (zQi 1 D cI cJ adr s.heap.size ro s0) args s 0 0 (zA 1 adr s.heap.size)) (F0 m 93 ls [])) → W p l e { frames := 2, cells := 0, slots := 0, locals := 45 } s m args below meth c H locs 0 0 (MQ below (zQi 1 D cI cJ adr s.heap.size ro s0) args s 0 0 (zA 1 adr s.heap.size)) (F0 m 39 ls []) := by
                  intro n
                  induction n with
                  | zero =>
                    intro x4 x5 x2 x6 K39 H locs ls hf hW hl hK39
                    rw [fX8_far_L39] at hf
                    cases hf
                  | succ n ih39 =>
                    intro x4 x5 x2 x6 K39 H locs ls hf hW hl hK39
                    rw [fX8_far_L39] at hf
                    refine lv_iload hx hb dX8_far_39 (lv_at hl 4 rfl) ?_
                    refine lv_iload hx hb dX8_far_41 (lv_at hl 5 rfl) ?_
                    refine zc_i hW (zrun_s (As := [.int x4, .int x5]) (rest := []) hC hW (mX8_bit x4 x5 s0 hC.2.2.2.2.2.2.2 rfl) cs_X8_61 rfl ⟨⟨rfl, rfl⟩, Nat.le_of_ble_eq_true rfl, Nat.le_of_ble_eq_true rfl⟩ (zlv_size hl) rfl (Nat.le_of_ble_eq_true rfl) dX8_far_43 ⟨Nat.le_refl _, Nat.le_refl _⟩) (fun H locs hW => ?_)
                    refine zi_if_eq (tgt := 93) hx hb dX8_far_46 (by decide) hf (fun hc hf => ?_) (fun hc hf => ?_)
                    · skip
                      exact hK39 x2 H locs ls hf hW (lv_sub hl [0, 1, 2, 3, 4, 5] rfl)
                    · skip
                      refine lv_iload hx hb dX8_far_49 (lv_at hl 6 rfl) ?_
                      refine lv_aload_n hx hb dX8_far_51 rfl (lv_at hl 0 rfl) ?_
                      refine lv_bipush (v := 68) hx hb dX8_far_52 (by decide) ?_
                      refine lv_iload hx hb dX8_far_54 (lv_at hl 5 rfl) ?_
                      refine lv_iadd hx hb dX8_far_56 ?_
                      refine za_l hC hW hf (zM_a k1) dX8_far_57 (fun v4 hf => ?_)
                      refine zi_icmp_ge (tgt := 93) hx hb dX8_far_58 (by decide) hf (fun hc hf => ?_) (fun hc hf => ?_)
                      · skip
                        exact hK39 x2 H locs ls hf hW (lv_sub hl [0, 1, 2, 3, 4, 5] rfl)
                      · skip
                        refine lv_aload_n hx hb dX8_far_61 rfl (lv_at hl 0 rfl) ?_
                        refine lv_iload hx hb dX8_far_62 (lv_at hl 5 rfl) ?_
                        refine lv_iload hx hb dX8_far_64 (lv_at hl 6 rfl) ?_
                        obtain ⟨v5, hq, hf⟩ := zb1_o hf
                        refine zc_i hW (zrun_s (As := [.ref (adr w1), .int x5, .int x6]) (rest := []) hC hW (mX8_leads k1 x5 x6 s0 hC.2.2.2.2.2.2.2 hq) cs_X8_85 rfl ⟨⟨rfl, rfl⟩, Nat.le_of_ble_eq_true rfl, Nat.le_of_ble_eq_true rfl⟩ (zlv_size hl) rfl (Nat.le_of_ble_eq_true rfl) dX8_far_66 ⟨Nat.le_refl _, Nat.le_refl _⟩) (fun H locs hW => ?_)
                        refine lv_istore (lv' := [(7, .int v5), (0, .ref (adr w1)), (1, .int x1), (2, .int x2), (3, .int x3), (4, .int x4), (5, .int x5), (6, .int x6)]) hx hb dX8_far_69 hl (by decide) rfl (fun ls hl => ?_)
                        refine lv_iload_n hx hb dX8_far_71 rfl (lv_at hl 3 rfl) ?_
                        refine lv_iload hx hb dX8_far_72 (lv_at hl 0 rfl) ?_
                        refine zi_if_lt (tgt := 84) hx hb dX8_far_74 (by decide) hf (fun hc hf => ?_) (fun hc hf => ?_)
                        · skip
                          refine lv_iconst (v := 0) hx hb dX8_far_84 (by decide) ?_
                          refine lv_ior hx hb dX8_far_85 ?_
                          refine zn_i hf (fun v6 hf => ?_)
                          refine lv_istore_n (lv' := [(2, .int v6), (7, .int v5), (0, .ref (adr w1)), (1, .int x1), (3, .int x3), (4, .int x4), (5, .int x5), (6, .int x6)]) hx hb dX8_far_86 rfl hl (by decide) rfl (fun ls hl => ?_)
                          refine zi_inc (v := (x6 + 1)) (lv' := fun v7 => [(6, .int v7), (2, .int v6), (7, .int v5), (0, .ref (adr w1)), (1, .int x1), (3, .int x3), (4, .int x4), (5, .int x5)]) hx hb dX8_far_87 hl (k := 7) rfl rfl (by decide) (fun _ => rfl) hf (fun v7 ls hf hl => ?_)
                          refine lv_goto (tgt := 39) hx hb dX8_far_90 (by decide) ?_
                          exact ih39 x4 x5 v6 v7 _ H locs ls hf hW (lv_sub hl [3, 4, 1, 5, 6, 7, 0] rfl) hK39
                        · skip
                          refine lv_iconst (v := 1) hx hb dX8_far_77 (by decide) ?_
                          refine lv_iload hx hb dX8_far_78 (lv_at hl 0 rfl) ?_
                          refine lv_ishl hx hb dX8_far_80 ?_
                          refine lv_goto (tgt := 85) hx hb dX8_far_81 (by decide) ?_
                          refine lv_ior hx hb dX8_far_85 ?_
                          refine zn_i hf (fun v8 hf => ?_)
                          refine lv_istore_n (lv' := [(2, .int v8), (7, .int v5), (0, .ref (adr w1)), (1, .int x1), (3, .int x3), (4, .int x4), (5, .int x5), (6, .int x6)]) hx hb dX8_far_86 rfl hl (by decide) rfl (fun ls hl => ?_)
                          refine zi_inc (v := (x6 + 1)) (lv' := fun v9 => [(6, .int v9), (2, .int v8), (7, .int v5), (0, .ref (adr w1)), (1, .int x1), (3, .int x3), (4, .int x4), (5, .int x5)]) hx hb dX8_far_87 hl (k := 7) rfl rfl (by decide) (fun _ => rfl) hf (fun v9 ls hf hl => ?_)
                          refine lv_goto (tgt := 39) hx hb dX8_far_90 (by decide) ?_
                          exact ih39 x4 x5 v8 v9 _ H locs ls hf hW (lv_sub hl [3, 4, 1, 5, 6, 7, 0] rfl) hK39
                refine hL39 zFU x4 x5 x2 0 _ H locs ls hf hW (lv_sub hl [1, 2, 3, 4, 5, 6, 0] rfl) (fun x10 H locs ls hf hW hl => ?_)
                refine zi_inc (v := (x5 + 1)) (lv' := fun v11 => [(5, .int v11), (0, .ref (adr w1)), (1, .int x1), (2, .int x10), (3, .int x3), (4, .int x4)]) hx hb dX8_far_93 hl (k := 5) rfl rfl (by decide) (fun _ => rfl) hf (fun v11 ls hf hl => ?_)
                refine lv_goto (tgt := 29) hx hb dX8_far_96 (by decide) ?_
                exact ih29 x4 x10 v11 _ H locs ls hf hW (lv_sub hl [1, 2, 3, 4, 5, 0] rfl) hK29
          refine hL29 zFU x2 x2 0 _ H locs ls hf hW (lv_sub hl [2, 3, 4, 5, 1, 0] rfl) (fun x12 H locs ls hf hW hl => ?_)
          refine zi_inc (v := (x3 + 1)) (lv' := fun v13 => [(3, .int v13), (0, .ref (adr w1)), (1, .int x1), (2, .int x12)]) hx hb dX8_far_99 hl (k := 3) rfl rfl (by decide) (fun _ => rfl) hf (fun v13 ls hf hl => ?_)
          refine lv_goto (tgt := 7) hx hb dX8_far_102 (by decide) ?_
          exact ih7 x1 x12 v13 _ H locs ls hf hW (lv_sub hl [1, 2, 3, 0] rfl) hK7
        · skip
          refine lv_iload_n hx hb dX8_far_21 rfl (lv_at hl 3 rfl) ?_
          exact zr_i hx hb hr hlk hW (Option.some.inj hf) rfl dX8_far_22
  refine hL7 zFU p2 v1 0 _ H locs ls hf hW (lv_sub hl [2, 3, 1, 0] rfl) (fun  H locs ls hf hW hl => ?_)
  refine lv_bipush (v := (-5)) hx hb dX8_far_105 (by decide) ?_
  exact zr_i hx hb hr hlk hW (Option.some.inj hf) rfl dX8_far_107
set_option maxHeartbeats 4000000 in
set_option maxRecDepth 100000 in
theorem mX8_holders {l : Launch} {D : va_G} {cI cJ : ClassId} {adr : Nat → Nat} (p1 : Int32) (s0 : zkS) {z : Nat} {ro : Int32} (hI : zInj 1 adr) (hf : fX8_holders p1 s0 = some ro) : Met l yX8_holders (Cond.code yX8_holders cX8_holders 5 (some .int) :: zTb) { frames := 3, cells := 0, slots := 0, locals := 68 } (zPre 1 D cI cJ adr s0 z [.ref (adr 0), .int p1]) (zQi 1 D cI cJ adr z ro s0) 0 0 (zA 1 adr z) := by
  refine zen (cc := cX8_holders) (own := RX8) (by decide +kernel) rfl hI (Nat.le_of_ble_eq_true rfl) (fun p e s m args below meth c ls hC hr hlk hz hl hW => ?_)
  subst hz
  obtain ⟨hx, hb, -⟩ := id hC
  have hl : lv_has ls 5 [(0, .ref (adr 0)), (1, .int p1)] := hl
  refine zst hW (fun H locs hW => ?_)
  unfold fX8_holders at hf
  refine lv_iconst (v := 0) hx hb dX8_holders_0 (by decide) ?_
  refine lv_istore_n (lv' := [(2, .int 0), (0, .ref (adr 0)), (1, .int p1)]) hx hb dX8_holders_1 rfl hl (by decide) rfl (fun ls hl => ?_)
  refine lv_iconst (v := 0) hx hb dX8_holders_2 (by decide) ?_
  refine lv_istore_n (lv' := [(3, .int 0), (2, .int 0), (0, .ref (adr 0)), (1, .int p1)]) hx hb dX8_holders_3 rfl hl (by decide) rfl (fun ls hl => ?_)
  have hL4 : ∀ (n : Nat) (x1 : Int32) (x2 : Int32) (x3 : Int32) (K4 : Int32 → Option (Int32)) (H : Heap) (locs : List Loc) (ls : Array Slot), fX8_holders_L4 n s0 x1 x2 x3 K4 = some ro → zWo 1 D cI cJ adr s s0 H locs → lv_has ls 5 [(0, .ref (adr 0)), (1, .int x1), (2, .int x2), (3, .int x3)] → (∀ (x2 : Int32) (H : Heap) (locs : List Loc) (ls : Array Slot), K4 x2 = some ro → zWo 1 D cI cJ adr s s0 H locs → lv_has ls 5 [(2, .int x2)] → W p l e { frames := 3, cells := 0, slots := 0, locals := 68 } s m args below meth c H locs 0 0 (MQ below (zQi 1 D cI cJ adr s.heap.size ro s0) args s 0 0 (zA 1 adr s.heap.size)) (F0 m 63 ls [])) → W p l e { frames := 3, cells := 0, slots := 0, locals := 68 } s m args below meth c H locs 0 0 (MQ below (zQi 1 D cI cJ adr s.heap.size ro s0) args s 0 0 (zA 1 adr s.heap.size)) (F0 m 4 ls []) := by
    intro n
    induction n with
    | zero =>
      intro x1 x2 x3 K4 H locs ls hf hW hl hK4
      rw [fX8_holders_L4] at hf
      cases hf
    | succ n ih4 =>
      intro x1 x2 x3 K4 H locs ls hf hW hl hK4
      rw [fX8_holders_L4] at hf
      refine lv_iload_n hx hb dX8_holders_4 rfl (lv_at hl 3 rfl) ?_
      refine lv_bipush (v := 24) hx hb dX8_holders_5 (by decide) ?_
      refine zi_icmp_ge (tgt := 63) hx hb dX8_holders_7 (by decide) hf (fun hc hf => ?_) (fun hc hf => ?_)
      · skip
        exact hK4 x2 H locs ls hf hW (lv_sub hl [2] rfl)
      · skip
        refine lv_iconst (v := 0) hx hb dX8_holders_10 (by decide) ?_
        refine lv_istore (lv' := [(4, .int 0), (0, .ref (adr 0)), (1, .int x1), (2, .int x2), (3, .int x3)]) hx hb dX8_holders_11 hl (by decide) rfl (fun ls hl => ?_)
        have hL13 : ∀ (n : Nat) (x1 : Int32) (x3 : Int32) (x2 : Int32) (x4 : Int32) (K13 : Int32 → Option (Int32)) (H : Heap) (locs : List Loc) (ls : Array Slot), fX8_holders_L13 n s0 x1 x3 x2 x4 K13 = some ro → zWo 1 D cI cJ adr s s0 H locs → lv_has ls 5 [(0, .ref (adr 0)), (1, .int x1), (2, .int x2), (3, .int x3), (4, .int x4)] → (∀ (x2 : Int32) (H : Heap) (locs : List Loc) (ls : Array Slot), K13 x2 = some ro → zWo 1 D cI cJ adr s s0 H locs → lv_has ls 5 [(0, .ref (adr 0)), (1, .int x1), (2, .int x2), (3, .int x3)] → W p l e { frames := 3, cells := 0, slots := 0, locals := 68 } s m args below meth c H locs 0 0 (MQ below (zQi 1 D cI cJ adr s.heap.size ro s0) args s 0 0 (zA 1 adr s.heap.size)) (F0 m 57 ls [])) → W p l e { frames := 3, cells := 0, slots := 0, locals := 68 } s m args below meth c H locs 0 0 (MQ below (zQi 1 D cI cJ adr s.heap.size ro s0) args s 0 0 (zA 1 adr s.heap.size)) (F0 m 13 ls []) := by
          intro n
          induction n with
          | zero =>
            intro x1 x3 x2 x4 K13 H locs ls hf hW hl hK13
            rw [fX8_holders_L13] at hf
            cases hf
          | succ n ih13 =>
            intro x1 x3 x2 x4 K13 H locs ls hf hW hl hK13
            rw [fX8_holders_L13] at hf
            refine lv_aload_n hx hb dX8_holders_13 rfl (lv_at hl 0 rfl) ?_
            refine lv_iload_n hx hb dX8_holders_14 rfl (lv_at hl 3 rfl) ?_
            refine lv_iload hx hb dX8_holders_15 (lv_at hl 4 rfl) ?_
            obtain ⟨v1, hq, hf⟩ := zb1_o hf
            refine zc_i hW (zrun_v (As := [.int x3, .int x4]) (rest := []) hC hW (mX8_isField x3 x4 s0 hC.2.2.2.2.2.2.2 hq) cv_X8_96 zck_1_0 zcs_1_0 rfl ⟨⟨rfl, rfl⟩, Nat.le_of_ble_eq_true rfl, Nat.le_of_ble_eq_true rfl⟩ (zlv_size hl) rfl (Nat.le_of_ble_eq_true rfl) dX8_holders_17 ⟨Nat.le_refl _, Nat.le_refl _⟩) (fun H locs hW => ?_)
            refine zi_if_eq (tgt := 57) hx hb dX8_holders_20 (by decide) hf (fun hc hf => ?_) (fun hc hf => ?_)
            · skip
              exact hK13 x2 H locs ls hf hW (lv_sub hl [0, 1, 2, 3] rfl)
            · skip
              refine lv_iload_n hx hb dX8_holders_23 rfl (lv_at hl 2 rfl) ?_
              refine lv_aload_n hx hb dX8_holders_24 rfl (lv_at hl 0 rfl) ?_
              refine zg_a (o := 0) hC hW fl_X8_11 zck_1_0 zcs_1_0 (show _ = 1 from rfl) dX8_holders_25 ?_
              refine lv_sipush (v := 140) hx hb dX8_holders_28 (by decide) ?_
              refine lv_bipush (v := 6) hx hb dX8_holders_31 (by decide) ?_
              refine lv_iload_n hx hb dX8_holders_33 rfl (lv_at hl 3 rfl) ?_
              refine lv_imul hx hb dX8_holders_34 ?_
              refine lv_iadd hx hb dX8_holders_35 ?_
              refine lv_iload hx hb dX8_holders_36 (lv_at hl 4 rfl) ?_
              refine lv_iadd hx hb dX8_holders_38 ?_
              refine za_l hC hW hf zar_1_1 dX8_holders_39 (fun v2 hf => ?_)
              refine lv_iload_n hx hb dX8_holders_40 rfl (lv_at hl 1 rfl) ?_
              refine zi_icmp_ne (tgt := 48) hx hb dX8_holders_41 (by decide) hf (fun hc hf => ?_) (fun hc hf => ?_)
              · skip
                refine lv_iconst (v := 1) hx hb dX8_holders_44 (by decide) ?_
                refine lv_goto (tgt := 49) hx hb dX8_holders_45 (by decide) ?_
                refine lv_iadd hx hb dX8_holders_49 ?_
                refine zn_i hf (fun v3 hf => ?_)
                refine lv_istore_n (lv' := [(2, .int v3), (0, .ref (adr 0)), (1, .int x1), (3, .int x3), (4, .int x4)]) hx hb dX8_holders_50 rfl hl (by decide) rfl (fun ls hl => ?_)
                refine zi_inc (v := (x4 + 1)) (lv' := fun v4 => [(4, .int v4), (2, .int v3), (0, .ref (adr 0)), (1, .int x1), (3, .int x3)]) hx hb dX8_holders_51 hl (k := 4) rfl rfl (by decide) (fun _ => rfl) hf (fun v4 ls hf hl => ?_)
                refine lv_goto (tgt := 13) hx hb dX8_holders_54 (by decide) ?_
                exact ih13 x1 x3 v3 v4 _ H locs ls hf hW (lv_sub hl [2, 3, 1, 4, 0] rfl) hK13
              · skip
                refine lv_iconst (v := 0) hx hb dX8_holders_48 (by decide) ?_
                refine lv_iadd hx hb dX8_holders_49 ?_
                refine zn_i hf (fun v5 hf => ?_)
                refine lv_istore_n (lv' := [(2, .int v5), (0, .ref (adr 0)), (1, .int x1), (3, .int x3), (4, .int x4)]) hx hb dX8_holders_50 rfl hl (by decide) rfl (fun ls hl => ?_)
                refine zi_inc (v := (x4 + 1)) (lv' := fun v6 => [(4, .int v6), (2, .int v5), (0, .ref (adr 0)), (1, .int x1), (3, .int x3)]) hx hb dX8_holders_51 hl (k := 4) rfl rfl (by decide) (fun _ => rfl) hf (fun v6 ls hf hl => ?_)
                refine lv_goto (tgt := 13) hx hb dX8_holders_54 (by decide) ?_
                exact ih13 x1 x3 v5 v6 _ H locs ls hf hW (lv_sub hl [2, 3, 1, 4, 0] rfl) hK13
        refine hL13 zFU x1 x3 x2 0 _ H locs ls hf hW (lv_sub hl [1, 2, 3, 4, 0] rfl) (fun x7 H locs ls hf hW hl => ?_)
        refine zi_inc (v := (x3 + 1)) (lv' := fun v8 => [(3, .int v8), (0, .ref (adr 0)), (1, .int x1), (2, .int x7)]) hx hb dX8_holders_57 hl (k := 3) rfl rfl (by decide) (fun _ => rfl) hf (fun v8 ls hf hl => ?_)
        refine lv_goto (tgt := 4) hx hb dX8_holders_60 (by decide) ?_
        exact ih4 x1 x7 v8 _ H locs ls hf hW (lv_sub hl [1, 2, 3, 0] rfl) hK4
  refine hL4 zFU p1 0 0 _ H locs ls hf hW (lv_sub hl [2, 3, 1, 0] rfl) (fun x9 H locs ls hf hW hl => ?_)
  refine lv_iload_n hx hb dX8_holders_63 rfl (lv_at hl 0 rfl) ?_
  exact zr_i hx hb hr hlk hW (Option.some.inj hf) rfl dX8_holders_64
set_option maxHeartbeats 4000000 in
set_option maxRecDepth 100000 in
theorem mX8_isReachedCut {l : Launch} {D : va_G} {cI cJ : ClassId} {adr : Nat → Nat} (p1 : Int32) (p2 : Int32) (p3 : Int32) (s0 : zkS) {z : Nat} {ro : Int32} {so : zkS} (hI : zInj 1 adr) (hf : fX8_isReachedCut p1 p2 p3 s0 = some (ro, so)) : Met l yX8_isReachedCut (Cond.code yX8_isReachedCut cX8_isReachedCut 6 (some .boolean) :: zTb) { frames := 4, cells := 0, slots := 0, locals := 93 } (zPre 1 D cI cJ adr s0 z [.ref (adr 0), .int p1, .int p2, .int p3]) (zQi 1 D cI cJ adr z ro so) 0 0 (zA 1 adr z) := by
  refine zen (cc := cX8_isReachedCut) (own := RX8) (by decide +kernel) rfl hI (Nat.le_of_ble_eq_true rfl) (fun p e s m args below meth c ls hC hr hlk hz hl hW => ?_)
  subst hz
  obtain ⟨hx, hb, -⟩ := id hC
  have hl : lv_has ls 6 [(0, .ref (adr 0)), (1, .int p1), (2, .int p2), (3, .int p3)] := hl
  refine zst hW (fun H locs hW => ?_)
  unfold fX8_isReachedCut at hf
  refine lv_aload_n hx hb dX8_isReachedCut_0 rfl (lv_at hl 0 rfl) ?_
  refine zg_a (o := 0) hC hW fl_X8_11 zck_1_0 zcs_1_0 (show _ = 1 from rfl) dX8_isReachedCut_1 ?_
  refine lv_sipush (v := 140) hx hb dX8_isReachedCut_4 (by decide) ?_
  refine lv_bipush (v := 6) hx hb dX8_isReachedCut_7 (by decide) ?_
  refine lv_iload_n hx hb dX8_isReachedCut_9 rfl (lv_at hl 1 rfl) ?_
  refine lv_imul hx hb dX8_isReachedCut_10 ?_
  refine lv_iadd hx hb dX8_isReachedCut_11 ?_
  refine lv_iload_n hx hb dX8_isReachedCut_12 rfl (lv_at hl 2 rfl) ?_
  refine lv_iadd hx hb dX8_isReachedCut_13 ?_
  refine za_l hC hW hf zar_1_1 dX8_isReachedCut_14 (fun v1 hf => ?_)
  refine lv_istore (lv' := [(4, .int v1), (0, .ref (adr 0)), (1, .int p1), (2, .int p2), (3, .int p3)]) hx hb dX8_isReachedCut_15 hl (by decide) rfl (fun ls hl => ?_)
  refine lv_aload_n hx hb dX8_isReachedCut_17 rfl (lv_at hl 1 rfl) ?_
  refine zg_a (o := 0) hC hW fl_X8_11 zck_1_0 zcs_1_0 (show _ = 1 from rfl) dX8_isReachedCut_18 ?_
  refine lv_sipush (v := 140) hx hb dX8_isReachedCut_21 (by decide) ?_
  refine lv_bipush (v := 6) hx hb dX8_isReachedCut_24 (by decide) ?_
  refine lv_iload_n hx hb dX8_isReachedCut_26 rfl (lv_at hl 2 rfl) ?_
  refine lv_imul hx hb dX8_isReachedCut_27 ?_
  refine lv_iadd hx hb dX8_isReachedCut_28 ?_
  refine lv_iload_n hx hb dX8_isReachedCut_29 rfl (lv_at hl 3 rfl) ?_
  refine lv_iadd hx hb dX8_isReachedCut_30 ?_
  refine lv_bipush (v := (-5)) hx hb dX8_isReachedCut_31 (by decide) ?_
  refine za_s hC hW hf zar_1_1 dX8_isReachedCut_33 (fun s2 H locs hf hW => ?_)
  refine lv_aload_n hx hb dX8_isReachedCut_34 rfl (lv_at hl 1 rfl) ?_
  refine zg_a (o := 0) hC hW fl_X8_11 zck_1_0 zcs_1_0 (show _ = 1 from rfl) dX8_isReachedCut_35 ?_
  obtain ⟨v3, hq, hf⟩ := zb1_o hf
  refine zc_i hW (zrun_s (As := [.ref (adr 1)]) (rest := []) hC hW (mX8_reached zMc_1 s2 hC.2.2.2.2.2.2.2 hq) cs_X8_99 rfl ⟨⟨rfl, rfl⟩, Nat.le_of_ble_eq_true rfl, Nat.le_of_ble_eq_true rfl⟩ (zlv_size hl) rfl (Nat.le_of_ble_eq_true rfl) dX8_isReachedCut_38 ⟨Nat.le_refl _, Nat.le_refl _⟩) (fun H locs hW => ?_)
  refine lv_iload_n hx hb dX8_isReachedCut_41 rfl (lv_at hl 4 rfl) ?_
  refine zc_i hW (zrun_s (As := [.int v3, .int p3]) (rest := []) hC hW (mX8_bit v3 p3 s2 hC.2.2.2.2.2.2.2 rfl) cs_X8_61 rfl ⟨⟨rfl, rfl⟩, Nat.le_of_ble_eq_true rfl, Nat.le_of_ble_eq_true rfl⟩ (zlv_size hl) rfl (Nat.le_of_ble_eq_true rfl) dX8_isReachedCut_42 ⟨Nat.le_refl _, Nat.le_refl _⟩) (fun H locs hW => ?_)
  refine zn_i hf (fun v5 hf => ?_)
  refine lv_istore (lv' := [(5, .int v5), (4, .int v1), (0, .ref (adr 0)), (1, .int p1), (2, .int p2), (3, .int p3)]) hx hb dX8_isReachedCut_45 hl (by decide) rfl (fun ls hl => ?_)
  refine lv_aload_n hx hb dX8_isReachedCut_47 rfl (lv_at hl 2 rfl) ?_
  refine zg_a (o := 0) hC hW fl_X8_11 zck_1_0 zcs_1_0 (show _ = 1 from rfl) dX8_isReachedCut_48 ?_
  refine lv_sipush (v := 140) hx hb dX8_isReachedCut_51 (by decide) ?_
  refine lv_bipush (v := 6) hx hb dX8_isReachedCut_54 (by decide) ?_
  refine lv_iload_n hx hb dX8_isReachedCut_56 rfl (lv_at hl 3 rfl) ?_
  refine lv_imul hx hb dX8_isReachedCut_57 ?_
  refine lv_iadd hx hb dX8_isReachedCut_58 ?_
  refine lv_iload_n hx hb dX8_isReachedCut_59 rfl (lv_at hl 4 rfl) ?_
  refine lv_iadd hx hb dX8_isReachedCut_60 ?_
  refine lv_iload hx hb dX8_isReachedCut_61 (lv_at hl 1 rfl) ?_
  refine za_s hC hW hf zar_1_1 dX8_isReachedCut_63 (fun s6 H locs hf hW => ?_)
  refine lv_iload hx hb dX8_isReachedCut_64 (lv_at hl 0 rfl) ?_
  obtain ⟨h01, hf⟩ := zck_o hf
  exact zr_z hx hb hr hlk hW h01 (zo1 hf) (zo2 hf) dX8_isReachedCut_66
set_option maxHeartbeats 4000000 in
set_option maxRecDepth 100000 in
theorem mX8_cut {l : Launch} {D : va_G} {cI cJ : ClassId} {adr : Nat → Nat} (p1 : Int32) (s0 : zkS) {z : Nat} {ro : Int32} {so : zkS} (hI : zInj 1 adr) (hf : fX8_cut p1 s0 = some (ro, so)) : Met l yX8_cut (Cond.code yX8_cut cX8_cut 4 (some .int) :: zTb) { frames := 5, cells := 0, slots := 0, locals := 118 } (zPre 1 D cI cJ adr s0 z [.ref (adr 0), .int p1]) (zQi 1 D cI cJ adr z ro so) 0 0 (zA 1 adr z) := by
  refine zen (cc := cX8_cut) (own := RX8) (by decide +kernel) rfl hI (Nat.le_of_ble_eq_true rfl) (fun p e s m args below meth c ls hC hr hlk hz hl hW => ?_)
  subst hz
  obtain ⟨hx, hb, -⟩ := id hC
  have hl : lv_has ls 4 [(0, .ref (adr 0)), (1, .int p1)] := hl
  refine zst hW (fun H locs hW => ?_)
  unfold fX8_cut at hf
  refine lv_aload_n hx hb dX8_cut_0 rfl (lv_at hl 0 rfl) ?_
  refine zg_a (o := 0) hC hW fl_X8_11 zck_1_0 zcs_1_0 (show _ = 1 from rfl) dX8_cut_1 ?_
  obtain ⟨v1, hq, hf⟩ := zb1_o hf
  refine zc_i hW (zrun_s (As := [.ref (adr 1)]) (rest := []) hC hW (mX8_reached zMc_1 s0 hC.2.2.2.2.2.2.2 hq) cs_X8_99 rfl ⟨⟨rfl, rfl⟩, Nat.le_of_ble_eq_true rfl, Nat.le_of_ble_eq_true rfl⟩ (zlv_size hl) rfl (Nat.le_of_ble_eq_true rfl) dX8_cut_4 ⟨Nat.le_refl _, Nat.le_refl _⟩) (fun H locs hW => ?_)
  refine lv_iload_n hx hb dX8_cut_7 rfl (lv_at hl 1 rfl) ?_
  refine zc_i hW (zrun_s (As := [.int v1, .int p1]) (rest := []) hC hW (mX8_bit v1 p1 s0 hC.2.2.2.2.2.2.2 rfl) cs_X8_61 rfl ⟨⟨rfl, rfl⟩, Nat.le_of_ble_eq_true rfl, Nat.le_of_ble_eq_true rfl⟩ (zlv_size hl) rfl (Nat.le_of_ble_eq_true rfl) dX8_cut_8 ⟨Nat.le_refl _, Nat.le_refl _⟩) (fun H locs hW => ?_)
  refine zi_if_ne (tgt := 17) hx hb dX8_cut_11 (by decide) hf (fun hc hf => ?_) (fun hc hf => ?_)
  · skip
    refine lv_bipush (v := (-5)) hx hb dX8_cut_14 (by decide) ?_
    exact zr_i hx hb hr hlk hW (zo1 hf) (zo2 hf) dX8_cut_16
  · skip
    refine lv_iconst (v := 0) hx hb dX8_cut_17 (by decide) ?_
    refine lv_istore_n (lv' := [(2, .int 0), (0, .ref (adr 0)), (1, .int p1)]) hx hb dX8_cut_18 rfl hl (by decide) rfl (fun ls hl => ?_)
    have hL19 : ∀ (n : Nat) (x1 : Int32) (x2 : Int32) (s3 : zkS) (K19 : zkS → Option (Int32 × zkS)) (H : Heap) (locs : List Loc) (ls : Array Slot), fX8_cut_L19 n x1 x2 s3 K19 = some (ro, so) → zWo 1 D cI cJ adr s s3 H locs → lv_has ls 4 [(0, .ref (adr 0)), (1, .int x1), (2, .int x2)] → (∀ (s3 : zkS) (H : Heap) (locs : List Loc) (ls : Array Slot), K19 s3 = some (ro, so) → zWo 1 D cI cJ adr s s3 H locs → lv_has ls 4 [] → W p l e { frames := 5, cells := 0, slots := 0, locals := 118 } s m args below meth c H locs 0 0 (MQ below (zQi 1 D cI cJ adr s.heap.size ro so) args s 0 0 (zA 1 adr s.heap.size)) (F0 m 65 ls [])) → W p l e { frames := 5, cells := 0, slots := 0, locals := 118 } s m args below meth c H locs 0 0 (MQ below (zQi 1 D cI cJ adr s.heap.size ro so) args s 0 0 (zA 1 adr s.heap.size)) (F0 m 19 ls []) := by
      intro n
      induction n with
      | zero =>
        intro x1 x2 s3 K19 H locs ls hf hW hl hK19
        rw [fX8_cut_L19] at hf
        cases hf
      | succ n ih19 =>
        intro x1 x2 s3 K19 H locs ls hf hW hl hK19
        rw [fX8_cut_L19] at hf
        refine lv_iload_n hx hb dX8_cut_19 rfl (lv_at hl 2 rfl) ?_
        refine lv_bipush (v := 24) hx hb dX8_cut_20 (by decide) ?_
        refine zi_icmp_ge (tgt := 65) hx hb dX8_cut_22 (by decide) hf (fun hc hf => ?_) (fun hc hf => ?_)
        · skip
          exact hK19 s3 H locs ls hf hW (lv_sub hl [] rfl)
        · skip
          refine lv_iconst (v := 0) hx hb dX8_cut_25 (by decide) ?_
          refine lv_istore_n (lv' := [(3, .int 0), (0, .ref (adr 0)), (1, .int x1), (2, .int x2)]) hx hb dX8_cut_26 rfl hl (by decide) rfl (fun ls hl => ?_)
          have hL27 : ∀ (n : Nat) (x1 : Int32) (x2 : Int32) (x3 : Int32) (s4 : zkS) (K27 : zkS → Option (Int32 × zkS)) (H : Heap) (locs : List Loc) (ls : Array Slot), fX8_cut_L27 n x1 x2 x3 s4 K27 = some (ro, so) → zWo 1 D cI cJ adr s s4 H locs → lv_has ls 4 [(0, .ref (adr 0)), (1, .int x1), (2, .int x2), (3, .int x3)] → (∀ (s4 : zkS) (H : Heap) (locs : List Loc) (ls : Array Slot), K27 s4 = some (ro, so) → zWo 1 D cI cJ adr s s4 H locs → lv_has ls 4 [(0, .ref (adr 0)), (1, .int x1), (2, .int x2)] → W p l e { frames := 5, cells := 0, slots := 0, locals := 118 } s m args below meth c H locs 0 0 (MQ below (zQi 1 D cI cJ adr s.heap.size ro so) args s 0 0 (zA 1 adr s.heap.size)) (F0 m 59 ls [])) → W p l e { frames := 5, cells := 0, slots := 0, locals := 118 } s m args below meth c H locs 0 0 (MQ below (zQi 1 D cI cJ adr s.heap.size ro so) args s 0 0 (zA 1 adr s.heap.size)) (F0 m 27 ls []) := by
            intro n
            induction n with
            | zero =>
              intro x1 x2 x3 s4 K27 H locs ls hf hW hl hK27
              rw [fX8_cut_L27] at hf
              cases hf
            | succ n ih27 =>
              intro x1 x2 x3 s4 K27 H locs ls hf hW hl hK27
              rw [fX8_cut_L27] at hf
              refine lv_aload_n hx hb dX8_cut_27 rfl (lv_at hl 0 rfl) ?_
              refine lv_iload_n hx hb dX8_cut_28 rfl (lv_at hl 2 rfl) ?_
              refine lv_iload_n hx hb dX8_cut_29 rfl (lv_at hl 3 rfl) ?_
              obtain ⟨v5, hq, hf⟩ := zb1_o hf
              refine zc_i hW (zrun_v (As := [.int x2, .int x3]) (rest := []) hC hW (mX8_isField x2 x3 s4 hC.2.2.2.2.2.2.2 hq) cv_X8_96 zck_1_0 zcs_1_0 rfl ⟨⟨rfl, rfl⟩, Nat.le_of_ble_eq_true rfl, Nat.le_of_ble_eq_true rfl⟩ (zlv_size hl) rfl (Nat.le_of_ble_eq_true rfl) dX8_cut_30 ⟨Nat.le_refl _, Nat.le_refl _⟩) (fun H locs hW => ?_)
              refine zi_if_eq (tgt := 59) hx hb dX8_cut_33 (by decide) hf (fun hc hf => ?_) (fun hc hf => ?_)
              · skip
                exact hK27 s4 H locs ls hf hW (lv_sub hl [0, 1, 2] rfl)
              · skip
                refine lv_aload_n hx hb dX8_cut_36 rfl (lv_at hl 0 rfl) ?_
                refine lv_iload_n hx hb dX8_cut_37 rfl (lv_at hl 2 rfl) ?_
                refine lv_iload_n hx hb dX8_cut_38 rfl (lv_at hl 3 rfl) ?_
                refine lv_iload_n hx hb dX8_cut_39 rfl (lv_at hl 1 rfl) ?_
                obtain ⟨v6, s7, hq, hf⟩ := zb2_o hf
                refine zc_i hW (zrun_v (As := [.int x2, .int x3, .int x1]) (rest := []) hC hW (mX8_isReachedCut x2 x3 x1 s4 hC.2.2.2.2.2.2.2 hq) cv_X8_102 zck_1_0 zcs_1_0 rfl ⟨⟨rfl, rfl⟩, Nat.le_of_ble_eq_true rfl, Nat.le_of_ble_eq_true rfl⟩ (zlv_size hl) rfl (Nat.le_of_ble_eq_true rfl) dX8_cut_40 ⟨Nat.le_refl _, Nat.le_refl _⟩) (fun H locs hW => ?_)
                refine zi_if_ne (tgt := 53) hx hb dX8_cut_43 (by decide) hf (fun hc hf => ?_) (fun hc hf => ?_)
                · skip
                  refine lv_bipush (v := 10) hx hb dX8_cut_46 (by decide) ?_
                  refine lv_iload_n hx hb dX8_cut_48 rfl (lv_at hl 2 rfl) ?_
                  refine lv_imul hx hb dX8_cut_49 ?_
                  refine lv_iload_n hx hb dX8_cut_50 rfl (lv_at hl 3 rfl) ?_
                  refine lv_iadd hx hb dX8_cut_51 ?_
                  exact zr_i hx hb hr hlk hW (zo1 hf) (zo2 hf) dX8_cut_52
                · skip
                  refine zi_inc (v := (x3 + 1)) (lv' := fun v8 => [(3, .int v8), (0, .ref (adr 0)), (1, .int x1), (2, .int x2)]) hx hb dX8_cut_53 hl (k := 3) rfl rfl (by decide) (fun _ => rfl) hf (fun v8 ls hf hl => ?_)
                  refine lv_goto (tgt := 27) hx hb dX8_cut_56 (by decide) ?_
                  exact ih27 x1 x2 v8 s7 _ H locs ls hf hW (lv_sub hl [1, 2, 3, 0] rfl) hK27
          refine hL27 zFU x1 x2 0 s3 _ H locs ls hf hW (lv_sub hl [1, 2, 3, 0] rfl) (fun s9 H locs ls hf hW hl => ?_)
          refine zi_inc (v := (x2 + 1)) (lv' := fun v10 => [(2, .int v10), (0, .ref (adr 0)), (1, .int x1)]) hx hb dX8_cut_59 hl (k := 2) rfl rfl (by decide) (fun _ => rfl) hf (fun v10 ls hf hl => ?_)
          refine lv_goto (tgt := 19) hx hb dX8_cut_62 (by decide) ?_
          exact ih19 x1 v10 s9 _ H locs ls hf hW (lv_sub hl [1, 2, 0] rfl) hK19
    refine hL19 zFU p1 0 s0 _ H locs ls hf hW (lv_sub hl [1, 2, 0] rfl) (fun s11 H locs ls hf hW hl => ?_)
    refine lv_bipush (v := (-5)) hx hb dX8_cut_65 (by decide) ?_
    exact zr_i hx hb hr hlk hW (zo1 hf) (zo2 hf) dX8_cut_67
set_option maxHeartbeats 4000000 in
set_option maxRecDepth 100000 in
theorem mX8_bits {l : Launch} {D : va_G} {cI cJ : ClassId} {adr : Nat → Nat} {u : Nat} (p1 : Int32) (s0 : zkS) {z : Nat} {ro : Int32} (hI : zInj u adr) (hf : fX8_bits p1 = some ro) : Met l yX8_bits (Cond.code yX8_bits cX8_bits 2 (some .int) :: zTb) { frames := 0, cells := 0, slots := 0, locals := 0 } (zPre u D cI cJ adr s0 z [.int p1]) (zQi u D cI cJ adr z ro s0) 0 0 (zA u adr z) := by
  refine zen (cc := cX8_bits) (own := RX8) (by decide +kernel) rfl hI (Nat.le_of_ble_eq_true rfl) (fun p e s m args below meth c ls hC hr hlk hz hl hW => ?_)
  subst hz
  obtain ⟨hx, hb, -⟩ := id hC
  have hl : lv_has ls 2 [(0, .int p1)] := hl
  refine zst hW (fun H locs hW => ?_)
  unfold fX8_bits at hf
  refine lv_iconst (v := 0) hx hb dX8_bits_0 (by decide) ?_
  refine lv_istore_n (lv' := [(1, .int 0), (0, .int p1)]) hx hb dX8_bits_1 rfl hl (by decide) rfl (fun ls hl => ?_)
  have hL2 : ∀ (n : Nat) (x0 : Int32) (x1 : Int32) (K2 : Int32 → Option (Int32)) (H : Heap) (locs : List Loc) (ls : Array Slot), fX8_bits_L2 n x0 x1 K2 = some ro → zWo u D cI cJ adr s s0 H locs → lv_has ls 2 [(0, .int x0), (1, .int x1)] → (∀ (x1 : Int32) (H : Heap) (locs : List Loc) (ls : Array Slot), K2 x1 = some ro → zWo u D cI cJ adr s s0 H locs → lv_has ls 2 [(1, .int x1)] → W p l e { frames := 0, cells := 0, slots := 0, locals := 0 } s m args below meth c H locs 0 0 (MQ below (zQi u D cI cJ adr s.heap.size ro s0) args s 0 0 (zA u adr s.heap.size)) (F0 m 15 ls [])) → W p l e { frames := 0, cells := 0, slots := 0, locals := 0 } s m args below meth c H locs 0 0 (MQ below (zQi u D cI cJ adr s.heap.size ro s0) args s 0 0 (zA u adr s.heap.size)) (F0 m 2 ls []) := by
    intro n
    induction n with
    | zero =>
      intro x0 x1 K2 H locs ls hf hW hl hK2
      rw [fX8_bits_L2] at hf
      cases hf
    | succ n ih2 =>
      intro x0 x1 K2 H locs ls hf hW hl hK2
      rw [fX8_bits_L2] at hf
      refine lv_iconst (v := 1) hx hb dX8_bits_2 (by decide) ?_
      refine lv_iload_n hx hb dX8_bits_3 rfl (lv_at hl 1 rfl) ?_
      refine lv_ishl hx hb dX8_bits_4 ?_
      refine lv_iload_n hx hb dX8_bits_5 rfl (lv_at hl 0 rfl) ?_
      refine zi_icmp_ge (tgt := 15) hx hb dX8_bits_6 (by decide) hf (fun hc hf => ?_) (fun hc hf => ?_)
      · skip
        exact hK2 x1 H locs ls hf hW (lv_sub hl [1] rfl)
      · skip
        refine zi_inc (v := (x1 + 1)) (lv' := fun v1 => [(1, .int v1), (0, .int x0)]) hx hb dX8_bits_9 hl (k := 1) rfl rfl (by decide) (fun _ => rfl) hf (fun v1 ls hf hl => ?_)
        refine lv_goto (tgt := 2) hx hb dX8_bits_12 (by decide) ?_
        exact ih2 x0 v1 _ H locs ls hf hW (lv_sub hl [1, 0] rfl) hK2
  refine hL2 zFU p1 0 _ H locs ls hf hW (lv_sub hl [1, 0] rfl) (fun x2 H locs ls hf hW hl => ?_)
  refine lv_iconst (v := 1) hx hb dX8_bits_15 (by decide) ?_
  refine lv_iload_n hx hb dX8_bits_16 rfl (lv_at hl 0 rfl) ?_
  refine lv_iadd hx hb dX8_bits_17 ?_
  exact zr_i hx hb hr hlk hW (Option.some.inj hf) rfl dX8_bits_18
set_option maxHeartbeats 4000000 in
set_option maxRecDepth 100000 in
theorem mX8_flag {l : Launch} {D : va_G} {cI cJ : ClassId} {adr : Nat → Nat} {u : Nat} (p1 : Int32) (s0 : zkS) {z : Nat} {ro : Int32} (hI : zInj u adr) (hf : fX8_flag p1 = ro) : Met l yX8_flag (Cond.code yX8_flag cX8_flag 1 (some .int) :: zTb) { frames := 0, cells := 0, slots := 0, locals := 0 } (zPre u D cI cJ adr s0 z [.int p1]) (zQi u D cI cJ adr z ro s0) 0 0 (zA u adr z) := by
  refine zen (cc := cX8_flag) (own := RX8) (by decide +kernel) rfl hI (Nat.le_of_ble_eq_true rfl) (fun p e s m args below meth c ls hC hr hlk hz hl hW => ?_)
  subst hz
  obtain ⟨hx, hb, -⟩ := id hC
  have hl : lv_has ls 1 [(0, .int p1)] := hl
  refine zst hW (fun H locs hW => ?_)
  unfold fX8_flag at hf
  refine lv_iload_n hx hb dX8_flag_0 rfl (lv_at hl 0 rfl) ?_
  refine zi_if_eq (tgt := 8) hx hb dX8_flag_1 (by decide) hf (fun hc hf => ?_) (fun hc hf => ?_)
  · skip
    refine lv_iconst (v := 0) hx hb dX8_flag_8 (by decide) ?_
    exact zr_i hx hb hr hlk hW hf rfl dX8_flag_9
  · skip
    refine lv_iconst (v := 1) hx hb dX8_flag_4 (by decide) ?_
    refine lv_goto (tgt := 9) hx hb dX8_flag_5 (by decide) ?_
    exact zr_i hx hb hr hlk hW hf rfl dX8_flag_9
set_option maxHeartbeats 4000000 in
set_option maxRecDepth 100000 in
theorem mX8_of {l : Launch} {D : va_G} {cI cJ : ClassId} {adr : Nat → Nat} (p1 : Int32) (p2 : Int32) (s0 : zkS) {z : Nat} {ro : Int32} {so : zkS} (hI : zInj 1 adr) (hf : fX8_of p1 p2 s0 = some (ro, so)) : Met l yX8_of (Cond.code yX8_of cX8_of 3 (some .int) :: zTb) { frames := 6, cells := 0, slots := 0, locals := 141 } (zPre 1 D cI cJ adr s0 z [.ref (adr 0), .int p1, .int p2]) (zQi 1 D cI cJ adr z ro so) 0 0 (zA 1 adr z) := by
  refine zen (cc := cX8_of) (own := RX8) (by decide +kernel) rfl hI (Nat.le_of_ble_eq_true rfl) (fun p e s m args below meth c ls hC hr hlk hz hl hW => ?_)
  subst hz
  obtain ⟨hx, hb, -⟩ := id hC
  have hl : lv_has ls 3 [(0, .ref (adr 0)), (1, .int p1), (2, .int p2)] := hl
  refine zst hW (fun H locs hW => ?_)
  unfold fX8_of at hf
  refine lv_aload_n hx hb dX8_of_0 rfl (lv_at hl 0 rfl) ?_
  refine lv_iload_n hx hb dX8_of_1 rfl (lv_at hl 1 rfl) ?_
  obtain ⟨v1, hq, hf⟩ := zb1_o hf
  refine zc_i hW (zrun_v (As := [.int p1]) (rest := []) hC hW (mX8_isThere p1 s0 hC.2.2.2.2.2.2.2 hq) cv_X8_65 zck_1_0 zcs_1_0 rfl ⟨⟨rfl, rfl⟩, Nat.le_of_ble_eq_true rfl, Nat.le_of_ble_eq_true rfl⟩ (zlv_size hl) rfl (Nat.le_of_ble_eq_true rfl) dX8_of_2 ⟨Nat.le_refl _, Nat.le_refl _⟩) (fun H locs hW => ?_)
  refine zi_if_ne (tgt := 10) hx hb dX8_of_5 (by decide) hf (fun hc hf => ?_) (fun hc hf => ?_)
  · skip
    refine lv_iconst (v := (-1)) hx hb dX8_of_8 (by decide) ?_
    exact zr_i hx hb hr hlk hW (zo1 hf) (zo2 hf) dX8_of_9
  · skip
    refine lv_iload_n hx hb dX8_of_10 rfl (lv_at hl 2 rfl) ?_
    refine zi_c hf (fun h0 hf => ?_) (fun h0 hf => ?_)
    · skip
      refine zs_in (off := 65) (tgt := 76) hx hb h0 dX8_of_11 (by decide) (by decide) (by decide +kernel) (by decide) ?_
      refine lv_aload_n hx hb dX8_of_76 rfl (lv_at hl 0 rfl) ?_
      refine zg_a (o := 0) hC hW fl_X8_11 zck_1_0 zcs_1_0 (show _ = 1 from rfl) dX8_of_77 ?_
      refine lv_bipush (v := 20) hx hb dX8_of_80 (by decide) ?_
      refine lv_iload_n hx hb dX8_of_82 rfl (lv_at hl 1 rfl) ?_
      refine lv_iadd hx hb dX8_of_83 ?_
      refine za_l hC hW hf zar_1_1 dX8_of_84 (fun v2 hf => ?_)
      exact zr_i hx hb hr hlk hW (zo1 hf) (zo2 hf) dX8_of_85
    · skip
      refine zi_c hf (fun h1 hf => ?_) (fun h1 hf => ?_)
      · skip
        refine zs_in (off := 75) (tgt := 86) hx hb h1 dX8_of_11 (by decide) (by decide) (by decide +kernel) (by decide) ?_
        refine lv_aload_n hx hb dX8_of_86 rfl (lv_at hl 0 rfl) ?_
        refine zg_a (o := 0) hC hW fl_X8_11 zck_1_0 zcs_1_0 (show _ = 1 from rfl) dX8_of_87 ?_
        refine lv_bipush (v := 44) hx hb dX8_of_90 (by decide) ?_
        refine lv_iload_n hx hb dX8_of_92 rfl (lv_at hl 1 rfl) ?_
        refine lv_iadd hx hb dX8_of_93 ?_
        refine za_l hC hW hf zar_1_1 dX8_of_94 (fun v3 hf => ?_)
        exact zr_i hx hb hr hlk hW (zo1 hf) (zo2 hf) dX8_of_95
      · skip
        refine zi_c hf (fun h2 hf => ?_) (fun h2 hf => ?_)
        · skip
          refine zs_in (off := 85) (tgt := 96) hx hb h2 dX8_of_11 (by decide) (by decide) (by decide +kernel) (by decide) ?_
          refine lv_aload_n hx hb dX8_of_96 rfl (lv_at hl 0 rfl) ?_
          refine zg_a (o := 0) hC hW fl_X8_11 zck_1_0 zcs_1_0 (show _ = 1 from rfl) dX8_of_97 ?_
          refine lv_bipush (v := 68) hx hb dX8_of_100 (by decide) ?_
          refine lv_iload_n hx hb dX8_of_102 rfl (lv_at hl 1 rfl) ?_
          refine lv_iadd hx hb dX8_of_103 ?_
          refine za_l hC hW hf zar_1_1 dX8_of_104 (fun v4 hf => ?_)
          exact zr_i hx hb hr hlk hW (zo1 hf) (zo2 hf) dX8_of_105
        · skip
          refine zi_c hf (fun h3 hf => ?_) (fun h3 hf => ?_)
          · skip
            refine zs_in (off := 95) (tgt := 106) hx hb h3 dX8_of_11 (by decide) (by decide) (by decide +kernel) (by decide) ?_
            refine lv_aload_n hx hb dX8_of_106 rfl (lv_at hl 0 rfl) ?_
            refine zg_a (o := 0) hC hW fl_X8_11 zck_1_0 zcs_1_0 (show _ = 1 from rfl) dX8_of_107 ?_
            refine lv_bipush (v := 12) hx hb dX8_of_110 (by decide) ?_
            refine za_l hC hW hf zar_1_1 dX8_of_112 (fun v5 hf => ?_)
            refine lv_iload_n hx hb dX8_of_113 rfl (lv_at hl 1 rfl) ?_
            refine zc_i hW (zrun_s (As := [.int v5, .int p1]) (rest := []) hC hW (mX8_bit v5 p1 s0 hC.2.2.2.2.2.2.2 rfl) cs_X8_61 rfl ⟨⟨rfl, rfl⟩, Nat.le_of_ble_eq_true rfl, Nat.le_of_ble_eq_true rfl⟩ (zlv_size hl) rfl (Nat.le_of_ble_eq_true rfl) dX8_of_114 ⟨Nat.le_refl _, Nat.le_refl _⟩) (fun H locs hW => ?_)
            refine zc_i hW (zrun_s (As := [.int (fX8_bit v5 p1)]) (rest := []) hC hW (mX8_flag (fX8_bit v5 p1) s0 hC.2.2.2.2.2.2.2 rfl) cs_X8_106 rfl ⟨⟨rfl, rfl⟩, Nat.le_of_ble_eq_true rfl, Nat.le_of_ble_eq_true rfl⟩ (zlv_size hl) rfl (Nat.le_of_ble_eq_true rfl) dX8_of_117 ⟨Nat.le_refl _, Nat.le_refl _⟩) (fun H locs hW => ?_)
            exact zr_i hx hb hr hlk hW (zo1 hf) (zo2 hf) dX8_of_120
          · skip
            refine zi_c hf (fun h4 hf => ?_) (fun h4 hf => ?_)
            · skip
              refine zs_in (off := 110) (tgt := 121) hx hb h4 dX8_of_11 (by decide) (by decide) (by decide +kernel) (by decide) ?_
              refine lv_aload_n hx hb dX8_of_121 rfl (lv_at hl 0 rfl) ?_
              refine zg_a (o := 0) hC hW fl_X8_11 zck_1_0 zcs_1_0 (show _ = 1 from rfl) dX8_of_122 ?_
              refine lv_bipush (v := 92) hx hb dX8_of_125 (by decide) ?_
              refine lv_iload_n hx hb dX8_of_127 rfl (lv_at hl 1 rfl) ?_
              refine lv_iadd hx hb dX8_of_128 ?_
              refine za_l hC hW hf zar_1_1 dX8_of_129 (fun v8 hf => ?_)
              exact zr_i hx hb hr hlk hW (zo1 hf) (zo2 hf) dX8_of_130
            · skip
              refine zi_c hf (fun h5 hf => ?_) (fun h5 hf => ?_)
              · skip
                refine zs_in (off := 120) (tgt := 131) hx hb h5 dX8_of_11 (by decide) (by decide) (by decide +kernel) (by decide) ?_
                refine lv_aload_n hx hb dX8_of_131 rfl (lv_at hl 0 rfl) ?_
                refine zg_a (o := 0) hC hW fl_X8_11 zck_1_0 zcs_1_0 (show _ = 1 from rfl) dX8_of_132 ?_
                refine lv_bipush (v := 13) hx hb dX8_of_135 (by decide) ?_
                refine za_l hC hW hf zar_1_1 dX8_of_137 (fun v9 hf => ?_)
                refine lv_iload_n hx hb dX8_of_138 rfl (lv_at hl 1 rfl) ?_
                refine zc_i hW (zrun_s (As := [.int v9, .int p1]) (rest := []) hC hW (mX8_bit v9 p1 s0 hC.2.2.2.2.2.2.2 rfl) cs_X8_61 rfl ⟨⟨rfl, rfl⟩, Nat.le_of_ble_eq_true rfl, Nat.le_of_ble_eq_true rfl⟩ (zlv_size hl) rfl (Nat.le_of_ble_eq_true rfl) dX8_of_139 ⟨Nat.le_refl _, Nat.le_refl _⟩) (fun H locs hW => ?_)
                refine zc_i hW (zrun_s (As := [.int (fX8_bit v9 p1)]) (rest := []) hC hW (mX8_flag (fX8_bit v9 p1) s0 hC.2.2.2.2.2.2.2 rfl) cs_X8_106 rfl ⟨⟨rfl, rfl⟩, Nat.le_of_ble_eq_true rfl, Nat.le_of_ble_eq_true rfl⟩ (zlv_size hl) rfl (Nat.le_of_ble_eq_true rfl) dX8_of_142 ⟨Nat.le_refl _, Nat.le_refl _⟩) (fun H locs hW => ?_)
                exact zr_i hx hb hr hlk hW (zo1 hf) (zo2 hf) dX8_of_145
              · skip
                refine zi_c hf (fun h6 hf => ?_) (fun h6 hf => ?_)
                · skip
                  refine zs_in (off := 135) (tgt := 146) hx hb h6 dX8_of_11 (by decide) (by decide) (by decide +kernel) (by decide) ?_
                  refine lv_aload_n hx hb dX8_of_146 rfl (lv_at hl 0 rfl) ?_
                  refine zg_a (o := 0) hC hW fl_X8_11 zck_1_0 zcs_1_0 (show _ = 1 from rfl) dX8_of_147 ?_
                  refine lv_bipush (v := 14) hx hb dX8_of_150 (by decide) ?_
                  refine za_l hC hW hf zar_1_1 dX8_of_152 (fun v12 hf => ?_)
                  refine lv_iload_n hx hb dX8_of_153 rfl (lv_at hl 1 rfl) ?_
                  refine zc_i hW (zrun_s (As := [.int v12, .int p1]) (rest := []) hC hW (mX8_bit v12 p1 s0 hC.2.2.2.2.2.2.2 rfl) cs_X8_61 rfl ⟨⟨rfl, rfl⟩, Nat.le_of_ble_eq_true rfl, Nat.le_of_ble_eq_true rfl⟩ (zlv_size hl) rfl (Nat.le_of_ble_eq_true rfl) dX8_of_154 ⟨Nat.le_refl _, Nat.le_refl _⟩) (fun H locs hW => ?_)
                  refine zc_i hW (zrun_s (As := [.int (fX8_bit v12 p1)]) (rest := []) hC hW (mX8_flag (fX8_bit v12 p1) s0 hC.2.2.2.2.2.2.2 rfl) cs_X8_106 rfl ⟨⟨rfl, rfl⟩, Nat.le_of_ble_eq_true rfl, Nat.le_of_ble_eq_true rfl⟩ (zlv_size hl) rfl (Nat.le_of_ble_eq_true rfl) dX8_of_157 ⟨Nat.le_refl _, Nat.le_refl _⟩) (fun H locs hW => ?_)
                  exact zr_i hx hb hr hlk hW (zo1 hf) (zo2 hf) dX8_of_160
                · skip
                  refine zi_c hf (fun h7 hf => ?_) (fun h7 hf => ?_)
                  · skip
                    refine zs_in (off := 150) (tgt := 161) hx hb h7 dX8_of_11 (by decide) (by decide) (by decide +kernel) (by decide) ?_
                    refine lv_aload_n hx hb dX8_of_161 rfl (lv_at hl 0 rfl) ?_
                    refine lv_iload_n hx hb dX8_of_162 rfl (lv_at hl 1 rfl) ?_
                    obtain ⟨v15, hq, hf⟩ := zb1_o hf
                    refine zc_i hW (zrun_v (As := [.int p1]) (rest := []) hC hW (mX8_holders p1 s0 hC.2.2.2.2.2.2.2 hq) cv_X8_110 zck_1_0 zcs_1_0 rfl ⟨⟨rfl, rfl⟩, Nat.le_of_ble_eq_true rfl, Nat.le_of_ble_eq_true rfl⟩ (zlv_size hl) rfl (Nat.le_of_ble_eq_true rfl) dX8_of_163 ⟨Nat.le_refl _, Nat.le_refl _⟩) (fun H locs hW => ?_)
                    exact zr_i hx hb hr hlk hW (zo1 hf) (zo2 hf) dX8_of_166
                  · skip
                    refine zi_c hf (fun h8 hf => ?_) (fun h8 hf => ?_)
                    · skip
                      refine zs_in (off := 156) (tgt := 167) hx hb h8 dX8_of_11 (by decide) (by decide) (by decide +kernel) (by decide) ?_
                      refine lv_aload_n hx hb dX8_of_167 rfl (lv_at hl 0 rfl) ?_
                      refine zg_a (o := 0) hC hW fl_X8_11 zck_1_0 zcs_1_0 (show _ = 1 from rfl) dX8_of_168 ?_
                      refine lv_iload_n hx hb dX8_of_171 rfl (lv_at hl 1 rfl) ?_
                      obtain ⟨v16, hq, hf⟩ := zb1_o hf
                      refine zc_i hW (zrun_s (As := [.ref (adr 1), .int p1]) (rest := []) hC hW (mX8_far zMc_1 p1 s0 hC.2.2.2.2.2.2.2 hq) cs_X8_114 rfl ⟨⟨rfl, rfl⟩, Nat.le_of_ble_eq_true rfl, Nat.le_of_ble_eq_true rfl⟩ (zlv_size hl) rfl (Nat.le_of_ble_eq_true rfl) dX8_of_172 ⟨Nat.le_refl _, Nat.le_refl _⟩) (fun H locs hW => ?_)
                      exact zr_i hx hb hr hlk hW (zo1 hf) (zo2 hf) dX8_of_175
                    · skip
                      refine zi_c hf (fun h9 hf => ?_) (fun h9 hf => ?_)
                      · skip
                        refine zs_in (off := 165) (tgt := 176) hx hb h9 dX8_of_11 (by decide) (by decide) (by decide +kernel) (by decide) ?_
                        refine lv_aload_n hx hb dX8_of_176 rfl (lv_at hl 0 rfl) ?_
                        refine zg_a (o := 0) hC hW fl_X8_11 zck_1_0 zcs_1_0 (show _ = 1 from rfl) dX8_of_177 ?_
                        refine lv_iconst (v := 1) hx hb dX8_of_180 (by decide) ?_
                        refine lv_iload_n hx hb dX8_of_181 rfl (lv_at hl 1 rfl) ?_
                        refine lv_ishl hx hb dX8_of_182 ?_
                        refine lv_bipush (v := 24) hx hb dX8_of_183 (by decide) ?_
                        obtain ⟨v17, hq, hf⟩ := zb1_o hf
                        refine zc_i hW (zrun_s (As := [.ref (adr 1), .int (1 <<< (p1 &&& 31)), .int 24]) (rest := []) hC hW (mX8_reach zMc_1 (1 <<< (p1 &&& 31)) 24 s0 hC.2.2.2.2.2.2.2 hq) cs_X8_93 rfl ⟨⟨rfl, rfl⟩, Nat.le_of_ble_eq_true rfl, Nat.le_of_ble_eq_true rfl⟩ (zlv_size hl) rfl (Nat.le_of_ble_eq_true rfl) dX8_of_185 ⟨Nat.le_refl _, Nat.le_refl _⟩) (fun H locs hW => ?_)
                        exact zr_i hx hb hr hlk hW (zo1 hf) (zo2 hf) dX8_of_188
                      · skip
                        refine zi_c hf (fun h10 hf => ?_) (fun h10 hf => ?_)
                        · skip
                          refine zs_in (off := 178) (tgt := 189) hx hb h10 dX8_of_11 (by decide) (by decide) (by decide +kernel) (by decide) ?_
                          refine lv_aload_n hx hb dX8_of_189 rfl (lv_at hl 0 rfl) ?_
                          refine zg_a (o := 0) hC hW fl_X8_11 zck_1_0 zcs_1_0 (show _ = 1 from rfl) dX8_of_190 ?_
                          obtain ⟨v18, hq, hf⟩ := zb1_o hf
                          refine zc_i hW (zrun_s (As := [.ref (adr 1)]) (rest := []) hC hW (mX8_reached zMc_1 s0 hC.2.2.2.2.2.2.2 hq) cs_X8_99 rfl ⟨⟨rfl, rfl⟩, Nat.le_of_ble_eq_true rfl, Nat.le_of_ble_eq_true rfl⟩ (zlv_size hl) rfl (Nat.le_of_ble_eq_true rfl) dX8_of_193 ⟨Nat.le_refl _, Nat.le_refl _⟩) (fun H locs hW => ?_)
                          refine lv_iload_n hx hb dX8_of_196 rfl (lv_at hl 1 rfl) ?_
                          refine zc_i hW (zrun_s (As := [.int v18, .int p1]) (rest := []) hC hW (mX8_bit v18 p1 s0 hC.2.2.2.2.2.2.2 rfl) cs_X8_61 rfl ⟨⟨rfl, rfl⟩, Nat.le_of_ble_eq_true rfl, Nat.le_of_ble_eq_true rfl⟩ (zlv_size hl) rfl (Nat.le_of_ble_eq_true rfl) dX8_of_197 ⟨Nat.le_refl _, Nat.le_refl _⟩) (fun H locs hW => ?_)
                          refine zi_if_eq (tgt := 231) hx hb dX8_of_200 (by decide) hf (fun hc hf => ?_) (fun hc hf => ?_)
                          · skip
                            refine lv_iconst (v := 0) hx hb dX8_of_231 (by decide) ?_
                            exact zr_i hx hb hr hlk hW (zo1 hf) (zo2 hf) dX8_of_232
                          · skip
                            refine lv_aload_n hx hb dX8_of_203 rfl (lv_at hl 0 rfl) ?_
                            refine zg_a (o := 0) hC hW fl_X8_11 zck_1_0 zcs_1_0 (show _ = 1 from rfl) dX8_of_204 ?_
                            obtain ⟨v20, hq, hf⟩ := zb1_o hf
                            refine zc_i hW (zrun_s (As := [.ref (adr 1)]) (rest := []) hC hW (mX8_reached zMc_1 s0 hC.2.2.2.2.2.2.2 hq) cs_X8_99 rfl ⟨⟨rfl, rfl⟩, Nat.le_of_ble_eq_true rfl, Nat.le_of_ble_eq_true rfl⟩ (zlv_size hl) rfl (Nat.le_of_ble_eq_true rfl) dX8_of_207 ⟨Nat.le_refl _, Nat.le_refl _⟩) (fun H locs hW => ?_)
                            refine lv_aload_n hx hb dX8_of_210 rfl (lv_at hl 0 rfl) ?_
                            refine zg_a (o := 0) hC hW fl_X8_11 zck_1_0 zcs_1_0 (show _ = 1 from rfl) dX8_of_211 ?_
                            refine lv_aload_n hx hb dX8_of_214 rfl (lv_at hl 0 rfl) ?_
                            refine zg_a (o := 0) hC hW fl_X8_11 zck_1_0 zcs_1_0 (show _ = 1 from rfl) dX8_of_215 ?_
                            obtain ⟨v21, hq, hf⟩ := zb1_o hf
                            refine zc_i hW (zrun_s (As := [.ref (adr 1)]) (rest := [.ref (adr 1), .int v20]) hC hW (mX8_rooted zMc_1 s0 hC.2.2.2.2.2.2.2 hq) cs_X8_89 rfl ⟨⟨rfl, rfl⟩, Nat.le_of_ble_eq_true rfl, Nat.le_of_ble_eq_true rfl⟩ (zlv_size hl) rfl (Nat.le_of_ble_eq_true rfl) dX8_of_218 ⟨Nat.le_refl _, Nat.le_refl _⟩) (fun H locs hW => ?_)
                            refine lv_iload_n hx hb dX8_of_221 rfl (lv_at hl 1 rfl) ?_
                            obtain ⟨v22, hq, hf⟩ := zb1_o hf
                            refine zc_i hW (zrun_s (As := [.ref (adr 1), .int v21, .int p1]) (rest := [.int v20]) hC hW (mX8_reach zMc_1 v21 p1 s0 hC.2.2.2.2.2.2.2 hq) cs_X8_93 rfl ⟨⟨rfl, rfl⟩, Nat.le_of_ble_eq_true rfl, Nat.le_of_ble_eq_true rfl⟩ (zlv_size hl) rfl (Nat.le_of_ble_eq_true rfl) dX8_of_222 ⟨Nat.le_refl _, Nat.le_refl _⟩) (fun H locs hW => ?_)
                            refine lv_iconst (v := (-1)) hx hb dX8_of_225 (by decide) ?_
                            refine lv_ixor hx hb dX8_of_226 ?_
                            refine lv_iand hx hb dX8_of_227 ?_
                            refine lv_goto (tgt := 232) hx hb dX8_of_228 (by decide) ?_
                            exact zr_i hx hb hr hlk hW (zo1 hf) (zo2 hf) dX8_of_232
                        · skip
                          refine zi_c hf (fun h11 hf => ?_) (fun h11 hf => ?_)
                          · skip
                            refine zs_in (off := 222) (tgt := 233) hx hb h11 dX8_of_11 (by decide) (by decide) (by decide +kernel) (by decide) ?_
                            refine lv_aload_n hx hb dX8_of_233 rfl (lv_at hl 0 rfl) ?_
                            refine lv_iload_n hx hb dX8_of_234 rfl (lv_at hl 1 rfl) ?_
                            obtain ⟨v23, s24, hq, hf⟩ := zb2_o hf
                            refine zc_i hW (zrun_v (As := [.int p1]) (rest := []) hC hW (mX8_cut p1 s0 hC.2.2.2.2.2.2.2 hq) cv_X8_118 zck_1_0 zcs_1_0 rfl ⟨⟨rfl, rfl⟩, Nat.le_of_ble_eq_true rfl, Nat.le_of_ble_eq_true rfl⟩ (zlv_size hl) rfl (Nat.le_of_ble_eq_true rfl) dX8_of_235 ⟨Nat.le_refl _, Nat.le_refl _⟩) (fun H locs hW => ?_)
                            exact zr_i hx hb hr hlk hW (zo1 hf) (zo2 hf) dX8_of_238
                          · skip
                            refine zi_c hf (fun h12 hf => ?_) (fun h12 hf => ?_)
                            · skip
                              refine zs_in (off := 228) (tgt := 239) hx hb h12 dX8_of_11 (by decide) (by decide) (by decide +kernel) (by decide) ?_
                              refine lv_aload_n hx hb dX8_of_239 rfl (lv_at hl 0 rfl) ?_
                              refine zg_a (o := 0) hC hW fl_X8_11 zck_1_0 zcs_1_0 (show _ = 1 from rfl) dX8_of_240 ?_
                              refine lv_bipush (v := 68) hx hb dX8_of_243 (by decide) ?_
                              refine lv_iload_n hx hb dX8_of_245 rfl (lv_at hl 1 rfl) ?_
                              refine lv_iadd hx hb dX8_of_246 ?_
                              refine za_l hC hW hf zar_1_1 dX8_of_247 (fun v25 hf => ?_)
                              obtain ⟨v26, hq, hf⟩ := zb1_o hf
                              refine zc_i hW (zrun_s (As := [.int v25]) (rest := []) hC hW (mX8_bits v25 s0 hC.2.2.2.2.2.2.2 hq) cs_X8_121 rfl ⟨⟨rfl, rfl⟩, Nat.le_of_ble_eq_true rfl, Nat.le_of_ble_eq_true rfl⟩ (zlv_size hl) rfl (Nat.le_of_ble_eq_true rfl) dX8_of_248 ⟨Nat.le_refl _, Nat.le_refl _⟩) (fun H locs hW => ?_)
                              exact zr_i hx hb hr hlk hW (zo1 hf) (zo2 hf) dX8_of_251
                            · skip
                              refine lv_tableOut (tgt := 252) hx hb dX8_of_11 (by have n0 := lv_neT h0 (show (0 : Int32).toInt = 0 from rfl); have n1 := lv_neT h1 (show (1 : Int32).toInt = 1 from rfl); have n2 := lv_neT h2 (show (2 : Int32).toInt = 2 from rfl); have n3 := lv_neT h3 (show (3 : Int32).toInt = 3 from rfl); have n4 := lv_neT h4 (show (4 : Int32).toInt = 4 from rfl); have n5 := lv_neT h5 (show (5 : Int32).toInt = 5 from rfl); have n6 := lv_neT h6 (show (6 : Int32).toInt = 6 from rfl); have n7 := lv_neT h7 (show (7 : Int32).toInt = 7 from rfl); have n8 := lv_neT h8 (show (8 : Int32).toInt = 8 from rfl); have n9 := lv_neT h9 (show (9 : Int32).toInt = 9 from rfl); have n10 := lv_neT h10 (show (10 : Int32).toInt = 10 from rfl); have n11 := lv_neT h11 (show (11 : Int32).toInt = 11 from rfl); have n12 := lv_neT h12 (show (12 : Int32).toInt = 12 from rfl); omega) (by decide) ?_
                              refine lv_iconst (v := (-1)) hx hb dX8_of_252 (by decide) ?_
                              exact zr_i hx hb hr hlk hW (zo1 hf) (zo2 hf) dX8_of_253
set_option maxHeartbeats 4000000 in
set_option maxRecDepth 100000 in
theorem mX8_field {l : Launch} {D : va_G} {cI cJ : ClassId} {adr : Nat → Nat} (p1 : Int32) (p2 : Int32) (s0 : zkS) {z : Nat} {ro : Int32} (hI : zInj 1 adr) (hf : fX8_field p1 p2 s0 = some ro) : Met l yX8_field (Cond.code yX8_field cX8_field 3 (some .int) :: zTb) { frames := 3, cells := 0, slots := 0, locals := 68 } (zPre 1 D cI cJ adr s0 z [.ref (adr 0), .int p1, .int p2]) (zQi 1 D cI cJ adr z ro s0) 0 0 (zA 1 adr z) := by
  refine zen (cc := cX8_field) (own := RX8) (by decide +kernel) rfl hI (Nat.le_of_ble_eq_true rfl) (fun p e s m args below meth c ls hC hr hlk hz hl hW => ?_)
  subst hz
  obtain ⟨hx, hb, -⟩ := id hC
  have hl : lv_has ls 3 [(0, .ref (adr 0)), (1, .int p1), (2, .int p2)] := hl
  refine zst hW (fun H locs hW => ?_)
  unfold fX8_field at hf
  refine lv_aload_n hx hb dX8_field_0 rfl (lv_at hl 0 rfl) ?_
  refine lv_iload_n hx hb dX8_field_1 rfl (lv_at hl 1 rfl) ?_
  refine lv_iload_n hx hb dX8_field_2 rfl (lv_at hl 2 rfl) ?_
  obtain ⟨v1, hq, hf⟩ := zb1_o hf
  refine zc_i hW (zrun_v (As := [.int p1, .int p2]) (rest := []) hC hW (mX8_isField p1 p2 s0 hC.2.2.2.2.2.2.2 hq) cv_X8_96 zck_1_0 zcs_1_0 rfl ⟨⟨rfl, rfl⟩, Nat.le_of_ble_eq_true rfl, Nat.le_of_ble_eq_true rfl⟩ (zlv_size hl) rfl (Nat.le_of_ble_eq_true rfl) dX8_field_3 ⟨Nat.le_refl _, Nat.le_refl _⟩) (fun H locs hW => ?_)
  refine zi_if_eq (tgt := 27) hx hb dX8_field_6 (by decide) hf (fun hc hf => ?_) (fun hc hf => ?_)
  · skip
    refine lv_iconst (v := (-1)) hx hb dX8_field_27 (by decide) ?_
    exact zr_i hx hb hr hlk hW (Option.some.inj hf) rfl dX8_field_28
  · skip
    refine lv_aload_n hx hb dX8_field_9 rfl (lv_at hl 0 rfl) ?_
    refine zg_a (o := 0) hC hW fl_X8_11 zck_1_0 zcs_1_0 (show _ = 1 from rfl) dX8_field_10 ?_
    refine lv_sipush (v := 140) hx hb dX8_field_13 (by decide) ?_
    refine lv_bipush (v := 6) hx hb dX8_field_16 (by decide) ?_
    refine lv_iload_n hx hb dX8_field_18 rfl (lv_at hl 1 rfl) ?_
    refine lv_imul hx hb dX8_field_19 ?_
    refine lv_iadd hx hb dX8_field_20 ?_
    refine lv_iload_n hx hb dX8_field_21 rfl (lv_at hl 2 rfl) ?_
    refine lv_iadd hx hb dX8_field_22 ?_
    refine za_l hC hW hf zar_1_1 dX8_field_23 (fun v2 hf => ?_)
    refine lv_goto (tgt := 28) hx hb dX8_field_24 (by decide) ?_
    exact zr_i hx hb hr hlk hW (Option.some.inj hf) rfl dX8_field_28
set_option maxHeartbeats 4000000 in
set_option maxRecDepth 100000 in
theorem mX8_turnedNow {l : Launch} {D : va_G} {cI cJ : ClassId} {adr : Nat → Nat} {w1 : Nat} (k1 : zM w1) (s0 : zkS) {z : Nat} {ro : Int32} (hI : zInj 1 adr) (hf : fX8_turnedNow w1 s0 = some ro) : Met l yX8_turnedNow (Cond.code yX8_turnedNow cX8_turnedNow 1 (some .int) :: zTb) { frames := 1, cells := 0, slots := 0, locals := 13 } (zPre 1 D cI cJ adr s0 z [.ref (adr w1)]) (zQi 1 D cI cJ adr z ro s0) 0 0 (zA 1 adr z) := by
  refine zen (cc := cX8_turnedNow) (own := RX8) (by decide +kernel) rfl hI (Nat.le_of_ble_eq_true rfl) (fun p e s m args below meth c ls hC hr hlk hz hl hW => ?_)
  subst hz
  obtain ⟨hx, hb, -⟩ := id hC
  have hl : lv_has ls 1 [(0, .ref (adr w1))] := hl
  refine zst hW (fun H locs hW => ?_)
  unfold fX8_turnedNow at hf
  refine lv_aload_n hx hb dX8_turnedNow_0 rfl (lv_at hl 0 rfl) ?_
  refine lv_iconst (v := 2) hx hb dX8_turnedNow_1 (by decide) ?_
  refine za_l hC hW hf (zM_a k1) dX8_turnedNow_2 (fun v1 hf => ?_)
  refine zi_if_ne (tgt := 10) hx hb dX8_turnedNow_3 (by decide) hf (fun hc hf => ?_) (fun hc hf => ?_)
  · skip
    refine lv_iconst (v := 0) hx hb dX8_turnedNow_6 (by decide) ?_
    refine lv_goto (tgt := 22) hx hb dX8_turnedNow_7 (by decide) ?_
    exact zr_i hx hb hr hlk hW (Option.some.inj hf) rfl dX8_turnedNow_22
  · skip
    refine lv_iconst (v := 0) hx hb dX8_turnedNow_10 (by decide) ?_
    refine lv_aload_n hx hb dX8_turnedNow_11 rfl (lv_at hl 0 rfl) ?_
    refine lv_bipush (v := 6) hx hb dX8_turnedNow_12 (by decide) ?_
    refine za_l hC hW hf (zM_a k1) dX8_turnedNow_14 (fun v2 hf => ?_)
    refine lv_aload_n hx hb dX8_turnedNow_15 rfl (lv_at hl 0 rfl) ?_
    refine lv_iconst (v := 3) hx hb dX8_turnedNow_16 (by decide) ?_
    refine za_l hC hW hf (zM_a k1) dX8_turnedNow_17 (fun v3 hf => ?_)
    refine lv_isub hx hb dX8_turnedNow_18 ?_
    refine zn_i hf (fun v4 hf => ?_)
    refine va_mmax hx hb (hC.2.2.1.trans (zlv_size hl).symm) hC.2.2.2.1 (hC.2.2.2.2.1 _ wq_1063) (hC.2.2.2.2.1 _ wq_603) (hC.2.2.2.2.1 _ wq_50) (hC.2.2.2.2.1 _ wq_604) (Nat.le_of_ble_eq_true rfl) (Nat.le_of_ble_eq_true rfl) (Nat.le_refl _) (Nat.le_refl _) dX8_turnedNow_19 ?_
    exact zr_i hx hb hr hlk hW (Option.some.inj hf) rfl dX8_turnedNow_22
set_option maxHeartbeats 4000000 in
set_option maxRecDepth 100000 in
theorem mX8_back {l : Launch} {D : va_G} {cI cJ : ClassId} {adr : Nat → Nat} {w1 : Nat} (k1 : zM w1) (s0 : zkS) {z : Nat} {ro : Int32} (hI : zInj 1 adr) (hf : fX8_back w1 s0 = some ro) : Met l yX8_back (Cond.code yX8_back cX8_back 1 (some .int) :: zTb) { frames := 2, cells := 0, slots := 0, locals := 33 } (zPre 1 D cI cJ adr s0 z [.ref (adr w1)]) (zQi 1 D cI cJ adr z ro s0) 0 0 (zA 1 adr z) := by
  refine zen (cc := cX8_back) (own := RX8) (by decide +kernel) rfl hI (Nat.le_of_ble_eq_true rfl) (fun p e s m args below meth c ls hC hr hlk hz hl hW => ?_)
  subst hz
  obtain ⟨hx, hb, -⟩ := id hC
  have hl : lv_has ls 1 [(0, .ref (adr w1))] := hl
  refine zst hW (fun H locs hW => ?_)
  unfold fX8_back at hf
  refine lv_aload_n hx hb dX8_back_0 rfl (lv_at hl 0 rfl) ?_
  obtain ⟨v1, hq, hf⟩ := zb1_o hf
  refine zc_i hW (zrun_s (As := [.ref (adr w1)]) (rest := []) hC hW (mX8_turnedNow k1 s0 hC.2.2.2.2.2.2.2 hq) cs_X8_129 rfl ⟨⟨rfl, rfl⟩, Nat.le_of_ble_eq_true rfl, Nat.le_of_ble_eq_true rfl⟩ (zlv_size hl) rfl (Nat.le_of_ble_eq_true rfl) dX8_back_1 ⟨Nat.le_refl _, Nat.le_refl _⟩) (fun H locs hW => ?_)
  refine zi_if_ne (tgt := 12) hx hb dX8_back_4 (by decide) hf (fun hc hf => ?_) (fun hc hf => ?_)
  · skip
    refine lv_bipush (v := (-5)) hx hb dX8_back_7 (by decide) ?_
    refine lv_goto (tgt := 23) hx hb dX8_back_9 (by decide) ?_
    exact zr_i hx hb hr hlk hW (Option.some.inj hf) rfl dX8_back_23
  · skip
    refine lv_aload_n hx hb dX8_back_12 rfl (lv_at hl 0 rfl) ?_
    refine lv_bipush (v := 116) hx hb dX8_back_13 (by decide) ?_
    refine lv_aload_n hx hb dX8_back_15 rfl (lv_at hl 0 rfl) ?_
    refine lv_bipush (v := 6) hx hb dX8_back_16 (by decide) ?_
    refine za_l hC hW hf (zM_a k1) dX8_back_18 (fun v2 hf => ?_)
    refine lv_iadd hx hb dX8_back_19 ?_
    refine lv_iconst (v := 1) hx hb dX8_back_20 (by decide) ?_
    refine lv_isub hx hb dX8_back_21 ?_
    refine za_l hC hW hf (zM_a k1) dX8_back_22 (fun v3 hf => ?_)
    exact zr_i hx hb hr hlk hW (Option.some.inj hf) rfl dX8_back_23
