set_option maxHeartbeats 4000000 in
set_option maxRecDepth 100000 in
theorem mX2_setOut {l : Launch} {D : va_G} {cI cJ : ClassId} {adr : Nat → Nat} {b : Nat} {o1 : Nat} (kb : zK b) (k1 : zG o1) (s0 : zkS) {z : Nat} {so : zkS} (hI : zInj 0 adr) (hf : fX2_setOut b o1 s0 = some so) : Met l yX2_setOut (Cond.code yX2_setOut cX2_setOut 3 none :: zTb) { frames := 3, cells := 0, slots := 0, locals := 63 } (zPre 0 D cI cJ adr s0 z [.ref (adr b), .ref (adr o1)]) (zQv 0 D cI cJ adr z so) 0 0 (zA 0 adr z) := by
  refine zen (cc := cX2_setOut) (own := RX2) (by decide +kernel) rfl hI (Nat.le_of_ble_eq_true rfl) (fun p e s m args below meth c ls hC hr hlk hz hl hW => ?_)
  subst hz
  obtain ⟨hx, hb, -⟩ := id hC
  have hl : lv_has ls 3 [(0, .ref (adr b)), (1, .ref (adr o1))] := hl
  refine zst hW (fun H locs hW => ?_)
  unfold fX2_setOut at hf
  refine lv_aload_n hx hb dX2_setOut_0 rfl (lv_at hl 0 rfl) ?_
  refine zg_i hC hW fl_X2_37 (zK_k kb) (zK_s kb) dX2_setOut_1 ?_
  refine lv_iconst (v := 4) hx hb dX2_setOut_4 (by decide) ?_
  refine zi_icmp_ge (tgt := 57) hx hb dX2_setOut_5 (by decide) hf (fun hc hf => ?_) (fun hc hf => ?_)
  · skip
    refine lv_aload_n hx hb dX2_setOut_57 rfl (lv_at hl 0 rfl) ?_
    refine zg_i hC hW fl_X2_22 (zK_k kb) (zK_s kb) dX2_setOut_58 ?_
    refine zi_if_eq (tgt := 105) hx hb dX2_setOut_61 (by decide) hf (fun hc hf => ?_) (fun hc hf => ?_)
    · skip
      refine lv_aload_n hx hb dX2_setOut_105 rfl (lv_at hl 0 rfl) ?_
      refine lv_iconst (v := 0) hx hb dX2_setOut_106 (by decide) ?_
      refine zp_y hC hW hf (by decide) fp_X2_9 (zK_k kb) (zK_s kb) dX2_setOut_107 (fun s1 H locs hf hW => ?_)
      refine lv_aload_n hx hb dX2_setOut_110 rfl (lv_at hl 0 rfl) ?_
      refine lv_iconst (v := 1) hx hb dX2_setOut_111 (by decide) ?_
      refine zp_y hC hW hf (by decide) fp_X2_15 (zK_k kb) (zK_s kb) dX2_setOut_112 (fun s2 H locs hf hW => ?_)
      exact zr_v hx hb hr hlk hW (Option.some.inj hf) dX2_setOut_115
    · skip
      refine lv_aload_n hx hb dX2_setOut_64 rfl (lv_at hl 0 rfl) ?_
      refine lv_aload_n hx hb dX2_setOut_65 rfl (lv_at hl 0 rfl) ?_
      refine zg_i hC hW fl_X2_22 (zK_k kb) (zK_s kb) dX2_setOut_66 ?_
      refine zc_i hW (zrun_n (As := [.int (s0.1 b 3)]) (rest := [.ref (adr b)]) hC hW (mX7_firstOf (s0.1 b 3) s0 hC.2.2.2.2.2.2.2 rfl) cn_X2_95 rfl ⟨⟨rfl, rfl⟩, Nat.le_of_ble_eq_true rfl, Nat.le_of_ble_eq_true rfl⟩ (zlv_size hl) rfl (Nat.le_of_ble_eq_true rfl) dX2_setOut_69 ⟨Nat.le_refl _, Nat.le_refl _⟩) (fun H locs hW => ?_)
      refine zp_i hC hW hf fp_X2_25 (zK_k kb) (zK_s kb) dX2_setOut_72 (fun s4 H locs hf hW => ?_)
      refine lv_aload_n hx hb dX2_setOut_75 rfl (lv_at hl 0 rfl) ?_
      refine lv_dup hx hb dX2_setOut_76 rfl ?_
      refine zg_i hC hW fl_X2_22 (zK_k kb) (zK_s kb) dX2_setOut_77 ?_
      refine lv_aload_n hx hb dX2_setOut_80 rfl (lv_at hl 0 rfl) ?_
      refine zg_i hC hW fl_X2_25 (zK_k kb) (zK_s kb) dX2_setOut_81 ?_
      refine zc_i hW (zrun_n (As := [.int (s4.1 b 4)]) (rest := [.int (s4.1 b 3), .ref (adr b)]) hC hW (mX7_bit (s4.1 b 4) s4 hC.2.2.2.2.2.2.2 rfl) cn_X2_98 rfl ⟨⟨rfl, rfl⟩, Nat.le_of_ble_eq_true rfl, Nat.le_of_ble_eq_true rfl⟩ (zlv_size hl) rfl (Nat.le_of_ble_eq_true rfl) dX2_setOut_84 ⟨Nat.le_refl _, Nat.le_refl _⟩) (fun H locs hW => ?_)
      refine lv_iconst (v := (-1)) hx hb dX2_setOut_87 (by decide) ?_
      refine lv_ixor hx hb dX2_setOut_88 ?_
      refine lv_iand hx hb dX2_setOut_89 ?_
      refine zp_i hC hW hf fp_X2_22 (zK_k kb) (zK_s kb) dX2_setOut_90 (fun s6 H locs hf hW => ?_)
      refine lv_aload_n hx hb dX2_setOut_93 rfl (lv_at hl 0 rfl) ?_
      refine lv_aload_n hx hb dX2_setOut_94 rfl (lv_at hl 0 rfl) ?_
      refine zg_i hC hW fl_X2_25 (zK_k kb) (zK_s kb) dX2_setOut_95 ?_
      refine lv_iconst (v := 0) hx hb dX2_setOut_98 (by decide) ?_
      obtain ⟨s7, hq, hf⟩ := zb1_o hf
      refine zc_v hW (zrun_v (As := [.int (s6.1 b 4), .int 0]) (rest := []) hC hW (mX2_putCount kb (s6.1 b 4) 0 s6 hC.2.2.2.2.2.2.2 hq) cv_X2_101 (zK_k kb) (zK_s kb) rfl ⟨⟨rfl, rfl⟩, Nat.le_of_ble_eq_true rfl, Nat.le_of_ble_eq_true rfl⟩ (zlv_size hl) rfl (Nat.le_of_ble_eq_true rfl) dX2_setOut_99 ⟨Nat.le_refl _, Nat.le_refl _⟩) (fun H locs hW => ?_)
      refine lv_goto (tgt := 115) hx hb dX2_setOut_102 (by decide) ?_
      exact zr_v hx hb hr hlk hW (Option.some.inj hf) dX2_setOut_115
  · skip
    refine lv_aload_n hx hb dX2_setOut_8 rfl (lv_at hl 1 rfl) ?_
    refine lv_aload_n hx hb dX2_setOut_9 rfl (lv_at hl 0 rfl) ?_
    refine zg_i hC hW fl_X2_37 (zK_k kb) (zK_s kb) dX2_setOut_10 ?_
    obtain ⟨v8, hq, hf⟩ := zb1_o hf
    refine zc_i hW (zrun_v (As := [.int (s0.1 b 8)]) (rest := []) hC hW (mX0_heldByRoot k1 (s0.1 b 8) s0 hC.2.2.2.2.2.2.2 hq) cv_X2_84 (zG_k k1) (zG_s k1) rfl ⟨⟨rfl, rfl⟩, Nat.le_of_ble_eq_true rfl, Nat.le_of_ble_eq_true rfl⟩ (zlv_size hl) rfl (Nat.le_of_ble_eq_true rfl) dX2_setOut_13 ⟨Nat.le_refl _, Nat.le_refl _⟩) (fun H locs hW => ?_)
    refine lv_istore_n (lv' := [(2, .int v8), (0, .ref (adr b)), (1, .ref (adr o1))]) hx hb dX2_setOut_16 rfl hl (by decide) rfl (fun ls hl => ?_)
    refine lv_iload_n hx hb dX2_setOut_17 rfl (lv_at hl 0 rfl) ?_
    refine lv_bipush (v := (-5)) hx hb dX2_setOut_18 (by decide) ?_
    refine zi_icmp_eq (tgt := 44) hx hb dX2_setOut_20 (by decide) hf (fun hc hf => ?_) (fun hc hf => ?_)
    · skip
      refine lv_aload_n hx hb dX2_setOut_44 rfl (lv_at hl 1 rfl) ?_
      refine lv_dup hx hb dX2_setOut_45 rfl ?_
      refine zg_i hC hW fl_X2_37 (zK_k kb) (zK_s kb) dX2_setOut_46 ?_
      refine lv_iconst (v := 1) hx hb dX2_setOut_49 (by decide) ?_
      refine lv_iadd hx hb dX2_setOut_50 ?_
      refine zp_i hC hW hf fp_X2_37 (zK_k kb) (zK_s kb) dX2_setOut_51 (fun s9 H locs hf hW => ?_)
      refine lv_goto (tgt := 115) hx hb dX2_setOut_54 (by decide) ?_
      exact zr_v hx hb hr hlk hW (Option.some.inj hf) dX2_setOut_115
    · skip
      refine lv_aload_n hx hb dX2_setOut_23 rfl (lv_at hl 1 rfl) ?_
      refine zg_i hC hW fl_X2_18 (zK_k kb) (zK_s kb) dX2_setOut_24 ?_
      refine lv_iload_n hx hb dX2_setOut_27 rfl (lv_at hl 0 rfl) ?_
      refine zc_i hW (zrun_n (As := [.int (s0.1 b 2), .int v8]) (rest := []) hC hW (mX7_has (s0.1 b 2) v8 s0 hC.2.2.2.2.2.2.2 rfl) cn_X2_87 rfl ⟨⟨rfl, rfl⟩, Nat.le_of_ble_eq_true rfl, Nat.le_of_ble_eq_true rfl⟩ (zlv_size hl) rfl (Nat.le_of_ble_eq_true rfl) dX2_setOut_28 ⟨Nat.le_refl _, Nat.le_refl _⟩) (fun H locs hW => ?_)
      refine zi_if_ne (tgt := 44) hx hb dX2_setOut_31 (by decide) hf (fun hc hf => ?_) (fun hc hf => ?_)
      · skip
        refine lv_aload_n hx hb dX2_setOut_34 rfl (lv_at hl 1 rfl) ?_
        refine lv_iload_n hx hb dX2_setOut_35 rfl (lv_at hl 0 rfl) ?_
        obtain ⟨s11, hq, hf⟩ := zb1_o hf
        refine zc_v hW (zrun_v (As := [.int v8]) (rest := []) hC hW (mX2_mark kb v8 s0 hC.2.2.2.2.2.2.2 hq) cv_X2_91 (zK_k kb) (zK_s kb) rfl ⟨⟨rfl, rfl⟩, Nat.le_of_ble_eq_true rfl, Nat.le_of_ble_eq_true rfl⟩ (zlv_size hl) rfl (Nat.le_of_ble_eq_true rfl) dX2_setOut_36 ⟨Nat.le_refl _, Nat.le_refl _⟩) (fun H locs hW => ?_)
        refine lv_aload_n hx hb dX2_setOut_39 rfl (lv_at hl 1 rfl) ?_
        refine lv_iload_n hx hb dX2_setOut_40 rfl (lv_at hl 0 rfl) ?_
        refine zp_i hC hW hf fp_X2_25 (zK_k kb) (zK_s kb) dX2_setOut_41 (fun s12 H locs hf hW => ?_)
        refine lv_aload_n hx hb dX2_setOut_44 rfl (lv_at hl 1 rfl) ?_
        refine lv_dup hx hb dX2_setOut_45 rfl ?_
        refine zg_i hC hW fl_X2_37 (zK_k kb) (zK_s kb) dX2_setOut_46 ?_
        refine lv_iconst (v := 1) hx hb dX2_setOut_49 (by decide) ?_
        refine lv_iadd hx hb dX2_setOut_50 ?_
        refine zp_i hC hW hf fp_X2_37 (zK_k kb) (zK_s kb) dX2_setOut_51 (fun s13 H locs hf hW => ?_)
        refine lv_goto (tgt := 115) hx hb dX2_setOut_54 (by decide) ?_
        exact zr_v hx hb hr hlk hW (Option.some.inj hf) dX2_setOut_115
      · skip
        refine lv_aload_n hx hb dX2_setOut_44 rfl (lv_at hl 1 rfl) ?_
        refine lv_dup hx hb dX2_setOut_45 rfl ?_
        refine zg_i hC hW fl_X2_37 (zK_k kb) (zK_s kb) dX2_setOut_46 ?_
        refine lv_iconst (v := 1) hx hb dX2_setOut_49 (by decide) ?_
        refine lv_iadd hx hb dX2_setOut_50 ?_
        refine zp_i hC hW hf fp_X2_37 (zK_k kb) (zK_s kb) dX2_setOut_51 (fun s14 H locs hf hW => ?_)
        refine lv_goto (tgt := 115) hx hb dX2_setOut_54 (by decide) ?_
        exact zr_v hx hb hr hlk hW (Option.some.inj hf) dX2_setOut_115
set_option maxHeartbeats 4000000 in
set_option maxRecDepth 100000 in
theorem mX2_goDown {l : Launch} {D : va_G} {cI cJ : ClassId} {adr : Nat → Nat} {b : Nat} (kb : zK b) (p1 : Int32) (s0 : zkS) {z : Nat} {so : zkS} (hI : zInj 0 adr) (hf : fX2_goDown b p1 s0 = some so) : Met l yX2_goDown (Cond.code yX2_goDown cX2_goDown 2 none :: zTb) { frames := 1, cells := 0, slots := 0, locals := 14 } (zPre 0 D cI cJ adr s0 z [.ref (adr b), .int p1]) (zQv 0 D cI cJ adr z so) 0 0 (zA 0 adr z) := by
  refine zen (cc := cX2_goDown) (own := RX2) (by decide +kernel) rfl hI (Nat.le_of_ble_eq_true rfl) (fun p e s m args below meth c ls hC hr hlk hz hl hW => ?_)
  subst hz
  obtain ⟨hx, hb, -⟩ := id hC
  have hl : lv_has ls 2 [(0, .ref (adr b)), (1, .int p1)] := hl
  refine zst hW (fun H locs hW => ?_)
  unfold fX2_goDown at hf
  refine lv_aload_n hx hb dX2_goDown_0 rfl (lv_at hl 0 rfl) ?_
  refine zg_i hC hW fl_X2_28 (zK_k kb) (zK_s kb) dX2_goDown_1 ?_
  refine zjn_e hf (fun J1 => ∀ (s2 : zkS) (H : Heap) (locs : List Loc) (ls : Array Slot), J1 s2 = some so → zWo 0 D cI cJ adr s s2 H locs → lv_has ls 2 [(0, .ref (adr b)), (1, .int p1)] → W p l e { frames := 1, cells := 0, slots := 0, locals := 14 } s m args below meth c H locs 0 0 (MQ below (zQv 0 D cI cJ adr s.heap.size so) args s 0 0 (zA 0 adr s.heap.size)) (F0 m 39 ls [])) ?_ (fun J1 hJ1 hf => ?_)
  · intro s2 H locs ls hf hW hl
    refine lv_aload_n hx hb dX2_goDown_39 rfl (lv_at hl 0 rfl) ?_
    refine lv_aload_n hx hb dX2_goDown_40 rfl (lv_at hl 0 rfl) ?_
    refine zg_i hC hW fl_X2_49 (zK_k kb) (zK_s kb) dX2_goDown_41 ?_
    refine lv_aload_n hx hb dX2_goDown_44 rfl (lv_at hl 0 rfl) ?_
    refine zg_i hC hW fl_X2_28 (zK_k kb) (zK_s kb) dX2_goDown_45 ?_
    refine va_mmax hx hb (hC.2.2.1.trans (zlv_size hl).symm) hC.2.2.2.1 (hC.2.2.2.2.1 _ wq_602) (hC.2.2.2.2.1 _ wq_603) (hC.2.2.2.2.1 _ wq_50) (hC.2.2.2.2.1 _ wq_604) (Nat.le_of_ble_eq_true rfl) (Nat.le_of_ble_eq_true rfl) (Nat.le_refl _) (Nat.le_refl _) dX2_goDown_48 ?_
    refine zp_i hC hW hf fp_X2_49 (zK_k kb) (zK_s kb) dX2_goDown_51 (fun s3 H locs hf hW => ?_)
    refine lv_aload_n hx hb dX2_goDown_54 rfl (lv_at hl 0 rfl) ?_
    refine lv_iload_n hx hb dX2_goDown_55 rfl (lv_at hl 1 rfl) ?_
    refine zp_i hC hW hf fp_X2_25 (zK_k kb) (zK_s kb) dX2_goDown_56 (fun s4 H locs hf hW => ?_)
    exact zr_v hx hb hr hlk hW (Option.some.inj hf) dX2_goDown_59
  refine zi_if_lt (tgt := 39) hx hb dX2_goDown_4 (by decide) hf (fun hc hf => ?_) (fun hc hf => ?_)
  · skip
    exact hJ1 s0 H locs ls hf hW (lv_sub hl [0, 1] rfl)
  · skip
    refine lv_aload_n hx hb dX2_goDown_7 rfl (lv_at hl 0 rfl) ?_
    refine zg_i hC hW fl_X2_28 (zK_k kb) (zK_s kb) dX2_goDown_8 ?_
    refine lv_bipush (v := 24) hx hb dX2_goDown_11 (by decide) ?_
    refine zi_icmp_ge (tgt := 39) hx hb dX2_goDown_13 (by decide) hf (fun hc hf => ?_) (fun hc hf => ?_)
    · skip
      exact hJ1 s0 H locs ls hf hW (lv_sub hl [0, 1] rfl)
    · skip
      refine lv_aload_n hx hb dX2_goDown_16 rfl (lv_at hl 0 rfl) ?_
      refine zg_a (o := 0) hC hW fl_X2_52 (zK_k kb) (zK_s kb) (show _ = (b + 1) from rfl) dX2_goDown_17 ?_
      refine lv_aload_n hx hb dX2_goDown_20 rfl (lv_at hl 0 rfl) ?_
      refine zg_i hC hW fl_X2_28 (zK_k kb) (zK_s kb) dX2_goDown_21 ?_
      refine lv_aload_n hx hb dX2_goDown_24 rfl (lv_at hl 0 rfl) ?_
      refine zg_i hC hW fl_X2_25 (zK_k kb) (zK_s kb) dX2_goDown_25 ?_
      refine za_s hC hW hf (zK_1 kb) dX2_goDown_28 (fun s5 H locs hf hW => ?_)
      refine lv_aload_n hx hb dX2_goDown_29 rfl (lv_at hl 0 rfl) ?_
      refine lv_dup hx hb dX2_goDown_30 rfl ?_
      refine zg_i hC hW fl_X2_28 (zK_k kb) (zK_s kb) dX2_goDown_31 ?_
      refine lv_iconst (v := 1) hx hb dX2_goDown_34 (by decide) ?_
      refine lv_iadd hx hb dX2_goDown_35 ?_
      refine zp_i hC hW hf fp_X2_28 (zK_k kb) (zK_s kb) dX2_goDown_36 (fun s6 H locs hf hW => ?_)
      exact hJ1 s6 H locs ls hf hW (lv_sub hl [0, 1] rfl)
set_option maxHeartbeats 4000000 in
set_option maxRecDepth 100000 in
theorem mX2_goOn {l : Launch} {D : va_G} {cI cJ : ClassId} {adr : Nat → Nat} {b : Nat} {o1 : Nat} (kb : zK b) (k1 : zG o1) (s0 : zkS) {z : Nat} {so : zkS} (hI : zInj 0 adr) (hf : fX2_goOn b o1 s0 = some so) : Met l yX2_goOn (Cond.code yX2_goOn cX2_goOn 3 none :: zTb) { frames := 3, cells := 0, slots := 0, locals := 63 } (zPre 0 D cI cJ adr s0 z [.ref (adr b), .ref (adr o1)]) (zQv 0 D cI cJ adr z so) 0 0 (zA 0 adr z) := by
  refine zen (cc := cX2_goOn) (own := RX2) (by decide +kernel) rfl hI (Nat.le_of_ble_eq_true rfl) (fun p e s m args below meth c ls hC hr hlk hz hl hW => ?_)
  subst hz
  obtain ⟨hx, hb, -⟩ := id hC
  have hl : lv_has ls 3 [(0, .ref (adr b)), (1, .ref (adr o1))] := hl
  refine zst hW (fun H locs hW => ?_)
  unfold fX2_goOn at hf
  refine lv_aload_n hx hb dX2_goOn_0 rfl (lv_at hl 1 rfl) ?_
  refine lv_aload_n hx hb dX2_goOn_1 rfl (lv_at hl 0 rfl) ?_
  refine zg_i hC hW fl_X2_25 (zK_k kb) (zK_s kb) dX2_goOn_2 ?_
  refine lv_aload_n hx hb dX2_goOn_5 rfl (lv_at hl 0 rfl) ?_
  refine lv_aload_n hx hb dX2_goOn_6 rfl (lv_at hl 0 rfl) ?_
  refine zg_i hC hW fl_X2_25 (zK_k kb) (zK_s kb) dX2_goOn_7 ?_
  obtain ⟨v1, hq, hf⟩ := zb1_o hf
  refine zc_i hW (zrun_v (As := [.int (s0.1 b 4)]) (rest := [.int (s0.1 b 4), .ref (adr o1)]) hC hW (mX2_countOf kb (s0.1 b 4) s0 hC.2.2.2.2.2.2.2 hq) cv_X2_69 (zK_k kb) (zK_s kb) rfl ⟨⟨rfl, rfl⟩, Nat.le_of_ble_eq_true rfl, Nat.le_of_ble_eq_true rfl⟩ (zlv_size hl) rfl (Nat.le_of_ble_eq_true rfl) dX2_goOn_10 ⟨Nat.le_refl _, Nat.le_refl _⟩) (fun H locs hW => ?_)
  obtain ⟨v2, hq, hf⟩ := zb1_o hf
  refine zc_i hW (zrun_v (As := [.int (s0.1 b 4), .int v1]) (rest := []) hC hW (mX0_leadsTo k1 (s0.1 b 4) v1 s0 hC.2.2.2.2.2.2.2 hq) cv_X2_105 (zG_k k1) (zG_s k1) rfl ⟨⟨rfl, rfl⟩, Nat.le_of_ble_eq_true rfl, Nat.le_of_ble_eq_true rfl⟩ (zlv_size hl) rfl (Nat.le_of_ble_eq_true rfl) dX2_goOn_13 ⟨Nat.le_refl _, Nat.le_refl _⟩) (fun H locs hW => ?_)
  refine lv_istore_n (lv' := [(2, .int v2), (0, .ref (adr b)), (1, .ref (adr o1))]) hx hb dX2_goOn_16 rfl hl (by decide) rfl (fun ls hl => ?_)
  refine lv_iload_n hx hb dX2_goOn_17 rfl (lv_at hl 0 rfl) ?_
  refine lv_bipush (v := (-5)) hx hb dX2_goOn_18 (by decide) ?_
  refine zjn_e hf (fun J3 => ∀ (u4 : Unit) (H : Heap) (locs : List Loc) (ls : Array Slot), J3 u4 = some so → zWo 0 D cI cJ adr s s0 H locs → lv_has ls 3 [(0, .ref (adr b))] → W p l e { frames := 3, cells := 0, slots := 0, locals := 63 } s m args below meth c H locs 0 0 (MQ below (zQv 0 D cI cJ adr s.heap.size so) args s 0 0 (zA 0 adr s.heap.size)) (F0 m 34 ls [])) ?_ (fun J3 hJ3 hf => ?_)
  · intro u4 H locs ls hf hW hl
    refine lv_aload_n hx hb dX2_goOn_34 rfl (lv_at hl 0 rfl) ?_
    refine lv_aload_n hx hb dX2_goOn_35 rfl (lv_at hl 0 rfl) ?_
    refine zg_i hC hW fl_X2_25 (zK_k kb) (zK_s kb) dX2_goOn_36 ?_
    refine lv_aload_n hx hb dX2_goOn_39 rfl (lv_at hl 0 rfl) ?_
    refine lv_aload_n hx hb dX2_goOn_40 rfl (lv_at hl 0 rfl) ?_
    refine zg_i hC hW fl_X2_25 (zK_k kb) (zK_s kb) dX2_goOn_41 ?_
    obtain ⟨v5, hq, hf⟩ := zb1_o hf
    refine zc_i hW (zrun_v (As := [.int (s0.1 b 4)]) (rest := [.int (s0.1 b 4), .ref (adr b)]) hC hW (mX2_countOf kb (s0.1 b 4) s0 hC.2.2.2.2.2.2.2 hq) cv_X2_69 (zK_k kb) (zK_s kb) rfl ⟨⟨rfl, rfl⟩, Nat.le_of_ble_eq_true rfl, Nat.le_of_ble_eq_true rfl⟩ (zlv_size hl) rfl (Nat.le_of_ble_eq_true rfl) dX2_goOn_44 ⟨Nat.le_refl _, Nat.le_refl _⟩) (fun H locs hW => ?_)
    refine lv_iconst (v := 1) hx hb dX2_goOn_47 (by decide) ?_
    refine lv_iadd hx hb dX2_goOn_48 ?_
    obtain ⟨s6, hq, hf⟩ := zb1_o hf
    refine zc_v hW (zrun_v (As := [.int (s0.1 b 4), .int (v5 + 1)]) (rest := []) hC hW (mX2_putCount kb (s0.1 b 4) (v5 + 1) s0 hC.2.2.2.2.2.2.2 hq) cv_X2_101 (zK_k kb) (zK_s kb) rfl ⟨⟨rfl, rfl⟩, Nat.le_of_ble_eq_true rfl, Nat.le_of_ble_eq_true rfl⟩ (zlv_size hl) rfl (Nat.le_of_ble_eq_true rfl) dX2_goOn_49 ⟨Nat.le_refl _, Nat.le_refl _⟩) (fun H locs hW => ?_)
    exact zr_v hx hb hr hlk hW (Option.some.inj hf) dX2_goOn_52
  refine zi_icmp_eq (tgt := 34) hx hb dX2_goOn_20 (by decide) hf (fun hc hf => ?_) (fun hc hf => ?_)
  · skip
    exact hJ3 () H locs ls hf hW (lv_sub hl [1] rfl)
  · skip
    refine lv_aload_n hx hb dX2_goOn_23 rfl (lv_at hl 1 rfl) ?_
    refine zg_i hC hW fl_X2_18 (zK_k kb) (zK_s kb) dX2_goOn_24 ?_
    refine lv_iload_n hx hb dX2_goOn_27 rfl (lv_at hl 0 rfl) ?_
    refine zc_i hW (zrun_n (As := [.int (s0.1 b 2), .int v2]) (rest := []) hC hW (mX7_has (s0.1 b 2) v2 s0 hC.2.2.2.2.2.2.2 rfl) cn_X2_87 rfl ⟨⟨rfl, rfl⟩, Nat.le_of_ble_eq_true rfl, Nat.le_of_ble_eq_true rfl⟩ (zlv_size hl) rfl (Nat.le_of_ble_eq_true rfl) dX2_goOn_28 ⟨Nat.le_refl _, Nat.le_refl _⟩) (fun H locs hW => ?_)
    refine zi_if_eq (tgt := 53) hx hb dX2_goOn_31 (by decide) hf (fun hc hf => ?_) (fun hc hf => ?_)
    · skip
      refine lv_aload_n hx hb dX2_goOn_53 rfl (lv_at hl 1 rfl) ?_
      refine lv_iload_n hx hb dX2_goOn_54 rfl (lv_at hl 0 rfl) ?_
      obtain ⟨s8, hq, hf⟩ := zb1_o hf
      refine zc_v hW (zrun_v (As := [.int v2]) (rest := []) hC hW (mX2_mark kb v2 s0 hC.2.2.2.2.2.2.2 hq) cv_X2_91 (zK_k kb) (zK_s kb) rfl ⟨⟨rfl, rfl⟩, Nat.le_of_ble_eq_true rfl, Nat.le_of_ble_eq_true rfl⟩ (zlv_size hl) rfl (Nat.le_of_ble_eq_true rfl) dX2_goOn_55 ⟨Nat.le_refl _, Nat.le_refl _⟩) (fun H locs hW => ?_)
      refine lv_aload_n hx hb dX2_goOn_58 rfl (lv_at hl 1 rfl) ?_
      refine zg_i hC hW fl_X2_28 (zK_k kb) (zK_s kb) dX2_goOn_59 ?_
      refine lv_aload_n hx hb dX2_goOn_62 rfl (lv_at hl 1 rfl) ?_
      refine zg_i hC hW fl_X2_34 (zK_k kb) (zK_s kb) dX2_goOn_63 ?_
      refine zi_icmp_ge (tgt := 87) hx hb dX2_goOn_66 (by decide) hf (fun hc hf => ?_) (fun hc hf => ?_)
      · skip
        refine lv_aload_n hx hb dX2_goOn_87 rfl (lv_at hl 2 rfl) ?_
        refine zg_i hC hW fl_X2_112 (zG_k k1) (zG_s k1) dX2_goOn_88 ?_
        refine lv_aload_n hx hb dX2_goOn_91 rfl (lv_at hl 1 rfl) ?_
        refine zg_i hC hW fl_X2_25 (zK_k kb) (zK_s kb) dX2_goOn_92 ?_
        refine zc_i hW (zrun_n (As := [.int (s8.1 o1 2), .int (s8.1 b 4)]) (rest := []) hC hW (mX7_has (s8.1 o1 2) (s8.1 b 4) s8 hC.2.2.2.2.2.2.2 rfl) cn_X2_87 rfl ⟨⟨rfl, rfl⟩, Nat.le_of_ble_eq_true rfl, Nat.le_of_ble_eq_true rfl⟩ (zlv_size hl) rfl (Nat.le_of_ble_eq_true rfl) dX2_goOn_95 ⟨Nat.le_refl _, Nat.le_refl _⟩) (fun H locs hW => ?_)
        refine zi_if_ne (tgt := 119) hx hb dX2_goOn_98 (by decide) hf (fun hc hf => ?_) (fun hc hf => ?_)
        · skip
          refine lv_aload_n hx hb dX2_goOn_101 rfl (lv_at hl 1 rfl) ?_
          refine lv_dup hx hb dX2_goOn_102 rfl ?_
          refine zg_i hC hW fl_X2_40 (zK_k kb) (zK_s kb) dX2_goOn_103 ?_
          refine lv_iconst (v := 1) hx hb dX2_goOn_106 (by decide) ?_
          refine lv_iadd hx hb dX2_goOn_107 ?_
          refine zp_i hC hW hf fp_X2_40 (zK_k kb) (zK_s kb) dX2_goOn_108 (fun s10 H locs hf hW => ?_)
          refine lv_aload_n hx hb dX2_goOn_111 rfl (lv_at hl 1 rfl) ?_
          refine lv_iload_n hx hb dX2_goOn_112 rfl (lv_at hl 0 rfl) ?_
          obtain ⟨s11, hq, hf⟩ := zb1_o hf
          refine zc_v hW (zrun_v (As := [.int v2]) (rest := []) hC hW (mX2_goDown kb v2 s10 hC.2.2.2.2.2.2.2 hq) cv_X2_109 (zK_k kb) (zK_s kb) rfl ⟨⟨rfl, rfl⟩, Nat.le_of_ble_eq_true rfl, Nat.le_of_ble_eq_true rfl⟩ (zlv_size hl) rfl (Nat.le_of_ble_eq_true rfl) dX2_goOn_113 ⟨Nat.le_refl _, Nat.le_refl _⟩) (fun H locs hW => ?_)
          refine lv_goto (tgt := 160) hx hb dX2_goOn_116 (by decide) ?_
          exact zr_v hx hb hr hlk hW (Option.some.inj hf) dX2_goOn_160
        · skip
          refine lv_aload_n hx hb dX2_goOn_119 rfl (lv_at hl 1 rfl) ?_
          refine lv_dup hx hb dX2_goOn_120 rfl ?_
          refine zg_i hC hW fl_X2_46 (zK_k kb) (zK_s kb) dX2_goOn_121 ?_
          refine lv_iconst (v := 1) hx hb dX2_goOn_124 (by decide) ?_
          refine lv_iadd hx hb dX2_goOn_125 ?_
          refine zp_i hC hW hf fp_X2_46 (zK_k kb) (zK_s kb) dX2_goOn_126 (fun s12 H locs hf hW => ?_)
          refine lv_aload_n hx hb dX2_goOn_129 rfl (lv_at hl 1 rfl) ?_
          refine lv_dup hx hb dX2_goOn_130 rfl ?_
          refine zg_i hC hW fl_X2_22 (zK_k kb) (zK_s kb) dX2_goOn_131 ?_
          refine lv_iload_n hx hb dX2_goOn_134 rfl (lv_at hl 0 rfl) ?_
          refine zc_i hW (zrun_n (As := [.int v2]) (rest := [.int (s12.1 b 3), .ref (adr b)]) hC hW (mX7_bit v2 s12 hC.2.2.2.2.2.2.2 rfl) cn_X2_98 rfl ⟨⟨rfl, rfl⟩, Nat.le_of_ble_eq_true rfl, Nat.le_of_ble_eq_true rfl⟩ (zlv_size hl) rfl (Nat.le_of_ble_eq_true rfl) dX2_goOn_135 ⟨Nat.le_refl _, Nat.le_refl _⟩) (fun H locs hW => ?_)
          refine lv_ior hx hb dX2_goOn_138 ?_
          refine zp_i hC hW hf fp_X2_22 (zK_k kb) (zK_s kb) dX2_goOn_139 (fun s14 H locs hf hW => ?_)
          refine lv_aload_n hx hb dX2_goOn_142 rfl (lv_at hl 1 rfl) ?_
          refine lv_aload_n hx hb dX2_goOn_143 rfl (lv_at hl 1 rfl) ?_
          refine zg_i hC hW fl_X2_25 (zK_k kb) (zK_s kb) dX2_goOn_144 ?_
          refine lv_aload_n hx hb dX2_goOn_147 rfl (lv_at hl 1 rfl) ?_
          refine lv_aload_n hx hb dX2_goOn_148 rfl (lv_at hl 1 rfl) ?_
          refine zg_i hC hW fl_X2_25 (zK_k kb) (zK_s kb) dX2_goOn_149 ?_
          obtain ⟨v15, hq, hf⟩ := zb1_o hf
          refine zc_i hW (zrun_v (As := [.int (s14.1 b 4)]) (rest := [.int (s14.1 b 4), .ref (adr b)]) hC hW (mX2_countOf kb (s14.1 b 4) s14 hC.2.2.2.2.2.2.2 hq) cv_X2_69 (zK_k kb) (zK_s kb) rfl ⟨⟨rfl, rfl⟩, Nat.le_of_ble_eq_true rfl, Nat.le_of_ble_eq_true rfl⟩ (zlv_size hl) rfl (Nat.le_of_ble_eq_true rfl) dX2_goOn_152 ⟨Nat.le_refl _, Nat.le_refl _⟩) (fun H locs hW => ?_)
          refine lv_iconst (v := 1) hx hb dX2_goOn_155 (by decide) ?_
          refine lv_iadd hx hb dX2_goOn_156 ?_
          obtain ⟨s16, hq, hf⟩ := zb1_o hf
          refine zc_v hW (zrun_v (As := [.int (s14.1 b 4), .int (v15 + 1)]) (rest := []) hC hW (mX2_putCount kb (s14.1 b 4) (v15 + 1) s14 hC.2.2.2.2.2.2.2 hq) cv_X2_101 (zK_k kb) (zK_s kb) rfl ⟨⟨rfl, rfl⟩, Nat.le_of_ble_eq_true rfl, Nat.le_of_ble_eq_true rfl⟩ (zlv_size hl) rfl (Nat.le_of_ble_eq_true rfl) dX2_goOn_157 ⟨Nat.le_refl _, Nat.le_refl _⟩) (fun H locs hW => ?_)
          exact zr_v hx hb hr hlk hW (Option.some.inj hf) dX2_goOn_160
      · skip
        refine lv_aload_n hx hb dX2_goOn_69 rfl (lv_at hl 1 rfl) ?_
        refine lv_dup hx hb dX2_goOn_70 rfl ?_
        refine zg_i hC hW fl_X2_43 (zK_k kb) (zK_s kb) dX2_goOn_71 ?_
        refine lv_iconst (v := 1) hx hb dX2_goOn_74 (by decide) ?_
        refine lv_iadd hx hb dX2_goOn_75 ?_
        refine zp_i hC hW hf fp_X2_43 (zK_k kb) (zK_s kb) dX2_goOn_76 (fun s17 H locs hf hW => ?_)
        refine lv_aload_n hx hb dX2_goOn_79 rfl (lv_at hl 1 rfl) ?_
        refine lv_iload_n hx hb dX2_goOn_80 rfl (lv_at hl 0 rfl) ?_
        obtain ⟨s18, hq, hf⟩ := zb1_o hf
        refine zc_v hW (zrun_v (As := [.int v2]) (rest := []) hC hW (mX2_goDown kb v2 s17 hC.2.2.2.2.2.2.2 hq) cv_X2_109 (zK_k kb) (zK_s kb) rfl ⟨⟨rfl, rfl⟩, Nat.le_of_ble_eq_true rfl, Nat.le_of_ble_eq_true rfl⟩ (zlv_size hl) rfl (Nat.le_of_ble_eq_true rfl) dX2_goOn_81 ⟨Nat.le_refl _, Nat.le_refl _⟩) (fun H locs hW => ?_)
        refine lv_goto (tgt := 160) hx hb dX2_goOn_84 (by decide) ?_
        exact zr_v hx hb hr hlk hW (Option.some.inj hf) dX2_goOn_160
    · skip
      exact hJ3 () H locs ls hf hW (lv_sub hl [1] rfl)
set_option maxHeartbeats 4000000 in
set_option maxRecDepth 100000 in
theorem mX2_comeUp {l : Launch} {D : va_G} {cI cJ : ClassId} {adr : Nat → Nat} {b : Nat} (kb : zK b) (s0 : zkS) {z : Nat} {so : zkS} (hI : zInj 0 adr) (hf : fX2_comeUp b s0 = some so) : Met l yX2_comeUp (Cond.code yX2_comeUp cX2_comeUp 1 none :: zTb) { frames := 2, cells := 0, slots := 0, locals := 42 } (zPre 0 D cI cJ adr s0 z [.ref (adr b)]) (zQv 0 D cI cJ adr z so) 0 0 (zA 0 adr z) := by
  refine zen (cc := cX2_comeUp) (own := RX2) (by decide +kernel) rfl hI (Nat.le_of_ble_eq_true rfl) (fun p e s m args below meth c ls hC hr hlk hz hl hW => ?_)
  subst hz
  obtain ⟨hx, hb, -⟩ := id hC
  have hl : lv_has ls 1 [(0, .ref (adr b))] := hl
  refine zst hW (fun H locs hW => ?_)
  unfold fX2_comeUp at hf
  refine lv_aload_n hx hb dX2_comeUp_0 rfl (lv_at hl 0 rfl) ?_
  refine zg_i hC hW fl_X2_28 (zK_k kb) (zK_s kb) dX2_comeUp_1 ?_
  refine zi_if_le (tgt := 60) hx hb dX2_comeUp_4 (by decide) hf (fun hc hf => ?_) (fun hc hf => ?_)
  · skip
    refine lv_aload_n hx hb dX2_comeUp_60 rfl (lv_at hl 0 rfl) ?_
    refine lv_bipush (v := (-5)) hx hb dX2_comeUp_61 (by decide) ?_
    refine zp_i hC hW hf fp_X2_25 (zK_k kb) (zK_s kb) dX2_comeUp_63 (fun s1 H locs hf hW => ?_)
    exact zr_v hx hb hr hlk hW (Option.some.inj hf) dX2_comeUp_66
  · skip
    refine lv_aload_n hx hb dX2_comeUp_7 rfl (lv_at hl 0 rfl) ?_
    refine zg_i hC hW fl_X2_28 (zK_k kb) (zK_s kb) dX2_comeUp_8 ?_
    refine lv_bipush (v := 24) hx hb dX2_comeUp_11 (by decide) ?_
    refine zi_icmp_gt (tgt := 60) hx hb dX2_comeUp_13 (by decide) hf (fun hc hf => ?_) (fun hc hf => ?_)
    · skip
      refine lv_aload_n hx hb dX2_comeUp_60 rfl (lv_at hl 0 rfl) ?_
      refine lv_bipush (v := (-5)) hx hb dX2_comeUp_61 (by decide) ?_
      refine zp_i hC hW hf fp_X2_25 (zK_k kb) (zK_s kb) dX2_comeUp_63 (fun s2 H locs hf hW => ?_)
      exact zr_v hx hb hr hlk hW (Option.some.inj hf) dX2_comeUp_66
    · skip
      refine lv_aload_n hx hb dX2_comeUp_16 rfl (lv_at hl 0 rfl) ?_
      refine lv_dup hx hb dX2_comeUp_17 rfl ?_
      refine zg_i hC hW fl_X2_28 (zK_k kb) (zK_s kb) dX2_comeUp_18 ?_
      refine lv_iconst (v := 1) hx hb dX2_comeUp_21 (by decide) ?_
      refine lv_isub hx hb dX2_comeUp_22 ?_
      refine zp_i hC hW hf fp_X2_28 (zK_k kb) (zK_s kb) dX2_comeUp_23 (fun s3 H locs hf hW => ?_)
      refine lv_aload_n hx hb dX2_comeUp_26 rfl (lv_at hl 0 rfl) ?_
      refine lv_aload_n hx hb dX2_comeUp_27 rfl (lv_at hl 0 rfl) ?_
      refine zg_a (o := 0) hC hW fl_X2_52 (zK_k kb) (zK_s kb) (show _ = (b + 1) from rfl) dX2_comeUp_28 ?_
      refine lv_aload_n hx hb dX2_comeUp_31 rfl (lv_at hl 0 rfl) ?_
      refine zg_i hC hW fl_X2_28 (zK_k kb) (zK_s kb) dX2_comeUp_32 ?_
      refine za_l hC hW hf (zK_1 kb) dX2_comeUp_35 (fun v4 hf => ?_)
      refine zp_i hC hW hf fp_X2_25 (zK_k kb) (zK_s kb) dX2_comeUp_36 (fun s5 H locs hf hW => ?_)
      refine lv_aload_n hx hb dX2_comeUp_39 rfl (lv_at hl 0 rfl) ?_
      refine lv_aload_n hx hb dX2_comeUp_40 rfl (lv_at hl 0 rfl) ?_
      refine zg_i hC hW fl_X2_25 (zK_k kb) (zK_s kb) dX2_comeUp_41 ?_
      refine lv_aload_n hx hb dX2_comeUp_44 rfl (lv_at hl 0 rfl) ?_
      refine lv_aload_n hx hb dX2_comeUp_45 rfl (lv_at hl 0 rfl) ?_
      refine zg_i hC hW fl_X2_25 (zK_k kb) (zK_s kb) dX2_comeUp_46 ?_
      obtain ⟨v6, hq, hf⟩ := zb1_o hf
      refine zc_i hW (zrun_v (As := [.int (s5.1 b 4)]) (rest := [.int (s5.1 b 4), .ref (adr b)]) hC hW (mX2_countOf kb (s5.1 b 4) s5 hC.2.2.2.2.2.2.2 hq) cv_X2_69 (zK_k kb) (zK_s kb) rfl ⟨⟨rfl, rfl⟩, Nat.le_of_ble_eq_true rfl, Nat.le_of_ble_eq_true rfl⟩ (zlv_size hl) rfl (Nat.le_of_ble_eq_true rfl) dX2_comeUp_49 ⟨Nat.le_refl _, Nat.le_refl _⟩) (fun H locs hW => ?_)
      refine lv_iconst (v := 1) hx hb dX2_comeUp_52 (by decide) ?_
      refine lv_iadd hx hb dX2_comeUp_53 ?_
      obtain ⟨s7, hq, hf⟩ := zb1_o hf
      refine zc_v hW (zrun_v (As := [.int (s5.1 b 4), .int (v6 + 1)]) (rest := []) hC hW (mX2_putCount kb (s5.1 b 4) (v6 + 1) s5 hC.2.2.2.2.2.2.2 hq) cv_X2_101 (zK_k kb) (zK_s kb) rfl ⟨⟨rfl, rfl⟩, Nat.le_of_ble_eq_true rfl, Nat.le_of_ble_eq_true rfl⟩ (zlv_size hl) rfl (Nat.le_of_ble_eq_true rfl) dX2_comeUp_54 ⟨Nat.le_refl _, Nat.le_refl _⟩) (fun H locs hW => ?_)
      refine lv_goto (tgt := 66) hx hb dX2_comeUp_57 (by decide) ?_
      exact zr_v hx hb hr hlk hW (Option.some.inj hf) dX2_comeUp_66
set_option maxHeartbeats 4000000 in
set_option maxRecDepth 100000 in
theorem mX2_run {l : Launch} {D : va_G} {cI cJ : ClassId} {adr : Nat → Nat} {b : Nat} {o1 : Nat} (kb : zK b) (k1 : zG o1) (p2 : Int32) (s0 : zkS) {z : Nat} {ro : Int32} {so : zkS} (hI : zInj 0 adr) (hf : fX2_run b o1 p2 s0 = some (ro, so)) : Met l yX2_run (Cond.code yX2_run cX2_run 5 (some .int) :: zTb) { frames := 4, cells := 0, slots := 0, locals := 85 } (zPre 0 D cI cJ adr s0 z [.ref (adr b), .ref (adr o1), .int p2]) (zQi 0 D cI cJ adr z ro so) 0 0 (zA 0 adr z) := by
  refine zen (cc := cX2_run) (own := RX2) (by decide +kernel) rfl hI (Nat.le_of_ble_eq_true rfl) (fun p e s m args below meth c ls hC hr hlk hz hl hW => ?_)
  subst hz
  obtain ⟨hx, hb, -⟩ := id hC
  have hl : lv_has ls 5 [(0, .ref (adr b)), (1, .ref (adr o1)), (2, .int p2)] := hl
  refine zst hW (fun H locs hW => ?_)
  unfold fX2_run at hf
  refine lv_aload_n hx hb dX2_run_0 rfl (lv_at hl 0 rfl) ?_
  refine zg_i hC hW fl_X2_31 (zK_k kb) (zK_s kb) dX2_run_1 ?_
  refine lv_istore_n (lv' := [(3, .int (s0.1 b 6)), (0, .ref (adr b)), (1, .ref (adr o1)), (2, .int p2)]) hx hb dX2_run_4 rfl hl (by decide) rfl (fun ls hl => ?_)
  refine lv_iconst (v := 0) hx hb dX2_run_5 (by decide) ?_
  refine lv_istore (lv' := [(4, .int 0), (3, .int (s0.1 b 6)), (0, .ref (adr b)), (1, .ref (adr o1)), (2, .int p2)]) hx hb dX2_run_6 hl (by decide) rfl (fun ls hl => ?_)
  have hL8 : ∀ (n : Nat) (x2 : Int32) (x4 : Int32) (s1 : zkS) (K8 : zkS → Option (Int32 × zkS)) (H : Heap) (locs : List Loc) (ls : Array Slot), fX2_run_L8 n b o1 x2 x4 s1 K8 = some (ro, so) → zWo 0 D cI cJ adr s s1 H locs → lv_has ls 5 [(0, .ref (adr b)), (1, .ref (adr o1)), (2, .int x2), (3, .int (s0.1 b 6)), (4, .int x4)] → (∀ (s1 : zkS) (H : Heap) (locs : List Loc) (ls : Array Slot), K8 s1 = some (ro, so) → zWo 0 D cI cJ adr s s1 H locs → lv_has ls 5 [(0, .ref (adr b)), (3, .int (s0.1 b 6))] → W p l e { frames := 4, cells := 0, slots := 0, locals := 85 } s m args below meth c H locs 0 0 (MQ below (zQi 0 D cI cJ adr s.heap.size ro so) args s 0 0 (zA 0 adr s.heap.size)) (F0 m 85 ls [])) → W p l e { frames := 4, cells := 0, slots := 0, locals := 85 } s m args below meth c H locs 0 0 (MQ below (zQi 0 D cI cJ adr s.heap.size ro so) args s 0 0 (zA 0 adr s.heap.size)) (F0 m 8 ls []) := by
    intro n
    induction n with
    | zero =>
      intro x2 x4 s1 K8 H locs ls hf hW hl hK8
      rw [fX2_run_L8] at hf
      cases hf
    | succ n ih8 =>
      intro x2 x4 s1 K8 H locs ls hf hW hl hK8
      rw [fX2_run_L8] at hf
      refine lv_iload hx hb dX2_run_8 (lv_at hl 4 rfl) ?_
      refine lv_iload_n hx hb dX2_run_10 rfl (lv_at hl 2 rfl) ?_
      refine zi_icmp_ge (tgt := 85) hx hb dX2_run_11 (by decide) hf (fun hc hf => ?_) (fun hc hf => ?_)
      · skip
        exact hK8 s1 H locs ls hf hW (lv_sub hl [0, 3] rfl)
      · skip
        refine lv_aload_n hx hb dX2_run_14 rfl (lv_at hl 0 rfl) ?_
        refine zg_i hC hW fl_X2_9 (zK_k kb) (zK_s kb) dX2_run_15 ?_
        refine zi_if_eq (tgt := 85) hx hb dX2_run_18 (by decide) hf (fun hc hf => ?_) (fun hc hf => ?_)
        · skip
          exact hK8 s1 H locs ls hf hW (lv_sub hl [0, 3] rfl)
        · skip
          refine lv_aload_n hx hb dX2_run_21 rfl (lv_at hl 0 rfl) ?_
          refine zg_i hC hW fl_X2_25 (zK_k kb) (zK_s kb) dX2_run_22 ?_
          refine lv_bipush (v := (-5)) hx hb dX2_run_25 (by decide) ?_
          refine zi_icmp_ne (tgt := 38) hx hb dX2_run_27 (by decide) hf (fun hc hf => ?_) (fun hc hf => ?_)
          · skip
            refine lv_aload_n hx hb dX2_run_30 rfl (lv_at hl 0 rfl) ?_
            refine lv_aload_n hx hb dX2_run_31 rfl (lv_at hl 1 rfl) ?_
            obtain ⟨s2, hq, hf⟩ := zb1_o hf
            refine zc_v hW (zrun_v (As := [.ref (adr o1)]) (rest := []) hC hW (mX2_setOut kb k1 s1 hC.2.2.2.2.2.2.2 hq) cv_X2_65 (zK_k kb) (zK_s kb) rfl ⟨⟨rfl, rfl⟩, Nat.le_of_ble_eq_true rfl, Nat.le_of_ble_eq_true rfl⟩ (zlv_size hl) rfl (Nat.le_of_ble_eq_true rfl) dX2_run_32 ⟨Nat.le_refl _, Nat.le_refl _⟩) (fun H locs hW => ?_)
            refine lv_goto (tgt := 69) hx hb dX2_run_35 (by decide) ?_
            refine lv_aload_n hx hb dX2_run_69 rfl (lv_at hl 0 rfl) ?_
            refine lv_dup hx hb dX2_run_70 rfl ?_
            refine zg_i hC hW fl_X2_31 (zK_k kb) (zK_s kb) dX2_run_71 ?_
            refine lv_iconst (v := 1) hx hb dX2_run_74 (by decide) ?_
            refine lv_iadd hx hb dX2_run_75 ?_
            refine zp_i hC hW hf fp_X2_31 (zK_k kb) (zK_s kb) dX2_run_76 (fun s3 H locs hf hW => ?_)
            refine zi_inc (v := (x4 + 1)) (lv' := fun v4 => [(4, .int v4), (0, .ref (adr b)), (1, .ref (adr o1)), (2, .int x2), (3, .int (s0.1 b 6))]) hx hb dX2_run_79 hl (k := 4) rfl rfl (by decide) (fun _ => rfl) hf (fun v4 ls hf hl => ?_)
            refine lv_goto (tgt := 8) hx hb dX2_run_82 (by decide) ?_
            exact ih8 x2 v4 s3 _ H locs ls hf hW (lv_sub hl [1, 2, 3, 4, 0] rfl) hK8
          · skip
            refine lv_aload_n hx hb dX2_run_38 rfl (lv_at hl 0 rfl) ?_
            refine lv_aload_n hx hb dX2_run_39 rfl (lv_at hl 0 rfl) ?_
            refine zg_i hC hW fl_X2_25 (zK_k kb) (zK_s kb) dX2_run_40 ?_
            obtain ⟨v5, hq, hf⟩ := zb1_o hf
            refine zc_i hW (zrun_v (As := [.int (s1.1 b 4)]) (rest := []) hC hW (mX2_countOf kb (s1.1 b 4) s1 hC.2.2.2.2.2.2.2 hq) cv_X2_69 (zK_k kb) (zK_s kb) rfl ⟨⟨rfl, rfl⟩, Nat.le_of_ble_eq_true rfl, Nat.le_of_ble_eq_true rfl⟩ (zlv_size hl) rfl (Nat.le_of_ble_eq_true rfl) dX2_run_43 ⟨Nat.le_refl _, Nat.le_refl _⟩) (fun H locs hW => ?_)
            refine lv_aload_n hx hb dX2_run_46 rfl (lv_at hl 1 rfl) ?_
            refine lv_aload_n hx hb dX2_run_47 rfl (lv_at hl 0 rfl) ?_
            refine zg_i hC hW fl_X2_25 (zK_k kb) (zK_s kb) dX2_run_48 ?_
            obtain ⟨v6, hq, hf⟩ := zb1_o hf
            refine zc_i hW (zrun_v (As := [.int (s1.1 b 4)]) (rest := [.int v5]) hC hW (mX0_sizeOf k1 (s1.1 b 4) s1 hC.2.2.2.2.2.2.2 hq) cv_X2_73 (zG_k k1) (zG_s k1) rfl ⟨⟨rfl, rfl⟩, Nat.le_of_ble_eq_true rfl, Nat.le_of_ble_eq_true rfl⟩ (zlv_size hl) rfl (Nat.le_of_ble_eq_true rfl) dX2_run_51 ⟨Nat.le_refl _, Nat.le_refl _⟩) (fun H locs hW => ?_)
            refine zi_icmp_ge (tgt := 65) hx hb dX2_run_54 (by decide) hf (fun hc hf => ?_) (fun hc hf => ?_)
            · skip
              refine lv_aload_n hx hb dX2_run_65 rfl (lv_at hl 0 rfl) ?_
              obtain ⟨s7, hq, hf⟩ := zb1_o hf
              refine zc_v hW (zrun_v (As := []) (rest := []) hC hW (mX2_comeUp kb s1 hC.2.2.2.2.2.2.2 hq) cv_X2_81 (zK_k kb) (zK_s kb) rfl ⟨⟨rfl, rfl⟩, Nat.le_of_ble_eq_true rfl, Nat.le_of_ble_eq_true rfl⟩ (zlv_size hl) rfl (Nat.le_of_ble_eq_true rfl) dX2_run_66 ⟨Nat.le_refl _, Nat.le_refl _⟩) (fun H locs hW => ?_)
              refine lv_aload_n hx hb dX2_run_69 rfl (lv_at hl 0 rfl) ?_
              refine lv_dup hx hb dX2_run_70 rfl ?_
              refine zg_i hC hW fl_X2_31 (zK_k kb) (zK_s kb) dX2_run_71 ?_
              refine lv_iconst (v := 1) hx hb dX2_run_74 (by decide) ?_
              refine lv_iadd hx hb dX2_run_75 ?_
              refine zp_i hC hW hf fp_X2_31 (zK_k kb) (zK_s kb) dX2_run_76 (fun s8 H locs hf hW => ?_)
              refine zi_inc (v := (x4 + 1)) (lv' := fun v9 => [(4, .int v9), (0, .ref (adr b)), (1, .ref (adr o1)), (2, .int x2), (3, .int (s0.1 b 6))]) hx hb dX2_run_79 hl (k := 4) rfl rfl (by decide) (fun _ => rfl) hf (fun v9 ls hf hl => ?_)
              refine lv_goto (tgt := 8) hx hb dX2_run_82 (by decide) ?_
              exact ih8 x2 v9 s8 _ H locs ls hf hW (lv_sub hl [1, 2, 3, 4, 0] rfl) hK8
            · skip
              refine lv_aload_n hx hb dX2_run_57 rfl (lv_at hl 0 rfl) ?_
              refine lv_aload_n hx hb dX2_run_58 rfl (lv_at hl 1 rfl) ?_
              obtain ⟨s10, hq, hf⟩ := zb1_o hf
              refine zc_v hW (zrun_v (As := [.ref (adr o1)]) (rest := []) hC hW (mX2_goOn kb k1 s1 hC.2.2.2.2.2.2.2 hq) cv_X2_78 (zK_k kb) (zK_s kb) rfl ⟨⟨rfl, rfl⟩, Nat.le_of_ble_eq_true rfl, Nat.le_of_ble_eq_true rfl⟩ (zlv_size hl) rfl (Nat.le_of_ble_eq_true rfl) dX2_run_59 ⟨Nat.le_refl _, Nat.le_refl _⟩) (fun H locs hW => ?_)
              refine lv_goto (tgt := 69) hx hb dX2_run_62 (by decide) ?_
              refine lv_aload_n hx hb dX2_run_69 rfl (lv_at hl 0 rfl) ?_
              refine lv_dup hx hb dX2_run_70 rfl ?_
              refine zg_i hC hW fl_X2_31 (zK_k kb) (zK_s kb) dX2_run_71 ?_
              refine lv_iconst (v := 1) hx hb dX2_run_74 (by decide) ?_
              refine lv_iadd hx hb dX2_run_75 ?_
              refine zp_i hC hW hf fp_X2_31 (zK_k kb) (zK_s kb) dX2_run_76 (fun s11 H locs hf hW => ?_)
              refine zi_inc (v := (x4 + 1)) (lv' := fun v12 => [(4, .int v12), (0, .ref (adr b)), (1, .ref (adr o1)), (2, .int x2), (3, .int (s0.1 b 6))]) hx hb dX2_run_79 hl (k := 4) rfl rfl (by decide) (fun _ => rfl) hf (fun v12 ls hf hl => ?_)
              refine lv_goto (tgt := 8) hx hb dX2_run_82 (by decide) ?_
              exact ih8 x2 v12 s11 _ H locs ls hf hW (lv_sub hl [1, 2, 3, 4, 0] rfl) hK8
  refine hL8 zFU p2 0 s0 _ H locs ls hf hW (lv_sub hl [2, 3, 4, 1, 0] rfl) (fun s13 H locs ls hf hW hl => ?_)
  refine lv_aload_n hx hb dX2_run_85 rfl (lv_at hl 0 rfl) ?_
  refine zg_i hC hW fl_X2_31 (zK_k kb) (zK_s kb) dX2_run_86 ?_
  refine lv_iload_n hx hb dX2_run_89 rfl (lv_at hl 1 rfl) ?_
  refine lv_isub hx hb dX2_run_90 ?_
  exact zr_i hx hb hr hlk hW (zo1 hf) (zo2 hf) dX2_run_91
set_option maxHeartbeats 4000000 in
set_option maxRecDepth 100000 in
theorem mX7_step {l : Launch} {D : va_G} {cI cJ : ClassId} {adr : Nat → Nat} (p1 : Int32) (s0 : zkS) {z : Nat} {ro : Int32} {so : zkS} (hI : zInj 0 adr) (hf : fX7_step p1 s0 = some (ro, so)) : Met l yX7_step (Cond.code yX7_step cX7_step 2 (some .int) :: zTb) { frames := 5, cells := 0, slots := 0, locals := 109 } (zPre 0 D cI cJ adr s0 z [.ref (adr 0), .int p1]) (zQi 0 D cI cJ adr z ro so) 0 0 (zA 0 adr z) := by
  refine zen (cc := cX7_step) (own := RX7) (by decide +kernel) rfl hI (Nat.le_of_ble_eq_true rfl) (fun p e s m args below meth c ls hC hr hlk hz hl hW => ?_)
  subst hz
  obtain ⟨hx, hb, -⟩ := id hC
  have hl : lv_has ls 2 [(0, .ref (adr 0)), (1, .int p1)] := hl
  refine zst hW (fun H locs hW => ?_)
  unfold fX7_step at hf
  refine lv_iload_n hx hb dX7_step_0 rfl (lv_at hl 1 rfl) ?_
  refine zi_if_lt (tgt := 10) hx hb dX7_step_1 (by decide) hf (fun hc hf => ?_) (fun hc hf => ?_)
  · skip
    refine lv_bipush (v := (-2)) hx hb dX7_step_10 (by decide) ?_
    exact zr_i hx hb hr hlk hW (zo1 hf) (zo2 hf) dX7_step_12
  · skip
    refine lv_iload_n hx hb dX7_step_4 rfl (lv_at hl 1 rfl) ?_
    refine lv_bipush (v := 99) hx hb dX7_step_5 (by decide) ?_
    refine zi_icmp_le (tgt := 13) hx hb dX7_step_7 (by decide) hf (fun hc hf => ?_) (fun hc hf => ?_)
    · skip
      refine lv_aload_n hx hb dX7_step_13 rfl (lv_at hl 0 rfl) ?_
      refine zg_a (o := 0) hC hW fl_X7_12 zck_0_0 zcs_0_0 (show _ = 1 from rfl) dX7_step_14 ?_
      refine zg_a (o := 6) hC hW fl_X7_68 (zE_k zEc_1) (zE_s zEc_1) (show _ = 8 from rfl) dX7_step_17 ?_
      refine zg_i hC hW fl_X7_71 (zK_k zKc_8) (zK_s zKc_8) dX7_step_20 ?_
      refine zi_if_eq (tgt := 47) hx hb dX7_step_23 (by decide) hf (fun hc hf => ?_) (fun hc hf => ?_)
      · skip
        refine lv_bipush (v := (-3)) hx hb dX7_step_47 (by decide) ?_
        exact zr_i hx hb hr hlk hW (zo1 hf) (zo2 hf) dX7_step_49
      · skip
        refine lv_aload_n hx hb dX7_step_26 rfl (lv_at hl 0 rfl) ?_
        refine zg_a (o := 0) hC hW fl_X7_12 zck_0_0 zcs_0_0 (show _ = 1 from rfl) dX7_step_27 ?_
        refine zg_a (o := 6) hC hW fl_X7_68 (zE_k zEc_1) (zE_s zEc_1) (show _ = 8 from rfl) dX7_step_30 ?_
        refine lv_aload_n hx hb dX7_step_33 rfl (lv_at hl 0 rfl) ?_
        refine zg_a (o := 0) hC hW fl_X7_12 zck_0_0 zcs_0_0 (show _ = 1 from rfl) dX7_step_34 ?_
        refine zg_a (o := 0) hC hW fl_X7_74 (zE_k zEc_1) (zE_s zEc_1) (show _ = 2 from rfl) dX7_step_37 ?_
        refine lv_iload_n hx hb dX7_step_40 rfl (lv_at hl 1 rfl) ?_
        obtain ⟨v1, s2, hq, hf⟩ := zb2_o hf
        refine zc_i hW (zrun_v (As := [.ref (adr 2), .int p1]) (rest := []) hC hW (mX2_run zKc_8 zGc_2 p1 s0 hC.2.2.2.2.2.2.2 hq) cv_X7_206 (zK_k zKc_8) (zK_s zKc_8) rfl ⟨⟨rfl, rfl⟩, Nat.le_of_ble_eq_true rfl, Nat.le_of_ble_eq_true rfl⟩ (zlv_size hl) rfl (Nat.le_of_ble_eq_true rfl) dX7_step_41 ⟨Nat.le_refl _, Nat.le_refl _⟩) (fun H locs hW => ?_)
        refine lv_goto (tgt := 49) hx hb dX7_step_44 (by decide) ?_
        exact zr_i hx hb hr hlk hW (zo1 hf) (zo2 hf) dX7_step_49
    · skip
      refine lv_bipush (v := (-2)) hx hb dX7_step_10 (by decide) ?_
      exact zr_i hx hb hr hlk hW (zo1 hf) (zo2 hf) dX7_step_12
set_option maxHeartbeats 4000000 in
set_option maxRecDepth 100000 in
theorem mX2_turnedNow {l : Launch} {D : va_G} {cI cJ : ClassId} {adr : Nat → Nat} {b : Nat} (kb : zK b) (s0 : zkS) {z : Nat} {ro : Int32} (hI : zInj 0 adr) (hf : fX2_turnedNow b s0 = ro) : Met l yX2_turnedNow (Cond.code yX2_turnedNow cX2_turnedNow 1 (some .int) :: zTb) { frames := 1, cells := 0, slots := 0, locals := 13 } (zPre 0 D cI cJ adr s0 z [.ref (adr b)]) (zQi 0 D cI cJ adr z ro s0) 0 0 (zA 0 adr z) := by
  refine zen (cc := cX2_turnedNow) (own := RX2) (by decide +kernel) rfl hI (Nat.le_of_ble_eq_true rfl) (fun p e s m args below meth c ls hC hr hlk hz hl hW => ?_)
  subst hz
  obtain ⟨hx, hb, -⟩ := id hC
  have hl : lv_has ls 1 [(0, .ref (adr b))] := hl
  refine zst hW (fun H locs hW => ?_)
  unfold fX2_turnedNow at hf
  refine lv_aload_n hx hb dX2_turnedNow_0 rfl (lv_at hl 0 rfl) ?_
  refine zg_i hC hW fl_X2_28 (zK_k kb) (zK_s kb) dX2_turnedNow_1 ?_
  refine lv_aload_n hx hb dX2_turnedNow_4 rfl (lv_at hl 0 rfl) ?_
  refine zg_i hC hW fl_X2_34 (zK_k kb) (zK_s kb) dX2_turnedNow_5 ?_
  refine lv_isub hx hb dX2_turnedNow_8 ?_
  refine lv_iconst (v := 0) hx hb dX2_turnedNow_9 (by decide) ?_
  refine zn_i2 hf (fun v1 hf => ?_)
  refine va_mmax hx hb (hC.2.2.1.trans (zlv_size hl).symm) hC.2.2.2.1 (hC.2.2.2.2.1 _ wq_602) (hC.2.2.2.2.1 _ wq_603) (hC.2.2.2.2.1 _ wq_50) (hC.2.2.2.2.1 _ wq_604) (Nat.le_of_ble_eq_true rfl) (Nat.le_of_ble_eq_true rfl) (Nat.le_refl _) (Nat.le_refl _) dX2_turnedNow_10 ?_
  exact zr_i hx hb hr hlk hW hf rfl dX2_turnedNow_13
set_option maxHeartbeats 4000000 in
set_option maxRecDepth 100000 in
theorem mX2_breakOff {l : Launch} {D : va_G} {cI cJ : ClassId} {adr : Nat → Nat} {b : Nat} (kb : zK b) (s0 : zkS) {z : Nat} {so : zkS} (hI : zInj 0 adr) (hf : fX2_breakOff b s0 = so) : Met l yX2_breakOff (Cond.code yX2_breakOff cX2_breakOff 1 none :: zTb) { frames := 0, cells := 0, slots := 0, locals := 0 } (zPre 0 D cI cJ adr s0 z [.ref (adr b)]) (zQv 0 D cI cJ adr z so) 0 0 (zA 0 adr z) := by
  refine zen (cc := cX2_breakOff) (own := RX2) (by decide +kernel) rfl hI (Nat.le_of_ble_eq_true rfl) (fun p e s m args below meth c ls hC hr hlk hz hl hW => ?_)
  subst hz
  obtain ⟨hx, hb, -⟩ := id hC
  have hl : lv_has ls 1 [(0, .ref (adr b))] := hl
  refine zst hW (fun H locs hW => ?_)
  unfold fX2_breakOff at hf
  refine lv_aload_n hx hb dX2_breakOff_0 rfl (lv_at hl 0 rfl) ?_
  refine lv_iconst (v := 0) hx hb dX2_breakOff_1 (by decide) ?_
  refine zp_y hC hW hf (by decide) fp_X2_9 (zK_k kb) (zK_s kb) dX2_breakOff_2 (fun s1 H locs hf hW => ?_)
  refine lv_aload_n hx hb dX2_breakOff_5 rfl (lv_at hl 0 rfl) ?_
  refine lv_bipush (v := (-5)) hx hb dX2_breakOff_6 (by decide) ?_
  refine zp_i hC hW hf fp_X2_25 (zK_k kb) (zK_s kb) dX2_breakOff_8 (fun s2 H locs hf hW => ?_)
  refine lv_aload_n hx hb dX2_breakOff_11 rfl (lv_at hl 0 rfl) ?_
  refine lv_iconst (v := 0) hx hb dX2_breakOff_12 (by decide) ?_
  refine zp_i hC hW hf fp_X2_28 (zK_k kb) (zK_s kb) dX2_breakOff_13 (fun s3 H locs hf hW => ?_)
  exact zr_v hx hb hr hlk hW hf dX2_breakOff_16
set_option maxHeartbeats 4000000 in
set_option maxRecDepth 100000 in
theorem mX7_leave {l : Launch} {D : va_G} {cI cJ : ClassId} {adr : Nat → Nat} (s0 : zkS) {z : Nat} {ro : Int32} {so : zkS} (hI : zInj 0 adr) (hf : fX7_leave s0 = (ro, so)) : Met l yX7_leave (Cond.code yX7_leave cX7_leave 2 (some .int) :: zTb) { frames := 2, cells := 0, slots := 0, locals := 33 } (zPre 0 D cI cJ adr s0 z [.ref (adr 0)]) (zQi 0 D cI cJ adr z ro so) 0 0 (zA 0 adr z) := by
  refine zen (cc := cX7_leave) (own := RX7) (by decide +kernel) rfl hI (Nat.le_of_ble_eq_true rfl) (fun p e s m args below meth c ls hC hr hlk hz hl hW => ?_)
  subst hz
  obtain ⟨hx, hb, -⟩ := id hC
  have hl : lv_has ls 2 [(0, .ref (adr 0))] := hl
  refine zst hW (fun H locs hW => ?_)
  unfold fX7_leave at hf
  refine lv_aload_n hx hb dX7_leave_0 rfl (lv_at hl 0 rfl) ?_
  refine zg_a (o := 0) hC hW fl_X7_12 zck_0_0 zcs_0_0 (show _ = 1 from rfl) dX7_leave_1 ?_
  refine zg_a (o := 6) hC hW fl_X7_68 (zE_k zEc_1) (zE_s zEc_1) (show _ = 8 from rfl) dX7_leave_4 ?_
  refine zg_i hC hW fl_X7_71 (zK_k zKc_8) (zK_s zKc_8) dX7_leave_7 ?_
  refine zi_if_ne (tgt := 16) hx hb dX7_leave_10 (by decide) hf (fun hc hf => ?_) (fun hc hf => ?_)
  · skip
    refine lv_bipush (v := (-3)) hx hb dX7_leave_13 (by decide) ?_
    exact zr_i hx hb hr hlk hW (zt1 hf) (zt2 hf) dX7_leave_15
  · skip
    refine lv_aload_n hx hb dX7_leave_16 rfl (lv_at hl 0 rfl) ?_
    refine zg_a (o := 0) hC hW fl_X7_12 zck_0_0 zcs_0_0 (show _ = 1 from rfl) dX7_leave_17 ?_
    refine zg_a (o := 6) hC hW fl_X7_68 (zE_k zEc_1) (zE_s zEc_1) (show _ = 8 from rfl) dX7_leave_20 ?_
    refine zc_i hW (zrun_v (As := []) (rest := []) hC hW (mX2_turnedNow zKc_8 s0 hC.2.2.2.2.2.2.2 rfl) cv_X7_209 (zK_k zKc_8) (zK_s zKc_8) rfl ⟨⟨rfl, rfl⟩, Nat.le_of_ble_eq_true rfl, Nat.le_of_ble_eq_true rfl⟩ (zlv_size hl) rfl (Nat.le_of_ble_eq_true rfl) dX7_leave_23 ⟨Nat.le_refl _, Nat.le_refl _⟩) (fun H locs hW => ?_)
    refine zn_i hf (fun v2 hf => ?_)
    refine lv_istore_n (lv' := [(1, .int v2), (0, .ref (adr 0))]) hx hb dX7_leave_26 rfl hl (by decide) rfl (fun ls hl => ?_)
    refine lv_aload_n hx hb dX7_leave_27 rfl (lv_at hl 1 rfl) ?_
    refine zg_a (o := 0) hC hW fl_X7_12 zck_0_0 zcs_0_0 (show _ = 1 from rfl) dX7_leave_28 ?_
    refine zg_a (o := 6) hC hW fl_X7_68 (zE_k zEc_1) (zE_s zEc_1) (show _ = 8 from rfl) dX7_leave_31 ?_
    obtain ⟨s3, hq, hf⟩ := zlt_o hf
    refine zc_v hW (zrun_v (As := []) (rest := []) hC hW (mX2_breakOff zKc_8 s0 hC.2.2.2.2.2.2.2 hq) cv_X7_213 (zK_k zKc_8) (zK_s zKc_8) rfl ⟨⟨rfl, rfl⟩, Nat.le_of_ble_eq_true rfl, Nat.le_of_ble_eq_true rfl⟩ (zlv_size hl) rfl (Nat.le_of_ble_eq_true rfl) dX7_leave_34 ⟨Nat.le_refl _, Nat.le_refl _⟩) (fun H locs hW => ?_)
    refine lv_iload_n hx hb dX7_leave_37 rfl (lv_at hl 0 rfl) ?_
    exact zr_i hx hb hr hlk hW (zt1 hf) (zt2 hf) dX7_leave_38
set_option maxHeartbeats 4000000 in
set_option maxRecDepth 100000 in
theorem mX0_keepOnly {l : Launch} {D : va_G} {cI cJ : ClassId} {adr : Nat → Nat} {b : Nat} (kb : zG b) (p1 : Int32) (s0 : zkS) {z : Nat} {ro : Int32} {so : zkS} (hI : zInj 0 adr) (hf : fX0_keepOnly b p1 s0 = some (ro, so)) : Met l yX0_keepOnly (Cond.code yX0_keepOnly cX0_keepOnly 5 (some .int) :: zTb) { frames := 2, cells := 0, slots := 0, locals := 46 } (zPre 0 D cI cJ adr s0 z [.ref (adr b), .int p1]) (zQi 0 D cI cJ adr z ro so) 0 0 (zA 0 adr z) := by
  refine zen (cc := cX0_keepOnly) (own := RX0) (by decide +kernel) rfl hI (Nat.le_of_ble_eq_true rfl) (fun p e s m args below meth c ls hC hr hlk hz hl hW => ?_)
  subst hz
  obtain ⟨hx, hb, -⟩ := id hC
  have hl : lv_has ls 5 [(0, .ref (adr b)), (1, .int p1)] := hl
  refine zst hW (fun H locs hW => ?_)
  unfold fX0_keepOnly at hf
  refine lv_aload_n hx hb dX0_keepOnly_0 rfl (lv_at hl 0 rfl) ?_
  refine zg_i hC hW fl_X0_15 (zG_k kb) (zG_s kb) dX0_keepOnly_1 ?_
  refine lv_iload_n hx hb dX0_keepOnly_4 rfl (lv_at hl 1 rfl) ?_
  refine lv_iconst (v := (-1)) hx hb dX0_keepOnly_5 (by decide) ?_
  refine lv_ixor hx hb dX0_keepOnly_6 ?_
  refine lv_iand hx hb dX0_keepOnly_7 ?_
  refine zn_i hf (fun v1 hf => ?_)
  refine lv_istore_n (lv' := [(2, .int v1), (0, .ref (adr b)), (1, .int p1)]) hx hb dX0_keepOnly_8 rfl hl (by decide) rfl (fun ls hl => ?_)
  refine lv_aload_n hx hb dX0_keepOnly_9 rfl (lv_at hl 1 rfl) ?_
  refine lv_dup hx hb dX0_keepOnly_10 rfl ?_
  refine zg_i hC hW fl_X0_15 (zG_k kb) (zG_s kb) dX0_keepOnly_11 ?_
  refine lv_iload_n hx hb dX0_keepOnly_14 rfl (lv_at hl 2 rfl) ?_
  refine lv_iand hx hb dX0_keepOnly_15 ?_
  refine zp_i hC hW hf fp_X0_15 (zG_k kb) (zG_s kb) dX0_keepOnly_16 (fun s2 H locs hf hW => ?_)
  refine lv_iconst (v := 0) hx hb dX0_keepOnly_19 (by decide) ?_
  refine lv_istore_n (lv' := [(3, .int 0), (2, .int v1), (0, .ref (adr b)), (1, .int p1)]) hx hb dX0_keepOnly_20 rfl hl (by decide) rfl (fun ls hl => ?_)
  have hL21 : ∀ (n : Nat) (x3 : Int32) (s3 : zkS) (K21 : zkS → Option (Int32 × zkS)) (H : Heap) (locs : List Loc) (ls : Array Slot), fX0_keepOnly_L21 n b x3 s3 K21 = some (ro, so) → zWo 0 D cI cJ adr s s3 H locs → lv_has ls 5 [(0, .ref (adr b)), (2, .int v1), (3, .int x3)] → (∀ (s3 : zkS) (H : Heap) (locs : List Loc) (ls : Array Slot), K21 s3 = some (ro, so) → zWo 0 D cI cJ adr s s3 H locs → lv_has ls 5 [(2, .int v1)] → W p l e { frames := 2, cells := 0, slots := 0, locals := 46 } s m args below meth c H locs 0 0 (MQ below (zQi 0 D cI cJ adr s.heap.size ro so) args s 0 0 (zA 0 adr s.heap.size)) (F0 m 75 ls [])) → W p l e { frames := 2, cells := 0, slots := 0, locals := 46 } s m args below meth c H locs 0 0 (MQ below (zQi 0 D cI cJ adr s.heap.size ro so) args s 0 0 (zA 0 adr s.heap.size)) (F0 m 21 ls []) := by
    intro n
    induction n with
    | zero =>
      intro x3 s3 K21 H locs ls hf hW hl hK21
      rw [fX0_keepOnly_L21] at hf
      cases hf
    | succ n ih21 =>
      intro x3 s3 K21 H locs ls hf hW hl hK21
      rw [fX0_keepOnly_L21] at hf
      refine lv_iload_n hx hb dX0_keepOnly_21 rfl (lv_at hl 2 rfl) ?_
      refine lv_bipush (v := 24) hx hb dX0_keepOnly_22 (by decide) ?_
      refine zi_icmp_ge (tgt := 75) hx hb dX0_keepOnly_24 (by decide) hf (fun hc hf => ?_) (fun hc hf => ?_)
      · skip
        exact hK21 s3 H locs ls hf hW (lv_sub hl [1] rfl)
      · skip
        refine lv_iconst (v := 0) hx hb dX0_keepOnly_27 (by decide) ?_
        refine lv_istore (lv' := [(4, .int 0), (0, .ref (adr b)), (2, .int v1), (3, .int x3)]) hx hb dX0_keepOnly_28 hl (by decide) rfl (fun ls hl => ?_)
        have hL30 : ∀ (n : Nat) (x3 : Int32) (x4 : Int32) (s4 : zkS) (K30 : zkS → Option (Int32 × zkS)) (H : Heap) (locs : List Loc) (ls : Array Slot), fX0_keepOnly_L30 n b x3 x4 s4 K30 = some (ro, so) → zWo 0 D cI cJ adr s s4 H locs → lv_has ls 5 [(0, .ref (adr b)), (2, .int v1), (3, .int x3), (4, .int x4)] → (∀ (s4 : zkS) (H : Heap) (locs : List Loc) (ls : Array Slot), K30 s4 = some (ro, so) → zWo 0 D cI cJ adr s s4 H locs → lv_has ls 5 [(0, .ref (adr b)), (2, .int v1), (3, .int x3)] → W p l e { frames := 2, cells := 0, slots := 0, locals := 46 } s m args below meth c H locs 0 0 (MQ below (zQi 0 D cI cJ adr s.heap.size ro so) args s 0 0 (zA 0 adr s.heap.size)) (F0 m 69 ls [])) → W p l e { frames := 2, cells := 0, slots := 0, locals := 46 } s m args below meth c H locs 0 0 (MQ below (zQi 0 D cI cJ adr s.heap.size ro so) args s 0 0 (zA 0 adr s.heap.size)) (F0 m 30 ls []) := by
          intro n
          induction n with
          | zero =>
            intro x3 x4 s4 K30 H locs ls hf hW hl hK30
            rw [fX0_keepOnly_L30] at hf
            cases hf
          | succ n ih30 =>
            intro x3 x4 s4 K30 H locs ls hf hW hl hK30
            rw [fX0_keepOnly_L30] at hf
            refine lv_iload hx hb dX0_keepOnly_30 (lv_at hl 3 rfl) ?_
            refine lv_aload_n hx hb dX0_keepOnly_32 rfl (lv_at hl 0 rfl) ?_
            refine lv_iload_n hx hb dX0_keepOnly_33 rfl (lv_at hl 2 rfl) ?_
            obtain ⟨v5, hq, hf⟩ := zb1_o hf
            refine zc_i hW (zrun_v (As := [.int x3]) (rest := [.int x4]) hC hW (mX0_sizeOf kb x3 s4 hC.2.2.2.2.2.2.2 hq) cv_X0_75 (zG_k kb) (zG_s kb) rfl ⟨⟨rfl, rfl⟩, Nat.le_of_ble_eq_true rfl, Nat.le_of_ble_eq_true rfl⟩ (zlv_size hl) rfl (Nat.le_of_ble_eq_true rfl) dX0_keepOnly_34 ⟨Nat.le_refl _, Nat.le_refl _⟩) (fun H locs hW => ?_)
            refine zi_icmp_ge (tgt := 69) hx hb dX0_keepOnly_37 (by decide) hf (fun hc hf => ?_) (fun hc hf => ?_)
            · skip
              exact hK30 s4 H locs ls hf hW (lv_sub hl [0, 1, 2] rfl)
            · skip
              refine lv_aload_n hx hb dX0_keepOnly_40 rfl (lv_at hl 0 rfl) ?_
              refine lv_aload_n hx hb dX0_keepOnly_41 rfl (lv_at hl 0 rfl) ?_
              refine lv_iload_n hx hb dX0_keepOnly_42 rfl (lv_at hl 2 rfl) ?_
              refine lv_iload hx hb dX0_keepOnly_43 (lv_at hl 3 rfl) ?_
              obtain ⟨v6, hq, hf⟩ := zb1_o hf
              refine zc_i hW (zrun_v (As := [.int x3, .int x4]) (rest := [.ref (adr b)]) hC hW (mX0_heldBy kb x3 x4 s4 hC.2.2.2.2.2.2.2 hq) cv_X0_82 (zG_k kb) (zG_s kb) rfl ⟨⟨rfl, rfl⟩, Nat.le_of_ble_eq_true rfl, Nat.le_of_ble_eq_true rfl⟩ (zlv_size hl) rfl (Nat.le_of_ble_eq_true rfl) dX0_keepOnly_45 ⟨Nat.le_refl _, Nat.le_refl _⟩) (fun H locs hW => ?_)
              refine zc_i hW (zrun_v (As := [.int v6]) (rest := []) hC hW (mX0_isThere kb v6 s4 hC.2.2.2.2.2.2.2 rfl) cv_X0_61 (zG_k kb) (zG_s kb) rfl ⟨⟨rfl, rfl⟩, Nat.le_of_ble_eq_true rfl, Nat.le_of_ble_eq_true rfl⟩ (zlv_size hl) rfl (Nat.le_of_ble_eq_true rfl) dX0_keepOnly_48 ⟨Nat.le_refl _, Nat.le_refl _⟩) (fun H locs hW => ?_)
              refine zi_if_ne (tgt := 63) hx hb dX0_keepOnly_51 (by decide) hf (fun hc hf => ?_) (fun hc hf => ?_)
              · skip
                refine lv_aload_n hx hb dX0_keepOnly_54 rfl (lv_at hl 0 rfl) ?_
                refine lv_iload_n hx hb dX0_keepOnly_55 rfl (lv_at hl 2 rfl) ?_
                refine lv_iload hx hb dX0_keepOnly_56 (lv_at hl 3 rfl) ?_
                refine lv_bipush (v := (-5)) hx hb dX0_keepOnly_58 (by decide) ?_
                obtain ⟨s8, hq, hf⟩ := zb1_o hf
                refine zc_v hW (zrun_v (As := [.int x3, .int x4, .int (-5)]) (rest := []) hC hW (mX0_putInto kb x3 x4 (-5) s4 hC.2.2.2.2.2.2.2 hq) cv_X0_89 (zG_k kb) (zG_s kb) rfl ⟨⟨rfl, rfl⟩, Nat.le_of_ble_eq_true rfl, Nat.le_of_ble_eq_true rfl⟩ (zlv_size hl) rfl (Nat.le_of_ble_eq_true rfl) dX0_keepOnly_60 ⟨Nat.le_refl _, Nat.le_refl _⟩) (fun H locs hW => ?_)
                refine zi_inc (v := (x4 + 1)) (lv' := fun v9 => [(4, .int v9), (0, .ref (adr b)), (2, .int v1), (3, .int x3)]) hx hb dX0_keepOnly_63 hl (k := 3) rfl rfl (by decide) (fun _ => rfl) hf (fun v9 ls hf hl => ?_)
                refine lv_goto (tgt := 30) hx hb dX0_keepOnly_66 (by decide) ?_
                exact ih30 x3 v9 s8 _ H locs ls hf hW (lv_sub hl [1, 2, 3, 0] rfl) hK30
              · skip
                refine zi_inc (v := (x4 + 1)) (lv' := fun v10 => [(4, .int v10), (0, .ref (adr b)), (2, .int v1), (3, .int x3)]) hx hb dX0_keepOnly_63 hl (k := 3) rfl rfl (by decide) (fun _ => rfl) hf (fun v10 ls hf hl => ?_)
                refine lv_goto (tgt := 30) hx hb dX0_keepOnly_66 (by decide) ?_
                exact ih30 x3 v10 s4 _ H locs ls hf hW (lv_sub hl [1, 2, 3, 0] rfl) hK30
        refine hL30 zFU x3 0 s3 _ H locs ls hf hW (lv_sub hl [1, 2, 3, 0] rfl) (fun s11 H locs ls hf hW hl => ?_)
        refine zi_inc (v := (x3 + 1)) (lv' := fun v12 => [(3, .int v12), (0, .ref (adr b)), (2, .int v1)]) hx hb dX0_keepOnly_69 hl (k := 2) rfl rfl (by decide) (fun _ => rfl) hf (fun v12 ls hf hl => ?_)
        refine lv_goto (tgt := 21) hx hb dX0_keepOnly_72 (by decide) ?_
        exact ih21 v12 s11 _ H locs ls hf hW (lv_sub hl [1, 2, 0] rfl) hK21
  refine hL21 zFU 0 s2 _ H locs ls hf hW (lv_sub hl [2, 1, 0] rfl) (fun s13 H locs ls hf hW hl => ?_)
  refine lv_iload_n hx hb dX0_keepOnly_75 rfl (lv_at hl 0 rfl) ?_
  refine zc_i hW (zrun_s (As := [.int v1]) (rest := []) hC hW (mJ6_bitCount_0f7a4 v1 s13 hC.2.2.2.2.2.2.2 rfl) cs_X0_93 rfl ⟨⟨rfl, rfl⟩, Nat.le_of_ble_eq_true rfl, Nat.le_of_ble_eq_true rfl⟩ (zlv_size hl) rfl (Nat.le_of_ble_eq_true rfl) dX0_keepOnly_76 ⟨Nat.le_refl _, Nat.le_refl _⟩) (fun H locs hW => ?_)
  exact zr_i hx hb hr hlk hW (zo1 hf) (zo2 hf) dX0_keepOnly_79
set_option maxHeartbeats 4000000 in
set_option maxRecDepth 100000 in
theorem mX7_sweep {l : Launch} {D : va_G} {cI cJ : ClassId} {adr : Nat → Nat} (s0 : zkS) {z : Nat} {ro : Int32} {so : zkS} (hI : zInj 0 adr) (hf : fX7_sweep s0 = some (ro, so)) : Met l yX7_sweep (Cond.code yX7_sweep cX7_sweep 2 (some .int) :: zTb) { frames := 3, cells := 0, slots := 0, locals := 70 } (zPre 0 D cI cJ adr s0 z [.ref (adr 0)]) (zQi 0 D cI cJ adr z ro so) 0 0 (zA 0 adr z) := by
  refine zen (cc := cX7_sweep) (own := RX7) (by decide +kernel) rfl hI (Nat.le_of_ble_eq_true rfl) (fun p e s m args below meth c ls hC hr hlk hz hl hW => ?_)
  subst hz
  obtain ⟨hx, hb, -⟩ := id hC
  have hl : lv_has ls 2 [(0, .ref (adr 0))] := hl
  refine zst hW (fun H locs hW => ?_)
  unfold fX7_sweep at hf
  refine lv_aload_n hx hb dX7_sweep_0 rfl (lv_at hl 0 rfl) ?_
  refine zg_a (o := 0) hC hW fl_X7_12 zck_0_0 zcs_0_0 (show _ = 1 from rfl) dX7_sweep_1 ?_
  refine zg_a (o := 6) hC hW fl_X7_68 (zE_k zEc_1) (zE_s zEc_1) (show _ = 8 from rfl) dX7_sweep_4 ?_
  refine zg_i hC hW fl_X7_81 (zK_k zKc_8) (zK_s zKc_8) dX7_sweep_7 ?_
  refine zi_if_ne (tgt := 16) hx hb dX7_sweep_10 (by decide) hf (fun hc hf => ?_) (fun hc hf => ?_)
  · skip
    refine lv_bipush (v := (-3)) hx hb dX7_sweep_13 (by decide) ?_
    exact zr_i hx hb hr hlk hW (zo1 hf) (zo2 hf) dX7_sweep_15
  · skip
    refine lv_aload_n hx hb dX7_sweep_16 rfl (lv_at hl 0 rfl) ?_
    refine zg_a (o := 0) hC hW fl_X7_12 zck_0_0 zcs_0_0 (show _ = 1 from rfl) dX7_sweep_17 ?_
    refine zg_a (o := 0) hC hW fl_X7_74 (zE_k zEc_1) (zE_s zEc_1) (show _ = 2 from rfl) dX7_sweep_20 ?_
    refine lv_aload_n hx hb dX7_sweep_23 rfl (lv_at hl 0 rfl) ?_
    refine zg_a (o := 0) hC hW fl_X7_12 zck_0_0 zcs_0_0 (show _ = 1 from rfl) dX7_sweep_24 ?_
    refine zg_a (o := 6) hC hW fl_X7_68 (zE_k zEc_1) (zE_s zEc_1) (show _ = 8 from rfl) dX7_sweep_27 ?_
    refine zg_i hC hW fl_X7_101 (zK_k zKc_8) (zK_s zKc_8) dX7_sweep_30 ?_
    obtain ⟨v1, s2, hq, hf⟩ := zb2_o hf
    refine zc_i hW (zrun_v (As := [.int (s0.1 8 2)]) (rest := []) hC hW (mX0_keepOnly zGc_2 (s0.1 8 2) s0 hC.2.2.2.2.2.2.2 hq) cv_X7_216 (zG_k zGc_2) (zG_s zGc_2) rfl ⟨⟨rfl, rfl⟩, Nat.le_of_ble_eq_true rfl, Nat.le_of_ble_eq_true rfl⟩ (zlv_size hl) rfl (Nat.le_of_ble_eq_true rfl) dX7_sweep_33 ⟨Nat.le_refl _, Nat.le_refl _⟩) (fun H locs hW => ?_)
    refine lv_istore_n (lv' := [(1, .int v1), (0, .ref (adr 0))]) hx hb dX7_sweep_36 rfl hl (by decide) rfl (fun ls hl => ?_)
    refine lv_aload_n hx hb dX7_sweep_37 rfl (lv_at hl 1 rfl) ?_
    refine zg_a (o := 0) hC hW fl_X7_12 zck_0_0 zcs_0_0 (show _ = 1 from rfl) dX7_sweep_38 ?_
    refine zg_a (o := 6) hC hW fl_X7_68 (zE_k zEc_1) (zE_s zEc_1) (show _ = 8 from rfl) dX7_sweep_41 ?_
    refine lv_iconst (v := 0) hx hb dX7_sweep_44 (by decide) ?_
    refine zp_i hC hW hf fp_X7_101 (zK_k zKc_8) (zK_s zKc_8) dX7_sweep_45 (fun s3 H locs hf hW => ?_)
    refine lv_aload_n hx hb dX7_sweep_48 rfl (lv_at hl 1 rfl) ?_
    refine zg_a (o := 0) hC hW fl_X7_12 zck_0_0 zcs_0_0 (show _ = 1 from rfl) dX7_sweep_49 ?_
    refine zg_a (o := 6) hC hW fl_X7_68 (zE_k zEc_1) (zE_s zEc_1) (show _ = 8 from rfl) dX7_sweep_52 ?_
    refine lv_iconst (v := 0) hx hb dX7_sweep_55 (by decide) ?_
    refine zp_y hC hW hf (by decide) fp_X7_81 (zK_k zKc_8) (zK_s zKc_8) dX7_sweep_56 (fun s4 H locs hf hW => ?_)
    refine lv_iload_n hx hb dX7_sweep_59 rfl (lv_at hl 0 rfl) ?_
    exact zr_i hx hb hr hlk hW (zo1 hf) (zo2 hf) dX7_sweep_60
set_option maxHeartbeats 4000000 in
set_option maxRecDepth 100000 in
theorem mX2_back {l : Launch} {D : va_G} {cI cJ : ClassId} {adr : Nat → Nat} {b : Nat} (kb : zK b) (s0 : zkS) {z : Nat} {ro : Int32} (hI : zInj 0 adr) (hf : fX2_back b s0 = some ro) : Met l yX2_back (Cond.code yX2_back cX2_back 1 (some .int) :: zTb) { frames := 1, cells := 0, slots := 0, locals := 21 } (zPre 0 D cI cJ adr s0 z [.ref (adr b)]) (zQi 0 D cI cJ adr z ro s0) 0 0 (zA 0 adr z) := by
  refine zen (cc := cX2_back) (own := RX2) (by decide +kernel) rfl hI (Nat.le_of_ble_eq_true rfl) (fun p e s m args below meth c ls hC hr hlk hz hl hW => ?_)
  subst hz
  obtain ⟨hx, hb, -⟩ := id hC
  have hl : lv_has ls 1 [(0, .ref (adr b))] := hl
  refine zst hW (fun H locs hW => ?_)
  unfold fX2_back at hf
  refine lv_aload_n hx hb dX2_back_0 rfl (lv_at hl 0 rfl) ?_
  refine lv_aload_n hx hb dX2_back_1 rfl (lv_at hl 0 rfl) ?_
  refine zg_i hC hW fl_X2_28 (zK_k kb) (zK_s kb) dX2_back_2 ?_
  refine lv_iconst (v := 1) hx hb dX2_back_5 (by decide) ?_
  refine lv_isub hx hb dX2_back_6 ?_
  refine zc_i hW (zrun_v (As := [.int ((s0.1 b 5) - 1)]) (rest := []) hC hW (mX2_turnedAt kb ((s0.1 b 5) - 1) s0 hC.2.2.2.2.2.2.2 rfl) cv_X2_120 (zK_k kb) (zK_s kb) rfl ⟨⟨rfl, rfl⟩, Nat.le_of_ble_eq_true rfl, Nat.le_of_ble_eq_true rfl⟩ (zlv_size hl) rfl (Nat.le_of_ble_eq_true rfl) dX2_back_7 ⟨Nat.le_refl _, Nat.le_refl _⟩) (fun H locs hW => ?_)
  refine zi_if_eq (tgt := 27) hx hb dX2_back_10 (by decide) hf (fun hc hf => ?_) (fun hc hf => ?_)
  · skip
    refine lv_bipush (v := (-5)) hx hb dX2_back_27 (by decide) ?_
    exact zr_i hx hb hr hlk hW (Option.some.inj hf) rfl dX2_back_29
  · skip
    refine lv_aload_n hx hb dX2_back_13 rfl (lv_at hl 0 rfl) ?_
    refine zg_a (o := 0) hC hW fl_X2_52 (zK_k kb) (zK_s kb) (show _ = (b + 1) from rfl) dX2_back_14 ?_
    refine lv_aload_n hx hb dX2_back_17 rfl (lv_at hl 0 rfl) ?_
    refine zg_i hC hW fl_X2_28 (zK_k kb) (zK_s kb) dX2_back_18 ?_
    refine lv_iconst (v := 1) hx hb dX2_back_21 (by decide) ?_
    refine lv_isub hx hb dX2_back_22 ?_
    refine za_l hC hW hf (zK_1 kb) dX2_back_23 (fun v2 hf => ?_)
    refine lv_goto (tgt := 29) hx hb dX2_back_24 (by decide) ?_
    exact zr_i hx hb hr hlk hW (Option.some.inj hf) rfl dX2_back_29
set_option maxHeartbeats 4000000 in
set_option maxRecDepth 100000 in
theorem mX2_tally {l : Launch} {D : va_G} {cI cJ : ClassId} {adr : Nat → Nat} {b : Nat} (kb : zK b) (p1 : Int32) (s0 : zkS) {z : Nat} {ro : Int32} (hI : zInj 0 adr) (hf : fX2_tally b p1 s0 = ro) : Met l yX2_tally (Cond.code yX2_tally cX2_tally 2 (some .int) :: zTb) { frames := 0, cells := 0, slots := 0, locals := 0 } (zPre 0 D cI cJ adr s0 z [.ref (adr b), .int p1]) (zQi 0 D cI cJ adr z ro s0) 0 0 (zA 0 adr z) := by
  refine zen (cc := cX2_tally) (own := RX2) (by decide +kernel) rfl hI (Nat.le_of_ble_eq_true rfl) (fun p e s m args below meth c ls hC hr hlk hz hl hW => ?_)
  subst hz
  obtain ⟨hx, hb, -⟩ := id hC
  have hl : lv_has ls 2 [(0, .ref (adr b)), (1, .int p1)] := hl
  refine zst hW (fun H locs hW => ?_)
  unfold fX2_tally at hf
  refine lv_iload_n hx hb dX2_tally_0 rfl (lv_at hl 1 rfl) ?_
  refine zi_c hf (fun h0 hf => ?_) (fun h0 hf => ?_)
  · skip
    refine zs_in (off := 31) (tgt := 32) hx hb h0 dX2_tally_1 (by decide) (by decide) (by decide +kernel) (by decide) ?_
    refine lv_aload_n hx hb dX2_tally_32 rfl (lv_at hl 0 rfl) ?_
    refine zg_i hC hW fl_X2_31 (zK_k kb) (zK_s kb) dX2_tally_33 ?_
    exact zr_i hx hb hr hlk hW hf rfl dX2_tally_36
  · skip
    refine zi_c hf (fun h1 hf => ?_) (fun h1 hf => ?_)
    · skip
      refine zs_in (off := 36) (tgt := 37) hx hb h1 dX2_tally_1 (by decide) (by decide) (by decide +kernel) (by decide) ?_
      refine lv_aload_n hx hb dX2_tally_37 rfl (lv_at hl 0 rfl) ?_
      refine zg_i hC hW fl_X2_40 (zK_k kb) (zK_s kb) dX2_tally_38 ?_
      exact zr_i hx hb hr hlk hW hf rfl dX2_tally_41
    · skip
      refine zi_c hf (fun h2 hf => ?_) (fun h2 hf => ?_)
      · skip
        refine zs_in (off := 41) (tgt := 42) hx hb h2 dX2_tally_1 (by decide) (by decide) (by decide +kernel) (by decide) ?_
        refine lv_aload_n hx hb dX2_tally_42 rfl (lv_at hl 0 rfl) ?_
        refine zg_i hC hW fl_X2_43 (zK_k kb) (zK_s kb) dX2_tally_43 ?_
        exact zr_i hx hb hr hlk hW hf rfl dX2_tally_46
      · skip
        refine zi_c hf (fun h3 hf => ?_) (fun h3 hf => ?_)
        · skip
          refine zs_in (off := 46) (tgt := 47) hx hb h3 dX2_tally_1 (by decide) (by decide) (by decide +kernel) (by decide) ?_
          refine lv_aload_n hx hb dX2_tally_47 rfl (lv_at hl 0 rfl) ?_
          refine zg_i hC hW fl_X2_46 (zK_k kb) (zK_s kb) dX2_tally_48 ?_
          exact zr_i hx hb hr hlk hW hf rfl dX2_tally_51
        · skip
          refine lv_tableOut (tgt := 52) hx hb dX2_tally_1 (by have n0 := lv_neT h0 (show (0 : Int32).toInt = 0 from rfl); have n1 := lv_neT h1 (show (1 : Int32).toInt = 1 from rfl); have n2 := lv_neT h2 (show (2 : Int32).toInt = 2 from rfl); have n3 := lv_neT h3 (show (3 : Int32).toInt = 3 from rfl); omega) (by decide) ?_
          refine lv_aload_n hx hb dX2_tally_52 rfl (lv_at hl 0 rfl) ?_
          refine zg_i hC hW fl_X2_49 (zK_k kb) (zK_s kb) dX2_tally_53 ?_
          exact zr_i hx hb hr hlk hW hf rfl dX2_tally_56
set_option maxHeartbeats 4000000 in
set_option maxRecDepth 100000 in
theorem mX2_copyFrom {l : Launch} {D : va_G} {cI cJ : ClassId} {adr : Nat → Nat} {b : Nat} {o1 : Nat} (kb : zK b) (k1 : zK o1) (s0 : zkS) {z : Nat} {so : zkS} (hI : zInj 0 adr) (hf : fX2_copyFrom b o1 s0 = some so) : Met l yX2_copyFrom (Cond.code yX2_copyFrom cX2_copyFrom 2 none :: zTb) { frames := 1, cells := 0, slots := 0, locals := 18 } (zPre 0 D cI cJ adr s0 z [.ref (adr b), .ref (adr o1)]) (zQv 0 D cI cJ adr z so) 0 0 (zA 0 adr z) := by
  refine zen (cc := cX2_copyFrom) (own := RX2) (by decide +kernel) rfl hI (Nat.le_of_ble_eq_true rfl) (fun p e s m args below meth c ls hC hr hlk hz hl hW => ?_)
  subst hz
  obtain ⟨hx, hb, -⟩ := id hC
  have hl : lv_has ls 2 [(0, .ref (adr b)), (1, .ref (adr o1))] := hl
  refine zst hW (fun H locs hW => ?_)
  unfold fX2_copyFrom at hf
  refine lv_aload_n hx hb dX2_copyFrom_0 rfl (lv_at hl 0 rfl) ?_
  refine lv_aload_n hx hb dX2_copyFrom_1 rfl (lv_at hl 1 rfl) ?_
  refine zg_i hC hW fl_X2_9 (zK_k k1) (zK_s k1) dX2_copyFrom_2 ?_
  refine zp_z hC hW hf fp_X2_9 (zK_k kb) (zK_s kb) dX2_copyFrom_5 (fun s1 H locs hf hW => ?_)
  refine lv_aload_n hx hb dX2_copyFrom_8 rfl (lv_at hl 0 rfl) ?_
  refine lv_aload_n hx hb dX2_copyFrom_9 rfl (lv_at hl 1 rfl) ?_
  refine zg_i hC hW fl_X2_15 (zK_k k1) (zK_s k1) dX2_copyFrom_10 ?_
  refine zp_z hC hW hf fp_X2_15 (zK_k kb) (zK_s kb) dX2_copyFrom_13 (fun s2 H locs hf hW => ?_)
  refine lv_aload_n hx hb dX2_copyFrom_16 rfl (lv_at hl 0 rfl) ?_
  refine lv_aload_n hx hb dX2_copyFrom_17 rfl (lv_at hl 1 rfl) ?_
  refine zg_i hC hW fl_X2_18 (zK_k k1) (zK_s k1) dX2_copyFrom_18 ?_
  refine zp_i hC hW hf fp_X2_18 (zK_k kb) (zK_s kb) dX2_copyFrom_21 (fun s3 H locs hf hW => ?_)
  refine lv_aload_n hx hb dX2_copyFrom_24 rfl (lv_at hl 0 rfl) ?_
  refine lv_aload_n hx hb dX2_copyFrom_25 rfl (lv_at hl 1 rfl) ?_
  refine zg_i hC hW fl_X2_22 (zK_k k1) (zK_s k1) dX2_copyFrom_26 ?_
  refine zp_i hC hW hf fp_X2_22 (zK_k kb) (zK_s kb) dX2_copyFrom_29 (fun s4 H locs hf hW => ?_)
  refine lv_aload_n hx hb dX2_copyFrom_32 rfl (lv_at hl 0 rfl) ?_
  refine lv_aload_n hx hb dX2_copyFrom_33 rfl (lv_at hl 1 rfl) ?_
  refine zg_i hC hW fl_X2_25 (zK_k k1) (zK_s k1) dX2_copyFrom_34 ?_
  refine zp_i hC hW hf fp_X2_25 (zK_k kb) (zK_s kb) dX2_copyFrom_37 (fun s5 H locs hf hW => ?_)
  refine lv_aload_n hx hb dX2_copyFrom_40 rfl (lv_at hl 0 rfl) ?_
  refine lv_aload_n hx hb dX2_copyFrom_41 rfl (lv_at hl 1 rfl) ?_
  refine zg_i hC hW fl_X2_28 (zK_k k1) (zK_s k1) dX2_copyFrom_42 ?_
  refine zp_i hC hW hf fp_X2_28 (zK_k kb) (zK_s kb) dX2_copyFrom_45 (fun s6 H locs hf hW => ?_)
  refine lv_aload_n hx hb dX2_copyFrom_48 rfl (lv_at hl 0 rfl) ?_
  refine lv_aload_n hx hb dX2_copyFrom_49 rfl (lv_at hl 1 rfl) ?_
  refine zg_i hC hW fl_X2_31 (zK_k k1) (zK_s k1) dX2_copyFrom_50 ?_
  refine zp_i hC hW hf fp_X2_31 (zK_k kb) (zK_s kb) dX2_copyFrom_53 (fun s7 H locs hf hW => ?_)
  refine lv_aload_n hx hb dX2_copyFrom_56 rfl (lv_at hl 0 rfl) ?_
  refine lv_aload_n hx hb dX2_copyFrom_57 rfl (lv_at hl 1 rfl) ?_
  refine zg_i hC hW fl_X2_34 (zK_k k1) (zK_s k1) dX2_copyFrom_58 ?_
  refine zp_i hC hW hf fp_X2_34 (zK_k kb) (zK_s kb) dX2_copyFrom_61 (fun s8 H locs hf hW => ?_)
  refine lv_aload_n hx hb dX2_copyFrom_64 rfl (lv_at hl 0 rfl) ?_
  refine lv_aload_n hx hb dX2_copyFrom_65 rfl (lv_at hl 1 rfl) ?_
  refine zg_i hC hW fl_X2_37 (zK_k k1) (zK_s k1) dX2_copyFrom_66 ?_
  refine zp_i hC hW hf fp_X2_37 (zK_k kb) (zK_s kb) dX2_copyFrom_69 (fun s9 H locs hf hW => ?_)
  refine lv_aload_n hx hb dX2_copyFrom_72 rfl (lv_at hl 0 rfl) ?_
  refine lv_aload_n hx hb dX2_copyFrom_73 rfl (lv_at hl 1 rfl) ?_
  refine zg_i hC hW fl_X2_40 (zK_k k1) (zK_s k1) dX2_copyFrom_74 ?_
  refine zp_i hC hW hf fp_X2_40 (zK_k kb) (zK_s kb) dX2_copyFrom_77 (fun s10 H locs hf hW => ?_)
  refine lv_aload_n hx hb dX2_copyFrom_80 rfl (lv_at hl 0 rfl) ?_
  refine lv_aload_n hx hb dX2_copyFrom_81 rfl (lv_at hl 1 rfl) ?_
  refine zg_i hC hW fl_X2_43 (zK_k k1) (zK_s k1) dX2_copyFrom_82 ?_
  refine zp_i hC hW hf fp_X2_43 (zK_k kb) (zK_s kb) dX2_copyFrom_85 (fun s11 H locs hf hW => ?_)
  refine lv_aload_n hx hb dX2_copyFrom_88 rfl (lv_at hl 0 rfl) ?_
  refine lv_aload_n hx hb dX2_copyFrom_89 rfl (lv_at hl 1 rfl) ?_
  refine zg_i hC hW fl_X2_46 (zK_k k1) (zK_s k1) dX2_copyFrom_90 ?_
  refine zp_i hC hW hf fp_X2_46 (zK_k kb) (zK_s kb) dX2_copyFrom_93 (fun s12 H locs hf hW => ?_)
  refine lv_aload_n hx hb dX2_copyFrom_96 rfl (lv_at hl 0 rfl) ?_
  refine lv_aload_n hx hb dX2_copyFrom_97 rfl (lv_at hl 1 rfl) ?_
  refine zg_i hC hW fl_X2_49 (zK_k k1) (zK_s k1) dX2_copyFrom_98 ?_
  refine zp_i hC hW hf fp_X2_49 (zK_k kb) (zK_s kb) dX2_copyFrom_101 (fun s13 H locs hf hW => ?_)
  refine lv_aload_n hx hb dX2_copyFrom_104 rfl (lv_at hl 1 rfl) ?_
  refine zg_a (o := 0) hC hW fl_X2_52 (zK_k k1) (zK_s k1) (show _ = (o1 + 1) from rfl) dX2_copyFrom_105 ?_
  refine lv_iconst (v := 0) hx hb dX2_copyFrom_108 (by decide) ?_
  refine lv_aload_n hx hb dX2_copyFrom_109 rfl (lv_at hl 0 rfl) ?_
  refine zg_a (o := 0) hC hW fl_X2_52 (zK_k kb) (zK_s kb) (show _ = (b + 1) from rfl) dX2_copyFrom_110 ?_
  refine lv_iconst (v := 0) hx hb dX2_copyFrom_113 (by decide) ?_
  refine lv_bipush (v := 24) hx hb dX2_copyFrom_114 (by decide) ?_
  refine za_c hC hW hf cy_X2_59 (zK_1 k1) (zK_1 kb) (zlv_size hl) ⟨Nat.le_of_ble_eq_true rfl, Nat.le_of_ble_eq_true rfl⟩ dX2_copyFrom_116 (fun s14 H locs hf hW => ?_)
  refine lv_aload_n hx hb dX2_copyFrom_119 rfl (lv_at hl 1 rfl) ?_
  refine zg_a (o := 1) hC hW fl_X2_56 (zK_k k1) (zK_s k1) (show _ = (o1 + 2) from rfl) dX2_copyFrom_120 ?_
  refine lv_iconst (v := 0) hx hb dX2_copyFrom_123 (by decide) ?_
  refine lv_aload_n hx hb dX2_copyFrom_124 rfl (lv_at hl 0 rfl) ?_
  refine zg_a (o := 1) hC hW fl_X2_56 (zK_k kb) (zK_s kb) (show _ = (b + 2) from rfl) dX2_copyFrom_125 ?_
  refine lv_iconst (v := 0) hx hb dX2_copyFrom_128 (by decide) ?_
  refine lv_bipush (v := 24) hx hb dX2_copyFrom_129 (by decide) ?_
  refine za_c hC hW hf cy_X2_59 (zK_2 k1) (zK_2 kb) (zlv_size hl) ⟨Nat.le_of_ble_eq_true rfl, Nat.le_of_ble_eq_true rfl⟩ dX2_copyFrom_131 (fun s15 H locs hf hW => ?_)
  exact zr_v hx hb hr hlk hW (Option.some.inj hf) dX2_copyFrom_134
set_option maxHeartbeats 4000000 in
set_option maxRecDepth 100000 in
theorem mX7_ofMarking {l : Launch} {D : va_G} {cI cJ : ClassId} {adr : Nat → Nat} (p1 : Int32) (s0 : zkS) {z : Nat} {ro : Int32} {so : zkS} (hI : zInj 0 adr) (hf : fX7_ofMarking p1 s0 = some (ro, so)) : Met l yX7_ofMarking (Cond.code yX7_ofMarking cX7_ofMarking 3 (some .int) :: zTb) { frames := 5, cells := 0, slots := 0, locals := 109 } (zPre 0 D cI cJ adr s0 z [.ref (adr 0), .int p1]) (zQi 0 D cI cJ adr z ro so) 0 0 (zA 0 adr z) := by
  refine zen (cc := cX7_ofMarking) (own := RX7) (by decide +kernel) rfl hI (Nat.le_of_ble_eq_true rfl) (fun p e s m args below meth c ls hC hr hlk hz hl hW => ?_)
  subst hz
  obtain ⟨hx, hb, -⟩ := id hC
  have hl : lv_has ls 3 [(0, .ref (adr 0)), (1, .int p1)] := hl
  refine zst hW (fun H locs hW => ?_)
  unfold fX7_ofMarking at hf
  refine lv_aload_n hx hb dX7_ofMarking_0 rfl (lv_at hl 0 rfl) ?_
  refine zg_a (o := 0) hC hW fl_X7_12 zck_0_0 zcs_0_0 (show _ = 1 from rfl) dX7_ofMarking_1 ?_
  refine zg_a (o := 6) hC hW fl_X7_68 (zE_k zEc_1) (zE_s zEc_1) (show _ = 8 from rfl) dX7_ofMarking_4 ?_
  refine lv_astore_n (lv' := [(2, .ref (adr 8)), (0, .ref (adr 0)), (1, .int p1)]) hx hb dX7_ofMarking_7 rfl hl (by decide) rfl (fun ls hl => ?_)
  refine lv_iload_n hx hb dX7_ofMarking_8 rfl (lv_at hl 2 rfl) ?_
  refine zi_c hf (fun h0 hf => ?_) (fun h0 hf => ?_)
  · skip
    refine zs_in (off := 75) (tgt := 84) hx hb h0 dX7_ofMarking_9 (by decide) (by decide) (by decide +kernel) (by decide) ?_
    refine lv_aload_n hx hb dX7_ofMarking_84 rfl (lv_at hl 0 rfl) ?_
    refine zg_i hC hW fl_X7_71 (zK_k zKc_8) (zK_s zKc_8) dX7_ofMarking_85 ?_
    refine zc_i hW (zrun_s (As := [.int (s0.1 8 0)]) (rest := []) hC hW (mX7_asNumber (s0.1 8 0) s0 hC.2.2.2.2.2.2.2 rfl) cs_X7_108 rfl ⟨⟨rfl, rfl⟩, Nat.le_of_ble_eq_true rfl, Nat.le_of_ble_eq_true rfl⟩ (zlv_size hl) rfl (Nat.le_of_ble_eq_true rfl) dX7_ofMarking_88 ⟨Nat.le_refl _, Nat.le_refl _⟩) (fun H locs hW => ?_)
    exact zr_i hx hb hr hlk hW (zo1 hf) (zo2 hf) dX7_ofMarking_91
  · skip
    refine zi_c hf (fun h1 hf => ?_) (fun h1 hf => ?_)
    · skip
      refine zs_in (off := 83) (tgt := 92) hx hb h1 dX7_ofMarking_9 (by decide) (by decide) (by decide +kernel) (by decide) ?_
      refine lv_aload_n hx hb dX7_ofMarking_92 rfl (lv_at hl 0 rfl) ?_
      refine zg_i hC hW fl_X7_231 (zK_k zKc_8) (zK_s zKc_8) dX7_ofMarking_93 ?_
      exact zr_i hx hb hr hlk hW (zo1 hf) (zo2 hf) dX7_ofMarking_96
    · skip
      refine zi_c hf (fun h2 hf => ?_) (fun h2 hf => ?_)
      · skip
        refine zs_in (off := 88) (tgt := 97) hx hb h2 dX7_ofMarking_9 (by decide) (by decide) (by decide +kernel) (by decide) ?_
        refine lv_aload_n hx hb dX7_ofMarking_97 rfl (lv_at hl 0 rfl) ?_
        obtain ⟨v2, hq, hf⟩ := zb1_o hf
        refine zc_i hW (zrun_v (As := []) (rest := []) hC hW (mX2_back zKc_8 s0 hC.2.2.2.2.2.2.2 hq) cv_X7_234 (zK_k zKc_8) (zK_s zKc_8) rfl ⟨⟨rfl, rfl⟩, Nat.le_of_ble_eq_true rfl, Nat.le_of_ble_eq_true rfl⟩ (zlv_size hl) rfl (Nat.le_of_ble_eq_true rfl) dX7_ofMarking_98 ⟨Nat.le_refl _, Nat.le_refl _⟩) (fun H locs hW => ?_)
        exact zr_i hx hb hr hlk hW (zo1 hf) (zo2 hf) dX7_ofMarking_101
      · skip
        refine zi_c hf (fun h3 hf => ?_) (fun h3 hf => ?_)
        · skip
          refine zs_in (off := 93) (tgt := 102) hx hb h3 dX7_ofMarking_9 (by decide) (by decide) (by decide +kernel) (by decide) ?_
          refine lv_aload_n hx hb dX7_ofMarking_102 rfl (lv_at hl 0 rfl) ?_
          refine lv_iload_n hx hb dX7_ofMarking_103 rfl (lv_at hl 2 rfl) ?_
          refine lv_iconst (v := 3) hx hb dX7_ofMarking_104 (by decide) ?_
          refine lv_isub hx hb dX7_ofMarking_105 ?_
          refine zc_i hW (zrun_v (As := [.int (p1 - 3)]) (rest := []) hC hW (mX2_tally zKc_8 (p1 - 3) s0 hC.2.2.2.2.2.2.2 rfl) cv_X7_240 (zK_k zKc_8) (zK_s zKc_8) rfl ⟨⟨rfl, rfl⟩, Nat.le_of_ble_eq_true rfl, Nat.le_of_ble_eq_true rfl⟩ (zlv_size hl) rfl (Nat.le_of_ble_eq_true rfl) dX7_ofMarking_106 ⟨Nat.le_refl _, Nat.le_refl _⟩) (fun H locs hW => ?_)
          exact zr_i hx hb hr hlk hW (zo1 hf) (zo2 hf) dX7_ofMarking_109
        · skip
          refine zi_c hf (fun h4 hf => ?_) (fun h4 hf => ?_)
          · skip
            refine zs_in (off := 93) (tgt := 102) hx hb h4 dX7_ofMarking_9 (by decide) (by decide) (by decide +kernel) (by decide) ?_
            refine lv_aload_n hx hb dX7_ofMarking_102 rfl (lv_at hl 0 rfl) ?_
            refine lv_iload_n hx hb dX7_ofMarking_103 rfl (lv_at hl 2 rfl) ?_
            refine lv_iconst (v := 3) hx hb dX7_ofMarking_104 (by decide) ?_
            refine lv_isub hx hb dX7_ofMarking_105 ?_
            refine zc_i hW (zrun_v (As := [.int (p1 - 3)]) (rest := []) hC hW (mX2_tally zKc_8 (p1 - 3) s0 hC.2.2.2.2.2.2.2 rfl) cv_X7_240 (zK_k zKc_8) (zK_s zKc_8) rfl ⟨⟨rfl, rfl⟩, Nat.le_of_ble_eq_true rfl, Nat.le_of_ble_eq_true rfl⟩ (zlv_size hl) rfl (Nat.le_of_ble_eq_true rfl) dX7_ofMarking_106 ⟨Nat.le_refl _, Nat.le_refl _⟩) (fun H locs hW => ?_)
            exact zr_i hx hb hr hlk hW (zo1 hf) (zo2 hf) dX7_ofMarking_109
          · skip
            refine zi_c hf (fun h5 hf => ?_) (fun h5 hf => ?_)
            · skip
              refine zs_in (off := 93) (tgt := 102) hx hb h5 dX7_ofMarking_9 (by decide) (by decide) (by decide +kernel) (by decide) ?_
              refine lv_aload_n hx hb dX7_ofMarking_102 rfl (lv_at hl 0 rfl) ?_
              refine lv_iload_n hx hb dX7_ofMarking_103 rfl (lv_at hl 2 rfl) ?_
              refine lv_iconst (v := 3) hx hb dX7_ofMarking_104 (by decide) ?_
              refine lv_isub hx hb dX7_ofMarking_105 ?_
              refine zc_i hW (zrun_v (As := [.int (p1 - 3)]) (rest := []) hC hW (mX2_tally zKc_8 (p1 - 3) s0 hC.2.2.2.2.2.2.2 rfl) cv_X7_240 (zK_k zKc_8) (zK_s zKc_8) rfl ⟨⟨rfl, rfl⟩, Nat.le_of_ble_eq_true rfl, Nat.le_of_ble_eq_true rfl⟩ (zlv_size hl) rfl (Nat.le_of_ble_eq_true rfl) dX7_ofMarking_106 ⟨Nat.le_refl _, Nat.le_refl _⟩) (fun H locs hW => ?_)
              exact zr_i hx hb hr hlk hW (zo1 hf) (zo2 hf) dX7_ofMarking_109
            · skip
              refine zi_c hf (fun h6 hf => ?_) (fun h6 hf => ?_)
              · skip
                refine zs_in (off := 93) (tgt := 102) hx hb h6 dX7_ofMarking_9 (by decide) (by decide) (by decide +kernel) (by decide) ?_
                refine lv_aload_n hx hb dX7_ofMarking_102 rfl (lv_at hl 0 rfl) ?_
                refine lv_iload_n hx hb dX7_ofMarking_103 rfl (lv_at hl 2 rfl) ?_
                refine lv_iconst (v := 3) hx hb dX7_ofMarking_104 (by decide) ?_
                refine lv_isub hx hb dX7_ofMarking_105 ?_
                refine zc_i hW (zrun_v (As := [.int (p1 - 3)]) (rest := []) hC hW (mX2_tally zKc_8 (p1 - 3) s0 hC.2.2.2.2.2.2.2 rfl) cv_X7_240 (zK_k zKc_8) (zK_s zKc_8) rfl ⟨⟨rfl, rfl⟩, Nat.le_of_ble_eq_true rfl, Nat.le_of_ble_eq_true rfl⟩ (zlv_size hl) rfl (Nat.le_of_ble_eq_true rfl) dX7_ofMarking_106 ⟨Nat.le_refl _, Nat.le_refl _⟩) (fun H locs hW => ?_)
                exact zr_i hx hb hr hlk hW (zo1 hf) (zo2 hf) dX7_ofMarking_109
              · skip
                refine zi_c hf (fun h7 hf => ?_) (fun h7 hf => ?_)
                · skip
                  refine zs_in (off := 93) (tgt := 102) hx hb h7 dX7_ofMarking_9 (by decide) (by decide) (by decide +kernel) (by decide) ?_
                  refine lv_aload_n hx hb dX7_ofMarking_102 rfl (lv_at hl 0 rfl) ?_
                  refine lv_iload_n hx hb dX7_ofMarking_103 rfl (lv_at hl 2 rfl) ?_
                  refine lv_iconst (v := 3) hx hb dX7_ofMarking_104 (by decide) ?_
                  refine lv_isub hx hb dX7_ofMarking_105 ?_
                  refine zc_i hW (zrun_v (As := [.int (p1 - 3)]) (rest := []) hC hW (mX2_tally zKc_8 (p1 - 3) s0 hC.2.2.2.2.2.2.2 rfl) cv_X7_240 (zK_k zKc_8) (zK_s zKc_8) rfl ⟨⟨rfl, rfl⟩, Nat.le_of_ble_eq_true rfl, Nat.le_of_ble_eq_true rfl⟩ (zlv_size hl) rfl (Nat.le_of_ble_eq_true rfl) dX7_ofMarking_106 ⟨Nat.le_refl _, Nat.le_refl _⟩) (fun H locs hW => ?_)
                  exact zr_i hx hb hr hlk hW (zo1 hf) (zo2 hf) dX7_ofMarking_109
                · skip
                  refine zi_c hf (fun h8 hf => ?_) (fun h8 hf => ?_)
                  · skip
                    refine zs_in (off := 145) (tgt := 154) hx hb h8 dX7_ofMarking_9 (by decide) (by decide) (by decide +kernel) (by decide) ?_
                    refine lv_iconst (v := (-1)) hx hb dX7_ofMarking_154 (by decide) ?_
                    exact zr_i hx hb hr hlk hW (zo1 hf) (zo2 hf) dX7_ofMarking_155
                  · skip
                    refine zi_c hf (fun h9 hf => ?_) (fun h9 hf => ?_)
                    · skip
                      refine zs_in (off := 145) (tgt := 154) hx hb h9 dX7_ofMarking_9 (by decide) (by decide) (by decide +kernel) (by decide) ?_
                      refine lv_iconst (v := (-1)) hx hb dX7_ofMarking_154 (by decide) ?_
                      exact zr_i hx hb hr hlk hW (zo1 hf) (zo2 hf) dX7_ofMarking_155
                    · skip
                      refine zi_c hf (fun h10 hf => ?_) (fun h10 hf => ?_)
                      · skip
                        refine zs_in (off := 145) (tgt := 154) hx hb h10 dX7_ofMarking_9 (by decide) (by decide) (by decide +kernel) (by decide) ?_
                        refine lv_iconst (v := (-1)) hx hb dX7_ofMarking_154 (by decide) ?_
                        exact zr_i hx hb hr hlk hW (zo1 hf) (zo2 hf) dX7_ofMarking_155
                      · skip
                        refine zi_c hf (fun h11 hf => ?_) (fun h11 hf => ?_)
                        · skip
                          refine zs_in (off := 101) (tgt := 110) hx hb h11 dX7_ofMarking_9 (by decide) (by decide) (by decide +kernel) (by decide) ?_
                          refine lv_aload_n hx hb dX7_ofMarking_110 rfl (lv_at hl 1 rfl) ?_
                          refine zg_a (o := 38) hC hW fl_X7_35 zck_0_0 zcs_0_0 (show _ = 39 from rfl) dX7_ofMarking_111 ?_
                          refine lv_aload_n hx hb dX7_ofMarking_114 rfl (lv_at hl 0 rfl) ?_
                          obtain ⟨s8, hq, hf⟩ := zb1_o hf
                          refine zc_v hW (zrun_v (As := [.ref (adr 8)]) (rest := []) hC hW (mX2_copyFrom zKc_39 zKc_8 s0 hC.2.2.2.2.2.2.2 hq) cv_X7_228 (zK_k zKc_39) (zK_s zKc_39) rfl ⟨⟨rfl, rfl⟩, Nat.le_of_ble_eq_true rfl, Nat.le_of_ble_eq_true rfl⟩ (zlv_size hl) rfl (Nat.le_of_ble_eq_true rfl) dX7_ofMarking_115 ⟨Nat.le_refl _, Nat.le_refl _⟩) (fun H locs hW => ?_)
                          refine lv_aload_n hx hb dX7_ofMarking_118 rfl (lv_at hl 1 rfl) ?_
                          refine zg_a (o := 38) hC hW fl_X7_35 zck_0_0 zcs_0_0 (show _ = 39 from rfl) dX7_ofMarking_119 ?_
                          refine lv_aload_n hx hb dX7_ofMarking_122 rfl (lv_at hl 1 rfl) ?_
                          refine zg_a (o := 0) hC hW fl_X7_12 zck_0_0 zcs_0_0 (show _ = 1 from rfl) dX7_ofMarking_123 ?_
                          refine zg_a (o := 0) hC hW fl_X7_74 (zE_k zEc_1) (zE_s zEc_1) (show _ = 2 from rfl) dX7_ofMarking_126 ?_
                          refine lv_sipush (v := 1000) hx hb dX7_ofMarking_129 (by decide) ?_
                          obtain ⟨v9, s10, hq, hf⟩ := zb2_o hf
                          refine zc_i hW (zrun_v (As := [.ref (adr 2), .int 1000]) (rest := []) hC hW (mX2_run zKc_39 zGc_2 1000 s8 hC.2.2.2.2.2.2.2 hq) cv_X7_206 (zK_k zKc_39) (zK_s zKc_39) rfl ⟨⟨rfl, rfl⟩, Nat.le_of_ble_eq_true rfl, Nat.le_of_ble_eq_true rfl⟩ (zlv_size hl) rfl (Nat.le_of_ble_eq_true rfl) dX7_ofMarking_132 ⟨Nat.le_refl _, Nat.le_refl _⟩) (fun H locs hW => ?_)
                          exact zr_i hx hb hr hlk hW (zo1 hf) (zo2 hf) dX7_ofMarking_135
                        · skip
                          refine zi_c hf (fun h12 hf => ?_) (fun h12 hf => ?_)
                          · skip
                            refine zs_in (off := 127) (tgt := 136) hx hb h12 dX7_ofMarking_9 (by decide) (by decide) (by decide +kernel) (by decide) ?_
                            refine lv_aload_n hx hb dX7_ofMarking_136 rfl (lv_at hl 0 rfl) ?_
                            refine zg_i hC hW fl_X7_336 (zK_k zKc_8) (zK_s zKc_8) dX7_ofMarking_137 ?_
                            refine lv_aload_n hx hb dX7_ofMarking_140 rfl (lv_at hl 0 rfl) ?_
                            refine zc_i hW (zrun_v (As := []) (rest := [.int (s0.1 8 5)]) hC hW (mX2_turnedNow zKc_8 s0 hC.2.2.2.2.2.2.2 rfl) cv_X7_209 (zK_k zKc_8) (zK_s zKc_8) rfl ⟨⟨rfl, rfl⟩, Nat.le_of_ble_eq_true rfl, Nat.le_of_ble_eq_true rfl⟩ (zlv_size hl) rfl (Nat.le_of_ble_eq_true rfl) dX7_ofMarking_141 ⟨Nat.le_refl _, Nat.le_refl _⟩) (fun H locs hW => ?_)
                            refine lv_isub hx hb dX7_ofMarking_144 ?_
                            exact zr_i hx hb hr hlk hW (zo1 hf) (zo2 hf) dX7_ofMarking_145
                          · skip
                            refine zi_c hf (fun h13 hf => ?_) (fun h13 hf => ?_)
                            · skip
                              refine zs_in (off := 145) (tgt := 154) hx hb h13 dX7_ofMarking_9 (by decide) (by decide) (by decide +kernel) (by decide) ?_
                              refine lv_iconst (v := (-1)) hx hb dX7_ofMarking_154 (by decide) ?_
                              exact zr_i hx hb hr hlk hW (zo1 hf) (zo2 hf) dX7_ofMarking_155
                            · skip
                              refine zi_c hf (fun h14 hf => ?_) (fun h14 hf => ?_)
                              · skip
                                refine zs_in (off := 137) (tgt := 146) hx hb h14 dX7_ofMarking_9 (by decide) (by decide) (by decide +kernel) (by decide) ?_
                                refine lv_aload_n hx hb dX7_ofMarking_146 rfl (lv_at hl 0 rfl) ?_
                                refine zg_i hC hW fl_X7_81 (zK_k zKc_8) (zK_s zKc_8) dX7_ofMarking_147 ?_
                                refine zc_i hW (zrun_s (As := [.int (s0.1 8 1)]) (rest := []) hC hW (mX7_asNumber (s0.1 8 1) s0 hC.2.2.2.2.2.2.2 rfl) cs_X7_108 rfl ⟨⟨rfl, rfl⟩, Nat.le_of_ble_eq_true rfl, Nat.le_of_ble_eq_true rfl⟩ (zlv_size hl) rfl (Nat.le_of_ble_eq_true rfl) dX7_ofMarking_150 ⟨Nat.le_refl _, Nat.le_refl _⟩) (fun H locs hW => ?_)
                                exact zr_i hx hb hr hlk hW (zo1 hf) (zo2 hf) dX7_ofMarking_153
                              · skip
                                refine lv_tableOut (tgt := 154) hx hb dX7_ofMarking_9 (by have n0 := lv_neT h0 (show (0 : Int32).toInt = 0 from rfl); have n1 := lv_neT h1 (show (1 : Int32).toInt = 1 from rfl); have n2 := lv_neT h2 (show (2 : Int32).toInt = 2 from rfl); have n3 := lv_neT h3 (show (3 : Int32).toInt = 3 from rfl); have n4 := lv_neT h4 (show (4 : Int32).toInt = 4 from rfl); have n5 := lv_neT h5 (show (5 : Int32).toInt = 5 from rfl); have n6 := lv_neT h6 (show (6 : Int32).toInt = 6 from rfl); have n7 := lv_neT h7 (show (7 : Int32).toInt = 7 from rfl); have n8 := lv_neT h8 (show (8 : Int32).toInt = 8 from rfl); have n9 := lv_neT h9 (show (9 : Int32).toInt = 9 from rfl); have n10 := lv_neT h10 (show (10 : Int32).toInt = 10 from rfl); have n11 := lv_neT h11 (show (11 : Int32).toInt = 11 from rfl); have n12 := lv_neT h12 (show (12 : Int32).toInt = 12 from rfl); have n13 := lv_neT h13 (show (13 : Int32).toInt = 13 from rfl); have n14 := lv_neT h14 (show (14 : Int32).toInt = 14 from rfl); omega) (by decide) ?_
                                refine lv_iconst (v := (-1)) hx hb dX7_ofMarking_154 (by decide) ?_
                                exact zr_i hx hb hr hlk hW (zo1 hf) (zo2 hf) dX7_ofMarking_155
set_option maxHeartbeats 4000000 in
set_option maxRecDepth 100000 in
theorem mX7_told {l : Launch} {D : va_G} {cI cJ : ClassId} {adr : Nat → Nat} (p1 : Int32) (s0 : zkS) {z : Nat} {ro : Int32} {so : zkS} (hI : zInj 0 adr) (hf : fX7_told p1 s0 = some (ro, so)) : Met l yX7_told (Cond.code yX7_told cX7_told 2 (some .int) :: zTb) { frames := 6, cells := 0, slots := 0, locals := 131 } (zPre 0 D cI cJ adr s0 z [.ref (adr 0), .int p1]) (zQi 0 D cI cJ adr z ro so) 0 0 (zA 0 adr z) := by
  refine zen (cc := cX7_told) (own := RX7) (by decide +kernel) rfl hI (Nat.le_of_ble_eq_true rfl) (fun p e s m args below meth c ls hC hr hlk hz hl hW => ?_)
  subst hz
  obtain ⟨hx, hb, -⟩ := id hC
  have hl : lv_has ls 2 [(0, .ref (adr 0)), (1, .int p1)] := hl
  refine zst hW (fun H locs hW => ?_)
  unfold fX7_told at hf
  refine lv_iload_n hx hb dX7_told_0 rfl (lv_at hl 1 rfl) ?_
  refine zi_c hf (fun h0 hf => ?_) (fun h0 hf => ?_)
  · skip
    refine zs_in (off := 59) (tgt := 60) hx hb h0 dX7_told_1 (by decide) (by decide) (by decide +kernel) (by decide) ?_
    refine lv_aload_n hx hb dX7_told_60 rfl (lv_at hl 0 rfl) ?_
    refine zg_a (o := 0) hC hW fl_X7_12 zck_0_0 zcs_0_0 (show _ = 1 from rfl) dX7_told_61 ?_
    refine zg_a (o := 6) hC hW fl_X7_68 (zE_k zEc_1) (zE_s zEc_1) (show _ = 8 from rfl) dX7_told_64 ?_
    refine zg_i hC hW fl_X7_101 (zK_k zKc_8) (zK_s zKc_8) dX7_told_67 ?_
    exact zr_i hx hb hr hlk hW (zo1 hf) (zo2 hf) dX7_told_70
  · skip
    refine zi_c hf (fun h1 hf => ?_) (fun h1 hf => ?_)
    · skip
      refine zs_in (off := 70) (tgt := 71) hx hb h1 dX7_told_1 (by decide) (by decide) (by decide +kernel) (by decide) ?_
      refine lv_aload_n hx hb dX7_told_71 rfl (lv_at hl 0 rfl) ?_
      refine zg_a (o := 0) hC hW fl_X7_12 zck_0_0 zcs_0_0 (show _ = 1 from rfl) dX7_told_72 ?_
      refine zg_a (o := 6) hC hW fl_X7_68 (zE_k zEc_1) (zE_s zEc_1) (show _ = 8 from rfl) dX7_told_75 ?_
      refine zg_i hC hW fl_X7_115 (zK_k zKc_8) (zK_s zKc_8) dX7_told_78 ?_
      exact zr_i hx hb hr hlk hW (zo1 hf) (zo2 hf) dX7_told_81
    · skip
      refine zi_c hf (fun h2 hf => ?_) (fun h2 hf => ?_)
      · skip
        refine zs_in (off := 81) (tgt := 82) hx hb h2 dX7_told_1 (by decide) (by decide) (by decide +kernel) (by decide) ?_
        refine lv_aload_n hx hb dX7_told_82 rfl (lv_at hl 0 rfl) ?_
        refine zg_a (o := 41) hC hW fl_X7_42 zck_0_0 zcs_0_0 (show _ = 42 from rfl) dX7_told_83 ?_
        refine lv_aload_n hx hb dX7_told_86 rfl (lv_at hl 0 rfl) ?_
        refine zg_a (o := 0) hC hW fl_X7_12 zck_0_0 zcs_0_0 (show _ = 1 from rfl) dX7_told_87 ?_
        refine zg_a (o := 0) hC hW fl_X7_74 (zE_k zEc_1) (zE_s zEc_1) (show _ = 2 from rfl) dX7_told_90 ?_
        obtain ⟨s1, hq, hf⟩ := zb1_o hf
        refine zc_v hW (zrun_v (As := [.ref (adr 2)]) (rest := []) hC hW (mX1_readFrom zGc_2 s0 hC.2.2.2.2.2.2.2 hq) cv_X7_219 zck_0_42 zcs_0_42 rfl ⟨⟨rfl, rfl⟩, Nat.le_of_ble_eq_true rfl, Nat.le_of_ble_eq_true rfl⟩ (zlv_size hl) rfl (Nat.le_of_ble_eq_true rfl) dX7_told_93 ⟨Nat.le_refl _, Nat.le_refl _⟩) (fun H locs hW => ?_)
        refine lv_aload_n hx hb dX7_told_96 rfl (lv_at hl 0 rfl) ?_
        refine zg_a (o := 41) hC hW fl_X7_42 zck_0_0 zcs_0_0 (show _ = 42 from rfl) dX7_told_97 ?_
        obtain ⟨v2, hq, hf⟩ := zb1_o hf
        refine zc_i hW (zrun_v (As := []) (rest := []) hC hW (mX1_reached s1 hC.2.2.2.2.2.2.2 hq) cv_X7_222 zck_0_42 zcs_0_42 rfl ⟨⟨rfl, rfl⟩, Nat.le_of_ble_eq_true rfl, Nat.le_of_ble_eq_true rfl⟩ (zlv_size hl) rfl (Nat.le_of_ble_eq_true rfl) dX7_told_100 ⟨Nat.le_refl _, Nat.le_refl _⟩) (fun H locs hW => ?_)
        exact zr_i hx hb hr hlk hW (zo1 hf) (zo2 hf) dX7_told_103
      · skip
        refine zi_c hf (fun h3 hf => ?_) (fun h3 hf => ?_)
        · skip
          refine zs_in (off := 129) (tgt := 130) hx hb h3 dX7_told_1 (by decide) (by decide) (by decide +kernel) (by decide) ?_
          refine lv_aload_n hx hb dX7_told_130 rfl (lv_at hl 0 rfl) ?_
          refine lv_iload_n hx hb dX7_told_131 rfl (lv_at hl 1 rfl) ?_
          obtain ⟨v3, s4, hq, hf⟩ := zb2_o hf
          refine zc_i hW (zrun_v (As := [.int p1]) (rest := []) hC hW (mX7_ofMarking p1 s0 hC.2.2.2.2.2.2.2 hq) cv_X7_225 zck_0_0 zcs_0_0 rfl ⟨⟨rfl, rfl⟩, Nat.le_of_ble_eq_true rfl, Nat.le_of_ble_eq_true rfl⟩ (zlv_size hl) rfl (Nat.le_of_ble_eq_true rfl) dX7_told_132 ⟨Nat.le_refl _, Nat.le_refl _⟩) (fun H locs hW => ?_)
          exact zr_i hx hb hr hlk hW (zo1 hf) (zo2 hf) dX7_told_135
        · skip
          refine zi_c hf (fun h4 hf => ?_) (fun h4 hf => ?_)
          · skip
            refine zs_in (off := 129) (tgt := 130) hx hb h4 dX7_told_1 (by decide) (by decide) (by decide +kernel) (by decide) ?_
            refine lv_aload_n hx hb dX7_told_130 rfl (lv_at hl 0 rfl) ?_
            refine lv_iload_n hx hb dX7_told_131 rfl (lv_at hl 1 rfl) ?_
            obtain ⟨v5, s6, hq, hf⟩ := zb2_o hf
            refine zc_i hW (zrun_v (As := [.int p1]) (rest := []) hC hW (mX7_ofMarking p1 s0 hC.2.2.2.2.2.2.2 hq) cv_X7_225 zck_0_0 zcs_0_0 rfl ⟨⟨rfl, rfl⟩, Nat.le_of_ble_eq_true rfl, Nat.le_of_ble_eq_true rfl⟩ (zlv_size hl) rfl (Nat.le_of_ble_eq_true rfl) dX7_told_132 ⟨Nat.le_refl _, Nat.le_refl _⟩) (fun H locs hW => ?_)
            exact zr_i hx hb hr hlk hW (zo1 hf) (zo2 hf) dX7_told_135
          · skip
            refine zi_c hf (fun h5 hf => ?_) (fun h5 hf => ?_)
            · skip
              refine zs_in (off := 103) (tgt := 104) hx hb h5 dX7_told_1 (by decide) (by decide) (by decide +kernel) (by decide) ?_
              refine lv_aload_n hx hb dX7_told_104 rfl (lv_at hl 0 rfl) ?_
              refine zg_a (o := 0) hC hW fl_X7_12 zck_0_0 zcs_0_0 (show _ = 1 from rfl) dX7_told_105 ?_
              refine zg_a (o := 0) hC hW fl_X7_74 (zE_k zEc_1) (zE_s zEc_1) (show _ = 2 from rfl) dX7_told_108 ?_
              refine zg_i hC hW fl_X7_181 (zG_k zGc_2) (zG_s zGc_2) dX7_told_111 ?_
              exact zr_i hx hb hr hlk hW (zo1 hf) (zo2 hf) dX7_told_114
            · skip
              refine zi_c hf (fun h6 hf => ?_) (fun h6 hf => ?_)
              · skip
                refine zs_in (off := 129) (tgt := 130) hx hb h6 dX7_told_1 (by decide) (by decide) (by decide +kernel) (by decide) ?_
                refine lv_aload_n hx hb dX7_told_130 rfl (lv_at hl 0 rfl) ?_
                refine lv_iload_n hx hb dX7_told_131 rfl (lv_at hl 1 rfl) ?_
                obtain ⟨v7, s8, hq, hf⟩ := zb2_o hf
                refine zc_i hW (zrun_v (As := [.int p1]) (rest := []) hC hW (mX7_ofMarking p1 s0 hC.2.2.2.2.2.2.2 hq) cv_X7_225 zck_0_0 zcs_0_0 rfl ⟨⟨rfl, rfl⟩, Nat.le_of_ble_eq_true rfl, Nat.le_of_ble_eq_true rfl⟩ (zlv_size hl) rfl (Nat.le_of_ble_eq_true rfl) dX7_told_132 ⟨Nat.le_refl _, Nat.le_refl _⟩) (fun H locs hW => ?_)
                exact zr_i hx hb hr hlk hW (zo1 hf) (zo2 hf) dX7_told_135
              · skip
                refine zi_c hf (fun h7 hf => ?_) (fun h7 hf => ?_)
                · skip
                  refine zs_in (off := 114) (tgt := 115) hx hb h7 dX7_told_1 (by decide) (by decide) (by decide +kernel) (by decide) ?_
                  refine lv_aload_n hx hb dX7_told_115 rfl (lv_at hl 0 rfl) ?_
                  refine zg_a (o := 0) hC hW fl_X7_12 zck_0_0 zcs_0_0 (show _ = 1 from rfl) dX7_told_116 ?_
                  refine zg_a (o := 0) hC hW fl_X7_74 (zE_k zEc_1) (zE_s zEc_1) (show _ = 2 from rfl) dX7_told_119 ?_
                  refine lv_iload_n hx hb dX7_told_122 rfl (lv_at hl 1 rfl) ?_
                  refine lv_bipush (v := 15) hx hb dX7_told_123 (by decide) ?_
                  refine lv_isub hx hb dX7_told_125 ?_
                  obtain ⟨v9, hq, hf⟩ := zb1_o hf
                  refine zc_i hW (zrun_v (As := [.int (p1 - 15)]) (rest := []) hC hW (mX0_heldByRoot zGc_2 (p1 - 15) s0 hC.2.2.2.2.2.2.2 hq) cv_X7_159 (zG_k zGc_2) (zG_s zGc_2) rfl ⟨⟨rfl, rfl⟩, Nat.le_of_ble_eq_true rfl, Nat.le_of_ble_eq_true rfl⟩ (zlv_size hl) rfl (Nat.le_of_ble_eq_true rfl) dX7_told_126 ⟨Nat.le_refl _, Nat.le_refl _⟩) (fun H locs hW => ?_)
                  exact zr_i hx hb hr hlk hW (zo1 hf) (zo2 hf) dX7_told_129
                · skip
                  refine zi_c hf (fun h8 hf => ?_) (fun h8 hf => ?_)
                  · skip
                    refine zs_in (off := 114) (tgt := 115) hx hb h8 dX7_told_1 (by decide) (by decide) (by decide +kernel) (by decide) ?_
                    refine lv_aload_n hx hb dX7_told_115 rfl (lv_at hl 0 rfl) ?_
                    refine zg_a (o := 0) hC hW fl_X7_12 zck_0_0 zcs_0_0 (show _ = 1 from rfl) dX7_told_116 ?_
                    refine zg_a (o := 0) hC hW fl_X7_74 (zE_k zEc_1) (zE_s zEc_1) (show _ = 2 from rfl) dX7_told_119 ?_
                    refine lv_iload_n hx hb dX7_told_122 rfl (lv_at hl 1 rfl) ?_
                    refine lv_bipush (v := 15) hx hb dX7_told_123 (by decide) ?_
                    refine lv_isub hx hb dX7_told_125 ?_
                    obtain ⟨v10, hq, hf⟩ := zb1_o hf
                    refine zc_i hW (zrun_v (As := [.int (p1 - 15)]) (rest := []) hC hW (mX0_heldByRoot zGc_2 (p1 - 15) s0 hC.2.2.2.2.2.2.2 hq) cv_X7_159 (zG_k zGc_2) (zG_s zGc_2) rfl ⟨⟨rfl, rfl⟩, Nat.le_of_ble_eq_true rfl, Nat.le_of_ble_eq_true rfl⟩ (zlv_size hl) rfl (Nat.le_of_ble_eq_true rfl) dX7_told_126 ⟨Nat.le_refl _, Nat.le_refl _⟩) (fun H locs hW => ?_)
                    exact zr_i hx hb hr hlk hW (zo1 hf) (zo2 hf) dX7_told_129
                  · skip
                    refine zi_c hf (fun h9 hf => ?_) (fun h9 hf => ?_)
                    · skip
                      refine zs_in (off := 114) (tgt := 115) hx hb h9 dX7_told_1 (by decide) (by decide) (by decide +kernel) (by decide) ?_
                      refine lv_aload_n hx hb dX7_told_115 rfl (lv_at hl 0 rfl) ?_
                      refine zg_a (o := 0) hC hW fl_X7_12 zck_0_0 zcs_0_0 (show _ = 1 from rfl) dX7_told_116 ?_
                      refine zg_a (o := 0) hC hW fl_X7_74 (zE_k zEc_1) (zE_s zEc_1) (show _ = 2 from rfl) dX7_told_119 ?_
                      refine lv_iload_n hx hb dX7_told_122 rfl (lv_at hl 1 rfl) ?_
                      refine lv_bipush (v := 15) hx hb dX7_told_123 (by decide) ?_
                      refine lv_isub hx hb dX7_told_125 ?_
                      obtain ⟨v11, hq, hf⟩ := zb1_o hf
                      refine zc_i hW (zrun_v (As := [.int (p1 - 15)]) (rest := []) hC hW (mX0_heldByRoot zGc_2 (p1 - 15) s0 hC.2.2.2.2.2.2.2 hq) cv_X7_159 (zG_k zGc_2) (zG_s zGc_2) rfl ⟨⟨rfl, rfl⟩, Nat.le_of_ble_eq_true rfl, Nat.le_of_ble_eq_true rfl⟩ (zlv_size hl) rfl (Nat.le_of_ble_eq_true rfl) dX7_told_126 ⟨Nat.le_refl _, Nat.le_refl _⟩) (fun H locs hW => ?_)
                      exact zr_i hx hb hr hlk hW (zo1 hf) (zo2 hf) dX7_told_129
                    · skip
                      refine zi_c hf (fun h10 hf => ?_) (fun h10 hf => ?_)
                      · skip
                        refine zs_in (off := 114) (tgt := 115) hx hb h10 dX7_told_1 (by decide) (by decide) (by decide +kernel) (by decide) ?_
                        refine lv_aload_n hx hb dX7_told_115 rfl (lv_at hl 0 rfl) ?_
                        refine zg_a (o := 0) hC hW fl_X7_12 zck_0_0 zcs_0_0 (show _ = 1 from rfl) dX7_told_116 ?_
                        refine zg_a (o := 0) hC hW fl_X7_74 (zE_k zEc_1) (zE_s zEc_1) (show _ = 2 from rfl) dX7_told_119 ?_
                        refine lv_iload_n hx hb dX7_told_122 rfl (lv_at hl 1 rfl) ?_
                        refine lv_bipush (v := 15) hx hb dX7_told_123 (by decide) ?_
                        refine lv_isub hx hb dX7_told_125 ?_
                        obtain ⟨v12, hq, hf⟩ := zb1_o hf
                        refine zc_i hW (zrun_v (As := [.int (p1 - 15)]) (rest := []) hC hW (mX0_heldByRoot zGc_2 (p1 - 15) s0 hC.2.2.2.2.2.2.2 hq) cv_X7_159 (zG_k zGc_2) (zG_s zGc_2) rfl ⟨⟨rfl, rfl⟩, Nat.le_of_ble_eq_true rfl, Nat.le_of_ble_eq_true rfl⟩ (zlv_size hl) rfl (Nat.le_of_ble_eq_true rfl) dX7_told_126 ⟨Nat.le_refl _, Nat.le_refl _⟩) (fun H locs hW => ?_)
                        exact zr_i hx hb hr hlk hW (zo1 hf) (zo2 hf) dX7_told_129
                      · skip
                        refine lv_tableOut (tgt := 130) hx hb dX7_told_1 (by have n0 := lv_neT h0 (show (8 : Int32).toInt = 8 from rfl); have n1 := lv_neT h1 (show (9 : Int32).toInt = 9 from rfl); have n2 := lv_neT h2 (show (10 : Int32).toInt = 10 from rfl); have n3 := lv_neT h3 (show (11 : Int32).toInt = 11 from rfl); have n4 := lv_neT h4 (show (12 : Int32).toInt = 12 from rfl); have n5 := lv_neT h5 (show (13 : Int32).toInt = 13 from rfl); have n6 := lv_neT h6 (show (14 : Int32).toInt = 14 from rfl); have n7 := lv_neT h7 (show (15 : Int32).toInt = 15 from rfl); have n8 := lv_neT h8 (show (16 : Int32).toInt = 16 from rfl); have n9 := lv_neT h9 (show (17 : Int32).toInt = 17 from rfl); have n10 := lv_neT h10 (show (18 : Int32).toInt = 18 from rfl); omega) (by decide) ?_
                        refine lv_aload_n hx hb dX7_told_130 rfl (lv_at hl 0 rfl) ?_
                        refine lv_iload_n hx hb dX7_told_131 rfl (lv_at hl 1 rfl) ?_
                        obtain ⟨v13, s14, hq, hf⟩ := zb2_o hf
                        refine zc_i hW (zrun_v (As := [.int p1]) (rest := []) hC hW (mX7_ofMarking p1 s0 hC.2.2.2.2.2.2.2 hq) cv_X7_225 zck_0_0 zcs_0_0 rfl ⟨⟨rfl, rfl⟩, Nat.le_of_ble_eq_true rfl, Nat.le_of_ble_eq_true rfl⟩ (zlv_size hl) rfl (Nat.le_of_ble_eq_true rfl) dX7_told_132 ⟨Nat.le_refl _, Nat.le_refl _⟩) (fun H locs hW => ?_)
                        exact zr_i hx hb hr hlk hW (zo1 hf) (zo2 hf) dX7_told_135
set_option maxHeartbeats 4000000 in
set_option maxRecDepth 100000 in
theorem mX7_on {l : Launch} {D : va_G} {cI cJ : ClassId} {adr : Nat → Nat} (p1 : Int32) (p2 : Int32) (s0 : zkS) {z : Nat} {ro : Int32} {so : zkS} (hI : zInj 0 adr) (hf : fX7_on p1 p2 s0 = some (ro, so)) : Met l yX7_on (Cond.code yX7_on cX7_on 3 (some .int) :: zTb) { frames := 5, cells := 0, slots := 0, locals := 109 } (zPre 0 D cI cJ adr s0 z [.ref (adr 0), .int p1, .int p2]) (zQi 0 D cI cJ adr z ro so) 0 0 (zA 0 adr z) := by
  refine zen (cc := cX7_on) (own := RX7) (by decide +kernel) rfl hI (Nat.le_of_ble_eq_true rfl) (fun p e s m args below meth c ls hC hr hlk hz hl hW => ?_)
  subst hz
  obtain ⟨hx, hb, -⟩ := id hC
  have hl : lv_has ls 3 [(0, .ref (adr 0)), (1, .int p1), (2, .int p2)] := hl
  refine zst hW (fun H locs hW => ?_)
  unfold fX7_on at hf
  refine lv_iload_n hx hb dX7_on_0 rfl (lv_at hl 2 rfl) ?_
  refine zi_if_lt (tgt := 9) hx hb dX7_on_1 (by decide) hf (fun hc hf => ?_) (fun hc hf => ?_)
  · skip
    refine lv_iconst (v := (-1)) hx hb dX7_on_9 (by decide) ?_
    exact zr_i hx hb hr hlk hW (zo1 hf) (zo2 hf) dX7_on_10
  · skip
    refine lv_iload_n hx hb dX7_on_4 rfl (lv_at hl 2 rfl) ?_
    refine lv_iconst (v := 4) hx hb dX7_on_5 (by decide) ?_
    refine zi_icmp_le (tgt := 11) hx hb dX7_on_6 (by decide) hf (fun hc hf => ?_) (fun hc hf => ?_)
    · skip
      refine lv_iload_n hx hb dX7_on_11 rfl (lv_at hl 1 rfl) ?_
      refine zi_if_lt (tgt := 22) hx hb dX7_on_12 (by decide) hf (fun hc hf => ?_) (fun hc hf => ?_)
      · skip
        refine lv_bipush (v := (-2)) hx hb dX7_on_22 (by decide) ?_
        exact zr_i hx hb hr hlk hW (zo1 hf) (zo2 hf) dX7_on_24
      · skip
        refine lv_iload_n hx hb dX7_on_15 rfl (lv_at hl 1 rfl) ?_
        refine lv_sipush (v := 400) hx hb dX7_on_16 (by decide) ?_
        refine zi_icmp_le (tgt := 25) hx hb dX7_on_19 (by decide) hf (fun hc hf => ?_) (fun hc hf => ?_)
        · skip
          refine lv_aload_n hx hb dX7_on_25 rfl (lv_at hl 0 rfl) ?_
          refine zg_a (o := 38) hC hW fl_X7_35 zck_0_0 zcs_0_0 (show _ = 39 from rfl) dX7_on_26 ?_
          refine lv_aload_n hx hb dX7_on_29 rfl (lv_at hl 0 rfl) ?_
          refine zg_a (o := 0) hC hW fl_X7_12 zck_0_0 zcs_0_0 (show _ = 1 from rfl) dX7_on_30 ?_
          refine zg_a (o := 6) hC hW fl_X7_68 (zE_k zEc_1) (zE_s zEc_1) (show _ = 8 from rfl) dX7_on_33 ?_
          obtain ⟨s1, hq, hf⟩ := zb1_o hf
          refine zc_v hW (zrun_v (As := [.ref (adr 8)]) (rest := []) hC hW (mX2_copyFrom zKc_39 zKc_8 s0 hC.2.2.2.2.2.2.2 hq) cv_X7_228 (zK_k zKc_39) (zK_s zKc_39) rfl ⟨⟨rfl, rfl⟩, Nat.le_of_ble_eq_true rfl, Nat.le_of_ble_eq_true rfl⟩ (zlv_size hl) rfl (Nat.le_of_ble_eq_true rfl) dX7_on_36 ⟨Nat.le_refl _, Nat.le_refl _⟩) (fun H locs hW => ?_)
          refine lv_aload_n hx hb dX7_on_39 rfl (lv_at hl 0 rfl) ?_
          refine zg_a (o := 38) hC hW fl_X7_35 zck_0_0 zcs_0_0 (show _ = 39 from rfl) dX7_on_40 ?_
          refine lv_aload_n hx hb dX7_on_43 rfl (lv_at hl 0 rfl) ?_
          refine zg_a (o := 0) hC hW fl_X7_12 zck_0_0 zcs_0_0 (show _ = 1 from rfl) dX7_on_44 ?_
          refine zg_a (o := 0) hC hW fl_X7_74 (zE_k zEc_1) (zE_s zEc_1) (show _ = 2 from rfl) dX7_on_47 ?_
          refine lv_iload_n hx hb dX7_on_50 rfl (lv_at hl 1 rfl) ?_
          obtain ⟨v2, s3, hq, hf⟩ := zb2_o hf
          refine zc_i hW (zrun_v (As := [.ref (adr 2), .int p1]) (rest := []) hC hW (mX2_run zKc_39 zGc_2 p1 s1 hC.2.2.2.2.2.2.2 hq) cv_X7_206 (zK_k zKc_39) (zK_s zKc_39) rfl ⟨⟨rfl, rfl⟩, Nat.le_of_ble_eq_true rfl, Nat.le_of_ble_eq_true rfl⟩ (zlv_size hl) rfl (Nat.le_of_ble_eq_true rfl) dX7_on_51 ⟨Nat.le_refl _, Nat.le_refl _⟩) (fun H locs hW => ?_)
          refine lv_pop hx hb dX7_on_54 rfl ?_
          refine lv_iload_n hx hb dX7_on_55 rfl (lv_at hl 2 rfl) ?_
          refine zi_c hf (fun h0 hf => ?_) (fun h0 hf => ?_)
          · skip
            refine zs_in (off := 32) (tgt := 88) hx hb h0 dX7_on_56 (by decide) (by decide) (by decide +kernel) (by decide) ?_
            refine lv_aload_n hx hb dX7_on_88 rfl (lv_at hl 0 rfl) ?_
            refine zg_a (o := 38) hC hW fl_X7_35 zck_0_0 zcs_0_0 (show _ = 39 from rfl) dX7_on_89 ?_
            refine zg_i hC hW fl_X7_231 (zK_k zKc_39) (zK_s zKc_39) dX7_on_92 ?_
            exact zr_i hx hb hr hlk hW (zo1 hf) (zo2 hf) dX7_on_95
          · skip
            refine zi_c hf (fun h1 hf => ?_) (fun h1 hf => ?_)
            · skip
              refine zs_in (off := 40) (tgt := 96) hx hb h1 dX7_on_56 (by decide) (by decide) (by decide +kernel) (by decide) ?_
              refine lv_aload_n hx hb dX7_on_96 rfl (lv_at hl 0 rfl) ?_
              refine zg_a (o := 38) hC hW fl_X7_35 zck_0_0 zcs_0_0 (show _ = 39 from rfl) dX7_on_97 ?_
              obtain ⟨v4, hq, hf⟩ := zb1_o hf
              refine zc_i hW (zrun_v (As := []) (rest := []) hC hW (mX2_back zKc_39 s3 hC.2.2.2.2.2.2.2 hq) cv_X7_234 (zK_k zKc_39) (zK_s zKc_39) rfl ⟨⟨rfl, rfl⟩, Nat.le_of_ble_eq_true rfl, Nat.le_of_ble_eq_true rfl⟩ (zlv_size hl) rfl (Nat.le_of_ble_eq_true rfl) dX7_on_100 ⟨Nat.le_refl _, Nat.le_refl _⟩) (fun H locs hW => ?_)
              exact zr_i hx hb hr hlk hW (zo1 hf) (zo2 hf) dX7_on_103
            · skip
              refine zi_c hf (fun h2 hf => ?_) (fun h2 hf => ?_)
              · skip
                refine zs_in (off := 48) (tgt := 104) hx hb h2 dX7_on_56 (by decide) (by decide) (by decide +kernel) (by decide) ?_
                refine lv_aload_n hx hb dX7_on_104 rfl (lv_at hl 0 rfl) ?_
                refine zg_a (o := 38) hC hW fl_X7_35 zck_0_0 zcs_0_0 (show _ = 39 from rfl) dX7_on_105 ?_
                refine zg_i hC hW fl_X7_101 (zK_k zKc_39) (zK_s zKc_39) dX7_on_108 ?_
                exact zr_i hx hb hr hlk hW (zo1 hf) (zo2 hf) dX7_on_111
              · skip
                refine zi_c hf (fun h3 hf => ?_) (fun h3 hf => ?_)
                · skip
                  refine zs_in (off := 56) (tgt := 112) hx hb h3 dX7_on_56 (by decide) (by decide) (by decide +kernel) (by decide) ?_
                  refine lv_aload_n hx hb dX7_on_112 rfl (lv_at hl 0 rfl) ?_
                  refine zg_a (o := 38) hC hW fl_X7_35 zck_0_0 zcs_0_0 (show _ = 39 from rfl) dX7_on_113 ?_
                  refine zc_i hW (zrun_v (As := []) (rest := []) hC hW (mX2_turnedNow zKc_39 s3 hC.2.2.2.2.2.2.2 rfl) cv_X7_209 (zK_k zKc_39) (zK_s zKc_39) rfl ⟨⟨rfl, rfl⟩, Nat.le_of_ble_eq_true rfl, Nat.le_of_ble_eq_true rfl⟩ (zlv_size hl) rfl (Nat.le_of_ble_eq_true rfl) dX7_on_116 ⟨Nat.le_refl _, Nat.le_refl _⟩) (fun H locs hW => ?_)
                  exact zr_i hx hb hr hlk hW (zo1 hf) (zo2 hf) dX7_on_119
                · skip
                  refine lv_tableOut (tgt := 120) hx hb dX7_on_56 (by have n0 := lv_neT h0 (show (0 : Int32).toInt = 0 from rfl); have n1 := lv_neT h1 (show (1 : Int32).toInt = 1 from rfl); have n2 := lv_neT h2 (show (2 : Int32).toInt = 2 from rfl); have n3 := lv_neT h3 (show (3 : Int32).toInt = 3 from rfl); omega) (by decide) ?_
                  refine lv_aload_n hx hb dX7_on_120 rfl (lv_at hl 0 rfl) ?_
                  refine zg_a (o := 38) hC hW fl_X7_35 zck_0_0 zcs_0_0 (show _ = 39 from rfl) dX7_on_121 ?_
                  refine zg_i hC hW fl_X7_237 (zK_k zKc_39) (zK_s zKc_39) dX7_on_124 ?_
                  exact zr_i hx hb hr hlk hW (zo1 hf) (zo2 hf) dX7_on_127
        · skip
          refine lv_bipush (v := (-2)) hx hb dX7_on_22 (by decide) ?_
          exact zr_i hx hb hr hlk hW (zo1 hf) (zo2 hf) dX7_on_24
    · skip
      refine lv_iconst (v := (-1)) hx hb dX7_on_9 (by decide) ?_
      exact zr_i hx hb hr hlk hW (zo1 hf) (zo2 hf) dX7_on_10
set_option maxHeartbeats 4000000 in
set_option maxRecDepth 100000 in
theorem mX7_need {l : Launch} {D : va_G} {cI cJ : ClassId} {adr : Nat → Nat} (p1 : Int32) (p2 : Int32) (s0 : zkS) {z : Nat} {ro : Int32} {so : zkS} (hI : zInj 0 adr) (hf : fX7_need p1 p2 s0 = some (ro, so)) : Met l yX7_need (Cond.code yX7_need cX7_need 3 (some .int) :: zTb) { frames := 5, cells := 0, slots := 0, locals := 109 } (zPre 0 D cI cJ adr s0 z [.ref (adr 0), .int p1, .int p2]) (zQi 0 D cI cJ adr z ro so) 0 0 (zA 0 adr z) := by
  refine zen (cc := cX7_need) (own := RX7) (by decide +kernel) rfl hI (Nat.le_of_ble_eq_true rfl) (fun p e s m args below meth c ls hC hr hlk hz hl hW => ?_)
  subst hz
  obtain ⟨hx, hb, -⟩ := id hC
  have hl : lv_has ls 3 [(0, .ref (adr 0)), (1, .int p1), (2, .int p2)] := hl
  refine zst hW (fun H locs hW => ?_)
  unfold fX7_need at hf
  refine lv_iload_n hx hb dX7_need_0 rfl (lv_at hl 2 rfl) ?_
  refine zi_if_lt (tgt := 9) hx hb dX7_need_1 (by decide) hf (fun hc hf => ?_) (fun hc hf => ?_)
  · skip
    refine lv_iconst (v := (-1)) hx hb dX7_need_9 (by decide) ?_
    exact zr_i hx hb hr hlk hW (zo1 hf) (zo2 hf) dX7_need_10
  · skip
    refine lv_iload_n hx hb dX7_need_4 rfl (lv_at hl 2 rfl) ?_
    refine lv_iconst (v := 4) hx hb dX7_need_5 (by decide) ?_
    refine zi_icmp_le (tgt := 11) hx hb dX7_need_6 (by decide) hf (fun hc hf => ?_) (fun hc hf => ?_)
    · skip
      refine lv_iload_n hx hb dX7_need_11 rfl (lv_at hl 1 rfl) ?_
      refine zc_i hW (zrun_s (As := [.int p1]) (rest := []) hC hW (mX7_isLimit p1 s0 hC.2.2.2.2.2.2.2 rfl) cs_X7_194 rfl ⟨⟨rfl, rfl⟩, Nat.le_of_ble_eq_true rfl, Nat.le_of_ble_eq_true rfl⟩ (zlv_size hl) rfl (Nat.le_of_ble_eq_true rfl) dX7_need_12 ⟨Nat.le_refl _, Nat.le_refl _⟩) (fun H locs hW => ?_)
      refine zi_if_ne (tgt := 21) hx hb dX7_need_15 (by decide) hf (fun hc hf => ?_) (fun hc hf => ?_)
      · skip
        refine lv_bipush (v := (-2)) hx hb dX7_need_18 (by decide) ?_
        exact zr_i hx hb hr hlk hW (zo1 hf) (zo2 hf) dX7_need_20
      · skip
        refine lv_aload_n hx hb dX7_need_21 rfl (lv_at hl 0 rfl) ?_
        refine zg_a (o := 0) hC hW fl_X7_12 zck_0_0 zcs_0_0 (show _ = 1 from rfl) dX7_need_22 ?_
        refine zg_a (o := 6) hC hW fl_X7_68 (zE_k zEc_1) (zE_s zEc_1) (show _ = 8 from rfl) dX7_need_25 ?_
        refine zg_i hC hW fl_X7_71 (zK_k zKc_8) (zK_s zKc_8) dX7_need_28 ?_
        refine zi_if_eq (tgt := 37) hx hb dX7_need_31 (by decide) hf (fun hc hf => ?_) (fun hc hf => ?_)
        · skip
          refine lv_aload_n hx hb dX7_need_37 rfl (lv_at hl 0 rfl) ?_
          refine zg_a (o := 38) hC hW fl_X7_35 zck_0_0 zcs_0_0 (show _ = 39 from rfl) dX7_need_38 ?_
          refine lv_iload_n hx hb dX7_need_41 rfl (lv_at hl 1 rfl) ?_
          obtain ⟨s2, hq, hf⟩ := zlt_o hf
          refine zc_v hW (zrun_v (As := [.int p1]) (rest := []) hC hW (mX2_start zKc_39 p1 s0 hC.2.2.2.2.2.2.2 hq) cv_X7_197 (zK_k zKc_39) (zK_s zKc_39) rfl ⟨⟨rfl, rfl⟩, Nat.le_of_ble_eq_true rfl, Nat.le_of_ble_eq_true rfl⟩ (zlv_size hl) rfl (Nat.le_of_ble_eq_true rfl) dX7_need_42 ⟨Nat.le_refl _, Nat.le_refl _⟩) (fun H locs hW => ?_)
          refine lv_aload_n hx hb dX7_need_45 rfl (lv_at hl 0 rfl) ?_
          refine zg_a (o := 38) hC hW fl_X7_35 zck_0_0 zcs_0_0 (show _ = 39 from rfl) dX7_need_46 ?_
          refine lv_aload_n hx hb dX7_need_49 rfl (lv_at hl 0 rfl) ?_
          refine zg_a (o := 0) hC hW fl_X7_12 zck_0_0 zcs_0_0 (show _ = 1 from rfl) dX7_need_50 ?_
          refine zg_a (o := 0) hC hW fl_X7_74 (zE_k zEc_1) (zE_s zEc_1) (show _ = 2 from rfl) dX7_need_53 ?_
          refine lv_sipush (v := 1000) hx hb dX7_need_56 (by decide) ?_
          obtain ⟨v3, s4, hq, hf⟩ := zb2_o hf
          refine zc_i hW (zrun_v (As := [.ref (adr 2), .int 1000]) (rest := []) hC hW (mX2_run zKc_39 zGc_2 1000 s2 hC.2.2.2.2.2.2.2 hq) cv_X7_206 (zK_k zKc_39) (zK_s zKc_39) rfl ⟨⟨rfl, rfl⟩, Nat.le_of_ble_eq_true rfl, Nat.le_of_ble_eq_true rfl⟩ (zlv_size hl) rfl (Nat.le_of_ble_eq_true rfl) dX7_need_59 ⟨Nat.le_refl _, Nat.le_refl _⟩) (fun H locs hW => ?_)
          refine lv_pop hx hb dX7_need_62 rfl ?_
          refine lv_aload_n hx hb dX7_need_63 rfl (lv_at hl 0 rfl) ?_
          refine zg_a (o := 38) hC hW fl_X7_35 zck_0_0 zcs_0_0 (show _ = 39 from rfl) dX7_need_64 ?_
          refine lv_iload_n hx hb dX7_need_67 rfl (lv_at hl 2 rfl) ?_
          refine zc_i hW (zrun_v (As := [.int p2]) (rest := []) hC hW (mX2_tally zKc_39 p2 s4 hC.2.2.2.2.2.2.2 rfl) cv_X7_240 (zK_k zKc_39) (zK_s zKc_39) rfl ⟨⟨rfl, rfl⟩, Nat.le_of_ble_eq_true rfl, Nat.le_of_ble_eq_true rfl⟩ (zlv_size hl) rfl (Nat.le_of_ble_eq_true rfl) dX7_need_68 ⟨Nat.le_refl _, Nat.le_refl _⟩) (fun H locs hW => ?_)
          exact zr_i hx hb hr hlk hW (zo1 hf) (zo2 hf) dX7_need_71
        · skip
          refine lv_bipush (v := (-3)) hx hb dX7_need_34 (by decide) ?_
          exact zr_i hx hb hr hlk hW (zo1 hf) (zo2 hf) dX7_need_36
    · skip
      refine lv_iconst (v := (-1)) hx hb dX7_need_9 (by decide) ?_
      exact zr_i hx hb hr hlk hW (zo1 hf) (zo2 hf) dX7_need_10
set_option maxHeartbeats 4000000 in
set_option maxRecDepth 100000 in
theorem mX7_least {l : Launch} {D : va_G} {cI cJ : ClassId} {adr : Nat → Nat} (p1 : Int32) (s0 : zkS) {z : Nat} {ro : Int32} {so : zkS} (hI : zInj 0 adr) (hf : fX7_least p1 s0 = some (ro, so)) : Met l yX7_least (Cond.code yX7_least cX7_least 3 (some .int) :: zTb) { frames := 5, cells := 0, slots := 0, locals := 109 } (zPre 0 D cI cJ adr s0 z [.ref (adr 0), .int p1]) (zQi 0 D cI cJ adr z ro so) 0 0 (zA 0 adr z) := by
  refine zen (cc := cX7_least) (own := RX7) (by decide +kernel) rfl hI (Nat.le_of_ble_eq_true rfl) (fun p e s m args below meth c ls hC hr hlk hz hl hW => ?_)
  subst hz
  obtain ⟨hx, hb, -⟩ := id hC
  have hl : lv_has ls 3 [(0, .ref (adr 0)), (1, .int p1)] := hl
  refine zst hW (fun H locs hW => ?_)
  unfold fX7_least at hf
  refine lv_iload_n hx hb dX7_least_0 rfl (lv_at hl 1 rfl) ?_
  refine zi_if_lt (tgt := 9) hx hb dX7_least_1 (by decide) hf (fun hc hf => ?_) (fun hc hf => ?_)
  · skip
    refine lv_iconst (v := (-1)) hx hb dX7_least_9 (by decide) ?_
    exact zr_i hx hb hr hlk hW (zo1 hf) (zo2 hf) dX7_least_10
  · skip
    refine lv_iload_n hx hb dX7_least_4 rfl (lv_at hl 1 rfl) ?_
    refine lv_iconst (v := 1) hx hb dX7_least_5 (by decide) ?_
    refine zi_icmp_le (tgt := 11) hx hb dX7_least_6 (by decide) hf (fun hc hf => ?_) (fun hc hf => ?_)
    · skip
      refine lv_aload_n hx hb dX7_least_11 rfl (lv_at hl 0 rfl) ?_
      refine zg_a (o := 0) hC hW fl_X7_12 zck_0_0 zcs_0_0 (show _ = 1 from rfl) dX7_least_12 ?_
      refine zg_a (o := 6) hC hW fl_X7_68 (zE_k zEc_1) (zE_s zEc_1) (show _ = 8 from rfl) dX7_least_15 ?_
      refine zg_i hC hW fl_X7_71 (zK_k zKc_8) (zK_s zKc_8) dX7_least_18 ?_
      refine zi_if_eq (tgt := 27) hx hb dX7_least_21 (by decide) hf (fun hc hf => ?_) (fun hc hf => ?_)
      · skip
        refine lv_iconst (v := 0) hx hb dX7_least_27 (by decide) ?_
        refine lv_istore_n (lv' := [(2, .int 0), (0, .ref (adr 0)), (1, .int p1)]) hx hb dX7_least_28 rfl hl (by decide) rfl (fun ls hl => ?_)
        have hL29 : ∀ (n : Nat) (x1 : Int32) (x2 : Int32) (s1 : zkS) (K29 : zkS → Option (Int32 × zkS)) (H : Heap) (locs : List Loc) (ls : Array Slot), fX7_least_L29 n x1 x2 s1 K29 = some (ro, so) → zWo 0 D cI cJ adr s s1 H locs → lv_has ls 3 [(0, .ref (adr 0)), (1, .int x1), (2, .int x2)] → (∀ (s1 : zkS) (H : Heap) (locs : List Loc) (ls : Array Slot), K29 s1 = some (ro, so) → zWo 0 D cI cJ adr s s1 H locs → lv_has ls 3 [] → W p l e { frames := 5, cells := 0, slots := 0, locals := 109 } s m args below meth c H locs 0 0 (MQ below (zQi 0 D cI cJ adr s.heap.size ro so) args s 0 0 (zA 0 adr s.heap.size)) (F0 m 88 ls [])) → W p l e { frames := 5, cells := 0, slots := 0, locals := 109 } s m args below meth c H locs 0 0 (MQ below (zQi 0 D cI cJ adr s.heap.size ro so) args s 0 0 (zA 0 adr s.heap.size)) (F0 m 29 ls []) := by
          intro n
          induction n with
          | zero =>
            intro x1 x2 s1 K29 H locs ls hf hW hl hK29
            rw [fX7_least_L29] at hf
            cases hf
          | succ n ih29 =>
            intro x1 x2 s1 K29 H locs ls hf hW hl hK29
            rw [fX7_least_L29] at hf
            refine lv_iload_n hx hb dX7_least_29 rfl (lv_at hl 2 rfl) ?_
            refine lv_bipush (v := 8) hx hb dX7_least_30 (by decide) ?_
            refine zi_icmp_gt (tgt := 88) hx hb dX7_least_32 (by decide) hf (fun hc hf => ?_) (fun hc hf => ?_)
            · skip
              exact hK29 s1 H locs ls hf hW (lv_sub hl [] rfl)
            · skip
              refine lv_aload_n hx hb dX7_least_35 rfl (lv_at hl 0 rfl) ?_
              refine zg_a (o := 38) hC hW fl_X7_35 zck_0_0 zcs_0_0 (show _ = 39 from rfl) dX7_least_36 ?_
              refine lv_iload_n hx hb dX7_least_39 rfl (lv_at hl 2 rfl) ?_
              obtain ⟨s2, hq, hf⟩ := zlt_o hf
              refine zc_v hW (zrun_v (As := [.int x2]) (rest := []) hC hW (mX2_start zKc_39 x2 s1 hC.2.2.2.2.2.2.2 hq) cv_X7_197 (zK_k zKc_39) (zK_s zKc_39) rfl ⟨⟨rfl, rfl⟩, Nat.le_of_ble_eq_true rfl, Nat.le_of_ble_eq_true rfl⟩ (zlv_size hl) rfl (Nat.le_of_ble_eq_true rfl) dX7_least_40 ⟨Nat.le_refl _, Nat.le_refl _⟩) (fun H locs hW => ?_)
              refine lv_aload_n hx hb dX7_least_43 rfl (lv_at hl 0 rfl) ?_
              refine zg_a (o := 38) hC hW fl_X7_35 zck_0_0 zcs_0_0 (show _ = 39 from rfl) dX7_least_44 ?_
              refine lv_aload_n hx hb dX7_least_47 rfl (lv_at hl 0 rfl) ?_
              refine zg_a (o := 0) hC hW fl_X7_12 zck_0_0 zcs_0_0 (show _ = 1 from rfl) dX7_least_48 ?_
              refine zg_a (o := 0) hC hW fl_X7_74 (zE_k zEc_1) (zE_s zEc_1) (show _ = 2 from rfl) dX7_least_51 ?_
              refine lv_sipush (v := 1000) hx hb dX7_least_54 (by decide) ?_
              obtain ⟨v3, s4, hq, hf⟩ := zb2_o hf
              refine zc_i hW (zrun_v (As := [.ref (adr 2), .int 1000]) (rest := []) hC hW (mX2_run zKc_39 zGc_2 1000 s2 hC.2.2.2.2.2.2.2 hq) cv_X7_206 (zK_k zKc_39) (zK_s zKc_39) rfl ⟨⟨rfl, rfl⟩, Nat.le_of_ble_eq_true rfl, Nat.le_of_ble_eq_true rfl⟩ (zlv_size hl) rfl (Nat.le_of_ble_eq_true rfl) dX7_least_57 ⟨Nat.le_refl _, Nat.le_refl _⟩) (fun H locs hW => ?_)
              refine lv_pop hx hb dX7_least_60 rfl ?_
              refine lv_aload_n hx hb dX7_least_61 rfl (lv_at hl 0 rfl) ?_
              refine zg_a (o := 38) hC hW fl_X7_35 zck_0_0 zcs_0_0 (show _ = 39 from rfl) dX7_least_62 ?_
              refine lv_iload_n hx hb dX7_least_65 rfl (lv_at hl 1 rfl) ?_
              refine zi_if_ne (tgt := 73) hx hb dX7_least_66 (by decide) hf (fun hc hf => ?_) (fun hc hf => ?_)
              · skip
                refine lv_iconst (v := 1) hx hb dX7_least_69 (by decide) ?_
                refine lv_goto (tgt := 74) hx hb dX7_least_70 (by decide) ?_
                refine zc_i hW (zrun_v (As := [.int 1]) (rest := []) hC hW (mX2_tally zKc_39 1 s4 hC.2.2.2.2.2.2.2 rfl) cv_X7_240 (zK_k zKc_39) (zK_s zKc_39) rfl ⟨⟨rfl, rfl⟩, Nat.le_of_ble_eq_true rfl, Nat.le_of_ble_eq_true rfl⟩ (zlv_size hl) rfl (Nat.le_of_ble_eq_true rfl) dX7_least_74 ⟨Nat.le_refl _, Nat.le_refl _⟩) (fun H locs hW => ?_)
                refine zi_if_ne (tgt := 82) hx hb dX7_least_77 (by decide) hf (fun hc hf => ?_) (fun hc hf => ?_)
                · skip
                  refine lv_iload_n hx hb dX7_least_80 rfl (lv_at hl 2 rfl) ?_
                  exact zr_i hx hb hr hlk hW (zo1 hf) (zo2 hf) dX7_least_81
                · skip
                  refine zi_inc (v := (x2 + 1)) (lv' := fun v6 => [(2, .int v6), (0, .ref (adr 0)), (1, .int x1)]) hx hb dX7_least_82 hl (k := 2) rfl rfl (by decide) (fun _ => rfl) hf (fun v6 ls hf hl => ?_)
                  refine lv_goto (tgt := 29) hx hb dX7_least_85 (by decide) ?_
                  exact ih29 x1 v6 s4 _ H locs ls hf hW (lv_sub hl [1, 2, 0] rfl) hK29
              · skip
                refine lv_iconst (v := 3) hx hb dX7_least_73 (by decide) ?_
                refine zc_i hW (zrun_v (As := [.int 3]) (rest := []) hC hW (mX2_tally zKc_39 3 s4 hC.2.2.2.2.2.2.2 rfl) cv_X7_240 (zK_k zKc_39) (zK_s zKc_39) rfl ⟨⟨rfl, rfl⟩, Nat.le_of_ble_eq_true rfl, Nat.le_of_ble_eq_true rfl⟩ (zlv_size hl) rfl (Nat.le_of_ble_eq_true rfl) dX7_least_74 ⟨Nat.le_refl _, Nat.le_refl _⟩) (fun H locs hW => ?_)
                refine zi_if_ne (tgt := 82) hx hb dX7_least_77 (by decide) hf (fun hc hf => ?_) (fun hc hf => ?_)
                · skip
                  refine lv_iload_n hx hb dX7_least_80 rfl (lv_at hl 2 rfl) ?_
                  exact zr_i hx hb hr hlk hW (zo1 hf) (zo2 hf) dX7_least_81
                · skip
                  refine zi_inc (v := (x2 + 1)) (lv' := fun v8 => [(2, .int v8), (0, .ref (adr 0)), (1, .int x1)]) hx hb dX7_least_82 hl (k := 2) rfl rfl (by decide) (fun _ => rfl) hf (fun v8 ls hf hl => ?_)
                  refine lv_goto (tgt := 29) hx hb dX7_least_85 (by decide) ?_
                  exact ih29 x1 v8 s4 _ H locs ls hf hW (lv_sub hl [1, 2, 0] rfl) hK29
        refine hL29 zFU p1 0 s0 _ H locs ls hf hW (lv_sub hl [1, 2, 0] rfl) (fun s9 H locs ls hf hW hl => ?_)
        refine lv_bipush (v := (-5)) hx hb dX7_least_88 (by decide) ?_
        exact zr_i hx hb hr hlk hW (zo1 hf) (zo2 hf) dX7_least_90
      · skip
        refine lv_bipush (v := (-3)) hx hb dX7_least_24 (by decide) ?_
        exact zr_i hx hb hr hlk hW (zo1 hf) (zo2 hf) dX7_least_26
    · skip
      refine lv_iconst (v := (-1)) hx hb dX7_least_9 (by decide) ?_
      exact zr_i hx hb hr hlk hW (zo1 hf) (zo2 hf) dX7_least_10
set_option maxHeartbeats 4000000 in
set_option maxRecDepth 100000 in
theorem mX3_clear {l : Launch} {D : va_G} {cI cJ : ClassId} {adr : Nat → Nat} {b : Nat} (kb : zH b) (s0 : zkS) {z : Nat} {ro : Int32} {so : zkS} (hI : zInj 0 adr) (hf : fX3_clear b s0 = (ro, so)) : Met l yX3_clear (Cond.code yX3_clear cX3_clear 1 (some .int) :: zTb) { frames := 0, cells := 0, slots := 0, locals := 0 } (zPre 0 D cI cJ adr s0 z [.ref (adr b)]) (zQi 0 D cI cJ adr z ro so) 0 0 (zA 0 adr z) := by
  refine zen (cc := cX3_clear) (own := RX3) (by decide +kernel) rfl hI (Nat.le_of_ble_eq_true rfl) (fun p e s m args below meth c ls hC hr hlk hz hl hW => ?_)
  subst hz
  obtain ⟨hx, hb, -⟩ := id hC
  have hl : lv_has ls 1 [(0, .ref (adr b))] := hl
  refine zst hW (fun H locs hW => ?_)
  unfold fX3_clear at hf
  refine lv_aload_n hx hb dX3_clear_0 rfl (lv_at hl 0 rfl) ?_
  refine lv_iconst (v := 0) hx hb dX3_clear_1 (by decide) ?_
  refine zp_i hC hW hf fp_X3_9 (zH_k kb) (zH_s kb) dX3_clear_2 (fun s1 H locs hf hW => ?_)
  refine lv_aload_n hx hb dX3_clear_5 rfl (lv_at hl 0 rfl) ?_
  refine zg_i hC hW fl_X3_9 (zH_k kb) (zH_s kb) dX3_clear_6 ?_
  exact zr_i hx hb hr hlk hW (zt1 hf) (zt2 hf) dX3_clear_9
set_option maxHeartbeats 4000000 in
set_option maxRecDepth 100000 in
theorem mX3_add {l : Launch} {D : va_G} {cI cJ : ClassId} {adr : Nat → Nat} {b : Nat} (kb : zH b) (p1 : Int32) (p2 : Int32) (p3 : Int32) (s0 : zkS) {z : Nat} {ro : Int32} {so : zkS} (hI : zInj 0 adr) (hf : fX3_add b p1 p2 p3 s0 = some (ro, so)) : Met l yX3_add (Cond.code yX3_add cX3_add 4 (some .int) :: zTb) { frames := 0, cells := 0, slots := 0, locals := 0 } (zPre 0 D cI cJ adr s0 z [.ref (adr b), .int p1, .int p2, .int p3]) (zQi 0 D cI cJ adr z ro so) 0 0 (zA 0 adr z) := by
  refine zen (cc := cX3_add) (own := RX3) (by decide +kernel) rfl hI (Nat.le_of_ble_eq_true rfl) (fun p e s m args below meth c ls hC hr hlk hz hl hW => ?_)
  subst hz
  obtain ⟨hx, hb, -⟩ := id hC
  have hl : lv_has ls 4 [(0, .ref (adr b)), (1, .int p1), (2, .int p2), (3, .int p3)] := hl
  refine zst hW (fun H locs hW => ?_)
  unfold fX3_add at hf
  refine lv_aload_n hx hb dX3_add_0 rfl (lv_at hl 0 rfl) ?_
  refine zg_i hC hW fl_X3_9 (zH_k kb) (zH_s kb) dX3_add_1 ?_
  refine zi_if_lt (tgt := 66) hx hb dX3_add_4 (by decide) hf (fun hc hf => ?_) (fun hc hf => ?_)
  · skip
    refine lv_aload_n hx hb dX3_add_66 rfl (lv_at hl 0 rfl) ?_
    refine zg_i hC hW fl_X3_9 (zH_k kb) (zH_s kb) dX3_add_67 ?_
    exact zr_i hx hb hr hlk hW (zo1 hf) (zo2 hf) dX3_add_70
  · skip
    refine lv_aload_n hx hb dX3_add_7 rfl (lv_at hl 0 rfl) ?_
    refine zg_i hC hW fl_X3_9 (zH_k kb) (zH_s kb) dX3_add_8 ?_
    refine lv_bipush (v := 10) hx hb dX3_add_11 (by decide) ?_
    refine zi_icmp_ge (tgt := 66) hx hb dX3_add_13 (by decide) hf (fun hc hf => ?_) (fun hc hf => ?_)
    · skip
      refine lv_aload_n hx hb dX3_add_66 rfl (lv_at hl 0 rfl) ?_
      refine zg_i hC hW fl_X3_9 (zH_k kb) (zH_s kb) dX3_add_67 ?_
      exact zr_i hx hb hr hlk hW (zo1 hf) (zo2 hf) dX3_add_70
    · skip
      refine lv_aload_n hx hb dX3_add_16 rfl (lv_at hl 0 rfl) ?_
      refine zg_a (o := 0) hC hW fl_X3_15 (zH_k kb) (zH_s kb) (show _ = (b + 1) from rfl) dX3_add_17 ?_
      refine lv_aload_n hx hb dX3_add_20 rfl (lv_at hl 0 rfl) ?_
      refine zg_i hC hW fl_X3_9 (zH_k kb) (zH_s kb) dX3_add_21 ?_
      refine lv_iconst (v := 3) hx hb dX3_add_24 (by decide) ?_
      refine lv_imul hx hb dX3_add_25 ?_
      refine lv_iload_n hx hb dX3_add_26 rfl (lv_at hl 1 rfl) ?_
      refine za_s hC hW hf (zH_1 kb) dX3_add_27 (fun s1 H locs hf hW => ?_)
      refine lv_aload_n hx hb dX3_add_28 rfl (lv_at hl 0 rfl) ?_
      refine zg_a (o := 0) hC hW fl_X3_15 (zH_k kb) (zH_s kb) (show _ = (b + 1) from rfl) dX3_add_29 ?_
      refine lv_aload_n hx hb dX3_add_32 rfl (lv_at hl 0 rfl) ?_
      refine zg_i hC hW fl_X3_9 (zH_k kb) (zH_s kb) dX3_add_33 ?_
      refine lv_iconst (v := 3) hx hb dX3_add_36 (by decide) ?_
      refine lv_imul hx hb dX3_add_37 ?_
      refine lv_iconst (v := 1) hx hb dX3_add_38 (by decide) ?_
      refine lv_iadd hx hb dX3_add_39 ?_
      refine lv_iload_n hx hb dX3_add_40 rfl (lv_at hl 2 rfl) ?_
      refine za_s hC hW hf (zH_1 kb) dX3_add_41 (fun s2 H locs hf hW => ?_)
      refine lv_aload_n hx hb dX3_add_42 rfl (lv_at hl 0 rfl) ?_
      refine zg_a (o := 0) hC hW fl_X3_15 (zH_k kb) (zH_s kb) (show _ = (b + 1) from rfl) dX3_add_43 ?_
      refine lv_aload_n hx hb dX3_add_46 rfl (lv_at hl 0 rfl) ?_
      refine zg_i hC hW fl_X3_9 (zH_k kb) (zH_s kb) dX3_add_47 ?_
      refine lv_iconst (v := 3) hx hb dX3_add_50 (by decide) ?_
      refine lv_imul hx hb dX3_add_51 ?_
      refine lv_iconst (v := 2) hx hb dX3_add_52 (by decide) ?_
      refine lv_iadd hx hb dX3_add_53 ?_
      refine lv_iload_n hx hb dX3_add_54 rfl (lv_at hl 3 rfl) ?_
      refine za_s hC hW hf (zH_1 kb) dX3_add_55 (fun s3 H locs hf hW => ?_)
      refine lv_aload_n hx hb dX3_add_56 rfl (lv_at hl 0 rfl) ?_
      refine lv_dup hx hb dX3_add_57 rfl ?_
      refine zg_i hC hW fl_X3_9 (zH_k kb) (zH_s kb) dX3_add_58 ?_
      refine lv_iconst (v := 1) hx hb dX3_add_61 (by decide) ?_
      refine lv_iadd hx hb dX3_add_62 ?_
      refine zp_i hC hW hf fp_X3_9 (zH_k kb) (zH_s kb) dX3_add_63 (fun s4 H locs hf hW => ?_)
      refine lv_aload_n hx hb dX3_add_66 rfl (lv_at hl 0 rfl) ?_
      refine zg_i hC hW fl_X3_9 (zH_k kb) (zH_s kb) dX3_add_67 ?_
      exact zr_i hx hb hr hlk hW (zo1 hf) (zo2 hf) dX3_add_70
set_option maxHeartbeats 4000000 in
set_option maxRecDepth 100000 in
theorem mX7_see {l : Launch} {D : va_G} {cI cJ : ClassId} {adr : Nat → Nat} (p1 : Int32) (p2 : Int32) (p3 : Int32) (s0 : zkS) {z : Nat} {ro : Int32} {so : zkS} (hI : zInj 0 adr) (hf : fX7_see p1 p2 p3 s0 = some (ro, so)) : Met l yX7_see (Cond.code yX7_see cX7_see 4 (some .int) :: zTb) { frames := 2, cells := 0, slots := 0, locals := 42 } (zPre 0 D cI cJ adr s0 z [.ref (adr 0), .int p1, .int p2, .int p3]) (zQi 0 D cI cJ adr z ro so) 0 0 (zA 0 adr z) := by
  refine zen (cc := cX7_see) (own := RX7) (by decide +kernel) rfl hI (Nat.le_of_ble_eq_true rfl) (fun p e s m args below meth c ls hC hr hlk hz hl hW => ?_)
  subst hz
  obtain ⟨hx, hb, -⟩ := id hC
  have hl : lv_has ls 4 [(0, .ref (adr 0)), (1, .int p1), (2, .int p2), (3, .int p3)] := hl
  refine zst hW (fun H locs hW => ?_)
  unfold fX7_see at hf
  refine lv_iload_n hx hb dX7_see_0 rfl (lv_at hl 1 rfl) ?_
  refine lv_iconst (v := (-1)) hx hb dX7_see_1 (by decide) ?_
  refine zi_icmp_ne (tgt := 16) hx hb dX7_see_2 (by decide) hf (fun hc hf => ?_) (fun hc hf => ?_)
  · skip
    refine lv_aload_n hx hb dX7_see_5 rfl (lv_at hl 0 rfl) ?_
    refine zg_a (o := 0) hC hW fl_X7_12 zck_0_0 zcs_0_0 (show _ = 1 from rfl) dX7_see_6 ?_
    refine zg_a (o := 9) hC hW fl_X7_243 (zE_k zEc_1) (zE_s zEc_1) (show _ = 11 from rfl) dX7_see_9 ?_
    obtain ⟨v1, s2, hq, hf⟩ := zw2_o hf
    refine zc_i hW (zrun_v (As := []) (rest := []) hC hW (mX3_clear zHc_11 s0 hC.2.2.2.2.2.2.2 hq) cv_X7_247 (zH_k zHc_11) (zH_s zHc_11) rfl ⟨⟨rfl, rfl⟩, Nat.le_of_ble_eq_true rfl, Nat.le_of_ble_eq_true rfl⟩ (zlv_size hl) rfl (Nat.le_of_ble_eq_true rfl) dX7_see_12 ⟨Nat.le_refl _, Nat.le_refl _⟩) (fun H locs hW => ?_)
    exact zr_i hx hb hr hlk hW (zo1 hf) (zo2 hf) dX7_see_15
  · skip
    refine lv_aload_n hx hb dX7_see_16 rfl (lv_at hl 0 rfl) ?_
    refine zg_a (o := 0) hC hW fl_X7_12 zck_0_0 zcs_0_0 (show _ = 1 from rfl) dX7_see_17 ?_
    refine zg_a (o := 0) hC hW fl_X7_74 (zE_k zEc_1) (zE_s zEc_1) (show _ = 2 from rfl) dX7_see_20 ?_
    refine lv_iload_n hx hb dX7_see_23 rfl (lv_at hl 1 rfl) ?_
    refine zc_i hW (zrun_v (As := [.int p1]) (rest := []) hC hW (mX0_isThere zGc_2 p1 s0 hC.2.2.2.2.2.2.2 rfl) cv_X7_88 (zG_k zGc_2) (zG_s zGc_2) rfl ⟨⟨rfl, rfl⟩, Nat.le_of_ble_eq_true rfl, Nat.le_of_ble_eq_true rfl⟩ (zlv_size hl) rfl (Nat.le_of_ble_eq_true rfl) dX7_see_24 ⟨Nat.le_refl _, Nat.le_refl _⟩) (fun H locs hW => ?_)
    refine zi_if_ne (tgt := 32) hx hb dX7_see_27 (by decide) hf (fun hc hf => ?_) (fun hc hf => ?_)
    · skip
      refine lv_iconst (v := (-1)) hx hb dX7_see_30 (by decide) ?_
      exact zr_i hx hb hr hlk hW (zo1 hf) (zo2 hf) dX7_see_31
    · skip
      refine lv_iload_n hx hb dX7_see_32 rfl (lv_at hl 2 rfl) ?_
      refine zi_if_lt (tgt := 42) hx hb dX7_see_33 (by decide) hf (fun hc hf => ?_) (fun hc hf => ?_)
      · skip
        refine lv_bipush (v := (-2)) hx hb dX7_see_42 (by decide) ?_
        exact zr_i hx hb hr hlk hW (zo1 hf) (zo2 hf) dX7_see_44
      · skip
        refine lv_iload_n hx hb dX7_see_36 rfl (lv_at hl 2 rfl) ?_
        refine lv_bipush (v := 40) hx hb dX7_see_37 (by decide) ?_
        refine zi_icmp_le (tgt := 45) hx hb dX7_see_39 (by decide) hf (fun hc hf => ?_) (fun hc hf => ?_)
        · skip
          refine lv_aload_n hx hb dX7_see_45 rfl (lv_at hl 0 rfl) ?_
          refine zg_a (o := 0) hC hW fl_X7_12 zck_0_0 zcs_0_0 (show _ = 1 from rfl) dX7_see_46 ?_
          refine zg_a (o := 9) hC hW fl_X7_243 (zE_k zEc_1) (zE_s zEc_1) (show _ = 11 from rfl) dX7_see_49 ?_
          refine zg_i hC hW fl_X7_252 (zH_k zHc_11) (zH_s zHc_11) dX7_see_52 ?_
          refine lv_iconst (v := 5) hx hb dX7_see_55 (by decide) ?_
          refine zi_icmp_ge (tgt := 78) hx hb dX7_see_56 (by decide) hf (fun hc hf => ?_) (fun hc hf => ?_)
          · skip
            refine lv_bipush (v := (-4)) hx hb dX7_see_78 (by decide) ?_
            exact zr_i hx hb hr hlk hW (zo1 hf) (zo2 hf) dX7_see_80
          · skip
            refine lv_aload_n hx hb dX7_see_59 rfl (lv_at hl 0 rfl) ?_
            refine zg_a (o := 0) hC hW fl_X7_12 zck_0_0 zcs_0_0 (show _ = 1 from rfl) dX7_see_60 ?_
            refine zg_a (o := 9) hC hW fl_X7_243 (zE_k zEc_1) (zE_s zEc_1) (show _ = 11 from rfl) dX7_see_63 ?_
            refine lv_iload_n hx hb dX7_see_66 rfl (lv_at hl 1 rfl) ?_
            refine lv_iload_n hx hb dX7_see_67 rfl (lv_at hl 2 rfl) ?_
            refine lv_iload_n hx hb dX7_see_68 rfl (lv_at hl 3 rfl) ?_
            refine zc_i hW (zrun_s (As := [.int p3]) (rest := [.int p2, .int p1, .ref (adr 11)]) hC hW (mX7_asNumber p3 s0 hC.2.2.2.2.2.2.2 rfl) cs_X7_108 rfl ⟨⟨rfl, rfl⟩, Nat.le_of_ble_eq_true rfl, Nat.le_of_ble_eq_true rfl⟩ (zlv_size hl) rfl (Nat.le_of_ble_eq_true rfl) dX7_see_69 ⟨Nat.le_refl _, Nat.le_refl _⟩) (fun H locs hW => ?_)
            obtain ⟨v5, s6, hq, hf⟩ := zb2_o hf
            refine zc_i hW (zrun_v (As := [.int p1, .int p2, .int (fX7_asNumber p3)]) (rest := []) hC hW (mX3_add zHc_11 p1 p2 (fX7_asNumber p3) s0 hC.2.2.2.2.2.2.2 hq) cv_X7_255 (zH_k zHc_11) (zH_s zHc_11) rfl ⟨⟨rfl, rfl⟩, Nat.le_of_ble_eq_true rfl, Nat.le_of_ble_eq_true rfl⟩ (zlv_size hl) rfl (Nat.le_of_ble_eq_true rfl) dX7_see_72 ⟨Nat.le_refl _, Nat.le_refl _⟩) (fun H locs hW => ?_)
            refine lv_goto (tgt := 80) hx hb dX7_see_75 (by decide) ?_
            exact zr_i hx hb hr hlk hW (zo1 hf) (zo2 hf) dX7_see_80
        · skip
          refine lv_bipush (v := (-2)) hx hb dX7_see_42 (by decide) ?_
          exact zr_i hx hb hr hlk hW (zo1 hf) (zo2 hf) dX7_see_44
set_option maxHeartbeats 4000000 in
set_option maxRecDepth 100000 in
theorem mX3_number {l : Launch} {D : va_G} {cI cJ : ClassId} {adr : Nat → Nat} {b : Nat} (kb : zH b) (p1 : Int32) (p2 : Int32) (s0 : zkS) {z : Nat} {ro : Int32} (hI : zInj 0 adr) (hf : fX3_number b p1 p2 s0 = some ro) : Met l yX3_number (Cond.code yX3_number cX3_number 4 (some .int) :: zTb) { frames := 0, cells := 0, slots := 0, locals := 0 } (zPre 0 D cI cJ adr s0 z [.ref (adr b), .int p1, .int p2]) (zQi 0 D cI cJ adr z ro s0) 0 0 (zA 0 adr z) := by
  refine zen (cc := cX3_number) (own := RX3) (by decide +kernel) rfl hI (Nat.le_of_ble_eq_true rfl) (fun p e s m args below meth c ls hC hr hlk hz hl hW => ?_)
  subst hz
  obtain ⟨hx, hb, -⟩ := id hC
  have hl : lv_has ls 4 [(0, .ref (adr b)), (1, .int p1), (2, .int p2)] := hl
  refine zst hW (fun H locs hW => ?_)
  unfold fX3_number at hf
  refine lv_iload_n hx hb dX3_number_0 rfl (lv_at hl 1 rfl) ?_
  refine zjn_e hf (fun J1 => ∀ (v2 : Int32) (H : Heap) (locs : List Loc) (ls : Array Slot), J1 v2 = some ro → zWo 0 D cI cJ adr s s0 H locs → lv_has ls 4 [(0, .ref (adr b)), (1, .int p1), (2, .int p2)] → W p l e { frames := 0, cells := 0, slots := 0, locals := 0 } s m args below meth c H locs 0 0 (MQ below (zQi 0 D cI cJ adr s.heap.size ro s0) args s 0 0 (zA 0 adr s.heap.size)) (F0 m 32 ls [.int v2])) ?_ (fun J1 hJ1 hf => ?_)
  · intro v2 H locs ls hf hW hl
    refine lv_istore_n (lv' := [(3, .int v2), (0, .ref (adr b)), (1, .int p1), (2, .int p2)]) hx hb dX3_number_32 rfl hl (by decide) rfl (fun ls hl => ?_)
    refine lv_iload_n hx hb dX3_number_33 rfl (lv_at hl 0 rfl) ?_
    refine zi_if_eq (tgt := 50) hx hb dX3_number_34 (by decide) hf (fun hc hf => ?_) (fun hc hf => ?_)
    · skip
      refine lv_bipush (v := (-5)) hx hb dX3_number_50 (by decide) ?_
      exact zr_i hx hb hr hlk hW (Option.some.inj hf) rfl dX3_number_52
    · skip
      refine lv_aload_n hx hb dX3_number_37 rfl (lv_at hl 1 rfl) ?_
      refine zg_a (o := 0) hC hW fl_X3_15 (zH_k kb) (zH_s kb) (show _ = (b + 1) from rfl) dX3_number_38 ?_
      refine lv_iload_n hx hb dX3_number_41 rfl (lv_at hl 2 rfl) ?_
      refine lv_iconst (v := 3) hx hb dX3_number_42 (by decide) ?_
      refine lv_imul hx hb dX3_number_43 ?_
      refine lv_iload_n hx hb dX3_number_44 rfl (lv_at hl 3 rfl) ?_
      refine lv_iadd hx hb dX3_number_45 ?_
      refine za_l hC hW hf (zH_1 kb) dX3_number_46 (fun v3 hf => ?_)
      refine lv_goto (tgt := 52) hx hb dX3_number_47 (by decide) ?_
      exact zr_i hx hb hr hlk hW (Option.some.inj hf) rfl dX3_number_52
  refine zjn_e hf (fun J4 => ∀ (u5 : Unit) (H : Heap) (locs : List Loc) (ls : Array Slot), J4 u5 = some ro → zWo 0 D cI cJ adr s s0 H locs → lv_has ls 4 [(0, .ref (adr b)), (1, .int p1), (2, .int p2)] → W p l e { frames := 0, cells := 0, slots := 0, locals := 0 } s m args below meth c H locs 0 0 (MQ below (zQi 0 D cI cJ adr s.heap.size ro s0) args s 0 0 (zA 0 adr s.heap.size)) (F0 m 31 ls [])) ?_ (fun J4 hJ4 hf => ?_)
  · intro u5 H locs ls hf hW hl
    refine lv_iconst (v := 0) hx hb dX3_number_31 (by decide) ?_
    exact hJ1 0 H locs ls hf hW (lv_sub hl [0, 1, 2] rfl)
  refine zi_if_lt (tgt := 31) hx hb dX3_number_1 (by decide) hf (fun hc hf => ?_) (fun hc hf => ?_)
  · skip
    exact hJ4 () H locs ls hf hW (lv_sub hl [0, 1, 2] rfl)
  · skip
    refine lv_iload_n hx hb dX3_number_4 rfl (lv_at hl 1 rfl) ?_
    refine lv_aload_n hx hb dX3_number_5 rfl (lv_at hl 0 rfl) ?_
    refine zg_i hC hW fl_X3_9 (zH_k kb) (zH_s kb) dX3_number_6 ?_
    refine zi_icmp_ge (tgt := 31) hx hb dX3_number_9 (by decide) hf (fun hc hf => ?_) (fun hc hf => ?_)
    · skip
      exact hJ4 () H locs ls hf hW (lv_sub hl [0, 1, 2] rfl)
    · skip
      refine lv_iload_n hx hb dX3_number_12 rfl (lv_at hl 1 rfl) ?_
      refine lv_bipush (v := 10) hx hb dX3_number_13 (by decide) ?_
      refine zi_icmp_ge (tgt := 31) hx hb dX3_number_15 (by decide) hf (fun hc hf => ?_) (fun hc hf => ?_)
      · skip
        exact hJ4 () H locs ls hf hW (lv_sub hl [0, 1, 2] rfl)
      · skip
        refine lv_iload_n hx hb dX3_number_18 rfl (lv_at hl 2 rfl) ?_
        refine zi_if_lt (tgt := 31) hx hb dX3_number_19 (by decide) hf (fun hc hf => ?_) (fun hc hf => ?_)
        · skip
          exact hJ4 () H locs ls hf hW (lv_sub hl [0, 1, 2] rfl)
        · skip
          refine lv_iload_n hx hb dX3_number_22 rfl (lv_at hl 2 rfl) ?_
          refine lv_iconst (v := 3) hx hb dX3_number_23 (by decide) ?_
          refine zi_icmp_ge (tgt := 31) hx hb dX3_number_24 (by decide) hf (fun hc hf => ?_) (fun hc hf => ?_)
          · skip
            exact hJ4 () H locs ls hf hW (lv_sub hl [0, 1, 2] rfl)
          · skip
            refine lv_iconst (v := 1) hx hb dX3_number_27 (by decide) ?_
            refine lv_goto (tgt := 32) hx hb dX3_number_28 (by decide) ?_
            exact hJ1 1 H locs ls hf hW (lv_sub hl [0, 1, 2] rfl)
set_option maxHeartbeats 4000000 in
set_option maxRecDepth 100000 in
theorem mX7_isAsSeenBehind {l : Launch} {D : va_G} {cI cJ : ClassId} {adr : Nat → Nat} (p1 : Int32) (p2 : Int32) (s0 : zkS) {z : Nat} {ro : Int32} (hI : zInj 0 adr) (hf : fX7_isAsSeenBehind p1 p2 s0 = some ro) : Met l yX7_isAsSeenBehind (Cond.code yX7_isAsSeenBehind cX7_isAsSeenBehind 5 (some .boolean) :: zTb) { frames := 1, cells := 0, slots := 0, locals := 23 } (zPre 0 D cI cJ adr s0 z [.ref (adr 0), .int p1, .int p2]) (zQi 0 D cI cJ adr z ro s0) 0 0 (zA 0 adr z) := by
  refine zen (cc := cX7_isAsSeenBehind) (own := RX7) (by decide +kernel) rfl hI (Nat.le_of_ble_eq_true rfl) (fun p e s m args below meth c ls hC hr hlk hz hl hW => ?_)
  subst hz
  obtain ⟨hx, hb, -⟩ := id hC
  have hl : lv_has ls 5 [(0, .ref (adr 0)), (1, .int p1), (2, .int p2)] := hl
  refine zst hW (fun H locs hW => ?_)
  unfold fX7_isAsSeenBehind at hf
  refine lv_iconst (v := 0) hx hb dX7_isAsSeenBehind_0 (by decide) ?_
  refine lv_istore_n (lv' := [(3, .int 0), (0, .ref (adr 0)), (1, .int p1), (2, .int p2)]) hx hb dX7_isAsSeenBehind_1 rfl hl (by decide) rfl (fun ls hl => ?_)
  have hL2 : ∀ (n : Nat) (x1 : Int32) (x2 : Int32) (x3 : Int32) (K2 : Unit → Option (Int32)) (H : Heap) (locs : List Loc) (ls : Array Slot), fX7_isAsSeenBehind_L2 n s0 x1 x2 x3 K2 = some ro → zWo 0 D cI cJ adr s s0 H locs → lv_has ls 5 [(0, .ref (adr 0)), (1, .int x1), (2, .int x2), (3, .int x3)] → (∀  (H : Heap) (locs : List Loc) (ls : Array Slot), K2 () = some ro → zWo 0 D cI cJ adr s s0 H locs → lv_has ls 5 [] → W p l e { frames := 1, cells := 0, slots := 0, locals := 23 } s m args below meth c H locs 0 0 (MQ below (zQi 0 D cI cJ adr s.heap.size ro s0) args s 0 0 (zA 0 adr s.heap.size)) (F0 m 78 ls [])) → W p l e { frames := 1, cells := 0, slots := 0, locals := 23 } s m args below meth c H locs 0 0 (MQ below (zQi 0 D cI cJ adr s.heap.size ro s0) args s 0 0 (zA 0 adr s.heap.size)) (F0 m 2 ls []) := by
    intro n
    induction n with
    | zero =>
      intro x1 x2 x3 K2 H locs ls hf hW hl hK2
      rw [fX7_isAsSeenBehind_L2] at hf
      cases hf
    | succ n ih2 =>
      intro x1 x2 x3 K2 H locs ls hf hW hl hK2
      rw [fX7_isAsSeenBehind_L2] at hf
      refine lv_iload_n hx hb dX7_isAsSeenBehind_2 rfl (lv_at hl 3 rfl) ?_
      refine lv_aload_n hx hb dX7_isAsSeenBehind_3 rfl (lv_at hl 0 rfl) ?_
      refine zg_a (o := 0) hC hW fl_X7_12 zck_0_0 zcs_0_0 (show _ = 1 from rfl) dX7_isAsSeenBehind_4 ?_
      refine zg_a (o := 9) hC hW fl_X7_243 (zE_k zEc_1) (zE_s zEc_1) (show _ = 11 from rfl) dX7_isAsSeenBehind_7 ?_
      refine zg_i hC hW fl_X7_252 (zH_k zHc_11) (zH_s zHc_11) dX7_isAsSeenBehind_10 ?_
      refine zi_icmp_ge (tgt := 78) hx hb dX7_isAsSeenBehind_13 (by decide) hf (fun hc hf => ?_) (fun hc hf => ?_)
      · skip
        exact hK2  H locs ls hf hW (lv_sub hl [] rfl)
      · skip
        refine lv_iload_n hx hb dX7_isAsSeenBehind_16 rfl (lv_at hl 2 rfl) ?_
        refine lv_aload_n hx hb dX7_isAsSeenBehind_17 rfl (lv_at hl 0 rfl) ?_
        refine zg_a (o := 0) hC hW fl_X7_12 zck_0_0 zcs_0_0 (show _ = 1 from rfl) dX7_isAsSeenBehind_18 ?_
        refine zg_a (o := 9) hC hW fl_X7_243 (zE_k zEc_1) (zE_s zEc_1) (show _ = 11 from rfl) dX7_isAsSeenBehind_21 ?_
        refine lv_iload_n hx hb dX7_isAsSeenBehind_24 rfl (lv_at hl 3 rfl) ?_
        refine lv_iconst (v := 0) hx hb dX7_isAsSeenBehind_25 (by decide) ?_
        obtain ⟨v1, hq, hf⟩ := zb1_o hf
        refine zc_i hW (zrun_v (As := [.int x3, .int 0]) (rest := [.int x2]) hC hW (mX3_number zHc_11 x3 0 s0 hC.2.2.2.2.2.2.2 hq) cv_X7_287 (zH_k zHc_11) (zH_s zHc_11) rfl ⟨⟨rfl, rfl⟩, Nat.le_of_ble_eq_true rfl, Nat.le_of_ble_eq_true rfl⟩ (zlv_size hl) rfl (Nat.le_of_ble_eq_true rfl) dX7_isAsSeenBehind_26 ⟨Nat.le_refl _, Nat.le_refl _⟩) (fun H locs hW => ?_)
        refine zc_i hW (zrun_s (As := [.int x2, .int v1]) (rest := []) hC hW (mX7_has x2 v1 s0 hC.2.2.2.2.2.2.2 rfl) cs_X7_104 rfl ⟨⟨rfl, rfl⟩, Nat.le_of_ble_eq_true rfl, Nat.le_of_ble_eq_true rfl⟩ (zlv_size hl) rfl (Nat.le_of_ble_eq_true rfl) dX7_isAsSeenBehind_29 ⟨Nat.le_refl _, Nat.le_refl _⟩) (fun H locs hW => ?_)
        refine zn_i hf (fun v3 hf => ?_)
        refine lv_istore (lv' := [(4, .int v3), (0, .ref (adr 0)), (1, .int x1), (2, .int x2), (3, .int x3)]) hx hb dX7_isAsSeenBehind_32 hl (by decide) rfl (fun ls hl => ?_)
        refine lv_aload_n hx hb dX7_isAsSeenBehind_34 rfl (lv_at hl 1 rfl) ?_
        refine zg_a (o := 0) hC hW fl_X7_12 zck_0_0 zcs_0_0 (show _ = 1 from rfl) dX7_isAsSeenBehind_35 ?_
        refine zg_a (o := 9) hC hW fl_X7_243 (zE_k zEc_1) (zE_s zEc_1) (show _ = 11 from rfl) dX7_isAsSeenBehind_38 ?_
        refine lv_iload_n hx hb dX7_isAsSeenBehind_41 rfl (lv_at hl 4 rfl) ?_
        refine lv_iconst (v := 1) hx hb dX7_isAsSeenBehind_42 (by decide) ?_
        obtain ⟨v4, hq, hf⟩ := zb1_o hf
        refine zc_i hW (zrun_v (As := [.int x3, .int 1]) (rest := []) hC hW (mX3_number zHc_11 x3 1 s0 hC.2.2.2.2.2.2.2 hq) cv_X7_287 (zH_k zHc_11) (zH_s zHc_11) rfl ⟨⟨rfl, rfl⟩, Nat.le_of_ble_eq_true rfl, Nat.le_of_ble_eq_true rfl⟩ (zlv_size hl) rfl (Nat.le_of_ble_eq_true rfl) dX7_isAsSeenBehind_43 ⟨Nat.le_refl _, Nat.le_refl _⟩) (fun H locs hW => ?_)
        refine lv_iload_n hx hb dX7_isAsSeenBehind_46 rfl (lv_at hl 2 rfl) ?_
        refine zi_icmp_ne (tgt := 72) hx hb dX7_isAsSeenBehind_47 (by decide) hf (fun hc hf => ?_) (fun hc hf => ?_)
        · skip
          refine lv_aload_n hx hb dX7_isAsSeenBehind_50 rfl (lv_at hl 1 rfl) ?_
          refine zg_a (o := 0) hC hW fl_X7_12 zck_0_0 zcs_0_0 (show _ = 1 from rfl) dX7_isAsSeenBehind_51 ?_
          refine zg_a (o := 9) hC hW fl_X7_243 (zE_k zEc_1) (zE_s zEc_1) (show _ = 11 from rfl) dX7_isAsSeenBehind_54 ?_
          refine lv_iload_n hx hb dX7_isAsSeenBehind_57 rfl (lv_at hl 4 rfl) ?_
          refine lv_iconst (v := 2) hx hb dX7_isAsSeenBehind_58 (by decide) ?_
          obtain ⟨v5, hq, hf⟩ := zb1_o hf
          refine zc_i hW (zrun_v (As := [.int x3, .int 2]) (rest := []) hC hW (mX3_number zHc_11 x3 2 s0 hC.2.2.2.2.2.2.2 hq) cv_X7_287 (zH_k zHc_11) (zH_s zHc_11) rfl ⟨⟨rfl, rfl⟩, Nat.le_of_ble_eq_true rfl, Nat.le_of_ble_eq_true rfl⟩ (zlv_size hl) rfl (Nat.le_of_ble_eq_true rfl) dX7_isAsSeenBehind_59 ⟨Nat.le_refl _, Nat.le_refl _⟩) (fun H locs hW => ?_)
          refine lv_iload hx hb dX7_isAsSeenBehind_62 (lv_at hl 0 rfl) ?_
          refine zc_i hW (zrun_s (As := [.int v3]) (rest := [.int v5]) hC hW (mX7_asNumber v3 s0 hC.2.2.2.2.2.2.2 rfl) cs_X7_108 rfl ⟨⟨rfl, rfl⟩, Nat.le_of_ble_eq_true rfl, Nat.le_of_ble_eq_true rfl⟩ (zlv_size hl) rfl (Nat.le_of_ble_eq_true rfl) dX7_isAsSeenBehind_64 ⟨Nat.le_refl _, Nat.le_refl _⟩) (fun H locs hW => ?_)
          refine zi_icmp_eq (tgt := 72) hx hb dX7_isAsSeenBehind_67 (by decide) hf (fun hc hf => ?_) (fun hc hf => ?_)
          · skip
            refine zi_inc (v := (x3 + 1)) (lv' := fun v7 => [(3, .int v7), (4, .int v3), (0, .ref (adr 0)), (1, .int x1), (2, .int x2)]) hx hb dX7_isAsSeenBehind_72 hl (k := 4) rfl rfl (by decide) (fun _ => rfl) hf (fun v7 ls hf hl => ?_)
            refine lv_goto (tgt := 2) hx hb dX7_isAsSeenBehind_75 (by decide) ?_
            exact ih2 x1 x2 v7 _ H locs ls hf hW (lv_sub hl [2, 3, 4, 0] rfl) hK2
          · skip
            refine lv_iconst (v := 0) hx hb dX7_isAsSeenBehind_70 (by decide) ?_
            exact zr_z hx hb hr hlk hW (by decide) (Option.some.inj hf) rfl dX7_isAsSeenBehind_71
        · skip
          refine zi_inc (v := (x3 + 1)) (lv' := fun v8 => [(3, .int v8), (4, .int v3), (0, .ref (adr 0)), (1, .int x1), (2, .int x2)]) hx hb dX7_isAsSeenBehind_72 hl (k := 4) rfl rfl (by decide) (fun _ => rfl) hf (fun v8 ls hf hl => ?_)
          refine lv_goto (tgt := 2) hx hb dX7_isAsSeenBehind_75 (by decide) ?_
          exact ih2 x1 x2 v8 _ H locs ls hf hW (lv_sub hl [2, 3, 4, 0] rfl) hK2
  refine hL2 zFU p1 p2 0 _ H locs ls hf hW (lv_sub hl [1, 2, 3, 0] rfl) (fun  H locs ls hf hW hl => ?_)
  refine lv_iconst (v := 1) hx hb dX7_isAsSeenBehind_78 (by decide) ?_
  exact zr_z hx hb hr hlk hW (by decide) (Option.some.inj hf) rfl dX7_isAsSeenBehind_79
set_option maxHeartbeats 4000000 in
set_option maxRecDepth 100000 in
theorem mX7_isAsSeen {l : Launch} {D : va_G} {cI cJ : ClassId} {adr : Nat → Nat} {o1 : Nat} (k1 : zG o1) (p2 : Int32) (s0 : zkS) {z : Nat} {ro : Int32} {so : zkS} (hI : zInj 0 adr) (hf : fX7_isAsSeen o1 p2 s0 = some (ro, so)) : Met l yX7_isAsSeen (Cond.code yX7_isAsSeen cX7_isAsSeen 4 (some .boolean) :: zTb) { frames := 5, cells := 0, slots := 0, locals := 109 } (zPre 0 D cI cJ adr s0 z [.ref (adr 0), .ref (adr o1), .int p2]) (zQi 0 D cI cJ adr z ro so) 0 0 (zA 0 adr z) := by
  refine zen (cc := cX7_isAsSeen) (own := RX7) (by decide +kernel) rfl hI (Nat.le_of_ble_eq_true rfl) (fun p e s m args below meth c ls hC hr hlk hz hl hW => ?_)
  subst hz
  obtain ⟨hx, hb, -⟩ := id hC
  have hl : lv_has ls 4 [(0, .ref (adr 0)), (1, .ref (adr o1)), (2, .int p2)] := hl
  refine zst hW (fun H locs hW => ?_)
  unfold fX7_isAsSeen at hf
  refine lv_aload_n hx hb dX7_isAsSeen_0 rfl (lv_at hl 0 rfl) ?_
  refine zg_a (o := 38) hC hW fl_X7_35 zck_0_0 zcs_0_0 (show _ = 39 from rfl) dX7_isAsSeen_1 ?_
  refine lv_iload_n hx hb dX7_isAsSeen_4 rfl (lv_at hl 2 rfl) ?_
  obtain ⟨s1, hq, hf⟩ := zlt_o hf
  refine zc_v hW (zrun_v (As := [.int p2]) (rest := []) hC hW (mX2_start zKc_39 p2 s0 hC.2.2.2.2.2.2.2 hq) cv_X7_197 (zK_k zKc_39) (zK_s zKc_39) rfl ⟨⟨rfl, rfl⟩, Nat.le_of_ble_eq_true rfl, Nat.le_of_ble_eq_true rfl⟩ (zlv_size hl) rfl (Nat.le_of_ble_eq_true rfl) dX7_isAsSeen_5 ⟨Nat.le_refl _, Nat.le_refl _⟩) (fun H locs hW => ?_)
  refine lv_iconst (v := 0) hx hb dX7_isAsSeen_8 (by decide) ?_
  refine lv_istore_n (lv' := [(3, .int 0), (0, .ref (adr 0)), (1, .ref (adr o1)), (2, .int p2)]) hx hb dX7_isAsSeen_9 rfl hl (by decide) rfl (fun ls hl => ?_)
  have hL10 : ∀ (n : Nat) (x3 : Int32) (s2 : zkS) (K10 : zkS → Option (Int32 × zkS)) (H : Heap) (locs : List Loc) (ls : Array Slot), fX7_isAsSeen_L10 n o1 x3 s2 K10 = some (ro, so) → zWo 0 D cI cJ adr s s2 H locs → lv_has ls 4 [(0, .ref (adr 0)), (1, .ref (adr o1)), (3, .int x3)] → (∀ (s2 : zkS) (H : Heap) (locs : List Loc) (ls : Array Slot), K10 s2 = some (ro, so) → zWo 0 D cI cJ adr s s2 H locs → lv_has ls 4 [] → W p l e { frames := 5, cells := 0, slots := 0, locals := 109 } s m args below meth c H locs 0 0 (MQ below (zQi 0 D cI cJ adr s.heap.size ro so) args s 0 0 (zA 0 adr s.heap.size)) (F0 m 49 ls [])) → W p l e { frames := 5, cells := 0, slots := 0, locals := 109 } s m args below meth c H locs 0 0 (MQ below (zQi 0 D cI cJ adr s.heap.size ro so) args s 0 0 (zA 0 adr s.heap.size)) (F0 m 10 ls []) := by
    intro n
    induction n with
    | zero =>
      intro x3 s2 K10 H locs ls hf hW hl hK10
      rw [fX7_isAsSeen_L10] at hf
      cases hf
    | succ n ih10 =>
      intro x3 s2 K10 H locs ls hf hW hl hK10
      rw [fX7_isAsSeen_L10] at hf
      refine lv_iload_n hx hb dX7_isAsSeen_10 rfl (lv_at hl 2 rfl) ?_
      refine lv_bipush (v := 40) hx hb dX7_isAsSeen_11 (by decide) ?_
      refine zi_icmp_gt (tgt := 49) hx hb dX7_isAsSeen_13 (by decide) hf (fun hc hf => ?_) (fun hc hf => ?_)
      · skip
        exact hK10 s2 H locs ls hf hW (lv_sub hl [] rfl)
      · skip
        refine lv_aload_n hx hb dX7_isAsSeen_16 rfl (lv_at hl 0 rfl) ?_
        refine lv_iload_n hx hb dX7_isAsSeen_17 rfl (lv_at hl 2 rfl) ?_
        refine lv_aload_n hx hb dX7_isAsSeen_18 rfl (lv_at hl 0 rfl) ?_
        refine zg_a (o := 38) hC hW fl_X7_35 zck_0_0 zcs_0_0 (show _ = 39 from rfl) dX7_isAsSeen_19 ?_
        refine zg_i hC hW fl_X7_101 (zK_k zKc_39) (zK_s zKc_39) dX7_isAsSeen_22 ?_
        obtain ⟨v3, hq, hf⟩ := zb1_o hf
        refine zc_i hW (zrun_v (As := [.int x3, .int (s2.1 39 2)]) (rest := []) hC hW (mX7_isAsSeenBehind x3 (s2.1 39 2) s2 hC.2.2.2.2.2.2.2 hq) cv_X7_339 zck_0_0 zcs_0_0 rfl ⟨⟨rfl, rfl⟩, Nat.le_of_ble_eq_true rfl, Nat.le_of_ble_eq_true rfl⟩ (zlv_size hl) rfl (Nat.le_of_ble_eq_true rfl) dX7_isAsSeen_25 ⟨Nat.le_refl _, Nat.le_refl _⟩) (fun H locs hW => ?_)
        refine zi_if_ne (tgt := 33) hx hb dX7_isAsSeen_28 (by decide) hf (fun hc hf => ?_) (fun hc hf => ?_)
        · skip
          refine lv_iconst (v := 0) hx hb dX7_isAsSeen_31 (by decide) ?_
          exact zr_z hx hb hr hlk hW (by decide) (zo1 hf) (zo2 hf) dX7_isAsSeen_32
        · skip
          refine lv_aload_n hx hb dX7_isAsSeen_33 rfl (lv_at hl 0 rfl) ?_
          refine zg_a (o := 38) hC hW fl_X7_35 zck_0_0 zcs_0_0 (show _ = 39 from rfl) dX7_isAsSeen_34 ?_
          refine lv_aload_n hx hb dX7_isAsSeen_37 rfl (lv_at hl 1 rfl) ?_
          refine lv_iconst (v := 1) hx hb dX7_isAsSeen_38 (by decide) ?_
          obtain ⟨v4, s5, hq, hf⟩ := zb2_o hf
          refine zc_i hW (zrun_v (As := [.ref (adr o1), .int 1]) (rest := []) hC hW (mX2_run zKc_39 k1 1 s2 hC.2.2.2.2.2.2.2 hq) cv_X7_206 (zK_k zKc_39) (zK_s zKc_39) rfl ⟨⟨rfl, rfl⟩, Nat.le_of_ble_eq_true rfl, Nat.le_of_ble_eq_true rfl⟩ (zlv_size hl) rfl (Nat.le_of_ble_eq_true rfl) dX7_isAsSeen_39 ⟨Nat.le_refl _, Nat.le_refl _⟩) (fun H locs hW => ?_)
          refine lv_pop hx hb dX7_isAsSeen_42 rfl ?_
          refine zi_inc (v := (x3 + 1)) (lv' := fun v6 => [(3, .int v6), (0, .ref (adr 0)), (1, .ref (adr o1))]) hx hb dX7_isAsSeen_43 hl (k := 2) rfl rfl (by decide) (fun _ => rfl) hf (fun v6 ls hf hl => ?_)
          refine lv_goto (tgt := 10) hx hb dX7_isAsSeen_46 (by decide) ?_
          exact ih10 v6 s5 _ H locs ls hf hW (lv_sub hl [1, 2, 0] rfl) hK10
  refine hL10 zFU 0 s1 _ H locs ls hf hW (lv_sub hl [1, 2, 0] rfl) (fun s7 H locs ls hf hW hl => ?_)
  refine lv_iconst (v := 1) hx hb dX7_isAsSeen_49 (by decide) ?_
  exact zr_z hx hb hr hlk hW (by decide) (zo1 hf) (zo2 hf) dX7_isAsSeen_50
