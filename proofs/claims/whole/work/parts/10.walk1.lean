set_option maxHeartbeats 4000000 in
set_option maxRecDepth 100000 in
theorem mX7_isTag {l : Launch} {D : va_G} {cI cJ : ClassId} {adr : Nat → Nat} {u : Nat} (p1 : Int32) (s0 : zkS) {z : Nat} {ro : Int32} (hI : zInj u adr) (hf : fX7_isTag p1 = ro) : Met l yX7_isTag (Cond.code yX7_isTag cX7_isTag 1 (some .boolean) :: zTb) { frames := 0, cells := 0, slots := 0, locals := 0 } (zPre u D cI cJ adr s0 z [.int p1]) (zQi u D cI cJ adr z ro s0) 0 0 (zA u adr z) := by
  refine zen (cc := cX7_isTag) (own := RX7) (by decide +kernel) rfl hI (Nat.le_of_ble_eq_true rfl) (fun p e s m args below meth c ls hC hr hlk hz hl hW => ?_)
  subst hz
  obtain ⟨hx, hb, -⟩ := id hC
  have hl : lv_has ls 1 [(0, .int p1)] := hl
  refine zst hW (fun H locs hW => ?_)
  unfold fX7_isTag at hf
  refine lv_iload_n hx hb dX7_isTag_0 rfl (lv_at hl 0 rfl) ?_
  refine zi_if_lt (tgt := 14) hx hb dX7_isTag_1 (by decide) hf (fun hc hf => ?_) (fun hc hf => ?_)
  · skip
    refine lv_iconst (v := 0) hx hb dX7_isTag_14 (by decide) ?_
    exact zr_z hx hb hr hlk hW (by decide) hf rfl dX7_isTag_15
  · skip
    refine lv_iload_n hx hb dX7_isTag_4 rfl (lv_at hl 0 rfl) ?_
    refine lv_bipush (v := 10) hx hb dX7_isTag_5 (by decide) ?_
    refine zi_icmp_ge (tgt := 14) hx hb dX7_isTag_7 (by decide) hf (fun hc hf => ?_) (fun hc hf => ?_)
    · skip
      refine lv_iconst (v := 0) hx hb dX7_isTag_14 (by decide) ?_
      exact zr_z hx hb hr hlk hW (by decide) hf rfl dX7_isTag_15
    · skip
      refine lv_iconst (v := 1) hx hb dX7_isTag_10 (by decide) ?_
      refine lv_goto (tgt := 15) hx hb dX7_isTag_11 (by decide) ?_
      exact zr_z hx hb hr hlk hW (by decide) hf rfl dX7_isTag_15
set_option maxHeartbeats 4000000 in
set_option maxRecDepth 100000 in
theorem mX7_fieldsOf {l : Launch} {D : va_G} {cI cJ : ClassId} {adr : Nat → Nat} {u : Nat} (p1 : Int32) (p2 : Int32) (s0 : zkS) {z : Nat} {ro : Int32} (hI : zInj u adr) (hf : fX7_fieldsOf p1 p2 = ro) : Met l yX7_fieldsOf (Cond.code yX7_fieldsOf cX7_fieldsOf 2 (some .int) :: zTb) { frames := 0, cells := 0, slots := 0, locals := 0 } (zPre u D cI cJ adr s0 z [.int p1, .int p2]) (zQi u D cI cJ adr z ro s0) 0 0 (zA u adr z) := by
  refine zen (cc := cX7_fieldsOf) (own := RX7) (by decide +kernel) rfl hI (Nat.le_of_ble_eq_true rfl) (fun p e s m args below meth c ls hC hr hlk hz hl hW => ?_)
  subst hz
  obtain ⟨hx, hb, -⟩ := id hC
  have hl : lv_has ls 2 [(0, .int p1), (1, .int p2)] := hl
  refine zst hW (fun H locs hW => ?_)
  unfold fX7_fieldsOf at hf
  refine lv_iload_n hx hb dX7_fieldsOf_0 rfl (lv_at hl 0 rfl) ?_
  refine zi_c hf (fun h0 hf => ?_) (fun h0 hf => ?_)
  · skip
    refine zs_in (off := 39) (tgt := 40) hx hb h0 dX7_fieldsOf_1 (by decide) (by decide) (by decide +kernel) (by decide) ?_
    refine lv_iconst (v := 2) hx hb dX7_fieldsOf_40 (by decide) ?_
    exact zr_i hx hb hr hlk hW hf rfl dX7_fieldsOf_41
  · skip
    refine zi_c hf (fun h1 hf => ?_) (fun h1 hf => ?_)
    · skip
      refine zs_in (off := 43) (tgt := 44) hx hb h1 dX7_fieldsOf_1 (by decide) (by decide) (by decide +kernel) (by decide) ?_
      refine lv_iload_n hx hb dX7_fieldsOf_44 rfl (lv_at hl 1 rfl) ?_
      exact zr_i hx hb hr hlk hW hf rfl dX7_fieldsOf_45
    · skip
      refine zi_c hf (fun h2 hf => ?_) (fun h2 hf => ?_)
      · skip
        refine zs_in (off := 41) (tgt := 42) hx hb h2 dX7_fieldsOf_1 (by decide) (by decide) (by decide +kernel) (by decide) ?_
        refine lv_iconst (v := 1) hx hb dX7_fieldsOf_42 (by decide) ?_
        exact zr_i hx hb hr hlk hW hf rfl dX7_fieldsOf_43
      · skip
        refine zi_c hf (fun h3 hf => ?_) (fun h3 hf => ?_)
        · skip
          refine zs_in (off := 41) (tgt := 42) hx hb h3 dX7_fieldsOf_1 (by decide) (by decide) (by decide +kernel) (by decide) ?_
          refine lv_iconst (v := 1) hx hb dX7_fieldsOf_42 (by decide) ?_
          exact zr_i hx hb hr hlk hW hf rfl dX7_fieldsOf_43
        · skip
          refine zi_c hf (fun h4 hf => ?_) (fun h4 hf => ?_)
          · skip
            refine zs_in (off := 43) (tgt := 44) hx hb h4 dX7_fieldsOf_1 (by decide) (by decide) (by decide +kernel) (by decide) ?_
            refine lv_iload_n hx hb dX7_fieldsOf_44 rfl (lv_at hl 1 rfl) ?_
            exact zr_i hx hb hr hlk hW hf rfl dX7_fieldsOf_45
          · skip
            refine zi_c hf (fun h5 hf => ?_) (fun h5 hf => ?_)
            · skip
              refine zs_in (off := 39) (tgt := 40) hx hb h5 dX7_fieldsOf_1 (by decide) (by decide) (by decide +kernel) (by decide) ?_
              refine lv_iconst (v := 2) hx hb dX7_fieldsOf_40 (by decide) ?_
              exact zr_i hx hb hr hlk hW hf rfl dX7_fieldsOf_41
            · skip
              refine lv_tableOut (tgt := 46) hx hb dX7_fieldsOf_1 (by have n0 := lv_neT h0 (show (1 : Int32).toInt = 1 from rfl); have n1 := lv_neT h1 (show (2 : Int32).toInt = 2 from rfl); have n2 := lv_neT h2 (show (3 : Int32).toInt = 3 from rfl); have n3 := lv_neT h3 (show (4 : Int32).toInt = 4 from rfl); have n4 := lv_neT h4 (show (5 : Int32).toInt = 5 from rfl); have n5 := lv_neT h5 (show (6 : Int32).toInt = 6 from rfl); omega) (by decide) ?_
              refine lv_iconst (v := 0) hx hb dX7_fieldsOf_46 (by decide) ?_
              exact zr_i hx hb hr hlk hW hf rfl dX7_fieldsOf_47
set_option maxHeartbeats 4000000 in
set_option maxRecDepth 100000 in
theorem mX7_bit {l : Launch} {D : va_G} {cI cJ : ClassId} {adr : Nat → Nat} {u : Nat} (p1 : Int32) (s0 : zkS) {z : Nat} {ro : Int32} (hI : zInj u adr) (hf : fX7_bit p1 = ro) : Met l yX7_bit (Cond.code yX7_bit cX7_bit 1 (some .int) :: zTb) { frames := 0, cells := 0, slots := 0, locals := 0 } (zPre u D cI cJ adr s0 z [.int p1]) (zQi u D cI cJ adr z ro s0) 0 0 (zA u adr z) := by
  refine zen (cc := cX7_bit) (own := RX7) (by decide +kernel) rfl hI (Nat.le_of_ble_eq_true rfl) (fun p e s m args below meth c ls hC hr hlk hz hl hW => ?_)
  subst hz
  obtain ⟨hx, hb, -⟩ := id hC
  have hl : lv_has ls 1 [(0, .int p1)] := hl
  refine zst hW (fun H locs hW => ?_)
  unfold fX7_bit at hf
  refine lv_iload_n hx hb dX7_bit_0 rfl (lv_at hl 0 rfl) ?_
  refine zi_if_lt (tgt := 16) hx hb dX7_bit_1 (by decide) hf (fun hc hf => ?_) (fun hc hf => ?_)
  · skip
    refine lv_iconst (v := 0) hx hb dX7_bit_16 (by decide) ?_
    exact zr_i hx hb hr hlk hW hf rfl dX7_bit_17
  · skip
    refine lv_iload_n hx hb dX7_bit_4 rfl (lv_at hl 0 rfl) ?_
    refine lv_bipush (v := 24) hx hb dX7_bit_5 (by decide) ?_
    refine zi_icmp_ge (tgt := 16) hx hb dX7_bit_7 (by decide) hf (fun hc hf => ?_) (fun hc hf => ?_)
    · skip
      refine lv_iconst (v := 0) hx hb dX7_bit_16 (by decide) ?_
      exact zr_i hx hb hr hlk hW hf rfl dX7_bit_17
    · skip
      refine lv_iconst (v := 1) hx hb dX7_bit_10 (by decide) ?_
      refine lv_iload_n hx hb dX7_bit_11 rfl (lv_at hl 0 rfl) ?_
      refine lv_ishl hx hb dX7_bit_12 ?_
      refine lv_goto (tgt := 17) hx hb dX7_bit_13 (by decide) ?_
      exact zr_i hx hb hr hlk hW hf rfl dX7_bit_17
set_option maxHeartbeats 4000000 in
set_option maxRecDepth 100000 in
theorem mX7_has {l : Launch} {D : va_G} {cI cJ : ClassId} {adr : Nat → Nat} {u : Nat} (p1 : Int32) (p2 : Int32) (s0 : zkS) {z : Nat} {ro : Int32} (hI : zInj u adr) (hf : fX7_has p1 p2 = ro) : Met l yX7_has (Cond.code yX7_has cX7_has 2 (some .boolean) :: zTb) { frames := 0, cells := 0, slots := 0, locals := 0 } (zPre u D cI cJ adr s0 z [.int p1, .int p2]) (zQi u D cI cJ adr z ro s0) 0 0 (zA u adr z) := by
  refine zen (cc := cX7_has) (own := RX7) (by decide +kernel) rfl hI (Nat.le_of_ble_eq_true rfl) (fun p e s m args below meth c ls hC hr hlk hz hl hW => ?_)
  subst hz
  obtain ⟨hx, hb, -⟩ := id hC
  have hl : lv_has ls 2 [(0, .int p1), (1, .int p2)] := hl
  refine zst hW (fun H locs hW => ?_)
  unfold fX7_has at hf
  refine lv_iload_n hx hb dX7_has_0 rfl (lv_at hl 1 rfl) ?_
  refine zi_if_lt (tgt := 22) hx hb dX7_has_1 (by decide) hf (fun hc hf => ?_) (fun hc hf => ?_)
  · skip
    refine lv_iconst (v := 0) hx hb dX7_has_22 (by decide) ?_
    exact zr_z hx hb hr hlk hW (by decide) hf rfl dX7_has_23
  · skip
    refine lv_iload_n hx hb dX7_has_4 rfl (lv_at hl 1 rfl) ?_
    refine lv_bipush (v := 24) hx hb dX7_has_5 (by decide) ?_
    refine zi_icmp_ge (tgt := 22) hx hb dX7_has_7 (by decide) hf (fun hc hf => ?_) (fun hc hf => ?_)
    · skip
      refine lv_iconst (v := 0) hx hb dX7_has_22 (by decide) ?_
      exact zr_z hx hb hr hlk hW (by decide) hf rfl dX7_has_23
    · skip
      refine lv_iload_n hx hb dX7_has_10 rfl (lv_at hl 0 rfl) ?_
      refine lv_iload_n hx hb dX7_has_11 rfl (lv_at hl 1 rfl) ?_
      refine lv_ishr hx hb dX7_has_12 ?_
      refine lv_iconst (v := 1) hx hb dX7_has_13 (by decide) ?_
      refine lv_iand hx hb dX7_has_14 ?_
      refine zi_if_eq (tgt := 22) hx hb dX7_has_15 (by decide) hf (fun hc hf => ?_) (fun hc hf => ?_)
      · skip
        refine lv_iconst (v := 0) hx hb dX7_has_22 (by decide) ?_
        exact zr_z hx hb hr hlk hW (by decide) hf rfl dX7_has_23
      · skip
        refine lv_iconst (v := 1) hx hb dX7_has_18 (by decide) ?_
        refine lv_goto (tgt := 23) hx hb dX7_has_19 (by decide) ?_
        exact zr_z hx hb hr hlk hW (by decide) hf rfl dX7_has_23
set_option maxHeartbeats 4000000 in
set_option maxRecDepth 100000 in
theorem mX0_widen {l : Launch} {D : va_G} {cI cJ : ClassId} {adr : Nat → Nat} {b : Nat} (kb : zG b) (p1 : Int32) (s0 : zkS) {z : Nat} {so : zkS} (hI : zInj 0 adr) (hf : fX0_widen b p1 s0 = some so) : Met l yX0_widen (Cond.code yX0_widen cX0_widen 2 none :: zTb) { frames := 1, cells := 0, slots := 0, locals := 21 } (zPre 0 D cI cJ adr s0 z [.ref (adr b), .int p1]) (zQv 0 D cI cJ adr z so) 0 0 (zA 0 adr z) := by
  refine zen (cc := cX0_widen) (own := RX0) (by decide +kernel) rfl hI (Nat.le_of_ble_eq_true rfl) (fun p e s m args below meth c ls hC hr hlk hz hl hW => ?_)
  subst hz
  obtain ⟨hx, hb, -⟩ := id hC
  have hl : lv_has ls 2 [(0, .ref (adr b)), (1, .int p1)] := hl
  refine zst hW (fun H locs hW => ?_)
  unfold fX0_widen at hf
  refine lv_aload_n hx hb dX0_widen_0 rfl (lv_at hl 0 rfl) ?_
  refine zg_i hC hW fl_X0_15 (zG_k kb) (zG_s kb) dX0_widen_1 ?_
  refine lv_iload_n hx hb dX0_widen_4 rfl (lv_at hl 1 rfl) ?_
  refine zc_i hW (zrun_n (As := [.int (s0.1 b 1), .int p1]) (rest := []) hC hW (mX7_has (s0.1 b 1) p1 s0 hC.2.2.2.2.2.2.2 rfl) cn_X0_57 rfl ⟨⟨rfl, rfl⟩, Nat.le_of_ble_eq_true rfl, Nat.le_of_ble_eq_true rfl⟩ (zlv_size hl) rfl (Nat.le_of_ble_eq_true rfl) dX0_widen_5 ⟨Nat.le_refl _, Nat.le_refl _⟩) (fun H locs hW => ?_)
  refine zi_if_eq (tgt := 52) hx hb dX0_widen_8 (by decide) hf (fun hc hf => ?_) (fun hc hf => ?_)
  · skip
    exact zr_v hx hb hr hlk hW (Option.some.inj hf) dX0_widen_52
  · skip
    refine lv_aload_n hx hb dX0_widen_11 rfl (lv_at hl 0 rfl) ?_
    refine zg_a (o := 2) hC hW fl_X0_28 (zG_k kb) (zG_s kb) (show _ = (b + 3) from rfl) dX0_widen_12 ?_
    refine lv_iload_n hx hb dX0_widen_15 rfl (lv_at hl 1 rfl) ?_
    refine za_l hC hW hf (zG_3 kb) dX0_widen_16 (fun v2 hf => ?_)
    refine lv_bipush (v := 6) hx hb dX0_widen_17 (by decide) ?_
    refine zi_icmp_ge (tgt := 52) hx hb dX0_widen_19 (by decide) hf (fun hc hf => ?_) (fun hc hf => ?_)
    · skip
      exact zr_v hx hb hr hlk hW (Option.some.inj hf) dX0_widen_52
    · skip
      refine lv_aload_n hx hb dX0_widen_22 rfl (lv_at hl 0 rfl) ?_
      refine zg_a (o := 2) hC hW fl_X0_28 (zG_k kb) (zG_s kb) (show _ = (b + 3) from rfl) dX0_widen_23 ?_
      refine lv_iload_n hx hb dX0_widen_26 rfl (lv_at hl 1 rfl) ?_
      refine lv_dup2_11 hx hb dX0_widen_27 rfl rfl ?_
      refine za_l hC hW hf (zG_3 kb) dX0_widen_28 (fun v3 hf => ?_)
      refine lv_iconst (v := 1) hx hb dX0_widen_29 (by decide) ?_
      refine lv_iadd hx hb dX0_widen_30 ?_
      refine za_s hC hW hf (zG_3 kb) dX0_widen_31 (fun s4 H locs hf hW => ?_)
      refine lv_aload_n hx hb dX0_widen_32 rfl (lv_at hl 0 rfl) ?_
      refine zg_a (o := 3) hC hW fl_X0_31 (zG_k kb) (zG_s kb) (show _ = (b + 4) from rfl) dX0_widen_33 ?_
      refine lv_iload_n hx hb dX0_widen_36 rfl (lv_at hl 1 rfl) ?_
      refine lv_bipush (v := 6) hx hb dX0_widen_37 (by decide) ?_
      refine lv_imul hx hb dX0_widen_39 ?_
      refine lv_aload_n hx hb dX0_widen_40 rfl (lv_at hl 0 rfl) ?_
      refine zg_a (o := 2) hC hW fl_X0_28 (zG_k kb) (zG_s kb) (show _ = (b + 3) from rfl) dX0_widen_41 ?_
      refine lv_iload_n hx hb dX0_widen_44 rfl (lv_at hl 1 rfl) ?_
      refine za_l hC hW hf (zG_3 kb) dX0_widen_45 (fun v5 hf => ?_)
      refine lv_iadd hx hb dX0_widen_46 ?_
      refine lv_iconst (v := 1) hx hb dX0_widen_47 (by decide) ?_
      refine lv_isub hx hb dX0_widen_48 ?_
      refine lv_bipush (v := (-5)) hx hb dX0_widen_49 (by decide) ?_
      refine za_s hC hW hf (zG_4 kb) dX0_widen_51 (fun s6 H locs hf hW => ?_)
      exact zr_v hx hb hr hlk hW (Option.some.inj hf) dX0_widen_52
set_option maxHeartbeats 4000000 in
set_option maxRecDepth 100000 in
theorem mX0_add {l : Launch} {D : va_G} {cI cJ : ClassId} {adr : Nat → Nat} {b : Nat} (kb : zG b) (p1 : Int32) (p2 : Int32) (p3 : Int32) (s0 : zkS) {z : Nat} {ro : Int32} {so : zkS} (hI : zInj 0 adr) (hf : fX0_add b p1 p2 p3 s0 = some (ro, so)) : Met l yX0_add (Cond.code yX0_add cX0_add 6 (some .int) :: zTb) { frames := 2, cells := 0, slots := 0, locals := 42 } (zPre 0 D cI cJ adr s0 z [.ref (adr b), .int p1, .int p2, .int p3]) (zQi 0 D cI cJ adr z ro so) 0 0 (zA 0 adr z) := by
  refine zen (cc := cX0_add) (own := RX0) (by decide +kernel) rfl hI (Nat.le_of_ble_eq_true rfl) (fun p e s m args below meth c ls hC hr hlk hz hl hW => ?_)
  subst hz
  obtain ⟨hx, hb, -⟩ := id hC
  have hl : lv_has ls 6 [(0, .ref (adr b)), (1, .int p1), (2, .int p2), (3, .int p3)] := hl
  refine zst hW (fun H locs hW => ?_)
  unfold fX0_add at hf
  refine lv_aload_n hx hb dX0_add_0 rfl (lv_at hl 0 rfl) ?_
  refine zg_i hC hW fl_X0_9 (zG_k kb) (zG_s kb) dX0_add_1 ?_
  refine zi_if_lt (tgt := 16) hx hb dX0_add_4 (by decide) hf (fun hc hf => ?_) (fun hc hf => ?_)
  · skip
    refine lv_bipush (v := (-5)) hx hb dX0_add_16 (by decide) ?_
    exact zr_i hx hb hr hlk hW (zo1 hf) (zo2 hf) dX0_add_18
  · skip
    refine lv_aload_n hx hb dX0_add_7 rfl (lv_at hl 0 rfl) ?_
    refine zg_i hC hW fl_X0_9 (zG_k kb) (zG_s kb) dX0_add_8 ?_
    refine lv_bipush (v := 24) hx hb dX0_add_11 (by decide) ?_
    refine zi_icmp_lt (tgt := 19) hx hb dX0_add_13 (by decide) hf (fun hc hf => ?_) (fun hc hf => ?_)
    · skip
      refine lv_aload_n hx hb dX0_add_19 rfl (lv_at hl 0 rfl) ?_
      refine lv_dup hx hb dX0_add_20 rfl ?_
      refine zg_i hC hW fl_X0_9 (zG_k kb) (zG_s kb) dX0_add_21 ?_
      refine lv_dup_x1 hx hb dX0_add_24 rfl rfl ?_
      refine lv_iconst (v := 1) hx hb dX0_add_25 (by decide) ?_
      refine lv_iadd hx hb dX0_add_26 ?_
      refine zp_i hC hW hf fp_X0_9 (zG_k kb) (zG_s kb) dX0_add_27 (fun s1 H locs hf hW => ?_)
      refine lv_istore (lv' := [(4, .int (s0.1 b 0)), (0, .ref (adr b)), (1, .int p1), (2, .int p2), (3, .int p3)]) hx hb dX0_add_30 hl (by decide) rfl (fun ls hl => ?_)
      refine lv_aload_n hx hb dX0_add_32 rfl (lv_at hl 1 rfl) ?_
      refine zg_a (o := 0) hC hW fl_X0_21 (zG_k kb) (zG_s kb) (show _ = (b + 1) from rfl) dX0_add_33 ?_
      refine lv_iload hx hb dX0_add_36 (lv_at hl 0 rfl) ?_
      refine lv_iload_n hx hb dX0_add_38 rfl (lv_at hl 2 rfl) ?_
      refine za_s hC hW hf (zG_1 kb) dX0_add_39 (fun s2 H locs hf hW => ?_)
      refine lv_aload_n hx hb dX0_add_40 rfl (lv_at hl 1 rfl) ?_
      refine zg_a (o := 1) hC hW fl_X0_25 (zG_k kb) (zG_s kb) (show _ = (b + 2) from rfl) dX0_add_41 ?_
      refine lv_iload hx hb dX0_add_44 (lv_at hl 0 rfl) ?_
      refine lv_iload_n hx hb dX0_add_46 rfl (lv_at hl 3 rfl) ?_
      refine za_s hC hW hf (zG_2 kb) dX0_add_47 (fun s3 H locs hf hW => ?_)
      refine lv_aload_n hx hb dX0_add_48 rfl (lv_at hl 1 rfl) ?_
      refine lv_dup hx hb dX0_add_49 rfl ?_
      refine zg_i hC hW fl_X0_15 (zG_k kb) (zG_s kb) dX0_add_50 ?_
      refine lv_iload hx hb dX0_add_53 (lv_at hl 0 rfl) ?_
      refine zc_i hW (zrun_n (As := [.int (s0.1 b 0)]) (rest := [.int (s3.1 b 1), .ref (adr b)]) hC hW (mX7_bit (s0.1 b 0) s3 hC.2.2.2.2.2.2.2 rfl) cn_X0_49 rfl ⟨⟨rfl, rfl⟩, Nat.le_of_ble_eq_true rfl, Nat.le_of_ble_eq_true rfl⟩ (zlv_size hl) rfl (Nat.le_of_ble_eq_true rfl) dX0_add_55 ⟨Nat.le_refl _, Nat.le_refl _⟩) (fun H locs hW => ?_)
      refine lv_ior hx hb dX0_add_58 ?_
      refine zp_i hC hW hf fp_X0_15 (zG_k kb) (zG_s kb) dX0_add_59 (fun s5 H locs hf hW => ?_)
      refine lv_aload_n hx hb dX0_add_62 rfl (lv_at hl 1 rfl) ?_
      refine zg_a (o := 2) hC hW fl_X0_28 (zG_k kb) (zG_s kb) (show _ = (b + 3) from rfl) dX0_add_63 ?_
      refine lv_iload hx hb dX0_add_66 (lv_at hl 0 rfl) ?_
      refine lv_iconst (v := 0) hx hb dX0_add_68 (by decide) ?_
      refine za_s hC hW hf (zG_3 kb) dX0_add_69 (fun s6 H locs hf hW => ?_)
      refine lv_iconst (v := 0) hx hb dX0_add_70 (by decide) ?_
      refine lv_istore (lv' := [(5, .int 0), (4, .int (s0.1 b 0)), (0, .ref (adr b)), (1, .int p1), (2, .int p2), (3, .int p3)]) hx hb dX0_add_71 hl (by decide) rfl (fun ls hl => ?_)
      have hL73 : ∀ (n : Nat) (x3 : Int32) (x4 : Int32) (x5 : Int32) (s7 : zkS) (K73 : zkS → Option (Int32 × zkS)) (H : Heap) (locs : List Loc) (ls : Array Slot), fX0_add_L73 n b x3 x4 x5 s7 K73 = some (ro, so) → zWo 0 D cI cJ adr s s7 H locs → lv_has ls 6 [(0, .ref (adr b)), (3, .int x3), (4, .int x4), (5, .int x5)] → (∀ (s7 : zkS) (H : Heap) (locs : List Loc) (ls : Array Slot), K73 s7 = some (ro, so) → zWo 0 D cI cJ adr s s7 H locs → lv_has ls 6 [(4, .int x4)] → W p l e { frames := 2, cells := 0, slots := 0, locals := 42 } s m args below meth c H locs 0 0 (MQ below (zQi 0 D cI cJ adr s.heap.size ro so) args s 0 0 (zA 0 adr s.heap.size)) (F0 m 91 ls [])) → W p l e { frames := 2, cells := 0, slots := 0, locals := 42 } s m args below meth c H locs 0 0 (MQ below (zQi 0 D cI cJ adr s.heap.size ro so) args s 0 0 (zA 0 adr s.heap.size)) (F0 m 73 ls []) := by
        intro n
        induction n with
        | zero =>
          intro x3 x4 x5 s7 K73 H locs ls hf hW hl hK73
          rw [fX0_add_L73] at hf
          cases hf
        | succ n ih73 =>
          intro x3 x4 x5 s7 K73 H locs ls hf hW hl hK73
          rw [fX0_add_L73] at hf
          refine lv_iload hx hb dX0_add_73 (lv_at hl 3 rfl) ?_
          refine lv_iload_n hx hb dX0_add_75 rfl (lv_at hl 1 rfl) ?_
          refine zi_icmp_ge (tgt := 91) hx hb dX0_add_76 (by decide) hf (fun hc hf => ?_) (fun hc hf => ?_)
          · skip
            exact hK73 s7 H locs ls hf hW (lv_sub hl [2] rfl)
          · skip
            refine lv_aload_n hx hb dX0_add_79 rfl (lv_at hl 0 rfl) ?_
            refine lv_iload hx hb dX0_add_80 (lv_at hl 2 rfl) ?_
            obtain ⟨s8, hq, hf⟩ := zb1_o hf
            refine zc_v hW (zrun_v (As := [.int x4]) (rest := []) hC hW (mX0_widen kb x4 s7 hC.2.2.2.2.2.2.2 hq) cv_X0_53 (zG_k kb) (zG_s kb) rfl ⟨⟨rfl, rfl⟩, Nat.le_of_ble_eq_true rfl, Nat.le_of_ble_eq_true rfl⟩ (zlv_size hl) rfl (Nat.le_of_ble_eq_true rfl) dX0_add_82 ⟨Nat.le_refl _, Nat.le_refl _⟩) (fun H locs hW => ?_)
            refine zi_inc (v := (x5 + 1)) (lv' := fun v9 => [(5, .int v9), (0, .ref (adr b)), (3, .int x3), (4, .int x4)]) hx hb dX0_add_85 hl (k := 3) rfl rfl (by decide) (fun _ => rfl) hf (fun v9 ls hf hl => ?_)
            refine lv_goto (tgt := 73) hx hb dX0_add_88 (by decide) ?_
            exact ih73 x3 x4 v9 s8 _ H locs ls hf hW (lv_sub hl [1, 2, 3, 0] rfl) hK73
      refine hL73 zFU p3 (s0.1 b 0) 0 s6 _ H locs ls hf hW (lv_sub hl [2, 5, 1, 0] rfl) (fun s10 H locs ls hf hW hl => ?_)
      refine lv_iload hx hb dX0_add_91 (lv_at hl 0 rfl) ?_
      exact zr_i hx hb hr hlk hW (zo1 hf) (zo2 hf) dX0_add_93
    · skip
      refine lv_bipush (v := (-5)) hx hb dX0_add_16 (by decide) ?_
      exact zr_i hx hb hr hlk hW (zo1 hf) (zo2 hf) dX0_add_18
set_option maxHeartbeats 4000000 in
set_option maxRecDepth 100000 in
theorem mX7_cell {l : Launch} {D : va_G} {cI cJ : ClassId} {adr : Nat → Nat} (p1 : Int32) (p2 : Int32) (p3 : Int32) (s0 : zkS) {z : Nat} {ro : Int32} {so : zkS} (hI : zInj 0 adr) (hf : fX7_cell p1 p2 p3 s0 = some (ro, so)) : Met l yX7_cell (Cond.code yX7_cell cX7_cell 4 (some .int) :: zTb) { frames := 3, cells := 0, slots := 0, locals := 67 } (zPre 0 D cI cJ adr s0 z [.ref (adr 0), .int p1, .int p2, .int p3]) (zQi 0 D cI cJ adr z ro so) 0 0 (zA 0 adr z) := by
  refine zen (cc := cX7_cell) (own := RX7) (by decide +kernel) rfl hI (Nat.le_of_ble_eq_true rfl) (fun p e s m args below meth c ls hC hr hlk hz hl hW => ?_)
  subst hz
  obtain ⟨hx, hb, -⟩ := id hC
  have hl : lv_has ls 4 [(0, .ref (adr 0)), (1, .int p1), (2, .int p2), (3, .int p3)] := hl
  refine zst hW (fun H locs hW => ?_)
  unfold fX7_cell at hf
  refine lv_iload_n hx hb dX7_cell_0 rfl (lv_at hl 1 rfl) ?_
  refine zi_if_lt (tgt := 10) hx hb dX7_cell_1 (by decide) hf (fun hc hf => ?_) (fun hc hf => ?_)
  · skip
    refine lv_iconst (v := (-1)) hx hb dX7_cell_10 (by decide) ?_
    exact zr_i hx hb hr hlk hW (zo1 hf) (zo2 hf) dX7_cell_11
  · skip
    refine lv_iload_n hx hb dX7_cell_4 rfl (lv_at hl 1 rfl) ?_
    refine lv_bipush (v := 6) hx hb dX7_cell_5 (by decide) ?_
    refine zi_icmp_le (tgt := 12) hx hb dX7_cell_7 (by decide) hf (fun hc hf => ?_) (fun hc hf => ?_)
    · skip
      refine lv_iload_n hx hb dX7_cell_12 rfl (lv_at hl 2 rfl) ?_
      refine zc_i hW (zrun_s (As := [.int p2]) (rest := []) hC hW (mX7_isTag p2 s0 hC.2.2.2.2.2.2.2 rfl) cs_X7_60 rfl ⟨⟨rfl, rfl⟩, Nat.le_of_ble_eq_true rfl, Nat.le_of_ble_eq_true rfl⟩ (zlv_size hl) rfl (Nat.le_of_ble_eq_true rfl) dX7_cell_13 ⟨Nat.le_refl _, Nat.le_refl _⟩) (fun H locs hW => ?_)
      refine zi_if_eq (tgt := 37) hx hb dX7_cell_16 (by decide) hf (fun hc hf => ?_) (fun hc hf => ?_)
      · skip
        refine lv_bipush (v := (-2)) hx hb dX7_cell_37 (by decide) ?_
        exact zr_i hx hb hr hlk hW (zo1 hf) (zo2 hf) dX7_cell_39
      · skip
        refine lv_iload_n hx hb dX7_cell_19 rfl (lv_at hl 1 rfl) ?_
        refine lv_iload_n hx hb dX7_cell_20 rfl (lv_at hl 3 rfl) ?_
        refine zc_i hW (zrun_s (As := [.int p1, .int p3]) (rest := []) hC hW (mX7_fieldsOf p1 p3 s0 hC.2.2.2.2.2.2.2 rfl) cs_X7_64 rfl ⟨⟨rfl, rfl⟩, Nat.le_of_ble_eq_true rfl, Nat.le_of_ble_eq_true rfl⟩ (zlv_size hl) rfl (Nat.le_of_ble_eq_true rfl) dX7_cell_21 ⟨Nat.le_refl _, Nat.le_refl _⟩) (fun H locs hW => ?_)
        refine zi_if_lt (tgt := 37) hx hb dX7_cell_24 (by decide) hf (fun hc hf => ?_) (fun hc hf => ?_)
        · skip
          refine lv_bipush (v := (-2)) hx hb dX7_cell_37 (by decide) ?_
          exact zr_i hx hb hr hlk hW (zo1 hf) (zo2 hf) dX7_cell_39
        · skip
          refine lv_iload_n hx hb dX7_cell_27 rfl (lv_at hl 1 rfl) ?_
          refine lv_iload_n hx hb dX7_cell_28 rfl (lv_at hl 3 rfl) ?_
          refine zc_i hW (zrun_s (As := [.int p1, .int p3]) (rest := []) hC hW (mX7_fieldsOf p1 p3 s0 hC.2.2.2.2.2.2.2 rfl) cs_X7_64 rfl ⟨⟨rfl, rfl⟩, Nat.le_of_ble_eq_true rfl, Nat.le_of_ble_eq_true rfl⟩ (zlv_size hl) rfl (Nat.le_of_ble_eq_true rfl) dX7_cell_29 ⟨Nat.le_refl _, Nat.le_refl _⟩) (fun H locs hW => ?_)
          refine lv_bipush (v := 6) hx hb dX7_cell_32 (by decide) ?_
          refine zi_icmp_le (tgt := 40) hx hb dX7_cell_34 (by decide) hf (fun hc hf => ?_) (fun hc hf => ?_)
          · skip
            refine lv_aload_n hx hb dX7_cell_40 rfl (lv_at hl 0 rfl) ?_
            refine zg_a (o := 0) hC hW fl_X7_12 zck_0_0 zcs_0_0 (show _ = 1 from rfl) dX7_cell_41 ?_
            refine zg_a (o := 6) hC hW fl_X7_68 (zE_k zEc_1) (zE_s zEc_1) (show _ = 8 from rfl) dX7_cell_44 ?_
            refine zg_i hC hW fl_X7_71 (zK_k zKc_8) (zK_s zKc_8) dX7_cell_47 ?_
            refine zi_if_eq (tgt := 56) hx hb dX7_cell_50 (by decide) hf (fun hc hf => ?_) (fun hc hf => ?_)
            · skip
              refine lv_aload_n hx hb dX7_cell_56 rfl (lv_at hl 0 rfl) ?_
              refine zg_a (o := 0) hC hW fl_X7_12 zck_0_0 zcs_0_0 (show _ = 1 from rfl) dX7_cell_57 ?_
              refine zg_a (o := 0) hC hW fl_X7_74 (zE_k zEc_1) (zE_s zEc_1) (show _ = 2 from rfl) dX7_cell_60 ?_
              refine zg_i hC hW fl_X7_77 (zG_k zGc_2) (zG_s zGc_2) dX7_cell_63 ?_
              refine lv_bipush (v := 24) hx hb dX7_cell_66 (by decide) ?_
              refine zi_icmp_lt (tgt := 74) hx hb dX7_cell_68 (by decide) hf (fun hc hf => ?_) (fun hc hf => ?_)
              · skip
                refine lv_aload_n hx hb dX7_cell_74 rfl (lv_at hl 0 rfl) ?_
                refine zg_a (o := 0) hC hW fl_X7_12 zck_0_0 zcs_0_0 (show _ = 1 from rfl) dX7_cell_75 ?_
                refine zg_a (o := 6) hC hW fl_X7_68 (zE_k zEc_1) (zE_s zEc_1) (show _ = 8 from rfl) dX7_cell_78 ?_
                refine lv_iconst (v := 0) hx hb dX7_cell_81 (by decide) ?_
                refine zp_y hC hW hf (by decide) fp_X7_81 (zK_k zKc_8) (zK_s zKc_8) dX7_cell_82 (fun s4 H locs hf hW => ?_)
                refine lv_aload_n hx hb dX7_cell_85 rfl (lv_at hl 0 rfl) ?_
                refine zg_a (o := 0) hC hW fl_X7_12 zck_0_0 zcs_0_0 (show _ = 1 from rfl) dX7_cell_86 ?_
                refine zg_a (o := 0) hC hW fl_X7_74 (zE_k zEc_1) (zE_s zEc_1) (show _ = 2 from rfl) dX7_cell_89 ?_
                refine lv_iload_n hx hb dX7_cell_92 rfl (lv_at hl 1 rfl) ?_
                refine lv_iload_n hx hb dX7_cell_93 rfl (lv_at hl 2 rfl) ?_
                refine lv_iload_n hx hb dX7_cell_94 rfl (lv_at hl 1 rfl) ?_
                refine lv_iload_n hx hb dX7_cell_95 rfl (lv_at hl 3 rfl) ?_
                refine zc_i hW (zrun_s (As := [.int p1, .int p3]) (rest := [.int p2, .int p1, .ref (adr 2)]) hC hW (mX7_fieldsOf p1 p3 s4 hC.2.2.2.2.2.2.2 rfl) cs_X7_64 rfl ⟨⟨rfl, rfl⟩, Nat.le_of_ble_eq_true rfl, Nat.le_of_ble_eq_true rfl⟩ (zlv_size hl) rfl (Nat.le_of_ble_eq_true rfl) dX7_cell_96 ⟨Nat.le_refl _, Nat.le_refl _⟩) (fun H locs hW => ?_)
                obtain ⟨v6, s7, hq, hf⟩ := zb2_o hf
                refine zc_i hW (zrun_v (As := [.int p1, .int p2, .int (fX7_fieldsOf p1 p3)]) (rest := []) hC hW (mX0_add zGc_2 p1 p2 (fX7_fieldsOf p1 p3) s4 hC.2.2.2.2.2.2.2 hq) cv_X7_84 (zG_k zGc_2) (zG_s zGc_2) rfl ⟨⟨rfl, rfl⟩, Nat.le_of_ble_eq_true rfl, Nat.le_of_ble_eq_true rfl⟩ (zlv_size hl) rfl (Nat.le_of_ble_eq_true rfl) dX7_cell_99 ⟨Nat.le_refl _, Nat.le_refl _⟩) (fun H locs hW => ?_)
                exact zr_i hx hb hr hlk hW (zo1 hf) (zo2 hf) dX7_cell_102
              · skip
                refine lv_bipush (v := (-4)) hx hb dX7_cell_71 (by decide) ?_
                exact zr_i hx hb hr hlk hW (zo1 hf) (zo2 hf) dX7_cell_73
            · skip
              refine lv_bipush (v := (-3)) hx hb dX7_cell_53 (by decide) ?_
              exact zr_i hx hb hr hlk hW (zo1 hf) (zo2 hf) dX7_cell_55
          · skip
            refine lv_bipush (v := (-2)) hx hb dX7_cell_37 (by decide) ?_
            exact zr_i hx hb hr hlk hW (zo1 hf) (zo2 hf) dX7_cell_39
    · skip
      refine lv_iconst (v := (-1)) hx hb dX7_cell_10 (by decide) ?_
      exact zr_i hx hb hr hlk hW (zo1 hf) (zo2 hf) dX7_cell_11
set_option maxHeartbeats 4000000 in
set_option maxRecDepth 100000 in
theorem mX0_isThere {l : Launch} {D : va_G} {cI cJ : ClassId} {adr : Nat → Nat} {b : Nat} (kb : zG b) (p1 : Int32) (s0 : zkS) {z : Nat} {ro : Int32} (hI : zInj 0 adr) (hf : fX0_isThere b p1 s0 = ro) : Met l yX0_isThere (Cond.code yX0_isThere cX0_isThere 2 (some .boolean) :: zTb) { frames := 1, cells := 0, slots := 0, locals := 21 } (zPre 0 D cI cJ adr s0 z [.ref (adr b), .int p1]) (zQi 0 D cI cJ adr z ro s0) 0 0 (zA 0 adr z) := by
  refine zen (cc := cX0_isThere) (own := RX0) (by decide +kernel) rfl hI (Nat.le_of_ble_eq_true rfl) (fun p e s m args below meth c ls hC hr hlk hz hl hW => ?_)
  subst hz
  obtain ⟨hx, hb, -⟩ := id hC
  have hl : lv_has ls 2 [(0, .ref (adr b)), (1, .int p1)] := hl
  refine zst hW (fun H locs hW => ?_)
  unfold fX0_isThere at hf
  refine lv_aload_n hx hb dX0_isThere_0 rfl (lv_at hl 0 rfl) ?_
  refine zg_i hC hW fl_X0_15 (zG_k kb) (zG_s kb) dX0_isThere_1 ?_
  refine lv_iload_n hx hb dX0_isThere_4 rfl (lv_at hl 1 rfl) ?_
  refine zc_i hW (zrun_n (As := [.int (s0.1 b 1), .int p1]) (rest := []) hC hW (mX7_has (s0.1 b 1) p1 s0 hC.2.2.2.2.2.2.2 rfl) cn_X0_57 rfl ⟨⟨rfl, rfl⟩, Nat.le_of_ble_eq_true rfl, Nat.le_of_ble_eq_true rfl⟩ (zlv_size hl) rfl (Nat.le_of_ble_eq_true rfl) dX0_isThere_5 ⟨Nat.le_refl _, Nat.le_refl _⟩) (fun H locs hW => ?_)
  exact zr_z hx hb hr hlk hW (z01_X7_has (s0.1 b 1) p1) hf rfl dX0_isThere_8
set_option maxHeartbeats 4000000 in
set_option maxRecDepth 100000 in
theorem mX0_layoutOf {l : Launch} {D : va_G} {cI cJ : ClassId} {adr : Nat → Nat} {b : Nat} (kb : zG b) (p1 : Int32) (s0 : zkS) {z : Nat} {ro : Int32} (hI : zInj 0 adr) (hf : fX0_layoutOf b p1 s0 = some ro) : Met l yX0_layoutOf (Cond.code yX0_layoutOf cX0_layoutOf 2 (some .int) :: zTb) { frames := 2, cells := 0, slots := 0, locals := 42 } (zPre 0 D cI cJ adr s0 z [.ref (adr b), .int p1]) (zQi 0 D cI cJ adr z ro s0) 0 0 (zA 0 adr z) := by
  refine zen (cc := cX0_layoutOf) (own := RX0) (by decide +kernel) rfl hI (Nat.le_of_ble_eq_true rfl) (fun p e s m args below meth c ls hC hr hlk hz hl hW => ?_)
  subst hz
  obtain ⟨hx, hb, -⟩ := id hC
  have hl : lv_has ls 2 [(0, .ref (adr b)), (1, .int p1)] := hl
  refine zst hW (fun H locs hW => ?_)
  unfold fX0_layoutOf at hf
  refine lv_aload_n hx hb dX0_layoutOf_0 rfl (lv_at hl 0 rfl) ?_
  refine lv_iload_n hx hb dX0_layoutOf_1 rfl (lv_at hl 1 rfl) ?_
  refine zc_i hW (zrun_v (As := [.int p1]) (rest := []) hC hW (mX0_isThere kb p1 s0 hC.2.2.2.2.2.2.2 rfl) cv_X0_61 (zG_k kb) (zG_s kb) rfl ⟨⟨rfl, rfl⟩, Nat.le_of_ble_eq_true rfl, Nat.le_of_ble_eq_true rfl⟩ (zlv_size hl) rfl (Nat.le_of_ble_eq_true rfl) dX0_layoutOf_2 ⟨Nat.le_refl _, Nat.le_refl _⟩) (fun H locs hW => ?_)
  refine zi_if_eq (tgt := 17) hx hb dX0_layoutOf_5 (by decide) hf (fun hc hf => ?_) (fun hc hf => ?_)
  · skip
    refine lv_iconst (v := (-1)) hx hb dX0_layoutOf_17 (by decide) ?_
    exact zr_i hx hb hr hlk hW (Option.some.inj hf) rfl dX0_layoutOf_18
  · skip
    refine lv_aload_n hx hb dX0_layoutOf_8 rfl (lv_at hl 0 rfl) ?_
    refine zg_a (o := 0) hC hW fl_X0_21 (zG_k kb) (zG_s kb) (show _ = (b + 1) from rfl) dX0_layoutOf_9 ?_
    refine lv_iload_n hx hb dX0_layoutOf_12 rfl (lv_at hl 1 rfl) ?_
    refine za_l hC hW hf (zG_1 kb) dX0_layoutOf_13 (fun v2 hf => ?_)
    refine lv_goto (tgt := 18) hx hb dX0_layoutOf_14 (by decide) ?_
    exact zr_i hx hb hr hlk hW (Option.some.inj hf) rfl dX0_layoutOf_18
set_option maxHeartbeats 4000000 in
set_option maxRecDepth 100000 in
theorem mX0_tagOf {l : Launch} {D : va_G} {cI cJ : ClassId} {adr : Nat → Nat} {b : Nat} (kb : zG b) (p1 : Int32) (s0 : zkS) {z : Nat} {ro : Int32} (hI : zInj 0 adr) (hf : fX0_tagOf b p1 s0 = some ro) : Met l yX0_tagOf (Cond.code yX0_tagOf cX0_tagOf 2 (some .int) :: zTb) { frames := 2, cells := 0, slots := 0, locals := 42 } (zPre 0 D cI cJ adr s0 z [.ref (adr b), .int p1]) (zQi 0 D cI cJ adr z ro s0) 0 0 (zA 0 adr z) := by
  refine zen (cc := cX0_tagOf) (own := RX0) (by decide +kernel) rfl hI (Nat.le_of_ble_eq_true rfl) (fun p e s m args below meth c ls hC hr hlk hz hl hW => ?_)
  subst hz
  obtain ⟨hx, hb, -⟩ := id hC
  have hl : lv_has ls 2 [(0, .ref (adr b)), (1, .int p1)] := hl
  refine zst hW (fun H locs hW => ?_)
  unfold fX0_tagOf at hf
  refine lv_aload_n hx hb dX0_tagOf_0 rfl (lv_at hl 0 rfl) ?_
  refine lv_iload_n hx hb dX0_tagOf_1 rfl (lv_at hl 1 rfl) ?_
  refine zc_i hW (zrun_v (As := [.int p1]) (rest := []) hC hW (mX0_isThere kb p1 s0 hC.2.2.2.2.2.2.2 rfl) cv_X0_61 (zG_k kb) (zG_s kb) rfl ⟨⟨rfl, rfl⟩, Nat.le_of_ble_eq_true rfl, Nat.le_of_ble_eq_true rfl⟩ (zlv_size hl) rfl (Nat.le_of_ble_eq_true rfl) dX0_tagOf_2 ⟨Nat.le_refl _, Nat.le_refl _⟩) (fun H locs hW => ?_)
  refine zi_if_eq (tgt := 17) hx hb dX0_tagOf_5 (by decide) hf (fun hc hf => ?_) (fun hc hf => ?_)
  · skip
    refine lv_iconst (v := (-1)) hx hb dX0_tagOf_17 (by decide) ?_
    exact zr_i hx hb hr hlk hW (Option.some.inj hf) rfl dX0_tagOf_18
  · skip
    refine lv_aload_n hx hb dX0_tagOf_8 rfl (lv_at hl 0 rfl) ?_
    refine zg_a (o := 1) hC hW fl_X0_25 (zG_k kb) (zG_s kb) (show _ = (b + 2) from rfl) dX0_tagOf_9 ?_
    refine lv_iload_n hx hb dX0_tagOf_12 rfl (lv_at hl 1 rfl) ?_
    refine za_l hC hW hf (zG_2 kb) dX0_tagOf_13 (fun v2 hf => ?_)
    refine lv_goto (tgt := 18) hx hb dX0_tagOf_14 (by decide) ?_
    exact zr_i hx hb hr hlk hW (Option.some.inj hf) rfl dX0_tagOf_18
set_option maxHeartbeats 4000000 in
set_option maxRecDepth 100000 in
theorem mX0_sizeOf {l : Launch} {D : va_G} {cI cJ : ClassId} {adr : Nat → Nat} {b : Nat} (kb : zG b) (p1 : Int32) (s0 : zkS) {z : Nat} {ro : Int32} (hI : zInj 0 adr) (hf : fX0_sizeOf b p1 s0 = some ro) : Met l yX0_sizeOf (Cond.code yX0_sizeOf cX0_sizeOf 2 (some .int) :: zTb) { frames := 1, cells := 0, slots := 0, locals := 21 } (zPre 0 D cI cJ adr s0 z [.ref (adr b), .int p1]) (zQi 0 D cI cJ adr z ro s0) 0 0 (zA 0 adr z) := by
  refine zen (cc := cX0_sizeOf) (own := RX0) (by decide +kernel) rfl hI (Nat.le_of_ble_eq_true rfl) (fun p e s m args below meth c ls hC hr hlk hz hl hW => ?_)
  subst hz
  obtain ⟨hx, hb, -⟩ := id hC
  have hl : lv_has ls 2 [(0, .ref (adr b)), (1, .int p1)] := hl
  refine zst hW (fun H locs hW => ?_)
  unfold fX0_sizeOf at hf
  refine lv_aload_n hx hb dX0_sizeOf_0 rfl (lv_at hl 0 rfl) ?_
  refine zg_i hC hW fl_X0_15 (zG_k kb) (zG_s kb) dX0_sizeOf_1 ?_
  refine lv_iload_n hx hb dX0_sizeOf_4 rfl (lv_at hl 1 rfl) ?_
  refine zc_i hW (zrun_n (As := [.int (s0.1 b 1), .int p1]) (rest := []) hC hW (mX7_has (s0.1 b 1) p1 s0 hC.2.2.2.2.2.2.2 rfl) cn_X0_57 rfl ⟨⟨rfl, rfl⟩, Nat.le_of_ble_eq_true rfl, Nat.le_of_ble_eq_true rfl⟩ (zlv_size hl) rfl (Nat.le_of_ble_eq_true rfl) dX0_sizeOf_5 ⟨Nat.le_refl _, Nat.le_refl _⟩) (fun H locs hW => ?_)
  refine zi_if_eq (tgt := 20) hx hb dX0_sizeOf_8 (by decide) hf (fun hc hf => ?_) (fun hc hf => ?_)
  · skip
    refine lv_iconst (v := 0) hx hb dX0_sizeOf_20 (by decide) ?_
    exact zr_i hx hb hr hlk hW (Option.some.inj hf) rfl dX0_sizeOf_21
  · skip
    refine lv_aload_n hx hb dX0_sizeOf_11 rfl (lv_at hl 0 rfl) ?_
    refine zg_a (o := 2) hC hW fl_X0_28 (zG_k kb) (zG_s kb) (show _ = (b + 3) from rfl) dX0_sizeOf_12 ?_
    refine lv_iload_n hx hb dX0_sizeOf_15 rfl (lv_at hl 1 rfl) ?_
    refine za_l hC hW hf (zG_3 kb) dX0_sizeOf_16 (fun v2 hf => ?_)
    refine lv_goto (tgt := 21) hx hb dX0_sizeOf_17 (by decide) ?_
    exact zr_i hx hb hr hlk hW (Option.some.inj hf) rfl dX0_sizeOf_21
set_option maxHeartbeats 4000000 in
set_option maxRecDepth 100000 in
theorem mX7_asNumber {l : Launch} {D : va_G} {cI cJ : ClassId} {adr : Nat → Nat} {u : Nat} (p1 : Int32) (s0 : zkS) {z : Nat} {ro : Int32} (hI : zInj u adr) (hf : fX7_asNumber p1 = ro) : Met l yX7_asNumber (Cond.code yX7_asNumber cX7_asNumber 1 (some .int) :: zTb) { frames := 0, cells := 0, slots := 0, locals := 0 } (zPre u D cI cJ adr s0 z [.int p1]) (zQi u D cI cJ adr z ro s0) 0 0 (zA u adr z) := by
  refine zen (cc := cX7_asNumber) (own := RX7) (by decide +kernel) rfl hI (Nat.le_of_ble_eq_true rfl) (fun p e s m args below meth c ls hC hr hlk hz hl hW => ?_)
  subst hz
  obtain ⟨hx, hb, -⟩ := id hC
  have hl : lv_has ls 1 [(0, .int p1)] := hl
  refine zst hW (fun H locs hW => ?_)
  unfold fX7_asNumber at hf
  refine lv_iload_n hx hb dX7_asNumber_0 rfl (lv_at hl 0 rfl) ?_
  refine zi_if_eq (tgt := 8) hx hb dX7_asNumber_1 (by decide) hf (fun hc hf => ?_) (fun hc hf => ?_)
  · skip
    refine lv_iconst (v := 0) hx hb dX7_asNumber_8 (by decide) ?_
    exact zr_i hx hb hr hlk hW hf rfl dX7_asNumber_9
  · skip
    refine lv_iconst (v := 1) hx hb dX7_asNumber_4 (by decide) ?_
    refine lv_goto (tgt := 9) hx hb dX7_asNumber_5 (by decide) ?_
    exact zr_i hx hb hr hlk hW hf rfl dX7_asNumber_9
set_option maxHeartbeats 4000000 in
set_option maxRecDepth 100000 in
theorem mX2_countOf {l : Launch} {D : va_G} {cI cJ : ClassId} {adr : Nat → Nat} {b : Nat} (kb : zK b) (p1 : Int32) (s0 : zkS) {z : Nat} {ro : Int32} (hI : zInj 0 adr) (hf : fX2_countOf b p1 s0 = some ro) : Met l yX2_countOf (Cond.code yX2_countOf cX2_countOf 2 (some .int) :: zTb) { frames := 1, cells := 0, slots := 0, locals := 20 } (zPre 0 D cI cJ adr s0 z [.ref (adr b), .int p1]) (zQi 0 D cI cJ adr z ro s0) 0 0 (zA 0 adr z) := by
  refine zen (cc := cX2_countOf) (own := RX2) (by decide +kernel) rfl hI (Nat.le_of_ble_eq_true rfl) (fun p e s m args below meth c ls hC hr hlk hz hl hW => ?_)
  subst hz
  obtain ⟨hx, hb, -⟩ := id hC
  have hl : lv_has ls 2 [(0, .ref (adr b)), (1, .int p1)] := hl
  refine zst hW (fun H locs hW => ?_)
  unfold fX2_countOf at hf
  refine lv_iload_n hx hb dX2_countOf_0 rfl (lv_at hl 1 rfl) ?_
  refine zc_i hW (zrun_n (As := [.int p1]) (rest := []) hC hW (mX7_bit p1 s0 hC.2.2.2.2.2.2.2 rfl) cn_X2_98 rfl ⟨⟨rfl, rfl⟩, Nat.le_of_ble_eq_true rfl, Nat.le_of_ble_eq_true rfl⟩ (zlv_size hl) rfl (Nat.le_of_ble_eq_true rfl) dX2_countOf_1 ⟨Nat.le_refl _, Nat.le_refl _⟩) (fun H locs hW => ?_)
  refine zi_if_eq (tgt := 16) hx hb dX2_countOf_4 (by decide) hf (fun hc hf => ?_) (fun hc hf => ?_)
  · skip
    refine lv_iconst (v := 0) hx hb dX2_countOf_16 (by decide) ?_
    exact zr_i hx hb hr hlk hW (Option.some.inj hf) rfl dX2_countOf_17
  · skip
    refine lv_aload_n hx hb dX2_countOf_7 rfl (lv_at hl 0 rfl) ?_
    refine zg_a (o := 1) hC hW fl_X2_56 (zK_k kb) (zK_s kb) (show _ = (b + 2) from rfl) dX2_countOf_8 ?_
    refine lv_iload_n hx hb dX2_countOf_11 rfl (lv_at hl 1 rfl) ?_
    refine za_l hC hW hf (zK_2 kb) dX2_countOf_12 (fun v2 hf => ?_)
    refine lv_goto (tgt := 17) hx hb dX2_countOf_13 (by decide) ?_
    exact zr_i hx hb hr hlk hW (Option.some.inj hf) rfl dX2_countOf_17
set_option maxHeartbeats 4000000 in
set_option maxRecDepth 100000 in
theorem mX0_isField {l : Launch} {D : va_G} {cI cJ : ClassId} {adr : Nat → Nat} {b : Nat} (kb : zG b) (p1 : Int32) (p2 : Int32) (s0 : zkS) {z : Nat} {ro : Int32} (hI : zInj 0 adr) (hf : fX0_isField b p1 p2 s0 = some ro) : Met l yX0_isField (Cond.code yX0_isField cX0_isField 4 (some .boolean) :: zTb) { frames := 0, cells := 0, slots := 0, locals := 0 } (zPre 0 D cI cJ adr s0 z [.ref (adr b), .int p1, .int p2]) (zQi 0 D cI cJ adr z ro s0) 0 0 (zA 0 adr z) := by
  refine zen (cc := cX0_isField) (own := RX0) (by decide +kernel) rfl hI (Nat.le_of_ble_eq_true rfl) (fun p e s m args below meth c ls hC hr hlk hz hl hW => ?_)
  subst hz
  obtain ⟨hx, hb, -⟩ := id hC
  have hl : lv_has ls 4 [(0, .ref (adr b)), (1, .int p1), (2, .int p2)] := hl
  refine zst hW (fun H locs hW => ?_)
  unfold fX0_isField at hf
  refine lv_iload_n hx hb dX0_isField_0 rfl (lv_at hl 1 rfl) ?_
  refine zjn_e hf (fun J1 => ∀ (v2 : Int32) (H : Heap) (locs : List Loc) (ls : Array Slot), J1 v2 = some ro → zWo 0 D cI cJ adr s s0 H locs → lv_has ls 4 [(0, .ref (adr b)), (1, .int p1), (2, .int p2)] → W p l e { frames := 0, cells := 0, slots := 0, locals := 0 } s m args below meth c H locs 0 0 (MQ below (zQi 0 D cI cJ adr s.heap.size ro s0) args s 0 0 (zA 0 adr s.heap.size)) (F0 m 26 ls [.int v2])) ?_ (fun J1 hJ1 hf => ?_)
  · intro v2 H locs ls hf hW hl
    refine lv_istore_n (lv' := [(3, .int v2), (0, .ref (adr b)), (1, .int p1), (2, .int p2)]) hx hb dX0_isField_26 rfl hl (by decide) rfl (fun ls hl => ?_)
    refine lv_iload_n hx hb dX0_isField_27 rfl (lv_at hl 0 rfl) ?_
    refine zi_if_eq (tgt := 49) hx hb dX0_isField_28 (by decide) hf (fun hc hf => ?_) (fun hc hf => ?_)
    · skip
      refine lv_iconst (v := 0) hx hb dX0_isField_49 (by decide) ?_
      exact zr_z hx hb hr hlk hW (by decide) (Option.some.inj hf) rfl dX0_isField_50
    · skip
      refine lv_iload_n hx hb dX0_isField_31 rfl (lv_at hl 3 rfl) ?_
      refine zi_if_lt (tgt := 49) hx hb dX0_isField_32 (by decide) hf (fun hc hf => ?_) (fun hc hf => ?_)
      · skip
        refine lv_iconst (v := 0) hx hb dX0_isField_49 (by decide) ?_
        exact zr_z hx hb hr hlk hW (by decide) (Option.some.inj hf) rfl dX0_isField_50
      · skip
        refine lv_iload_n hx hb dX0_isField_35 rfl (lv_at hl 3 rfl) ?_
        refine lv_aload_n hx hb dX0_isField_36 rfl (lv_at hl 1 rfl) ?_
        refine zg_a (o := 2) hC hW fl_X0_28 (zG_k kb) (zG_s kb) (show _ = (b + 3) from rfl) dX0_isField_37 ?_
        refine lv_iload_n hx hb dX0_isField_40 rfl (lv_at hl 2 rfl) ?_
        refine za_l hC hW hf (zG_3 kb) dX0_isField_41 (fun v3 hf => ?_)
        refine zi_icmp_ge (tgt := 49) hx hb dX0_isField_42 (by decide) hf (fun hc hf => ?_) (fun hc hf => ?_)
        · skip
          refine lv_iconst (v := 0) hx hb dX0_isField_49 (by decide) ?_
          exact zr_z hx hb hr hlk hW (by decide) (Option.some.inj hf) rfl dX0_isField_50
        · skip
          refine lv_iconst (v := 1) hx hb dX0_isField_45 (by decide) ?_
          refine lv_goto (tgt := 50) hx hb dX0_isField_46 (by decide) ?_
          exact zr_z hx hb hr hlk hW (by decide) (Option.some.inj hf) rfl dX0_isField_50
  refine zjn_e hf (fun J4 => ∀ (u5 : Unit) (H : Heap) (locs : List Loc) (ls : Array Slot), J4 u5 = some ro → zWo 0 D cI cJ adr s s0 H locs → lv_has ls 4 [(0, .ref (adr b)), (1, .int p1), (2, .int p2)] → W p l e { frames := 0, cells := 0, slots := 0, locals := 0 } s m args below meth c H locs 0 0 (MQ below (zQi 0 D cI cJ adr s.heap.size ro s0) args s 0 0 (zA 0 adr s.heap.size)) (F0 m 25 ls [])) ?_ (fun J4 hJ4 hf => ?_)
  · intro u5 H locs ls hf hW hl
    refine lv_iconst (v := 0) hx hb dX0_isField_25 (by decide) ?_
    exact hJ1 0 H locs ls hf hW (lv_sub hl [0, 1, 2] rfl)
  refine zi_if_lt (tgt := 25) hx hb dX0_isField_1 (by decide) hf (fun hc hf => ?_) (fun hc hf => ?_)
  · skip
    exact hJ4 () H locs ls hf hW (lv_sub hl [0, 1, 2] rfl)
  · skip
    refine lv_iload_n hx hb dX0_isField_4 rfl (lv_at hl 1 rfl) ?_
    refine lv_bipush (v := 24) hx hb dX0_isField_5 (by decide) ?_
    refine zi_icmp_ge (tgt := 25) hx hb dX0_isField_7 (by decide) hf (fun hc hf => ?_) (fun hc hf => ?_)
    · skip
      exact hJ4 () H locs ls hf hW (lv_sub hl [0, 1, 2] rfl)
    · skip
      refine lv_aload_n hx hb dX0_isField_10 rfl (lv_at hl 0 rfl) ?_
      refine zg_i hC hW fl_X0_15 (zG_k kb) (zG_s kb) dX0_isField_11 ?_
      refine lv_iload_n hx hb dX0_isField_14 rfl (lv_at hl 1 rfl) ?_
      refine lv_ishr hx hb dX0_isField_15 ?_
      refine lv_iconst (v := 1) hx hb dX0_isField_16 (by decide) ?_
      refine lv_iand hx hb dX0_isField_17 ?_
      refine zi_if_eq (tgt := 25) hx hb dX0_isField_18 (by decide) hf (fun hc hf => ?_) (fun hc hf => ?_)
      · skip
        exact hJ4 () H locs ls hf hW (lv_sub hl [0, 1, 2] rfl)
      · skip
        refine lv_iconst (v := 1) hx hb dX0_isField_21 (by decide) ?_
        refine lv_goto (tgt := 26) hx hb dX0_isField_22 (by decide) ?_
        exact hJ1 1 H locs ls hf hW (lv_sub hl [0, 1, 2] rfl)
set_option maxHeartbeats 4000000 in
set_option maxRecDepth 100000 in
theorem mX0_heldBy {l : Launch} {D : va_G} {cI cJ : ClassId} {adr : Nat → Nat} {b : Nat} (kb : zG b) (p1 : Int32) (p2 : Int32) (s0 : zkS) {z : Nat} {ro : Int32} (hI : zInj 0 adr) (hf : fX0_heldBy b p1 p2 s0 = some ro) : Met l yX0_heldBy (Cond.code yX0_heldBy cX0_heldBy 3 (some .int) :: zTb) { frames := 1, cells := 0, slots := 0, locals := 23 } (zPre 0 D cI cJ adr s0 z [.ref (adr b), .int p1, .int p2]) (zQi 0 D cI cJ adr z ro s0) 0 0 (zA 0 adr z) := by
  refine zen (cc := cX0_heldBy) (own := RX0) (by decide +kernel) rfl hI (Nat.le_of_ble_eq_true rfl) (fun p e s m args below meth c ls hC hr hlk hz hl hW => ?_)
  subst hz
  obtain ⟨hx, hb, -⟩ := id hC
  have hl : lv_has ls 3 [(0, .ref (adr b)), (1, .int p1), (2, .int p2)] := hl
  refine zst hW (fun H locs hW => ?_)
  unfold fX0_heldBy at hf
  refine lv_aload_n hx hb dX0_heldBy_0 rfl (lv_at hl 0 rfl) ?_
  refine lv_iload_n hx hb dX0_heldBy_1 rfl (lv_at hl 1 rfl) ?_
  refine lv_iload_n hx hb dX0_heldBy_2 rfl (lv_at hl 2 rfl) ?_
  obtain ⟨v1, hq, hf⟩ := zb1_o hf
  refine zc_i hW (zrun_v (As := [.int p1, .int p2]) (rest := []) hC hW (mX0_isField kb p1 p2 s0 hC.2.2.2.2.2.2.2 hq) cv_X0_65 (zG_k kb) (zG_s kb) rfl ⟨⟨rfl, rfl⟩, Nat.le_of_ble_eq_true rfl, Nat.le_of_ble_eq_true rfl⟩ (zlv_size hl) rfl (Nat.le_of_ble_eq_true rfl) dX0_heldBy_3 ⟨Nat.le_refl _, Nat.le_refl _⟩) (fun H locs hW => ?_)
  refine zi_if_eq (tgt := 23) hx hb dX0_heldBy_6 (by decide) hf (fun hc hf => ?_) (fun hc hf => ?_)
  · skip
    refine lv_bipush (v := (-5)) hx hb dX0_heldBy_23 (by decide) ?_
    exact zr_i hx hb hr hlk hW (Option.some.inj hf) rfl dX0_heldBy_25
  · skip
    refine lv_aload_n hx hb dX0_heldBy_9 rfl (lv_at hl 0 rfl) ?_
    refine zg_a (o := 3) hC hW fl_X0_31 (zG_k kb) (zG_s kb) (show _ = (b + 4) from rfl) dX0_heldBy_10 ?_
    refine lv_iload_n hx hb dX0_heldBy_13 rfl (lv_at hl 1 rfl) ?_
    refine lv_bipush (v := 6) hx hb dX0_heldBy_14 (by decide) ?_
    refine lv_imul hx hb dX0_heldBy_16 ?_
    refine lv_iload_n hx hb dX0_heldBy_17 rfl (lv_at hl 2 rfl) ?_
    refine lv_iadd hx hb dX0_heldBy_18 ?_
    refine za_l hC hW hf (zG_4 kb) dX0_heldBy_19 (fun v2 hf => ?_)
    refine lv_goto (tgt := 25) hx hb dX0_heldBy_20 (by decide) ?_
    exact zr_i hx hb hr hlk hW (Option.some.inj hf) rfl dX0_heldBy_25
set_option maxHeartbeats 4000000 in
set_option maxRecDepth 100000 in
theorem mX0_holders {l : Launch} {D : va_G} {cI cJ : ClassId} {adr : Nat → Nat} {b : Nat} (kb : zG b) (p1 : Int32) (s0 : zkS) {z : Nat} {ro : Int32} (hI : zInj 0 adr) (hf : fX0_holders b p1 s0 = some ro) : Met l yX0_holders (Cond.code yX0_holders cX0_holders 5 (some .int) :: zTb) { frames := 2, cells := 0, slots := 0, locals := 45 } (zPre 0 D cI cJ adr s0 z [.ref (adr b), .int p1]) (zQi 0 D cI cJ adr z ro s0) 0 0 (zA 0 adr z) := by
  refine zen (cc := cX0_holders) (own := RX0) (by decide +kernel) rfl hI (Nat.le_of_ble_eq_true rfl) (fun p e s m args below meth c ls hC hr hlk hz hl hW => ?_)
  subst hz
  obtain ⟨hx, hb, -⟩ := id hC
  have hl : lv_has ls 5 [(0, .ref (adr b)), (1, .int p1)] := hl
  refine zst hW (fun H locs hW => ?_)
  unfold fX0_holders at hf
  refine lv_iconst (v := 0) hx hb dX0_holders_0 (by decide) ?_
  refine lv_istore_n (lv' := [(2, .int 0), (0, .ref (adr b)), (1, .int p1)]) hx hb dX0_holders_1 rfl hl (by decide) rfl (fun ls hl => ?_)
  refine lv_iconst (v := 0) hx hb dX0_holders_2 (by decide) ?_
  refine lv_istore_n (lv' := [(3, .int 0), (2, .int 0), (0, .ref (adr b)), (1, .int p1)]) hx hb dX0_holders_3 rfl hl (by decide) rfl (fun ls hl => ?_)
  have hL4 : ∀ (n : Nat) (x1 : Int32) (x2 : Int32) (x3 : Int32) (K4 : Int32 → Option (Int32)) (H : Heap) (locs : List Loc) (ls : Array Slot), fX0_holders_L4 n b s0 x1 x2 x3 K4 = some ro → zWo 0 D cI cJ adr s s0 H locs → lv_has ls 5 [(0, .ref (adr b)), (1, .int x1), (2, .int x2), (3, .int x3)] → (∀ (x2 : Int32) (H : Heap) (locs : List Loc) (ls : Array Slot), K4 x2 = some ro → zWo 0 D cI cJ adr s s0 H locs → lv_has ls 5 [(2, .int x2)] → W p l e { frames := 2, cells := 0, slots := 0, locals := 45 } s m args below meth c H locs 0 0 (MQ below (zQi 0 D cI cJ adr s.heap.size ro s0) args s 0 0 (zA 0 adr s.heap.size)) (F0 m 57 ls [])) → W p l e { frames := 2, cells := 0, slots := 0, locals := 45 } s m args below meth c H locs 0 0 (MQ below (zQi 0 D cI cJ adr s.heap.size ro s0) args s 0 0 (zA 0 adr s.heap.size)) (F0 m 4 ls []) := by
    intro n
    induction n with
    | zero =>
      intro x1 x2 x3 K4 H locs ls hf hW hl hK4
      rw [fX0_holders_L4] at hf
      cases hf
    | succ n ih4 =>
      intro x1 x2 x3 K4 H locs ls hf hW hl hK4
      rw [fX0_holders_L4] at hf
      refine lv_iload_n hx hb dX0_holders_4 rfl (lv_at hl 3 rfl) ?_
      refine lv_bipush (v := 24) hx hb dX0_holders_5 (by decide) ?_
      refine zi_icmp_ge (tgt := 57) hx hb dX0_holders_7 (by decide) hf (fun hc hf => ?_) (fun hc hf => ?_)
      · skip
        exact hK4 x2 H locs ls hf hW (lv_sub hl [2] rfl)
      · skip
        refine lv_iconst (v := 0) hx hb dX0_holders_10 (by decide) ?_
        refine lv_istore (lv' := [(4, .int 0), (0, .ref (adr b)), (1, .int x1), (2, .int x2), (3, .int x3)]) hx hb dX0_holders_11 hl (by decide) rfl (fun ls hl => ?_)
        have hL13 : ∀ (n : Nat) (x1 : Int32) (x3 : Int32) (x2 : Int32) (x4 : Int32) (K13 : Int32 → Option (Int32)) (H : Heap) (locs : List Loc) (ls : Array Slot), fX0_holders_L13 n b s0 x1 x3 x2 x4 K13 = some ro → zWo 0 D cI cJ adr s s0 H locs → lv_has ls 5 [(0, .ref (adr b)), (1, .int x1), (2, .int x2), (3, .int x3), (4, .int x4)] → (∀ (x2 : Int32) (H : Heap) (locs : List Loc) (ls : Array Slot), K13 x2 = some ro → zWo 0 D cI cJ adr s s0 H locs → lv_has ls 5 [(0, .ref (adr b)), (1, .int x1), (2, .int x2), (3, .int x3)] → W p l e { frames := 2, cells := 0, slots := 0, locals := 45 } s m args below meth c H locs 0 0 (MQ below (zQi 0 D cI cJ adr s.heap.size ro s0) args s 0 0 (zA 0 adr s.heap.size)) (F0 m 51 ls [])) → W p l e { frames := 2, cells := 0, slots := 0, locals := 45 } s m args below meth c H locs 0 0 (MQ below (zQi 0 D cI cJ adr s.heap.size ro s0) args s 0 0 (zA 0 adr s.heap.size)) (F0 m 13 ls []) := by
          intro n
          induction n with
          | zero =>
            intro x1 x3 x2 x4 K13 H locs ls hf hW hl hK13
            rw [fX0_holders_L13] at hf
            cases hf
          | succ n ih13 =>
            intro x1 x3 x2 x4 K13 H locs ls hf hW hl hK13
            rw [fX0_holders_L13] at hf
            refine lv_iload hx hb dX0_holders_13 (lv_at hl 4 rfl) ?_
            refine lv_aload_n hx hb dX0_holders_15 rfl (lv_at hl 0 rfl) ?_
            refine lv_iload_n hx hb dX0_holders_16 rfl (lv_at hl 3 rfl) ?_
            obtain ⟨v1, hq, hf⟩ := zb1_o hf
            refine zc_i hW (zrun_v (As := [.int x3]) (rest := [.int x4]) hC hW (mX0_sizeOf kb x3 s0 hC.2.2.2.2.2.2.2 hq) cv_X0_75 (zG_k kb) (zG_s kb) rfl ⟨⟨rfl, rfl⟩, Nat.le_of_ble_eq_true rfl, Nat.le_of_ble_eq_true rfl⟩ (zlv_size hl) rfl (Nat.le_of_ble_eq_true rfl) dX0_holders_17 ⟨Nat.le_refl _, Nat.le_refl _⟩) (fun H locs hW => ?_)
            refine zi_icmp_ge (tgt := 51) hx hb dX0_holders_20 (by decide) hf (fun hc hf => ?_) (fun hc hf => ?_)
            · skip
              exact hK13 x2 H locs ls hf hW (lv_sub hl [0, 1, 2, 3] rfl)
            · skip
              refine lv_iload_n hx hb dX0_holders_23 rfl (lv_at hl 2 rfl) ?_
              refine lv_aload_n hx hb dX0_holders_24 rfl (lv_at hl 0 rfl) ?_
              refine lv_iload_n hx hb dX0_holders_25 rfl (lv_at hl 3 rfl) ?_
              refine lv_iload hx hb dX0_holders_26 (lv_at hl 4 rfl) ?_
              obtain ⟨v2, hq, hf⟩ := zb1_o hf
              refine zc_i hW (zrun_v (As := [.int x3, .int x4]) (rest := [.int x2]) hC hW (mX0_heldBy kb x3 x4 s0 hC.2.2.2.2.2.2.2 hq) cv_X0_82 (zG_k kb) (zG_s kb) rfl ⟨⟨rfl, rfl⟩, Nat.le_of_ble_eq_true rfl, Nat.le_of_ble_eq_true rfl⟩ (zlv_size hl) rfl (Nat.le_of_ble_eq_true rfl) dX0_holders_28 ⟨Nat.le_refl _, Nat.le_refl _⟩) (fun H locs hW => ?_)
              refine lv_iload_n hx hb dX0_holders_31 rfl (lv_at hl 1 rfl) ?_
              refine zi_icmp_ne (tgt := 39) hx hb dX0_holders_32 (by decide) hf (fun hc hf => ?_) (fun hc hf => ?_)
              · skip
                refine lv_iconst (v := 1) hx hb dX0_holders_35 (by decide) ?_
                refine lv_goto (tgt := 40) hx hb dX0_holders_36 (by decide) ?_
                refine zc_i hW (zrun_n (As := [.int 1]) (rest := [.int x2]) hC hW (mX7_asNumber 1 s0 hC.2.2.2.2.2.2.2 rfl) cn_X0_85 rfl ⟨⟨rfl, rfl⟩, Nat.le_of_ble_eq_true rfl, Nat.le_of_ble_eq_true rfl⟩ (zlv_size hl) rfl (Nat.le_of_ble_eq_true rfl) dX0_holders_40 ⟨Nat.le_refl _, Nat.le_refl _⟩) (fun H locs hW => ?_)
                refine lv_iadd hx hb dX0_holders_43 ?_
                refine zn_i hf (fun v4 hf => ?_)
                refine lv_istore_n (lv' := [(2, .int v4), (0, .ref (adr b)), (1, .int x1), (3, .int x3), (4, .int x4)]) hx hb dX0_holders_44 rfl hl (by decide) rfl (fun ls hl => ?_)
                refine zi_inc (v := (x4 + 1)) (lv' := fun v5 => [(4, .int v5), (2, .int v4), (0, .ref (adr b)), (1, .int x1), (3, .int x3)]) hx hb dX0_holders_45 hl (k := 4) rfl rfl (by decide) (fun _ => rfl) hf (fun v5 ls hf hl => ?_)
                refine lv_goto (tgt := 13) hx hb dX0_holders_48 (by decide) ?_
                exact ih13 x1 x3 v4 v5 _ H locs ls hf hW (lv_sub hl [2, 3, 1, 4, 0] rfl) hK13
              · skip
                refine lv_iconst (v := 0) hx hb dX0_holders_39 (by decide) ?_
                refine zc_i hW (zrun_n (As := [.int 0]) (rest := [.int x2]) hC hW (mX7_asNumber 0 s0 hC.2.2.2.2.2.2.2 rfl) cn_X0_85 rfl ⟨⟨rfl, rfl⟩, Nat.le_of_ble_eq_true rfl, Nat.le_of_ble_eq_true rfl⟩ (zlv_size hl) rfl (Nat.le_of_ble_eq_true rfl) dX0_holders_40 ⟨Nat.le_refl _, Nat.le_refl _⟩) (fun H locs hW => ?_)
                refine lv_iadd hx hb dX0_holders_43 ?_
                refine zn_i hf (fun v7 hf => ?_)
                refine lv_istore_n (lv' := [(2, .int v7), (0, .ref (adr b)), (1, .int x1), (3, .int x3), (4, .int x4)]) hx hb dX0_holders_44 rfl hl (by decide) rfl (fun ls hl => ?_)
                refine zi_inc (v := (x4 + 1)) (lv' := fun v8 => [(4, .int v8), (2, .int v7), (0, .ref (adr b)), (1, .int x1), (3, .int x3)]) hx hb dX0_holders_45 hl (k := 4) rfl rfl (by decide) (fun _ => rfl) hf (fun v8 ls hf hl => ?_)
                refine lv_goto (tgt := 13) hx hb dX0_holders_48 (by decide) ?_
                exact ih13 x1 x3 v7 v8 _ H locs ls hf hW (lv_sub hl [2, 3, 1, 4, 0] rfl) hK13
        refine hL13 zFU x1 x3 x2 0 _ H locs ls hf hW (lv_sub hl [1, 2, 3, 4, 0] rfl) (fun x9 H locs ls hf hW hl => ?_)
        refine zi_inc (v := (x3 + 1)) (lv' := fun v10 => [(3, .int v10), (0, .ref (adr b)), (1, .int x1), (2, .int x9)]) hx hb dX0_holders_51 hl (k := 3) rfl rfl (by decide) (fun _ => rfl) hf (fun v10 ls hf hl => ?_)
        refine lv_goto (tgt := 4) hx hb dX0_holders_54 (by decide) ?_
        exact ih4 x1 x9 v10 _ H locs ls hf hW (lv_sub hl [1, 2, 3, 0] rfl) hK4
  refine hL4 zFU p1 0 0 _ H locs ls hf hW (lv_sub hl [2, 3, 1, 0] rfl) (fun x11 H locs ls hf hW hl => ?_)
  refine lv_iload_n hx hb dX0_holders_57 rfl (lv_at hl 0 rfl) ?_
  exact zr_i hx hb hr hlk hW (Option.some.inj hf) rfl dX0_holders_58
set_option maxHeartbeats 4000000 in
set_option maxRecDepth 100000 in
theorem mX7_bitsFor {l : Launch} {D : va_G} {cI cJ : ClassId} {adr : Nat → Nat} {u : Nat} (p1 : Int32) (s0 : zkS) {z : Nat} {ro : Int32} (hI : zInj u adr) (hf : fX7_bitsFor p1 = some ro) : Met l yX7_bitsFor (Cond.code yX7_bitsFor cX7_bitsFor 2 (some .int) :: zTb) { frames := 0, cells := 0, slots := 0, locals := 0 } (zPre u D cI cJ adr s0 z [.int p1]) (zQi u D cI cJ adr z ro s0) 0 0 (zA u adr z) := by
  refine zen (cc := cX7_bitsFor) (own := RX7) (by decide +kernel) rfl hI (Nat.le_of_ble_eq_true rfl) (fun p e s m args below meth c ls hC hr hlk hz hl hW => ?_)
  subst hz
  obtain ⟨hx, hb, -⟩ := id hC
  have hl : lv_has ls 2 [(0, .int p1)] := hl
  refine zst hW (fun H locs hW => ?_)
  unfold fX7_bitsFor at hf
  refine lv_iconst (v := 0) hx hb dX7_bitsFor_0 (by decide) ?_
  refine lv_istore_n (lv' := [(1, .int 0), (0, .int p1)]) hx hb dX7_bitsFor_1 rfl hl (by decide) rfl (fun ls hl => ?_)
  have hL2 : ∀ (n : Nat) (x0 : Int32) (x1 : Int32) (K2 : Int32 → Option (Int32)) (H : Heap) (locs : List Loc) (ls : Array Slot), fX7_bitsFor_L2 n x0 x1 K2 = some ro → zWo u D cI cJ adr s s0 H locs → lv_has ls 2 [(0, .int x0), (1, .int x1)] → (∀ (x1 : Int32) (H : Heap) (locs : List Loc) (ls : Array Slot), K2 x1 = some ro → zWo u D cI cJ adr s s0 H locs → lv_has ls 2 [(1, .int x1)] → W p l e { frames := 0, cells := 0, slots := 0, locals := 0 } s m args below meth c H locs 0 0 (MQ below (zQi u D cI cJ adr s.heap.size ro s0) args s 0 0 (zA u adr s.heap.size)) (F0 m 21 ls [])) → W p l e { frames := 0, cells := 0, slots := 0, locals := 0 } s m args below meth c H locs 0 0 (MQ below (zQi u D cI cJ adr s.heap.size ro s0) args s 0 0 (zA u adr s.heap.size)) (F0 m 2 ls []) := by
    intro n
    induction n with
    | zero =>
      intro x0 x1 K2 H locs ls hf hW hl hK2
      rw [fX7_bitsFor_L2] at hf
      cases hf
    | succ n ih2 =>
      intro x0 x1 K2 H locs ls hf hW hl hK2
      rw [fX7_bitsFor_L2] at hf
      refine lv_iload_n hx hb dX7_bitsFor_2 rfl (lv_at hl 1 rfl) ?_
      refine lv_bipush (v := 6) hx hb dX7_bitsFor_3 (by decide) ?_
      refine zi_icmp_ge (tgt := 21) hx hb dX7_bitsFor_5 (by decide) hf (fun hc hf => ?_) (fun hc hf => ?_)
      · skip
        exact hK2 x1 H locs ls hf hW (lv_sub hl [1] rfl)
      · skip
        refine lv_iload_n hx hb dX7_bitsFor_8 rfl (lv_at hl 0 rfl) ?_
        refine lv_iconst (v := 1) hx hb dX7_bitsFor_9 (by decide) ?_
        refine lv_iload_n hx hb dX7_bitsFor_10 rfl (lv_at hl 1 rfl) ?_
        refine lv_ishl hx hb dX7_bitsFor_11 ?_
        refine zi_icmp_le (tgt := 21) hx hb dX7_bitsFor_12 (by decide) hf (fun hc hf => ?_) (fun hc hf => ?_)
        · skip
          exact hK2 x1 H locs ls hf hW (lv_sub hl [1] rfl)
        · skip
          refine zi_inc (v := (x1 + 1)) (lv' := fun v1 => [(1, .int v1), (0, .int x0)]) hx hb dX7_bitsFor_15 hl (k := 1) rfl rfl (by decide) (fun _ => rfl) hf (fun v1 ls hf hl => ?_)
          refine lv_goto (tgt := 2) hx hb dX7_bitsFor_18 (by decide) ?_
          exact ih2 x0 v1 _ H locs ls hf hW (lv_sub hl [1, 0] rfl) hK2
  refine hL2 zFU p1 0 _ H locs ls hf hW (lv_sub hl [1, 0] rfl) (fun x2 H locs ls hf hW hl => ?_)
  refine lv_iconst (v := 1) hx hb dX7_bitsFor_21 (by decide) ?_
  refine lv_iload_n hx hb dX7_bitsFor_22 rfl (lv_at hl 0 rfl) ?_
  refine lv_iadd hx hb dX7_bitsFor_23 ?_
  exact zr_i hx hb hr hlk hW (Option.some.inj hf) rfl dX7_bitsFor_24
set_option maxHeartbeats 4000000 in
set_option maxRecDepth 100000 in
theorem mX0_heldByRoots {l : Launch} {D : va_G} {cI cJ : ClassId} {adr : Nat → Nat} {b : Nat} (kb : zG b) (s0 : zkS) {z : Nat} {ro : Int32} (hI : zInj 0 adr) (hf : fX0_heldByRoots b s0 = some ro) : Met l yX0_heldByRoots (Cond.code yX0_heldByRoots cX0_heldByRoots 3 (some .int) :: zTb) { frames := 1, cells := 0, slots := 0, locals := 20 } (zPre 0 D cI cJ adr s0 z [.ref (adr b)]) (zQi 0 D cI cJ adr z ro s0) 0 0 (zA 0 adr z) := by
  refine zen (cc := cX0_heldByRoots) (own := RX0) (by decide +kernel) rfl hI (Nat.le_of_ble_eq_true rfl) (fun p e s m args below meth c ls hC hr hlk hz hl hW => ?_)
  subst hz
  obtain ⟨hx, hb, -⟩ := id hC
  have hl : lv_has ls 3 [(0, .ref (adr b))] := hl
  refine zst hW (fun H locs hW => ?_)
  unfold fX0_heldByRoots at hf
  refine lv_iconst (v := 0) hx hb dX0_heldByRoots_0 (by decide) ?_
  refine lv_istore_n (lv' := [(1, .int 0), (0, .ref (adr b))]) hx hb dX0_heldByRoots_1 rfl hl (by decide) rfl (fun ls hl => ?_)
  refine lv_iconst (v := 0) hx hb dX0_heldByRoots_2 (by decide) ?_
  refine lv_istore_n (lv' := [(2, .int 0), (1, .int 0), (0, .ref (adr b))]) hx hb dX0_heldByRoots_3 rfl hl (by decide) rfl (fun ls hl => ?_)
  have hL4 : ∀ (n : Nat) (x1 : Int32) (x2 : Int32) (K4 : Int32 → Option (Int32)) (H : Heap) (locs : List Loc) (ls : Array Slot), fX0_heldByRoots_L4 n b s0 x1 x2 K4 = some ro → zWo 0 D cI cJ adr s s0 H locs → lv_has ls 3 [(0, .ref (adr b)), (1, .int x1), (2, .int x2)] → (∀ (x1 : Int32) (H : Heap) (locs : List Loc) (ls : Array Slot), K4 x1 = some ro → zWo 0 D cI cJ adr s s0 H locs → lv_has ls 3 [(1, .int x1)] → W p l e { frames := 1, cells := 0, slots := 0, locals := 20 } s m args below meth c H locs 0 0 (MQ below (zQi 0 D cI cJ adr s.heap.size ro s0) args s 0 0 (zA 0 adr s.heap.size)) (F0 m 27 ls [])) → W p l e { frames := 1, cells := 0, slots := 0, locals := 20 } s m args below meth c H locs 0 0 (MQ below (zQi 0 D cI cJ adr s.heap.size ro s0) args s 0 0 (zA 0 adr s.heap.size)) (F0 m 4 ls []) := by
    intro n
    induction n with
    | zero =>
      intro x1 x2 K4 H locs ls hf hW hl hK4
      rw [fX0_heldByRoots_L4] at hf
      cases hf
    | succ n ih4 =>
      intro x1 x2 K4 H locs ls hf hW hl hK4
      rw [fX0_heldByRoots_L4] at hf
      refine lv_iload_n hx hb dX0_heldByRoots_4 rfl (lv_at hl 2 rfl) ?_
      refine lv_iconst (v := 4) hx hb dX0_heldByRoots_5 (by decide) ?_
      refine zi_icmp_ge (tgt := 27) hx hb dX0_heldByRoots_6 (by decide) hf (fun hc hf => ?_) (fun hc hf => ?_)
      · skip
        exact hK4 x1 H locs ls hf hW (lv_sub hl [1] rfl)
      · skip
        refine lv_iload_n hx hb dX0_heldByRoots_9 rfl (lv_at hl 1 rfl) ?_
        refine lv_aload_n hx hb dX0_heldByRoots_10 rfl (lv_at hl 0 rfl) ?_
        refine zg_a (o := 4) hC hW fl_X0_34 (zG_k kb) (zG_s kb) (show _ = (b + 5) from rfl) dX0_heldByRoots_11 ?_
        refine lv_iload_n hx hb dX0_heldByRoots_14 rfl (lv_at hl 2 rfl) ?_
        refine za_l hC hW hf (zG_5 kb) dX0_heldByRoots_15 (fun v1 hf => ?_)
        refine zc_i hW (zrun_n (As := [.int v1]) (rest := [.int x1]) hC hW (mX7_bit v1 s0 hC.2.2.2.2.2.2.2 rfl) cn_X0_49 rfl ⟨⟨rfl, rfl⟩, Nat.le_of_ble_eq_true rfl, Nat.le_of_ble_eq_true rfl⟩ (zlv_size hl) rfl (Nat.le_of_ble_eq_true rfl) dX0_heldByRoots_16 ⟨Nat.le_refl _, Nat.le_refl _⟩) (fun H locs hW => ?_)
        refine lv_ior hx hb dX0_heldByRoots_19 ?_
        refine zn_i hf (fun v3 hf => ?_)
        refine lv_istore_n (lv' := [(1, .int v3), (0, .ref (adr b)), (2, .int x2)]) hx hb dX0_heldByRoots_20 rfl hl (by decide) rfl (fun ls hl => ?_)
        refine zi_inc (v := (x2 + 1)) (lv' := fun v4 => [(2, .int v4), (1, .int v3), (0, .ref (adr b))]) hx hb dX0_heldByRoots_21 hl (k := 2) rfl rfl (by decide) (fun _ => rfl) hf (fun v4 ls hf hl => ?_)
        refine lv_goto (tgt := 4) hx hb dX0_heldByRoots_24 (by decide) ?_
        exact ih4 v3 v4 _ H locs ls hf hW (lv_sub hl [2, 1, 0] rfl) hK4
  refine hL4 zFU 0 0 _ H locs ls hf hW (lv_sub hl [2, 1, 0] rfl) (fun x5 H locs ls hf hW hl => ?_)
  refine lv_iload_n hx hb dX0_heldByRoots_27 rfl (lv_at hl 0 rfl) ?_
  exact zr_i hx hb hr hlk hW (Option.some.inj hf) rfl dX0_heldByRoots_28
set_option maxHeartbeats 4000000 in
set_option maxRecDepth 100000 in
theorem mX7_isFollowed {l : Launch} {D : va_G} {cI cJ : ClassId} {adr : Nat → Nat} {u : Nat} (p1 : Int32) (p2 : Int32) (p3 : Int32) (s0 : zkS) {z : Nat} {ro : Int32} (hI : zInj u adr) (hf : fX7_isFollowed p1 p2 p3 = ro) : Met l yX7_isFollowed (Cond.code yX7_isFollowed cX7_isFollowed 3 (some .boolean) :: zTb) { frames := 0, cells := 0, slots := 0, locals := 0 } (zPre u D cI cJ adr s0 z [.int p1, .int p2, .int p3]) (zQi u D cI cJ adr z ro s0) 0 0 (zA u adr z) := by
  refine zen (cc := cX7_isFollowed) (own := RX7) (by decide +kernel) rfl hI (Nat.le_of_ble_eq_true rfl) (fun p e s m args below meth c ls hC hr hlk hz hl hW => ?_)
  subst hz
  obtain ⟨hx, hb, -⟩ := id hC
  have hl : lv_has ls 3 [(0, .int p1), (1, .int p2), (2, .int p3)] := hl
  refine zst hW (fun H locs hW => ?_)
  unfold fX7_isFollowed at hf
  refine lv_iload_n hx hb dX7_isFollowed_0 rfl (lv_at hl 0 rfl) ?_
  refine zi_c hf (fun h0 hf => ?_) (fun h0 hf => ?_)
  · skip
    refine zs_in (off := 27) (tgt := 28) hx hb h0 dX7_isFollowed_1 (by decide) (by decide) (by decide +kernel) (by decide) ?_
    refine lv_iconst (v := 0) hx hb dX7_isFollowed_28 (by decide) ?_
    exact zr_z hx hb hr hlk hW (by decide) hf rfl dX7_isFollowed_29
  · skip
    refine zi_c hf (fun h1 hf => ?_) (fun h1 hf => ?_)
    · skip
      refine zs_in (off := 29) (tgt := 30) hx hb h1 dX7_isFollowed_1 (by decide) (by decide) (by decide +kernel) (by decide) ?_
      refine lv_iload_n hx hb dX7_isFollowed_30 rfl (lv_at hl 2 rfl) ?_
      refine lv_iconst (v := 2) hx hb dX7_isFollowed_31 (by decide) ?_
      refine lv_irem hx hb dX7_isFollowed_32 (by decide) ?_
      refine zi_if_eq (tgt := 40) hx hb dX7_isFollowed_33 (by decide) hf (fun hc hf => ?_) (fun hc hf => ?_)
      · skip
        refine lv_iconst (v := 0) hx hb dX7_isFollowed_40 (by decide) ?_
        exact zr_z hx hb hr hlk hW (by decide) hf rfl dX7_isFollowed_41
      · skip
        refine lv_iconst (v := 1) hx hb dX7_isFollowed_36 (by decide) ?_
        refine lv_goto (tgt := 41) hx hb dX7_isFollowed_37 (by decide) ?_
        exact zr_z hx hb hr hlk hW (by decide) hf rfl dX7_isFollowed_41
    · skip
      refine zi_c hf (fun h2 hf => ?_) (fun h2 hf => ?_)
      · skip
        refine zs_in (off := 41) (tgt := 42) hx hb h2 dX7_isFollowed_1 (by decide) (by decide) (by decide +kernel) (by decide) ?_
        refine lv_iload_n hx hb dX7_isFollowed_42 rfl (lv_at hl 2 rfl) ?_
        refine lv_iconst (v := 1) hx hb dX7_isFollowed_43 (by decide) ?_
        refine zi_icmp_ne (tgt := 53) hx hb dX7_isFollowed_44 (by decide) hf (fun hc hf => ?_) (fun hc hf => ?_)
        · skip
          refine lv_iload_n hx hb dX7_isFollowed_47 rfl (lv_at hl 1 rfl) ?_
          refine lv_iconst (v := 2) hx hb dX7_isFollowed_48 (by decide) ?_
          refine lv_irem hx hb dX7_isFollowed_49 (by decide) ?_
          refine zi_if_eq (tgt := 57) hx hb dX7_isFollowed_50 (by decide) hf (fun hc hf => ?_) (fun hc hf => ?_)
          · skip
            refine lv_iconst (v := 0) hx hb dX7_isFollowed_57 (by decide) ?_
            exact zr_z hx hb hr hlk hW (by decide) hf rfl dX7_isFollowed_58
          · skip
            refine lv_iconst (v := 1) hx hb dX7_isFollowed_53 (by decide) ?_
            refine lv_goto (tgt := 58) hx hb dX7_isFollowed_54 (by decide) ?_
            exact zr_z hx hb hr hlk hW (by decide) hf rfl dX7_isFollowed_58
        · skip
          refine lv_iconst (v := 1) hx hb dX7_isFollowed_53 (by decide) ?_
          refine lv_goto (tgt := 58) hx hb dX7_isFollowed_54 (by decide) ?_
          exact zr_z hx hb hr hlk hW (by decide) hf rfl dX7_isFollowed_58
      · skip
        refine lv_tableOut (tgt := 59) hx hb dX7_isFollowed_1 (by have n0 := lv_neT h0 (show (4 : Int32).toInt = 4 from rfl); have n1 := lv_neT h1 (show (5 : Int32).toInt = 5 from rfl); have n2 := lv_neT h2 (show (6 : Int32).toInt = 6 from rfl); omega) (by decide) ?_
        refine lv_iconst (v := 1) hx hb dX7_isFollowed_59 (by decide) ?_
        exact zr_z hx hb hr hlk hW (by decide) hf rfl dX7_isFollowed_60
set_option maxHeartbeats 4000000 in
set_option maxRecDepth 100000 in
theorem mX0_leadsTo {l : Launch} {D : va_G} {cI cJ : ClassId} {adr : Nat → Nat} {b : Nat} (kb : zG b) (p1 : Int32) (p2 : Int32) (s0 : zkS) {z : Nat} {ro : Int32} (hI : zInj 0 adr) (hf : fX0_leadsTo b p1 p2 s0 = some ro) : Met l yX0_leadsTo (Cond.code yX0_leadsTo cX0_leadsTo 3 (some .int) :: zTb) { frames := 1, cells := 0, slots := 0, locals := 23 } (zPre 0 D cI cJ adr s0 z [.ref (adr b), .int p1, .int p2]) (zQi 0 D cI cJ adr z ro s0) 0 0 (zA 0 adr z) := by
  refine zen (cc := cX0_leadsTo) (own := RX0) (by decide +kernel) rfl hI (Nat.le_of_ble_eq_true rfl) (fun p e s m args below meth c ls hC hr hlk hz hl hW => ?_)
  subst hz
  obtain ⟨hx, hb, -⟩ := id hC
  have hl : lv_has ls 3 [(0, .ref (adr b)), (1, .int p1), (2, .int p2)] := hl
  refine zst hW (fun H locs hW => ?_)
  unfold fX0_leadsTo at hf
  refine lv_aload_n hx hb dX0_leadsTo_0 rfl (lv_at hl 0 rfl) ?_
  refine lv_iload_n hx hb dX0_leadsTo_1 rfl (lv_at hl 1 rfl) ?_
  refine lv_iload_n hx hb dX0_leadsTo_2 rfl (lv_at hl 2 rfl) ?_
  obtain ⟨v1, hq, hf⟩ := zb1_o hf
  refine zc_i hW (zrun_v (As := [.int p1, .int p2]) (rest := []) hC hW (mX0_isField kb p1 p2 s0 hC.2.2.2.2.2.2.2 hq) cv_X0_65 (zG_k kb) (zG_s kb) rfl ⟨⟨rfl, rfl⟩, Nat.le_of_ble_eq_true rfl, Nat.le_of_ble_eq_true rfl⟩ (zlv_size hl) rfl (Nat.le_of_ble_eq_true rfl) dX0_leadsTo_3 ⟨Nat.le_refl _, Nat.le_refl _⟩) (fun H locs hW => ?_)
  refine zi_if_eq (tgt := 28) hx hb dX0_leadsTo_6 (by decide) hf (fun hc hf => ?_) (fun hc hf => ?_)
  · skip
    refine lv_bipush (v := (-5)) hx hb dX0_leadsTo_28 (by decide) ?_
    exact zr_i hx hb hr hlk hW (Option.some.inj hf) rfl dX0_leadsTo_30
  · skip
    refine lv_aload_n hx hb dX0_leadsTo_9 rfl (lv_at hl 0 rfl) ?_
    refine zg_a (o := 0) hC hW fl_X0_21 (zG_k kb) (zG_s kb) (show _ = (b + 1) from rfl) dX0_leadsTo_10 ?_
    refine lv_iload_n hx hb dX0_leadsTo_13 rfl (lv_at hl 1 rfl) ?_
    refine za_l hC hW hf (zG_1 kb) dX0_leadsTo_14 (fun v2 hf => ?_)
    refine lv_aload_n hx hb dX0_leadsTo_15 rfl (lv_at hl 0 rfl) ?_
    refine zg_a (o := 1) hC hW fl_X0_25 (zG_k kb) (zG_s kb) (show _ = (b + 2) from rfl) dX0_leadsTo_16 ?_
    refine lv_iload_n hx hb dX0_leadsTo_19 rfl (lv_at hl 1 rfl) ?_
    refine za_l hC hW hf (zG_2 kb) dX0_leadsTo_20 (fun v3 hf => ?_)
    refine lv_iload_n hx hb dX0_leadsTo_21 rfl (lv_at hl 2 rfl) ?_
    refine zc_i hW (zrun_n (As := [.int v2, .int v3, .int p2]) (rest := []) hC hW (mX7_isFollowed v2 v3 p2 s0 hC.2.2.2.2.2.2.2 rfl) cn_X0_71 rfl ⟨⟨rfl, rfl⟩, Nat.le_of_ble_eq_true rfl, Nat.le_of_ble_eq_true rfl⟩ (zlv_size hl) rfl (Nat.le_of_ble_eq_true rfl) dX0_leadsTo_22 ⟨Nat.le_refl _, Nat.le_refl _⟩) (fun H locs hW => ?_)
    refine zi_if_ne (tgt := 31) hx hb dX0_leadsTo_25 (by decide) hf (fun hc hf => ?_) (fun hc hf => ?_)
    · skip
      refine lv_bipush (v := (-5)) hx hb dX0_leadsTo_28 (by decide) ?_
      exact zr_i hx hb hr hlk hW (Option.some.inj hf) rfl dX0_leadsTo_30
    · skip
      refine lv_aload_n hx hb dX0_leadsTo_31 rfl (lv_at hl 0 rfl) ?_
      refine zg_a (o := 3) hC hW fl_X0_31 (zG_k kb) (zG_s kb) (show _ = (b + 4) from rfl) dX0_leadsTo_32 ?_
      refine lv_iload_n hx hb dX0_leadsTo_35 rfl (lv_at hl 1 rfl) ?_
      refine lv_bipush (v := 6) hx hb dX0_leadsTo_36 (by decide) ?_
      refine lv_imul hx hb dX0_leadsTo_38 ?_
      refine lv_iload_n hx hb dX0_leadsTo_39 rfl (lv_at hl 2 rfl) ?_
      refine lv_iadd hx hb dX0_leadsTo_40 ?_
      refine za_l hC hW hf (zG_4 kb) dX0_leadsTo_41 (fun v5 hf => ?_)
      exact zr_i hx hb hr hlk hW (Option.some.inj hf) rfl dX0_leadsTo_42
set_option maxHeartbeats 4000000 in
set_option maxRecDepth 100000 in
theorem mX0_linksOf {l : Launch} {D : va_G} {cI cJ : ClassId} {adr : Nat → Nat} {b : Nat} (kb : zG b) (p1 : Int32) (p2 : Int32) (s0 : zkS) {z : Nat} {ro : Int32} (hI : zInj 0 adr) (hf : fX0_linksOf b p1 p2 s0 = some ro) : Met l yX0_linksOf (Cond.code yX0_linksOf cX0_linksOf 5 (some .int) :: zTb) { frames := 2, cells := 0, slots := 0, locals := 45 } (zPre 0 D cI cJ adr s0 z [.ref (adr b), .int p1, .int p2]) (zQi 0 D cI cJ adr z ro s0) 0 0 (zA 0 adr z) := by
  refine zen (cc := cX0_linksOf) (own := RX0) (by decide +kernel) rfl hI (Nat.le_of_ble_eq_true rfl) (fun p e s m args below meth c ls hC hr hlk hz hl hW => ?_)
  subst hz
  obtain ⟨hx, hb, -⟩ := id hC
  have hl : lv_has ls 5 [(0, .ref (adr b)), (1, .int p1), (2, .int p2)] := hl
  refine zst hW (fun H locs hW => ?_)
  unfold fX0_linksOf at hf
  refine lv_iconst (v := 0) hx hb dX0_linksOf_0 (by decide) ?_
  refine lv_istore_n (lv' := [(3, .int 0), (0, .ref (adr b)), (1, .int p1), (2, .int p2)]) hx hb dX0_linksOf_1 rfl hl (by decide) rfl (fun ls hl => ?_)
  refine lv_iconst (v := 0) hx hb dX0_linksOf_2 (by decide) ?_
  refine lv_istore (lv' := [(4, .int 0), (3, .int 0), (0, .ref (adr b)), (1, .int p1), (2, .int p2)]) hx hb dX0_linksOf_3 hl (by decide) rfl (fun ls hl => ?_)
  have hL5 : ∀ (n : Nat) (x1 : Int32) (x2 : Int32) (x3 : Int32) (x4 : Int32) (K5 : Int32 → Option (Int32)) (H : Heap) (locs : List Loc) (ls : Array Slot), fX0_linksOf_L5 n b s0 x1 x2 x3 x4 K5 = some ro → zWo 0 D cI cJ adr s s0 H locs → lv_has ls 5 [(0, .ref (adr b)), (1, .int x1), (2, .int x2), (3, .int x3), (4, .int x4)] → (∀ (x3 : Int32) (H : Heap) (locs : List Loc) (ls : Array Slot), K5 x3 = some ro → zWo 0 D cI cJ adr s s0 H locs → lv_has ls 5 [(3, .int x3)] → W p l e { frames := 2, cells := 0, slots := 0, locals := 45 } s m args below meth c H locs 0 0 (MQ below (zQi 0 D cI cJ adr s.heap.size ro s0) args s 0 0 (zA 0 adr s.heap.size)) (F0 m 40 ls [])) → W p l e { frames := 2, cells := 0, slots := 0, locals := 45 } s m args below meth c H locs 0 0 (MQ below (zQi 0 D cI cJ adr s.heap.size ro s0) args s 0 0 (zA 0 adr s.heap.size)) (F0 m 5 ls []) := by
    intro n
    induction n with
    | zero =>
      intro x1 x2 x3 x4 K5 H locs ls hf hW hl hK5
      rw [fX0_linksOf_L5] at hf
      cases hf
    | succ n ih5 =>
      intro x1 x2 x3 x4 K5 H locs ls hf hW hl hK5
      rw [fX0_linksOf_L5] at hf
      refine lv_iload hx hb dX0_linksOf_5 (lv_at hl 4 rfl) ?_
      refine lv_aload_n hx hb dX0_linksOf_7 rfl (lv_at hl 0 rfl) ?_
      refine lv_iload_n hx hb dX0_linksOf_8 rfl (lv_at hl 1 rfl) ?_
      obtain ⟨v1, hq, hf⟩ := zb1_o hf
      refine zc_i hW (zrun_v (As := [.int x1]) (rest := [.int x4]) hC hW (mX0_sizeOf kb x1 s0 hC.2.2.2.2.2.2.2 hq) cv_X0_75 (zG_k kb) (zG_s kb) rfl ⟨⟨rfl, rfl⟩, Nat.le_of_ble_eq_true rfl, Nat.le_of_ble_eq_true rfl⟩ (zlv_size hl) rfl (Nat.le_of_ble_eq_true rfl) dX0_linksOf_9 ⟨Nat.le_refl _, Nat.le_refl _⟩) (fun H locs hW => ?_)
      refine zi_icmp_ge (tgt := 40) hx hb dX0_linksOf_12 (by decide) hf (fun hc hf => ?_) (fun hc hf => ?_)
      · skip
        exact hK5 x3 H locs ls hf hW (lv_sub hl [3] rfl)
      · skip
        refine lv_iload hx hb dX0_linksOf_15 (lv_at hl 4 rfl) ?_
        refine lv_iload_n hx hb dX0_linksOf_17 rfl (lv_at hl 2 rfl) ?_
        refine zi_icmp_eq (tgt := 34) hx hb dX0_linksOf_18 (by decide) hf (fun hc hf => ?_) (fun hc hf => ?_)
        · skip
          refine zi_inc (v := (x4 + 1)) (lv' := fun v2 => [(4, .int v2), (0, .ref (adr b)), (1, .int x1), (2, .int x2), (3, .int x3)]) hx hb dX0_linksOf_34 hl (k := 4) rfl rfl (by decide) (fun _ => rfl) hf (fun v2 ls hf hl => ?_)
          refine lv_goto (tgt := 5) hx hb dX0_linksOf_37 (by decide) ?_
          exact ih5 x1 x2 x3 v2 _ H locs ls hf hW (lv_sub hl [1, 2, 3, 4, 0] rfl) hK5
        · skip
          refine lv_iload_n hx hb dX0_linksOf_21 rfl (lv_at hl 3 rfl) ?_
          refine lv_aload_n hx hb dX0_linksOf_22 rfl (lv_at hl 0 rfl) ?_
          refine lv_iload_n hx hb dX0_linksOf_23 rfl (lv_at hl 1 rfl) ?_
          refine lv_iload hx hb dX0_linksOf_24 (lv_at hl 4 rfl) ?_
          obtain ⟨v3, hq, hf⟩ := zb1_o hf
          refine zc_i hW (zrun_v (As := [.int x1, .int x4]) (rest := [.int x3]) hC hW (mX0_leadsTo kb x1 x4 s0 hC.2.2.2.2.2.2.2 hq) cv_X0_78 (zG_k kb) (zG_s kb) rfl ⟨⟨rfl, rfl⟩, Nat.le_of_ble_eq_true rfl, Nat.le_of_ble_eq_true rfl⟩ (zlv_size hl) rfl (Nat.le_of_ble_eq_true rfl) dX0_linksOf_26 ⟨Nat.le_refl _, Nat.le_refl _⟩) (fun H locs hW => ?_)
          refine zc_i hW (zrun_n (As := [.int v3]) (rest := [.int x3]) hC hW (mX7_bit v3 s0 hC.2.2.2.2.2.2.2 rfl) cn_X0_49 rfl ⟨⟨rfl, rfl⟩, Nat.le_of_ble_eq_true rfl, Nat.le_of_ble_eq_true rfl⟩ (zlv_size hl) rfl (Nat.le_of_ble_eq_true rfl) dX0_linksOf_29 ⟨Nat.le_refl _, Nat.le_refl _⟩) (fun H locs hW => ?_)
          refine lv_ior hx hb dX0_linksOf_32 ?_
          refine zn_i hf (fun v5 hf => ?_)
          refine lv_istore_n (lv' := [(3, .int v5), (0, .ref (adr b)), (1, .int x1), (2, .int x2), (4, .int x4)]) hx hb dX0_linksOf_33 rfl hl (by decide) rfl (fun ls hl => ?_)
          refine zi_inc (v := (x4 + 1)) (lv' := fun v6 => [(4, .int v6), (3, .int v5), (0, .ref (adr b)), (1, .int x1), (2, .int x2)]) hx hb dX0_linksOf_34 hl (k := 4) rfl rfl (by decide) (fun _ => rfl) hf (fun v6 ls hf hl => ?_)
          refine lv_goto (tgt := 5) hx hb dX0_linksOf_37 (by decide) ?_
          exact ih5 x1 x2 v5 v6 _ H locs ls hf hW (lv_sub hl [2, 3, 4, 1, 0] rfl) hK5
  refine hL5 zFU p1 p2 0 0 _ H locs ls hf hW (lv_sub hl [2, 3, 4, 1, 0] rfl) (fun x7 H locs ls hf hW hl => ?_)
  refine lv_iload_n hx hb dX0_linksOf_40 rfl (lv_at hl 0 rfl) ?_
  exact zr_i hx hb hr hlk hW (Option.some.inj hf) rfl dX0_linksOf_41
set_option maxHeartbeats 4000000 in
set_option maxRecDepth 100000 in
theorem mX1_readFrom {l : Launch} {D : va_G} {cI cJ : ClassId} {adr : Nat → Nat} {o1 : Nat} (k1 : zG o1) (s0 : zkS) {z : Nat} {so : zkS} (hI : zInj 0 adr) (hf : fX1_readFrom o1 s0 = some so) : Met l yX1_readFrom (Cond.code yX1_readFrom cX1_readFrom 3 none :: zTb) { frames := 3, cells := 0, slots := 0, locals := 69 } (zPre 0 D cI cJ adr s0 z [.ref (adr 42), .ref (adr o1)]) (zQv 0 D cI cJ adr z so) 0 0 (zA 0 adr z) := by
  refine zen (cc := cX1_readFrom) (own := RX1) (by decide +kernel) rfl hI (Nat.le_of_ble_eq_true rfl) (fun p e s m args below meth c ls hC hr hlk hz hl hW => ?_)
  subst hz
  obtain ⟨hx, hb, -⟩ := id hC
  have hl : lv_has ls 3 [(0, .ref (adr 42)), (1, .ref (adr o1))] := hl
  refine zst hW (fun H locs hW => ?_)
  unfold fX1_readFrom at hf
  refine lv_aload_n hx hb dX1_readFrom_0 rfl (lv_at hl 0 rfl) ?_
  refine lv_aload_n hx hb dX1_readFrom_1 rfl (lv_at hl 1 rfl) ?_
  obtain ⟨v1, hq, hf⟩ := zb1_o hf
  refine zc_i hW (zrun_v (As := []) (rest := [.ref (adr 42)]) hC hW (mX0_heldByRoots k1 s0 hC.2.2.2.2.2.2.2 hq) cv_X1_19 (zG_k k1) (zG_s k1) rfl ⟨⟨rfl, rfl⟩, Nat.le_of_ble_eq_true rfl, Nat.le_of_ble_eq_true rfl⟩ (zlv_size hl) rfl (Nat.le_of_ble_eq_true rfl) dX1_readFrom_2 ⟨Nat.le_refl _, Nat.le_refl _⟩) (fun H locs hW => ?_)
  refine zp_i hC hW hf fp_X1_15 zck_0_42 zcs_0_42 dX1_readFrom_5 (fun s2 H locs hf hW => ?_)
  refine lv_iconst (v := 0) hx hb dX1_readFrom_8 (by decide) ?_
  refine lv_istore_n (lv' := [(2, .int 0), (0, .ref (adr 42)), (1, .ref (adr o1))]) hx hb dX1_readFrom_9 rfl hl (by decide) rfl (fun ls hl => ?_)
  have hL10 : ∀ (n : Nat) (x2 : Int32) (s3 : zkS) (K10 : zkS → Option (zkS)) (H : Heap) (locs : List Loc) (ls : Array Slot), fX1_readFrom_L10 n o1 x2 s3 K10 = some so → zWo 0 D cI cJ adr s s3 H locs → lv_has ls 3 [(0, .ref (adr 42)), (1, .ref (adr o1)), (2, .int x2)] → (∀ (s3 : zkS) (H : Heap) (locs : List Loc) (ls : Array Slot), K10 s3 = some so → zWo 0 D cI cJ adr s s3 H locs → lv_has ls 3 [] → W p l e { frames := 3, cells := 0, slots := 0, locals := 69 } s m args below meth c H locs 0 0 (MQ below (zQv 0 D cI cJ adr s.heap.size so) args s 0 0 (zA 0 adr s.heap.size)) (F0 m 34 ls [])) → W p l e { frames := 3, cells := 0, slots := 0, locals := 69 } s m args below meth c H locs 0 0 (MQ below (zQv 0 D cI cJ adr s.heap.size so) args s 0 0 (zA 0 adr s.heap.size)) (F0 m 10 ls []) := by
    intro n
    induction n with
    | zero =>
      intro x2 s3 K10 H locs ls hf hW hl hK10
      rw [fX1_readFrom_L10] at hf
      cases hf
    | succ n ih10 =>
      intro x2 s3 K10 H locs ls hf hW hl hK10
      rw [fX1_readFrom_L10] at hf
      refine lv_iload_n hx hb dX1_readFrom_10 rfl (lv_at hl 2 rfl) ?_
      refine lv_bipush (v := 24) hx hb dX1_readFrom_11 (by decide) ?_
      refine zi_icmp_ge (tgt := 34) hx hb dX1_readFrom_13 (by decide) hf (fun hc hf => ?_) (fun hc hf => ?_)
      · skip
        exact hK10 s3 H locs ls hf hW (lv_sub hl [] rfl)
      · skip
        refine lv_aload_n hx hb dX1_readFrom_16 rfl (lv_at hl 0 rfl) ?_
        refine zg_a (o := 0) hC hW fl_X1_9 zck_0_42 zcs_0_42 (show _ = 43 from rfl) dX1_readFrom_17 ?_
        refine lv_iload_n hx hb dX1_readFrom_20 rfl (lv_at hl 2 rfl) ?_
        refine lv_aload_n hx hb dX1_readFrom_21 rfl (lv_at hl 1 rfl) ?_
        refine lv_iload_n hx hb dX1_readFrom_22 rfl (lv_at hl 2 rfl) ?_
        refine lv_iconst (v := (-1)) hx hb dX1_readFrom_23 (by decide) ?_
        obtain ⟨v4, hq, hf⟩ := zb1_o hf
        refine zc_i hW (zrun_v (As := [.int x2, .int (-1)]) (rest := [.int x2, .ref (adr 43)]) hC hW (mX0_linksOf k1 x2 (-1) s3 hC.2.2.2.2.2.2.2 hq) cv_X1_25 (zG_k k1) (zG_s k1) rfl ⟨⟨rfl, rfl⟩, Nat.le_of_ble_eq_true rfl, Nat.le_of_ble_eq_true rfl⟩ (zlv_size hl) rfl (Nat.le_of_ble_eq_true rfl) dX1_readFrom_24 ⟨Nat.le_refl _, Nat.le_refl _⟩) (fun H locs hW => ?_)
        refine za_s hC hW hf zar_0_43 dX1_readFrom_27 (fun s5 H locs hf hW => ?_)
        refine zi_inc (v := (x2 + 1)) (lv' := fun v6 => [(2, .int v6), (0, .ref (adr 42)), (1, .ref (adr o1))]) hx hb dX1_readFrom_28 hl (k := 2) rfl rfl (by decide) (fun _ => rfl) hf (fun v6 ls hf hl => ?_)
        refine lv_goto (tgt := 10) hx hb dX1_readFrom_31 (by decide) ?_
        exact ih10 v6 s5 _ H locs ls hf hW (lv_sub hl [1, 2, 0] rfl) hK10
  refine hL10 zFU 0 s2 _ H locs ls hf hW (lv_sub hl [1, 2, 0] rfl) (fun s7 H locs ls hf hW hl => ?_)
  exact zr_v hx hb hr hlk hW (Option.some.inj hf) dX1_readFrom_34
set_option maxHeartbeats 4000000 in
set_option maxRecDepth 100000 in
theorem mX1_farOf {l : Launch} {D : va_G} {cI cJ : ClassId} {adr : Nat → Nat} (p1 : Int32) (s0 : zkS) {z : Nat} {ro : Int32} (hI : zInj 0 adr) (hf : fX1_farOf p1 s0 = some ro) : Met l yX1_farOf (Cond.code yX1_farOf cX1_farOf 6 (some .int) :: zTb) { frames := 1, cells := 0, slots := 0, locals := 21 } (zPre 0 D cI cJ adr s0 z [.ref (adr 42), .int p1]) (zQi 0 D cI cJ adr z ro s0) 0 0 (zA 0 adr z) := by
  refine zen (cc := cX1_farOf) (own := RX1) (by decide +kernel) rfl hI (Nat.le_of_ble_eq_true rfl) (fun p e s m args below meth c ls hC hr hlk hz hl hW => ?_)
  subst hz
  obtain ⟨hx, hb, -⟩ := id hC
  have hl : lv_has ls 6 [(0, .ref (adr 42)), (1, .int p1)] := hl
  refine zst hW (fun H locs hW => ?_)
  unfold fX1_farOf at hf
  refine lv_aload_n hx hb dX1_farOf_0 rfl (lv_at hl 0 rfl) ?_
  refine zg_i hC hW fl_X1_15 zck_0_42 zcs_0_42 dX1_farOf_1 ?_
  refine lv_istore_n (lv' := [(2, .int (s0.1 42 1)), (0, .ref (adr 42)), (1, .int p1)]) hx hb dX1_farOf_4 rfl hl (by decide) rfl (fun ls hl => ?_)
  refine lv_iconst (v := 0) hx hb dX1_farOf_5 (by decide) ?_
  refine lv_istore_n (lv' := [(3, .int 0), (2, .int (s0.1 42 1)), (0, .ref (adr 42)), (1, .int p1)]) hx hb dX1_farOf_6 rfl hl (by decide) rfl (fun ls hl => ?_)
  have hL7 : ∀ (n : Nat) (x1 : Int32) (x2 : Int32) (x3 : Int32) (K7 : Unit → Option (Int32)) (H : Heap) (locs : List Loc) (ls : Array Slot), fX1_farOf_L7 n s0 x1 x2 x3 K7 = some ro → zWo 0 D cI cJ adr s s0 H locs → lv_has ls 6 [(0, .ref (adr 42)), (1, .int x1), (2, .int x2), (3, .int x3)] → (∀  (H : Heap) (locs : List Loc) (ls : Array Slot), K7 () = some ro → zWo 0 D cI cJ adr s s0 H locs → lv_has ls 6 [] → W p l e { frames := 1, cells := 0, slots := 0, locals := 21 } s m args below meth c H locs 0 0 (MQ below (zQi 0 D cI cJ adr s.heap.size ro s0) args s 0 0 (zA 0 adr s.heap.size)) (F0 m 72 ls [])) → W p l e { frames := 1, cells := 0, slots := 0, locals := 21 } s m args below meth c H locs 0 0 (MQ below (zQi 0 D cI cJ adr s.heap.size ro s0) args s 0 0 (zA 0 adr s.heap.size)) (F0 m 7 ls []) := by
    intro n
    induction n with
    | zero =>
      intro x1 x2 x3 K7 H locs ls hf hW hl hK7
      rw [fX1_farOf_L7] at hf
      cases hf
    | succ n ih7 =>
      intro x1 x2 x3 K7 H locs ls hf hW hl hK7
      rw [fX1_farOf_L7] at hf
      refine lv_iload_n hx hb dX1_farOf_7 rfl (lv_at hl 3 rfl) ?_
      refine lv_bipush (v := 24) hx hb dX1_farOf_8 (by decide) ?_
      refine zi_icmp_ge (tgt := 72) hx hb dX1_farOf_10 (by decide) hf (fun hc hf => ?_) (fun hc hf => ?_)
      · skip
        exact hK7  H locs ls hf hW (lv_sub hl [] rfl)
      · skip
        refine lv_iload_n hx hb dX1_farOf_13 rfl (lv_at hl 2 rfl) ?_
        refine lv_iload_n hx hb dX1_farOf_14 rfl (lv_at hl 1 rfl) ?_
        refine zc_i hW (zrun_n (As := [.int x2, .int x1]) (rest := []) hC hW (mX7_has x2 x1 s0 hC.2.2.2.2.2.2.2 rfl) cn_X1_42 rfl ⟨⟨rfl, rfl⟩, Nat.le_of_ble_eq_true rfl, Nat.le_of_ble_eq_true rfl⟩ (zlv_size hl) rfl (Nat.le_of_ble_eq_true rfl) dX1_farOf_15 ⟨Nat.le_refl _, Nat.le_refl _⟩) (fun H locs hW => ?_)
        refine zi_if_eq (tgt := 23) hx hb dX1_farOf_18 (by decide) hf (fun hc hf => ?_) (fun hc hf => ?_)
        · skip
          refine lv_iload_n hx hb dX1_farOf_23 rfl (lv_at hl 2 rfl) ?_
          refine lv_istore (lv' := [(4, .int x2), (0, .ref (adr 42)), (1, .int x1), (2, .int x2), (3, .int x3)]) hx hb dX1_farOf_24 hl (by decide) rfl (fun ls hl => ?_)
          refine lv_iconst (v := 0) hx hb dX1_farOf_26 (by decide) ?_
          refine lv_istore (lv' := [(5, .int 0), (4, .int x2), (0, .ref (adr 42)), (1, .int x1), (2, .int x2), (3, .int x3)]) hx hb dX1_farOf_27 hl (by decide) rfl (fun ls hl => ?_)
          have hL29 : ∀ (n : Nat) (x4 : Int32) (x2 : Int32) (x5 : Int32) (K29 : Int32 → Option (Int32)) (H : Heap) (locs : List Loc) (ls : Array Slot), fX1_farOf_L29 n s0 x4 x2 x5 K29 = some ro → zWo 0 D cI cJ adr s s0 H locs → lv_has ls 6 [(0, .ref (adr 42)), (1, .int x1), (2, .int x2), (3, .int x3), (4, .int x4), (5, .int x5)] → (∀ (x2 : Int32) (H : Heap) (locs : List Loc) (ls : Array Slot), K29 x2 = some ro → zWo 0 D cI cJ adr s s0 H locs → lv_has ls 6 [(0, .ref (adr 42)), (1, .int x1), (2, .int x2), (3, .int x3)] → W p l e { frames := 1, cells := 0, slots := 0, locals := 21 } s m args below meth c H locs 0 0 (MQ below (zQi 0 D cI cJ adr s.heap.size ro s0) args s 0 0 (zA 0 adr s.heap.size)) (F0 m 66 ls [])) → W p l e { frames := 1, cells := 0, slots := 0, locals := 21 } s m args below meth c H locs 0 0 (MQ below (zQi 0 D cI cJ adr s.heap.size ro s0) args s 0 0 (zA 0 adr s.heap.size)) (F0 m 29 ls []) := by
            intro n
            induction n with
            | zero =>
              intro x4 x2 x5 K29 H locs ls hf hW hl hK29
              rw [fX1_farOf_L29] at hf
              cases hf
            | succ n ih29 =>
              intro x4 x2 x5 K29 H locs ls hf hW hl hK29
              rw [fX1_farOf_L29] at hf
              refine lv_iload hx hb dX1_farOf_29 (lv_at hl 5 rfl) ?_
              refine lv_bipush (v := 24) hx hb dX1_farOf_31 (by decide) ?_
              refine zi_icmp_ge (tgt := 66) hx hb dX1_farOf_33 (by decide) hf (fun hc hf => ?_) (fun hc hf => ?_)
              · skip
                exact hK29 x2 H locs ls hf hW (lv_sub hl [0, 1, 2, 3] rfl)
              · skip
                refine lv_iload_n hx hb dX1_farOf_36 rfl (lv_at hl 2 rfl) ?_
                refine lv_iload hx hb dX1_farOf_37 (lv_at hl 4 rfl) ?_
                refine lv_iload hx hb dX1_farOf_39 (lv_at hl 5 rfl) ?_
                refine zc_i hW (zrun_n (As := [.int x4, .int x5]) (rest := [.int x2]) hC hW (mX7_has x4 x5 s0 hC.2.2.2.2.2.2.2 rfl) cn_X1_42 rfl ⟨⟨rfl, rfl⟩, Nat.le_of_ble_eq_true rfl, Nat.le_of_ble_eq_true rfl⟩ (zlv_size hl) rfl (Nat.le_of_ble_eq_true rfl) dX1_farOf_41 ⟨Nat.le_refl _, Nat.le_refl _⟩) (fun H locs hW => ?_)
                refine zi_if_eq (tgt := 57) hx hb dX1_farOf_44 (by decide) hf (fun hc hf => ?_) (fun hc hf => ?_)
                · skip
                  refine lv_iconst (v := 0) hx hb dX1_farOf_57 (by decide) ?_
                  refine lv_ior hx hb dX1_farOf_58 ?_
                  refine zn_i hf (fun v3 hf => ?_)
                  refine lv_istore_n (lv' := [(2, .int v3), (0, .ref (adr 42)), (1, .int x1), (3, .int x3), (4, .int x4), (5, .int x5)]) hx hb dX1_farOf_59 rfl hl (by decide) rfl (fun ls hl => ?_)
                  refine zi_inc (v := (x5 + 1)) (lv' := fun v4 => [(5, .int v4), (2, .int v3), (0, .ref (adr 42)), (1, .int x1), (3, .int x3), (4, .int x4)]) hx hb dX1_farOf_60 hl (k := 5) rfl rfl (by decide) (fun _ => rfl) hf (fun v4 ls hf hl => ?_)
                  refine lv_goto (tgt := 29) hx hb dX1_farOf_63 (by decide) ?_
                  exact ih29 x4 v3 v4 _ H locs ls hf hW (lv_sub hl [2, 3, 1, 4, 5, 0] rfl) hK29
                · skip
                  refine lv_aload_n hx hb dX1_farOf_47 rfl (lv_at hl 0 rfl) ?_
                  refine zg_a (o := 0) hC hW fl_X1_9 zck_0_42 zcs_0_42 (show _ = 43 from rfl) dX1_farOf_48 ?_
                  refine lv_iload hx hb dX1_farOf_51 (lv_at hl 5 rfl) ?_
                  refine za_l hC hW hf zar_0_43 dX1_farOf_53 (fun v5 hf => ?_)
                  refine lv_goto (tgt := 58) hx hb dX1_farOf_54 (by decide) ?_
                  refine lv_ior hx hb dX1_farOf_58 ?_
                  refine zn_i hf (fun v6 hf => ?_)
                  refine lv_istore_n (lv' := [(2, .int v6), (0, .ref (adr 42)), (1, .int x1), (3, .int x3), (4, .int x4), (5, .int x5)]) hx hb dX1_farOf_59 rfl hl (by decide) rfl (fun ls hl => ?_)
                  refine zi_inc (v := (x5 + 1)) (lv' := fun v7 => [(5, .int v7), (2, .int v6), (0, .ref (adr 42)), (1, .int x1), (3, .int x3), (4, .int x4)]) hx hb dX1_farOf_60 hl (k := 5) rfl rfl (by decide) (fun _ => rfl) hf (fun v7 ls hf hl => ?_)
                  refine lv_goto (tgt := 29) hx hb dX1_farOf_63 (by decide) ?_
                  exact ih29 x4 v6 v7 _ H locs ls hf hW (lv_sub hl [2, 3, 1, 4, 5, 0] rfl) hK29
          refine hL29 zFU x2 x2 0 _ H locs ls hf hW (lv_sub hl [2, 3, 4, 5, 1, 0] rfl) (fun x8 H locs ls hf hW hl => ?_)
          refine zi_inc (v := (x3 + 1)) (lv' := fun v9 => [(3, .int v9), (0, .ref (adr 42)), (1, .int x1), (2, .int x8)]) hx hb dX1_farOf_66 hl (k := 3) rfl rfl (by decide) (fun _ => rfl) hf (fun v9 ls hf hl => ?_)
          refine lv_goto (tgt := 7) hx hb dX1_farOf_69 (by decide) ?_
          exact ih7 x1 x8 v9 _ H locs ls hf hW (lv_sub hl [1, 2, 3, 0] rfl) hK7
        · skip
          refine lv_iload_n hx hb dX1_farOf_21 rfl (lv_at hl 3 rfl) ?_
          exact zr_i hx hb hr hlk hW (Option.some.inj hf) rfl dX1_farOf_22
  refine hL7 zFU p1 (s0.1 42 1) 0 _ H locs ls hf hW (lv_sub hl [2, 3, 1, 0] rfl) (fun  H locs ls hf hW hl => ?_)
  refine lv_bipush (v := (-5)) hx hb dX1_farOf_72 (by decide) ?_
  exact zr_i hx hb hr hlk hW (Option.some.inj hf) rfl dX1_farOf_74
set_option maxHeartbeats 4000000 in
set_option maxRecDepth 100000 in
theorem mJ6_bitCount_0f7a4 {l : Launch} {D : va_G} {cI cJ : ClassId} {adr : Nat → Nat} {u : Nat} (p1 : Int32) (s0 : zkS) {z : Nat} {ro : Int32} (hI : zInj u adr) (hf : fJ6_bitCount_0f7a4 p1 = ro) : Met l yJ6_bitCount_0f7a4 (Cond.code yJ6_bitCount_0f7a4 cJ6_bitCount_0f7a4 1 (some .int) :: zTb) { frames := 0, cells := 0, slots := 0, locals := 0 } (zPre u D cI cJ adr s0 z [.int p1]) (zQi u D cI cJ adr z ro s0) 0 0 (zA u adr z) := by
  refine zen (cc := cJ6_bitCount_0f7a4) (own := RJ6) (by decide +kernel) rfl hI (Nat.le_of_ble_eq_true rfl) (fun p e s m args below meth c ls hC hr hlk hz hl hW => ?_)
  subst hz
  obtain ⟨hx, hb, -⟩ := id hC
  have hl : lv_has ls 1 [(0, .int p1)] := hl
  refine zst hW (fun H locs hW => ?_)
  unfold fJ6_bitCount_0f7a4 at hf
  refine lv_iload_n hx hb dJ6_bitCount_0f7a4_0 rfl (lv_at hl 0 rfl) ?_
  refine lv_iload_n hx hb dJ6_bitCount_0f7a4_1 rfl (lv_at hl 0 rfl) ?_
  refine lv_iconst (v := 1) hx hb dJ6_bitCount_0f7a4_2 (by decide) ?_
  refine lv_iushr hx hb dJ6_bitCount_0f7a4_3 rfl ?_
  refine lv_ldcw hx hb hC.2.2.2.1 (hC.2.2.2.2.1 _ wq_405) dJ6_bitCount_0f7a4_4 ?_
  refine lv_iand hx hb dJ6_bitCount_0f7a4_7 ?_
  refine lv_isub hx hb dJ6_bitCount_0f7a4_8 ?_
  refine zn_i hf (fun v1 hf => ?_)
  refine lv_istore_n (lv' := [(0, .int v1)]) hx hb dJ6_bitCount_0f7a4_9 rfl hl (by decide) rfl (fun ls hl => ?_)
  refine lv_iload_n hx hb dJ6_bitCount_0f7a4_10 rfl (lv_at hl 0 rfl) ?_
  refine lv_ldcw hx hb hC.2.2.2.1 (hC.2.2.2.2.1 _ wq_406) dJ6_bitCount_0f7a4_11 ?_
  refine lv_iand hx hb dJ6_bitCount_0f7a4_14 ?_
  refine lv_iload_n hx hb dJ6_bitCount_0f7a4_15 rfl (lv_at hl 0 rfl) ?_
  refine lv_iconst (v := 2) hx hb dJ6_bitCount_0f7a4_16 (by decide) ?_
  refine lv_iushr hx hb dJ6_bitCount_0f7a4_17 rfl ?_
  refine lv_ldcw hx hb hC.2.2.2.1 (hC.2.2.2.2.1 _ wq_406) dJ6_bitCount_0f7a4_18 ?_
  refine lv_iand hx hb dJ6_bitCount_0f7a4_21 ?_
  refine lv_iadd hx hb dJ6_bitCount_0f7a4_22 ?_
  refine zn_i hf (fun v2 hf => ?_)
  refine lv_istore_n (lv' := [(0, .int v2)]) hx hb dJ6_bitCount_0f7a4_23 rfl hl (by decide) rfl (fun ls hl => ?_)
  refine lv_iload_n hx hb dJ6_bitCount_0f7a4_24 rfl (lv_at hl 0 rfl) ?_
  refine lv_iload_n hx hb dJ6_bitCount_0f7a4_25 rfl (lv_at hl 0 rfl) ?_
  refine lv_iconst (v := 4) hx hb dJ6_bitCount_0f7a4_26 (by decide) ?_
  refine lv_iushr hx hb dJ6_bitCount_0f7a4_27 rfl ?_
  refine lv_iadd hx hb dJ6_bitCount_0f7a4_28 ?_
  refine lv_ldcw hx hb hC.2.2.2.1 (hC.2.2.2.2.1 _ wq_407) dJ6_bitCount_0f7a4_29 ?_
  refine lv_iand hx hb dJ6_bitCount_0f7a4_32 ?_
  refine zn_i hf (fun v3 hf => ?_)
  refine lv_istore_n (lv' := [(0, .int v3)]) hx hb dJ6_bitCount_0f7a4_33 rfl hl (by decide) rfl (fun ls hl => ?_)
  refine lv_iload_n hx hb dJ6_bitCount_0f7a4_34 rfl (lv_at hl 0 rfl) ?_
  refine lv_iload_n hx hb dJ6_bitCount_0f7a4_35 rfl (lv_at hl 0 rfl) ?_
  refine lv_bipush (v := 8) hx hb dJ6_bitCount_0f7a4_36 (by decide) ?_
  refine lv_iushr hx hb dJ6_bitCount_0f7a4_38 rfl ?_
  refine lv_iadd hx hb dJ6_bitCount_0f7a4_39 ?_
  refine zn_i hf (fun v4 hf => ?_)
  refine lv_istore_n (lv' := [(0, .int v4)]) hx hb dJ6_bitCount_0f7a4_40 rfl hl (by decide) rfl (fun ls hl => ?_)
  refine lv_iload_n hx hb dJ6_bitCount_0f7a4_41 rfl (lv_at hl 0 rfl) ?_
  refine lv_iload_n hx hb dJ6_bitCount_0f7a4_42 rfl (lv_at hl 0 rfl) ?_
  refine lv_bipush (v := 16) hx hb dJ6_bitCount_0f7a4_43 (by decide) ?_
  refine lv_iushr hx hb dJ6_bitCount_0f7a4_45 rfl ?_
  refine lv_iadd hx hb dJ6_bitCount_0f7a4_46 ?_
  refine zn_i hf (fun v5 hf => ?_)
  refine lv_istore_n (lv' := [(0, .int v5)]) hx hb dJ6_bitCount_0f7a4_47 rfl hl (by decide) rfl (fun ls hl => ?_)
  refine lv_iload_n hx hb dJ6_bitCount_0f7a4_48 rfl (lv_at hl 0 rfl) ?_
  refine lv_bipush (v := 63) hx hb dJ6_bitCount_0f7a4_49 (by decide) ?_
  refine lv_iand hx hb dJ6_bitCount_0f7a4_51 ?_
  exact zr_i hx hb hr hlk hW hf rfl dJ6_bitCount_0f7a4_52
set_option maxHeartbeats 4000000 in
set_option maxRecDepth 100000 in
theorem mX7_firstOf {l : Launch} {D : va_G} {cI cJ : ClassId} {adr : Nat → Nat} {u : Nat} (p1 : Int32) (s0 : zkS) {z : Nat} {ro : Int32} (hI : zInj u adr) (hf : fX7_firstOf p1 = ro) : Met l yX7_firstOf (Cond.code yX7_firstOf cX7_firstOf 1 (some .int) :: zTb) { frames := 1, cells := 0, slots := 0, locals := 20 } (zPre u D cI cJ adr s0 z [.int p1]) (zQi u D cI cJ adr z ro s0) 0 0 (zA u adr z) := by
  refine zen (cc := cX7_firstOf) (own := RX7) (by decide +kernel) rfl hI (Nat.le_of_ble_eq_true rfl) (fun p e s m args below meth c ls hC hr hlk hz hl hW => ?_)
  subst hz
  obtain ⟨hx, hb, -⟩ := id hC
  have hl : lv_has ls 1 [(0, .int p1)] := hl
  refine zst hW (fun H locs hW => ?_)
  unfold fX7_firstOf at hf
  refine lv_iload_n hx hb dX7_firstOf_0 rfl (lv_at hl 0 rfl) ?_
  refine lv_iload_n hx hb dX7_firstOf_1 rfl (lv_at hl 0 rfl) ?_
  refine lv_ineg hx hb dX7_firstOf_2 ?_
  refine lv_iand hx hb dX7_firstOf_3 ?_
  refine lv_iconst (v := 1) hx hb dX7_firstOf_4 (by decide) ?_
  refine lv_isub hx hb dX7_firstOf_5 ?_
  refine zc_i hW (zrun_s (As := [.int ((p1 &&& (-p1)) - 1)]) (rest := []) hC hW (mJ6_bitCount_0f7a4 ((p1 &&& (-p1)) - 1) s0 hC.2.2.2.2.2.2.2 rfl) cs_X7_201 rfl ⟨⟨rfl, rfl⟩, Nat.le_of_ble_eq_true rfl, Nat.le_of_ble_eq_true rfl⟩ (zlv_size hl) rfl (Nat.le_of_ble_eq_true rfl) dX7_firstOf_6 ⟨Nat.le_refl _, Nat.le_refl _⟩) (fun H locs hW => ?_)
  exact zr_i hx hb hr hlk hW hf rfl dX7_firstOf_9
set_option maxHeartbeats 4000000 in
set_option maxRecDepth 100000 in
theorem mX1_spread {l : Launch} {D : va_G} {cI cJ : ClassId} {adr : Nat → Nat} (p1 : Int32) (p2 : Int32) (s0 : zkS) {z : Nat} {ro : Int32} (hI : zInj 0 adr) (hf : fX1_spread p1 p2 s0 = some ro) : Met l yX1_spread (Cond.code yX1_spread cX1_spread 8 (some .int) :: zTb) { frames := 2, cells := 0, slots := 0, locals := 40 } (zPre 0 D cI cJ adr s0 z [.ref (adr 42), .int p1, .int p2]) (zQi 0 D cI cJ adr z ro s0) 0 0 (zA 0 adr z) := by
  refine zen (cc := cX1_spread) (own := RX1) (by decide +kernel) rfl hI (Nat.le_of_ble_eq_true rfl) (fun p e s m args below meth c ls hC hr hlk hz hl hW => ?_)
  subst hz
  obtain ⟨hx, hb, -⟩ := id hC
  have hl : lv_has ls 8 [(0, .ref (adr 42)), (1, .int p1), (2, .int p2)] := hl
  refine zst hW (fun H locs hW => ?_)
  unfold fX1_spread at hf
  refine lv_iload_n hx hb dX1_spread_0 rfl (lv_at hl 1 rfl) ?_
  refine lv_iload_n hx hb dX1_spread_1 rfl (lv_at hl 2 rfl) ?_
  refine lv_iconst (v := (-1)) hx hb dX1_spread_2 (by decide) ?_
  refine lv_ixor hx hb dX1_spread_3 ?_
  refine lv_iand hx hb dX1_spread_4 ?_
  refine zn_i hf (fun v1 hf => ?_)
  refine lv_istore_n (lv' := [(3, .int v1), (0, .ref (adr 42)), (1, .int p1), (2, .int p2)]) hx hb dX1_spread_5 rfl hl (by decide) rfl (fun ls hl => ?_)
  refine lv_iload_n hx hb dX1_spread_6 rfl (lv_at hl 0 rfl) ?_
  refine lv_istore (lv' := [(4, .int v1), (3, .int v1), (0, .ref (adr 42)), (1, .int p1), (2, .int p2)]) hx hb dX1_spread_7 hl (by decide) rfl (fun ls hl => ?_)
  refine lv_iconst (v := 0) hx hb dX1_spread_9 (by decide) ?_
  refine lv_istore (lv' := [(5, .int 0), (4, .int v1), (3, .int v1), (0, .ref (adr 42)), (1, .int p1), (2, .int p2)]) hx hb dX1_spread_10 hl (by decide) rfl (fun ls hl => ?_)
  have hL12 : ∀ (n : Nat) (x2 : Int32) (x3 : Int32) (x4 : Int32) (x5 : Int32) (K12 : Int32 → Option (Int32)) (H : Heap) (locs : List Loc) (ls : Array Slot), fX1_spread_L12 n s0 x2 x3 x4 x5 K12 = some ro → zWo 0 D cI cJ adr s s0 H locs → lv_has ls 8 [(0, .ref (adr 42)), (2, .int x2), (3, .int x3), (4, .int x4), (5, .int x5)] → (∀ (x3 : Int32) (H : Heap) (locs : List Loc) (ls : Array Slot), K12 x3 = some ro → zWo 0 D cI cJ adr s s0 H locs → lv_has ls 8 [(3, .int x3)] → W p l e { frames := 2, cells := 0, slots := 0, locals := 40 } s m args below meth c H locs 0 0 (MQ below (zQi 0 D cI cJ adr s.heap.size ro s0) args s 0 0 (zA 0 adr s.heap.size)) (F0 m 90 ls [])) → W p l e { frames := 2, cells := 0, slots := 0, locals := 40 } s m args below meth c H locs 0 0 (MQ below (zQi 0 D cI cJ adr s.heap.size ro s0) args s 0 0 (zA 0 adr s.heap.size)) (F0 m 12 ls []) := by
    intro n
    induction n with
    | zero =>
      intro x2 x3 x4 x5 K12 H locs ls hf hW hl hK12
      rw [fX1_spread_L12] at hf
      cases hf
    | succ n ih12 =>
      intro x2 x3 x4 x5 K12 H locs ls hf hW hl hK12
      rw [fX1_spread_L12] at hf
      refine lv_iload hx hb dX1_spread_12 (lv_at hl 4 rfl) ?_
      refine lv_bipush (v := 24) hx hb dX1_spread_14 (by decide) ?_
      refine zi_icmp_ge (tgt := 90) hx hb dX1_spread_16 (by decide) hf (fun hc hf => ?_) (fun hc hf => ?_)
      · skip
        exact hK12 x3 H locs ls hf hW (lv_sub hl [2] rfl)
      · skip
        refine lv_iload hx hb dX1_spread_19 (lv_at hl 3 rfl) ?_
        refine zi_if_eq (tgt := 90) hx hb dX1_spread_21 (by decide) hf (fun hc hf => ?_) (fun hc hf => ?_)
        · skip
          exact hK12 x3 H locs ls hf hW (lv_sub hl [2] rfl)
        · skip
          refine lv_iload hx hb dX1_spread_24 (lv_at hl 3 rfl) ?_
          refine zc_i hW (zrun_n (As := [.int x4]) (rest := []) hC hW (mX7_firstOf x4 s0 hC.2.2.2.2.2.2.2 rfl) cn_X1_29 rfl ⟨⟨rfl, rfl⟩, Nat.le_of_ble_eq_true rfl, Nat.le_of_ble_eq_true rfl⟩ (zlv_size hl) rfl (Nat.le_of_ble_eq_true rfl) dX1_spread_26 ⟨Nat.le_refl _, Nat.le_refl _⟩) (fun H locs hW => ?_)
          refine zn_i hf (fun v3 hf => ?_)
          refine lv_istore (lv' := [(6, .int v3), (0, .ref (adr 42)), (2, .int x2), (3, .int x3), (4, .int x4), (5, .int x5)]) hx hb dX1_spread_29 hl (by decide) rfl (fun ls hl => ?_)
          refine lv_iload hx hb dX1_spread_31 (lv_at hl 4 rfl) ?_
          refine lv_iload hx hb dX1_spread_33 (lv_at hl 0 rfl) ?_
          refine zc_i hW (zrun_n (As := [.int v3]) (rest := [.int x4]) hC hW (mX7_bit v3 s0 hC.2.2.2.2.2.2.2 rfl) cn_X1_33 rfl ⟨⟨rfl, rfl⟩, Nat.le_of_ble_eq_true rfl, Nat.le_of_ble_eq_true rfl⟩ (zlv_size hl) rfl (Nat.le_of_ble_eq_true rfl) dX1_spread_35 ⟨Nat.le_refl _, Nat.le_refl _⟩) (fun H locs hW => ?_)
          refine lv_iconst (v := (-1)) hx hb dX1_spread_38 (by decide) ?_
          refine lv_ixor hx hb dX1_spread_39 ?_
          refine lv_iand hx hb dX1_spread_40 ?_
          refine zn_i hf (fun v5 hf => ?_)
          refine lv_istore (lv' := [(4, .int v5), (6, .int v3), (0, .ref (adr 42)), (2, .int x2), (3, .int x3), (5, .int x5)]) hx hb dX1_spread_41 hl (by decide) rfl (fun ls hl => ?_)
          refine lv_iload hx hb dX1_spread_43 (lv_at hl 1 rfl) ?_
          refine zc_i hW (zrun_n (As := [.int v3]) (rest := []) hC hW (mX7_bit v3 s0 hC.2.2.2.2.2.2.2 rfl) cn_X1_33 rfl ⟨⟨rfl, rfl⟩, Nat.le_of_ble_eq_true rfl, Nat.le_of_ble_eq_true rfl⟩ (zlv_size hl) rfl (Nat.le_of_ble_eq_true rfl) dX1_spread_45 ⟨Nat.le_refl _, Nat.le_refl _⟩) (fun H locs hW => ?_)
          refine zjn_e hf (fun J7 => ∀ (v8 : Int32) (H : Heap) (locs : List Loc) (ls : Array Slot), J7 v8 = some ro → zWo 0 D cI cJ adr s s0 H locs → lv_has ls 8 [(0, .ref (adr 42)), (2, .int x2), (3, .int x3), (4, .int v5), (5, .int x5)] → W p l e { frames := 2, cells := 0, slots := 0, locals := 40 } s m args below meth c H locs 0 0 (MQ below (zQi 0 D cI cJ adr s.heap.size ro s0) args s 0 0 (zA 0 adr s.heap.size)) (F0 m 70 ls [.int v8])) ?_ (fun J7 hJ7 hf => ?_)
          · intro v8 H locs ls hf hW hl
            refine lv_istore (lv' := [(7, .int v8), (0, .ref (adr 42)), (2, .int x2), (3, .int x3), (4, .int v5), (5, .int x5)]) hx hb dX1_spread_70 hl (by decide) rfl (fun ls hl => ?_)
            refine lv_iload_n hx hb dX1_spread_72 rfl (lv_at hl 3 rfl) ?_
            refine lv_iload hx hb dX1_spread_73 (lv_at hl 0 rfl) ?_
            refine lv_ior hx hb dX1_spread_75 ?_
            refine zn_i hf (fun v9 hf => ?_)
            refine lv_istore_n (lv' := [(3, .int v9), (7, .int v8), (0, .ref (adr 42)), (2, .int x2), (4, .int v5), (5, .int x5)]) hx hb dX1_spread_76 rfl hl (by decide) rfl (fun ls hl => ?_)
            refine lv_iload hx hb dX1_spread_77 (lv_at hl 4 rfl) ?_
            refine lv_iload hx hb dX1_spread_79 (lv_at hl 1 rfl) ?_
            refine lv_ior hx hb dX1_spread_81 ?_
            refine zn_i hf (fun v10 hf => ?_)
            refine lv_istore (lv' := [(4, .int v10), (3, .int v9), (7, .int v8), (0, .ref (adr 42)), (2, .int x2), (5, .int x5)]) hx hb dX1_spread_82 hl (by decide) rfl (fun ls hl => ?_)
            refine zi_inc (v := (x5 + 1)) (lv' := fun v11 => [(5, .int v11), (4, .int v10), (3, .int v9), (7, .int v8), (0, .ref (adr 42)), (2, .int x2)]) hx hb dX1_spread_84 hl (k := 5) rfl rfl (by decide) (fun _ => rfl) hf (fun v11 ls hf hl => ?_)
            refine lv_goto (tgt := 12) hx hb dX1_spread_87 (by decide) ?_
            exact ih12 x2 v9 v10 v11 _ H locs ls hf hW (lv_sub hl [4, 5, 2, 1, 0] rfl) hK12
          refine zi_if_ne (tgt := 55) hx hb dX1_spread_48 (by decide) hf (fun hc hf => ?_) (fun hc hf => ?_)
          · skip
            refine lv_iconst (v := 0) hx hb dX1_spread_51 (by decide) ?_
            refine lv_goto (tgt := 70) hx hb dX1_spread_52 (by decide) ?_
            exact hJ7 0 H locs ls hf hW (lv_sub hl [2, 3, 4, 0, 5] rfl)
          · skip
            refine lv_aload_n hx hb dX1_spread_55 rfl (lv_at hl 2 rfl) ?_
            refine zg_a (o := 0) hC hW fl_X1_9 zck_0_42 zcs_0_42 (show _ = 43 from rfl) dX1_spread_56 ?_
            refine lv_iload hx hb dX1_spread_59 (lv_at hl 1 rfl) ?_
            refine za_l hC hW hf zar_0_43 dX1_spread_61 (fun v12 hf => ?_)
            refine lv_iload_n hx hb dX1_spread_62 rfl (lv_at hl 4 rfl) ?_
            refine lv_iconst (v := (-1)) hx hb dX1_spread_63 (by decide) ?_
            refine lv_ixor hx hb dX1_spread_64 ?_
            refine lv_iand hx hb dX1_spread_65 ?_
            refine lv_iload_n hx hb dX1_spread_66 rfl (lv_at hl 3 rfl) ?_
            refine lv_iconst (v := (-1)) hx hb dX1_spread_67 (by decide) ?_
            refine lv_ixor hx hb dX1_spread_68 ?_
            refine lv_iand hx hb dX1_spread_69 ?_
            exact hJ7 ((v12 &&& (x3 ^^^ (-1))) &&& (x2 ^^^ (-1))) H locs ls hf hW (lv_sub hl [2, 3, 4, 0, 5] rfl)
  refine hL12 zFU p2 v1 v1 0 _ H locs ls hf hW (lv_sub hl [3, 5, 2, 1, 0] rfl) (fun x13 H locs ls hf hW hl => ?_)
  refine lv_iload_n hx hb dX1_spread_90 rfl (lv_at hl 0 rfl) ?_
  exact zr_i hx hb hr hlk hW (Option.some.inj hf) rfl dX1_spread_91
set_option maxHeartbeats 4000000 in
set_option maxRecDepth 100000 in
theorem mX1_reached {l : Launch} {D : va_G} {cI cJ : ClassId} {adr : Nat → Nat} (s0 : zkS) {z : Nat} {ro : Int32} (hI : zInj 0 adr) (hf : fX1_reached s0 = some ro) : Met l yX1_reached (Cond.code yX1_reached cX1_reached 1 (some .int) :: zTb) { frames := 3, cells := 0, slots := 0, locals := 67 } (zPre 0 D cI cJ adr s0 z [.ref (adr 42)]) (zQi 0 D cI cJ adr z ro s0) 0 0 (zA 0 adr z) := by
  refine zen (cc := cX1_reached) (own := RX1) (by decide +kernel) rfl hI (Nat.le_of_ble_eq_true rfl) (fun p e s m args below meth c ls hC hr hlk hz hl hW => ?_)
  subst hz
  obtain ⟨hx, hb, -⟩ := id hC
  have hl : lv_has ls 1 [(0, .ref (adr 42))] := hl
  refine zst hW (fun H locs hW => ?_)
  unfold fX1_reached at hf
  refine lv_aload_n hx hb dX1_reached_0 rfl (lv_at hl 0 rfl) ?_
  refine lv_aload_n hx hb dX1_reached_1 rfl (lv_at hl 0 rfl) ?_
  refine zg_i hC hW fl_X1_15 zck_0_42 zcs_0_42 dX1_reached_2 ?_
  refine lv_iconst (v := 0) hx hb dX1_reached_5 (by decide) ?_
  obtain ⟨v1, hq, hf⟩ := zb1_o hf
  refine zc_i hW (zrun_v (As := [.int (s0.1 42 1), .int 0]) (rest := []) hC hW (mX1_spread (s0.1 42 1) 0 s0 hC.2.2.2.2.2.2.2 hq) cv_X1_36 zck_0_42 zcs_0_42 rfl ⟨⟨rfl, rfl⟩, Nat.le_of_ble_eq_true rfl, Nat.le_of_ble_eq_true rfl⟩ (zlv_size hl) rfl (Nat.le_of_ble_eq_true rfl) dX1_reached_6 ⟨Nat.le_refl _, Nat.le_refl _⟩) (fun H locs hW => ?_)
  exact zr_i hx hb hr hlk hW (Option.some.inj hf) rfl dX1_reached_9
set_option maxHeartbeats 4000000 in
set_option maxRecDepth 100000 in
theorem mX1_keptBy {l : Launch} {D : va_G} {cI cJ : ClassId} {adr : Nat → Nat} (p1 : Int32) (s0 : zkS) {z : Nat} {ro : Int32} (hI : zInj 0 adr) (hf : fX1_keptBy p1 s0 = some ro) : Met l yX1_keptBy (Cond.code yX1_keptBy cX1_keptBy 3 (some .int) :: zTb) { frames := 4, cells := 0, slots := 0, locals := 87 } (zPre 0 D cI cJ adr s0 z [.ref (adr 42), .int p1]) (zQi 0 D cI cJ adr z ro s0) 0 0 (zA 0 adr z) := by
  refine zen (cc := cX1_keptBy) (own := RX1) (by decide +kernel) rfl hI (Nat.le_of_ble_eq_true rfl) (fun p e s m args below meth c ls hC hr hlk hz hl hW => ?_)
  subst hz
  obtain ⟨hx, hb, -⟩ := id hC
  have hl : lv_has ls 3 [(0, .ref (adr 42)), (1, .int p1)] := hl
  refine zst hW (fun H locs hW => ?_)
  unfold fX1_keptBy at hf
  refine lv_aload_n hx hb dX1_keptBy_0 rfl (lv_at hl 0 rfl) ?_
  obtain ⟨v1, hq, hf⟩ := zb1_o hf
  refine zc_i hW (zrun_v (As := []) (rest := []) hC hW (mX1_reached s0 hC.2.2.2.2.2.2.2 hq) cv_X1_39 zck_0_42 zcs_0_42 rfl ⟨⟨rfl, rfl⟩, Nat.le_of_ble_eq_true rfl, Nat.le_of_ble_eq_true rfl⟩ (zlv_size hl) rfl (Nat.le_of_ble_eq_true rfl) dX1_keptBy_1 ⟨Nat.le_refl _, Nat.le_refl _⟩) (fun H locs hW => ?_)
  refine lv_istore_n (lv' := [(2, .int v1), (0, .ref (adr 42)), (1, .int p1)]) hx hb dX1_keptBy_4 rfl hl (by decide) rfl (fun ls hl => ?_)
  refine lv_iload_n hx hb dX1_keptBy_5 rfl (lv_at hl 0 rfl) ?_
  refine lv_iload_n hx hb dX1_keptBy_6 rfl (lv_at hl 2 rfl) ?_
  refine zc_i hW (zrun_n (As := [.int v1, .int p1]) (rest := []) hC hW (mX7_has v1 p1 s0 hC.2.2.2.2.2.2.2 rfl) cn_X1_42 rfl ⟨⟨rfl, rfl⟩, Nat.le_of_ble_eq_true rfl, Nat.le_of_ble_eq_true rfl⟩ (zlv_size hl) rfl (Nat.le_of_ble_eq_true rfl) dX1_keptBy_7 ⟨Nat.le_refl _, Nat.le_refl _⟩) (fun H locs hW => ?_)
  refine zi_if_eq (tgt := 32) hx hb dX1_keptBy_10 (by decide) hf (fun hc hf => ?_) (fun hc hf => ?_)
  · skip
    refine lv_iconst (v := 0) hx hb dX1_keptBy_32 (by decide) ?_
    exact zr_i hx hb hr hlk hW (Option.some.inj hf) rfl dX1_keptBy_33
  · skip
    refine lv_iload_n hx hb dX1_keptBy_13 rfl (lv_at hl 0 rfl) ?_
    refine lv_aload_n hx hb dX1_keptBy_14 rfl (lv_at hl 1 rfl) ?_
    refine lv_aload_n hx hb dX1_keptBy_15 rfl (lv_at hl 1 rfl) ?_
    refine zg_i hC hW fl_X1_15 zck_0_42 zcs_0_42 dX1_keptBy_16 ?_
    refine lv_iload_n hx hb dX1_keptBy_19 rfl (lv_at hl 2 rfl) ?_
    refine zc_i hW (zrun_n (As := [.int p1]) (rest := [.int (s0.1 42 1), .ref (adr 42), .int v1]) hC hW (mX7_bit p1 s0 hC.2.2.2.2.2.2.2 rfl) cn_X1_33 rfl ⟨⟨rfl, rfl⟩, Nat.le_of_ble_eq_true rfl, Nat.le_of_ble_eq_true rfl⟩ (zlv_size hl) rfl (Nat.le_of_ble_eq_true rfl) dX1_keptBy_20 ⟨Nat.le_refl _, Nat.le_refl _⟩) (fun H locs hW => ?_)
    obtain ⟨v4, hq, hf⟩ := zb1_o hf
    refine zc_i hW (zrun_v (As := [.int (s0.1 42 1), .int (fX7_bit p1)]) (rest := [.int v1]) hC hW (mX1_spread (s0.1 42 1) (fX7_bit p1) s0 hC.2.2.2.2.2.2.2 hq) cv_X1_36 zck_0_42 zcs_0_42 rfl ⟨⟨rfl, rfl⟩, Nat.le_of_ble_eq_true rfl, Nat.le_of_ble_eq_true rfl⟩ (zlv_size hl) rfl (Nat.le_of_ble_eq_true rfl) dX1_keptBy_23 ⟨Nat.le_refl _, Nat.le_refl _⟩) (fun H locs hW => ?_)
    refine lv_iconst (v := (-1)) hx hb dX1_keptBy_26 (by decide) ?_
    refine lv_ixor hx hb dX1_keptBy_27 ?_
    refine lv_iand hx hb dX1_keptBy_28 ?_
    refine lv_goto (tgt := 33) hx hb dX1_keptBy_29 (by decide) ?_
    exact zr_i hx hb hr hlk hW (Option.some.inj hf) rfl dX1_keptBy_33
set_option maxHeartbeats 4000000 in
set_option maxRecDepth 100000 in
theorem mX1_reachedWithout {l : Launch} {D : va_G} {cI cJ : ClassId} {adr : Nat → Nat} {o1 : Nat} (k1 : zG o1) (p2 : Int32) (p3 : Int32) (s0 : zkS) {z : Nat} {ro : Int32} {so : zkS} (hI : zInj 0 adr) (hf : fX1_reachedWithout o1 p2 p3 s0 = some (ro, so)) : Met l yX1_reachedWithout (Cond.code yX1_reachedWithout cX1_reachedWithout 6 (some .int) :: zTb) { frames := 3, cells := 0, slots := 0, locals := 69 } (zPre 0 D cI cJ adr s0 z [.ref (adr 42), .ref (adr o1), .int p2, .int p3]) (zQi 0 D cI cJ adr z ro so) 0 0 (zA 0 adr z) := by
  refine zen (cc := cX1_reachedWithout) (own := RX1) (by decide +kernel) rfl hI (Nat.le_of_ble_eq_true rfl) (fun p e s m args below meth c ls hC hr hlk hz hl hW => ?_)
  subst hz
  obtain ⟨hx, hb, -⟩ := id hC
  have hl : lv_has ls 6 [(0, .ref (adr 42)), (1, .ref (adr o1)), (2, .int p2), (3, .int p3)] := hl
  refine zst hW (fun H locs hW => ?_)
  unfold fX1_reachedWithout at hf
  refine lv_iload_n hx hb dX1_reachedWithout_0 rfl (lv_at hl 2 rfl) ?_
  refine zc_i hW (zrun_n (As := [.int p2]) (rest := []) hC hW (mX7_bit p2 s0 hC.2.2.2.2.2.2.2 rfl) cn_X1_33 rfl ⟨⟨rfl, rfl⟩, Nat.le_of_ble_eq_true rfl, Nat.le_of_ble_eq_true rfl⟩ (zlv_size hl) rfl (Nat.le_of_ble_eq_true rfl) dX1_reachedWithout_1 ⟨Nat.le_refl _, Nat.le_refl _⟩) (fun H locs hW => ?_)
  refine zi_if_ne (tgt := 17) hx hb dX1_reachedWithout_4 (by decide) hf (fun hc hf => ?_) (fun hc hf => ?_)
  · skip
    refine lv_aload_n hx hb dX1_reachedWithout_7 rfl (lv_at hl 0 rfl) ?_
    refine lv_aload_n hx hb dX1_reachedWithout_8 rfl (lv_at hl 0 rfl) ?_
    refine zg_i hC hW fl_X1_15 zck_0_42 zcs_0_42 dX1_reachedWithout_9 ?_
    refine lv_iconst (v := 0) hx hb dX1_reachedWithout_12 (by decide) ?_
    obtain ⟨v2, hq, hf⟩ := zb1_o hf
    refine zc_i hW (zrun_v (As := [.int (s0.1 42 1), .int 0]) (rest := []) hC hW (mX1_spread (s0.1 42 1) 0 s0 hC.2.2.2.2.2.2.2 hq) cv_X1_36 zck_0_42 zcs_0_42 rfl ⟨⟨rfl, rfl⟩, Nat.le_of_ble_eq_true rfl, Nat.le_of_ble_eq_true rfl⟩ (zlv_size hl) rfl (Nat.le_of_ble_eq_true rfl) dX1_reachedWithout_13 ⟨Nat.le_refl _, Nat.le_refl _⟩) (fun H locs hW => ?_)
    exact zr_i hx hb hr hlk hW (zo1 hf) (zo2 hf) dX1_reachedWithout_16
  · skip
    refine lv_aload_n hx hb dX1_reachedWithout_17 rfl (lv_at hl 0 rfl) ?_
    refine zg_a (o := 0) hC hW fl_X1_9 zck_0_42 zcs_0_42 (show _ = 43 from rfl) dX1_reachedWithout_18 ?_
    refine lv_iload_n hx hb dX1_reachedWithout_21 rfl (lv_at hl 2 rfl) ?_
    refine za_l hC hW hf zar_0_43 dX1_reachedWithout_22 (fun v3 hf => ?_)
    refine lv_istore (lv' := [(4, .int v3), (0, .ref (adr 42)), (1, .ref (adr o1)), (2, .int p2), (3, .int p3)]) hx hb dX1_reachedWithout_23 hl (by decide) rfl (fun ls hl => ?_)
    refine lv_aload_n hx hb dX1_reachedWithout_25 rfl (lv_at hl 1 rfl) ?_
    refine zg_a (o := 0) hC hW fl_X1_9 zck_0_42 zcs_0_42 (show _ = 43 from rfl) dX1_reachedWithout_26 ?_
    refine lv_iload_n hx hb dX1_reachedWithout_29 rfl (lv_at hl 3 rfl) ?_
    refine lv_aload_n hx hb dX1_reachedWithout_30 rfl (lv_at hl 2 rfl) ?_
    refine lv_iload_n hx hb dX1_reachedWithout_31 rfl (lv_at hl 3 rfl) ?_
    refine lv_iload_n hx hb dX1_reachedWithout_32 rfl (lv_at hl 4 rfl) ?_
    obtain ⟨v4, hq, hf⟩ := zb1_o hf
    refine zc_i hW (zrun_v (As := [.int p2, .int p3]) (rest := [.int p2, .ref (adr 43)]) hC hW (mX0_linksOf k1 p2 p3 s0 hC.2.2.2.2.2.2.2 hq) cv_X1_25 (zG_k k1) (zG_s k1) rfl ⟨⟨rfl, rfl⟩, Nat.le_of_ble_eq_true rfl, Nat.le_of_ble_eq_true rfl⟩ (zlv_size hl) rfl (Nat.le_of_ble_eq_true rfl) dX1_reachedWithout_33 ⟨Nat.le_refl _, Nat.le_refl _⟩) (fun H locs hW => ?_)
    refine za_s hC hW hf zar_0_43 dX1_reachedWithout_36 (fun s5 H locs hf hW => ?_)
    refine lv_aload_n hx hb dX1_reachedWithout_37 rfl (lv_at hl 1 rfl) ?_
    refine lv_aload_n hx hb dX1_reachedWithout_38 rfl (lv_at hl 1 rfl) ?_
    refine zg_i hC hW fl_X1_15 zck_0_42 zcs_0_42 dX1_reachedWithout_39 ?_
    refine lv_iconst (v := 0) hx hb dX1_reachedWithout_42 (by decide) ?_
    obtain ⟨v6, hq, hf⟩ := zb1_o hf
    refine zc_i hW (zrun_v (As := [.int (s5.1 42 1), .int 0]) (rest := []) hC hW (mX1_spread (s5.1 42 1) 0 s5 hC.2.2.2.2.2.2.2 hq) cv_X1_36 zck_0_42 zcs_0_42 rfl ⟨⟨rfl, rfl⟩, Nat.le_of_ble_eq_true rfl, Nat.le_of_ble_eq_true rfl⟩ (zlv_size hl) rfl (Nat.le_of_ble_eq_true rfl) dX1_reachedWithout_43 ⟨Nat.le_refl _, Nat.le_refl _⟩) (fun H locs hW => ?_)
    refine lv_istore (lv' := [(5, .int v6), (4, .int v3), (0, .ref (adr 42)), (1, .ref (adr o1)), (2, .int p2), (3, .int p3)]) hx hb dX1_reachedWithout_46 hl (by decide) rfl (fun ls hl => ?_)
    refine lv_aload_n hx hb dX1_reachedWithout_48 rfl (lv_at hl 2 rfl) ?_
    refine zg_a (o := 0) hC hW fl_X1_9 zck_0_42 zcs_0_42 (show _ = 43 from rfl) dX1_reachedWithout_49 ?_
    refine lv_iload_n hx hb dX1_reachedWithout_52 rfl (lv_at hl 4 rfl) ?_
    refine lv_iload hx hb dX1_reachedWithout_53 (lv_at hl 1 rfl) ?_
    refine za_s hC hW hf zar_0_43 dX1_reachedWithout_55 (fun s7 H locs hf hW => ?_)
    refine lv_iload hx hb dX1_reachedWithout_56 (lv_at hl 0 rfl) ?_
    exact zr_i hx hb hr hlk hW (zo1 hf) (zo2 hf) dX1_reachedWithout_58
set_option maxHeartbeats 4000000 in
set_option maxRecDepth 100000 in
theorem mX1_cutOf {l : Launch} {D : va_G} {cI cJ : ClassId} {adr : Nat → Nat} {o1 : Nat} (k1 : zG o1) (p2 : Int32) (s0 : zkS) {z : Nat} {ro : Int32} {so : zkS} (hI : zInj 0 adr) (hf : fX1_cutOf o1 p2 s0 = some (ro, so)) : Met l yX1_cutOf (Cond.code yX1_cutOf cX1_cutOf 6 (some .int) :: zTb) { frames := 4, cells := 0, slots := 0, locals := 94 } (zPre 0 D cI cJ adr s0 z [.ref (adr 42), .ref (adr o1), .int p2]) (zQi 0 D cI cJ adr z ro so) 0 0 (zA 0 adr z) := by
  refine zen (cc := cX1_cutOf) (own := RX1) (by decide +kernel) rfl hI (Nat.le_of_ble_eq_true rfl) (fun p e s m args below meth c ls hC hr hlk hz hl hW => ?_)
  subst hz
  obtain ⟨hx, hb, -⟩ := id hC
  have hl : lv_has ls 6 [(0, .ref (adr 42)), (1, .ref (adr o1)), (2, .int p2)] := hl
  refine zst hW (fun H locs hW => ?_)
  unfold fX1_cutOf at hf
  refine lv_aload_n hx hb dX1_cutOf_0 rfl (lv_at hl 0 rfl) ?_
  obtain ⟨v1, hq, hf⟩ := zb1_o hf
  refine zc_i hW (zrun_v (As := []) (rest := []) hC hW (mX1_reached s0 hC.2.2.2.2.2.2.2 hq) cv_X1_39 zck_0_42 zcs_0_42 rfl ⟨⟨rfl, rfl⟩, Nat.le_of_ble_eq_true rfl, Nat.le_of_ble_eq_true rfl⟩ (zlv_size hl) rfl (Nat.le_of_ble_eq_true rfl) dX1_cutOf_1 ⟨Nat.le_refl _, Nat.le_refl _⟩) (fun H locs hW => ?_)
  refine lv_istore_n (lv' := [(3, .int v1), (0, .ref (adr 42)), (1, .ref (adr o1)), (2, .int p2)]) hx hb dX1_cutOf_4 rfl hl (by decide) rfl (fun ls hl => ?_)
  refine lv_iload_n hx hb dX1_cutOf_5 rfl (lv_at hl 0 rfl) ?_
  refine lv_iload_n hx hb dX1_cutOf_6 rfl (lv_at hl 3 rfl) ?_
  refine zc_i hW (zrun_n (As := [.int v1, .int p2]) (rest := []) hC hW (mX7_has v1 p2 s0 hC.2.2.2.2.2.2.2 rfl) cn_X1_42 rfl ⟨⟨rfl, rfl⟩, Nat.le_of_ble_eq_true rfl, Nat.le_of_ble_eq_true rfl⟩ (zlv_size hl) rfl (Nat.le_of_ble_eq_true rfl) dX1_cutOf_7 ⟨Nat.le_refl _, Nat.le_refl _⟩) (fun H locs hW => ?_)
  refine zi_if_ne (tgt := 16) hx hb dX1_cutOf_10 (by decide) hf (fun hc hf => ?_) (fun hc hf => ?_)
  · skip
    refine lv_bipush (v := (-5)) hx hb dX1_cutOf_13 (by decide) ?_
    exact zr_i hx hb hr hlk hW (zo1 hf) (zo2 hf) dX1_cutOf_15
  · skip
    refine lv_iconst (v := 0) hx hb dX1_cutOf_16 (by decide) ?_
    refine lv_istore (lv' := [(4, .int 0), (3, .int v1), (0, .ref (adr 42)), (1, .ref (adr o1)), (2, .int p2)]) hx hb dX1_cutOf_17 hl (by decide) rfl (fun ls hl => ?_)
    have hL19 : ∀ (n : Nat) (x2 : Int32) (x3 : Int32) (x4 : Int32) (s3 : zkS) (K19 : zkS → Option (Int32 × zkS)) (H : Heap) (locs : List Loc) (ls : Array Slot), fX1_cutOf_L19 n o1 x2 x3 x4 s3 K19 = some (ro, so) → zWo 0 D cI cJ adr s s3 H locs → lv_has ls 6 [(0, .ref (adr 42)), (1, .ref (adr o1)), (2, .int x2), (3, .int x3), (4, .int x4)] → (∀ (s3 : zkS) (H : Heap) (locs : List Loc) (ls : Array Slot), K19 s3 = some (ro, so) → zWo 0 D cI cJ adr s s3 H locs → lv_has ls 6 [] → W p l e { frames := 4, cells := 0, slots := 0, locals := 94 } s m args below meth c H locs 0 0 (MQ below (zQi 0 D cI cJ adr s.heap.size ro so) args s 0 0 (zA 0 adr s.heap.size)) (F0 m 86 ls [])) → W p l e { frames := 4, cells := 0, slots := 0, locals := 94 } s m args below meth c H locs 0 0 (MQ below (zQi 0 D cI cJ adr s.heap.size ro so) args s 0 0 (zA 0 adr s.heap.size)) (F0 m 19 ls []) := by
      intro n
      induction n with
      | zero =>
        intro x2 x3 x4 s3 K19 H locs ls hf hW hl hK19
        rw [fX1_cutOf_L19] at hf
        cases hf
      | succ n ih19 =>
        intro x2 x3 x4 s3 K19 H locs ls hf hW hl hK19
        rw [fX1_cutOf_L19] at hf
        refine lv_iload hx hb dX1_cutOf_19 (lv_at hl 4 rfl) ?_
        refine lv_bipush (v := 24) hx hb dX1_cutOf_21 (by decide) ?_
        refine zi_icmp_ge (tgt := 86) hx hb dX1_cutOf_23 (by decide) hf (fun hc hf => ?_) (fun hc hf => ?_)
        · skip
          exact hK19 s3 H locs ls hf hW (lv_sub hl [] rfl)
        · skip
          refine lv_iconst (v := 0) hx hb dX1_cutOf_26 (by decide) ?_
          refine lv_istore (lv' := [(5, .int 0), (0, .ref (adr 42)), (1, .ref (adr o1)), (2, .int x2), (3, .int x3), (4, .int x4)]) hx hb dX1_cutOf_27 hl (by decide) rfl (fun ls hl => ?_)
          have hL29 : ∀ (n : Nat) (x2 : Int32) (x3 : Int32) (x4 : Int32) (x5 : Int32) (s4 : zkS) (K29 : zkS → Option (Int32 × zkS)) (H : Heap) (locs : List Loc) (ls : Array Slot), fX1_cutOf_L29 n o1 x2 x3 x4 x5 s4 K29 = some (ro, so) → zWo 0 D cI cJ adr s s4 H locs → lv_has ls 6 [(0, .ref (adr 42)), (1, .ref (adr o1)), (2, .int x2), (3, .int x3), (4, .int x4), (5, .int x5)] → (∀ (s4 : zkS) (H : Heap) (locs : List Loc) (ls : Array Slot), K29 s4 = some (ro, so) → zWo 0 D cI cJ adr s s4 H locs → lv_has ls 6 [(0, .ref (adr 42)), (1, .ref (adr o1)), (2, .int x2), (3, .int x3), (4, .int x4)] → W p l e { frames := 4, cells := 0, slots := 0, locals := 94 } s m args below meth c H locs 0 0 (MQ below (zQi 0 D cI cJ adr s.heap.size ro so) args s 0 0 (zA 0 adr s.heap.size)) (F0 m 80 ls [])) → W p l e { frames := 4, cells := 0, slots := 0, locals := 94 } s m args below meth c H locs 0 0 (MQ below (zQi 0 D cI cJ adr s.heap.size ro so) args s 0 0 (zA 0 adr s.heap.size)) (F0 m 29 ls []) := by
            intro n
            induction n with
            | zero =>
              intro x2 x3 x4 x5 s4 K29 H locs ls hf hW hl hK29
              rw [fX1_cutOf_L29] at hf
              cases hf
            | succ n ih29 =>
              intro x2 x3 x4 x5 s4 K29 H locs ls hf hW hl hK29
              rw [fX1_cutOf_L29] at hf
              refine lv_iload hx hb dX1_cutOf_29 (lv_at hl 5 rfl) ?_
              refine lv_aload_n hx hb dX1_cutOf_31 rfl (lv_at hl 1 rfl) ?_
              refine lv_iload hx hb dX1_cutOf_32 (lv_at hl 4 rfl) ?_
              obtain ⟨v5, hq, hf⟩ := zb1_o hf
              refine zc_i hW (zrun_v (As := [.int x4]) (rest := [.int x5]) hC hW (mX0_sizeOf k1 x4 s4 hC.2.2.2.2.2.2.2 hq) cv_X1_46 (zG_k k1) (zG_s k1) rfl ⟨⟨rfl, rfl⟩, Nat.le_of_ble_eq_true rfl, Nat.le_of_ble_eq_true rfl⟩ (zlv_size hl) rfl (Nat.le_of_ble_eq_true rfl) dX1_cutOf_34 ⟨Nat.le_refl _, Nat.le_refl _⟩) (fun H locs hW => ?_)
              refine zi_icmp_ge (tgt := 80) hx hb dX1_cutOf_37 (by decide) hf (fun hc hf => ?_) (fun hc hf => ?_)
              · skip
                exact hK29 s4 H locs ls hf hW (lv_sub hl [0, 1, 2, 3, 4] rfl)
              · skip
                refine lv_iload_n hx hb dX1_cutOf_40 rfl (lv_at hl 3 rfl) ?_
                refine lv_iload hx hb dX1_cutOf_41 (lv_at hl 4 rfl) ?_
                refine zc_i hW (zrun_n (As := [.int x3, .int x4]) (rest := []) hC hW (mX7_has x3 x4 s4 hC.2.2.2.2.2.2.2 rfl) cn_X1_42 rfl ⟨⟨rfl, rfl⟩, Nat.le_of_ble_eq_true rfl, Nat.le_of_ble_eq_true rfl⟩ (zlv_size hl) rfl (Nat.le_of_ble_eq_true rfl) dX1_cutOf_43 ⟨Nat.le_refl _, Nat.le_refl _⟩) (fun H locs hW => ?_)
                refine zi_if_eq (tgt := 74) hx hb dX1_cutOf_46 (by decide) hf (fun hc hf => ?_) (fun hc hf => ?_)
                · skip
                  refine zi_inc (v := (x5 + 1)) (lv' := fun v7 => [(5, .int v7), (0, .ref (adr 42)), (1, .ref (adr o1)), (2, .int x2), (3, .int x3), (4, .int x4)]) hx hb dX1_cutOf_74 hl (k := 5) rfl rfl (by decide) (fun _ => rfl) hf (fun v7 ls hf hl => ?_)
                  refine lv_goto (tgt := 29) hx hb dX1_cutOf_77 (by decide) ?_
                  exact ih29 x2 x3 x4 v7 s4 _ H locs ls hf hW (lv_sub hl [1, 2, 3, 4, 5, 0] rfl) hK29
                · skip
                  refine lv_aload_n hx hb dX1_cutOf_49 rfl (lv_at hl 0 rfl) ?_
                  refine lv_aload_n hx hb dX1_cutOf_50 rfl (lv_at hl 1 rfl) ?_
                  refine lv_iload hx hb dX1_cutOf_51 (lv_at hl 4 rfl) ?_
                  refine lv_iload hx hb dX1_cutOf_53 (lv_at hl 5 rfl) ?_
                  obtain ⟨v8, s9, hq, hf⟩ := zb2_o hf
                  refine zc_i hW (zrun_v (As := [.ref (adr o1), .int x4, .int x5]) (rest := []) hC hW (mX1_reachedWithout k1 x4 x5 s4 hC.2.2.2.2.2.2.2 hq) cv_X1_49 zck_0_42 zcs_0_42 rfl ⟨⟨rfl, rfl⟩, Nat.le_of_ble_eq_true rfl, Nat.le_of_ble_eq_true rfl⟩ (zlv_size hl) rfl (Nat.le_of_ble_eq_true rfl) dX1_cutOf_55 ⟨Nat.le_refl _, Nat.le_refl _⟩) (fun H locs hW => ?_)
                  refine lv_iload_n hx hb dX1_cutOf_58 rfl (lv_at hl 2 rfl) ?_
                  refine zc_i hW (zrun_n (As := [.int v8, .int x2]) (rest := []) hC hW (mX7_has v8 x2 s9 hC.2.2.2.2.2.2.2 rfl) cn_X1_42 rfl ⟨⟨rfl, rfl⟩, Nat.le_of_ble_eq_true rfl, Nat.le_of_ble_eq_true rfl⟩ (zlv_size hl) rfl (Nat.le_of_ble_eq_true rfl) dX1_cutOf_59 ⟨Nat.le_refl _, Nat.le_refl _⟩) (fun H locs hW => ?_)
                  refine zi_if_ne (tgt := 74) hx hb dX1_cutOf_62 (by decide) hf (fun hc hf => ?_) (fun hc hf => ?_)
                  · skip
                    refine lv_bipush (v := 10) hx hb dX1_cutOf_65 (by decide) ?_
                    refine lv_iload hx hb dX1_cutOf_67 (lv_at hl 4 rfl) ?_
                    refine lv_imul hx hb dX1_cutOf_69 ?_
                    refine lv_iload hx hb dX1_cutOf_70 (lv_at hl 5 rfl) ?_
                    refine lv_iadd hx hb dX1_cutOf_72 ?_
                    exact zr_i hx hb hr hlk hW (zo1 hf) (zo2 hf) dX1_cutOf_73
                  · skip
                    refine zi_inc (v := (x5 + 1)) (lv' := fun v11 => [(5, .int v11), (0, .ref (adr 42)), (1, .ref (adr o1)), (2, .int x2), (3, .int x3), (4, .int x4)]) hx hb dX1_cutOf_74 hl (k := 5) rfl rfl (by decide) (fun _ => rfl) hf (fun v11 ls hf hl => ?_)
                    refine lv_goto (tgt := 29) hx hb dX1_cutOf_77 (by decide) ?_
                    exact ih29 x2 x3 x4 v11 s9 _ H locs ls hf hW (lv_sub hl [1, 2, 3, 4, 5, 0] rfl) hK29
          refine hL29 zFU x2 x3 x4 0 s3 _ H locs ls hf hW (lv_sub hl [1, 2, 3, 4, 5, 0] rfl) (fun s12 H locs ls hf hW hl => ?_)
          refine zi_inc (v := (x4 + 1)) (lv' := fun v13 => [(4, .int v13), (0, .ref (adr 42)), (1, .ref (adr o1)), (2, .int x2), (3, .int x3)]) hx hb dX1_cutOf_80 hl (k := 4) rfl rfl (by decide) (fun _ => rfl) hf (fun v13 ls hf hl => ?_)
          refine lv_goto (tgt := 19) hx hb dX1_cutOf_83 (by decide) ?_
          exact ih19 x2 x3 v13 s12 _ H locs ls hf hW (lv_sub hl [1, 2, 3, 4, 0] rfl) hK19
    refine hL19 zFU p2 v1 0 s0 _ H locs ls hf hW (lv_sub hl [2, 3, 4, 1, 0] rfl) (fun s14 H locs ls hf hW hl => ?_)
    refine lv_bipush (v := (-5)) hx hb dX1_cutOf_86 (by decide) ?_
    exact zr_i hx hb hr hlk hW (zo1 hf) (zo2 hf) dX1_cutOf_88
set_option maxHeartbeats 4000000 in
set_option maxRecDepth 100000 in
theorem mX7_wayTo {l : Launch} {D : va_G} {cI cJ : ClassId} {adr : Nat → Nat} (p1 : Int32) (p2 : Int32) (s0 : zkS) {z : Nat} {ro : Int32} {so : zkS} (hI : zInj 0 adr) (hf : fX7_wayTo p1 p2 s0 = some (ro, so)) : Met l yX7_wayTo (Cond.code yX7_wayTo cX7_wayTo 3 (some .int) :: zTb) { frames := 5, cells := 0, slots := 0, locals := 119 } (zPre 0 D cI cJ adr s0 z [.ref (adr 0), .int p1, .int p2]) (zQi 0 D cI cJ adr z ro so) 0 0 (zA 0 adr z) := by
  refine zen (cc := cX7_wayTo) (own := RX7) (by decide +kernel) rfl hI (Nat.le_of_ble_eq_true rfl) (fun p e s m args below meth c ls hC hr hlk hz hl hW => ?_)
  subst hz
  obtain ⟨hx, hb, -⟩ := id hC
  have hl : lv_has ls 3 [(0, .ref (adr 0)), (1, .int p1), (2, .int p2)] := hl
  refine zst hW (fun H locs hW => ?_)
  unfold fX7_wayTo at hf
  refine lv_aload_n hx hb dX7_wayTo_0 rfl (lv_at hl 0 rfl) ?_
  refine zg_a (o := 41) hC hW fl_X7_42 zck_0_0 zcs_0_0 (show _ = 42 from rfl) dX7_wayTo_1 ?_
  refine lv_aload_n hx hb dX7_wayTo_4 rfl (lv_at hl 0 rfl) ?_
  refine zg_a (o := 0) hC hW fl_X7_12 zck_0_0 zcs_0_0 (show _ = 1 from rfl) dX7_wayTo_5 ?_
  refine zg_a (o := 0) hC hW fl_X7_74 (zE_k zEc_1) (zE_s zEc_1) (show _ = 2 from rfl) dX7_wayTo_8 ?_
  obtain ⟨s1, hq, hf⟩ := zb1_o hf
  refine zc_v hW (zrun_v (As := [.ref (adr 2)]) (rest := []) hC hW (mX1_readFrom zGc_2 s0 hC.2.2.2.2.2.2.2 hq) cv_X7_219 zck_0_42 zcs_0_42 rfl ⟨⟨rfl, rfl⟩, Nat.le_of_ble_eq_true rfl, Nat.le_of_ble_eq_true rfl⟩ (zlv_size hl) rfl (Nat.le_of_ble_eq_true rfl) dX7_wayTo_11 ⟨Nat.le_refl _, Nat.le_refl _⟩) (fun H locs hW => ?_)
  refine lv_iload_n hx hb dX7_wayTo_14 rfl (lv_at hl 2 rfl) ?_
  refine zi_c hf (fun h0 hf => ?_) (fun h0 hf => ?_)
  · skip
    refine zs_in (off := 29) (tgt := 44) hx hb h0 dX7_wayTo_15 (by decide) (by decide) (by decide +kernel) (by decide) ?_
    refine lv_aload_n hx hb dX7_wayTo_44 rfl (lv_at hl 0 rfl) ?_
    refine zg_a (o := 41) hC hW fl_X7_42 zck_0_0 zcs_0_0 (show _ = 42 from rfl) dX7_wayTo_45 ?_
    refine lv_iload_n hx hb dX7_wayTo_48 rfl (lv_at hl 1 rfl) ?_
    obtain ⟨v2, hq, hf⟩ := zb1_o hf
    refine zc_i hW (zrun_v (As := [.int p1]) (rest := []) hC hW (mX1_farOf p1 s1 hC.2.2.2.2.2.2.2 hq) cv_X7_273 zck_0_42 zcs_0_42 rfl ⟨⟨rfl, rfl⟩, Nat.le_of_ble_eq_true rfl, Nat.le_of_ble_eq_true rfl⟩ (zlv_size hl) rfl (Nat.le_of_ble_eq_true rfl) dX7_wayTo_49 ⟨Nat.le_refl _, Nat.le_refl _⟩) (fun H locs hW => ?_)
    exact zr_i hx hb hr hlk hW (zo1 hf) (zo2 hf) dX7_wayTo_52
  · skip
    refine zi_c hf (fun h1 hf => ?_) (fun h1 hf => ?_)
    · skip
      refine zs_in (off := 38) (tgt := 53) hx hb h1 dX7_wayTo_15 (by decide) (by decide) (by decide +kernel) (by decide) ?_
      refine lv_aload_n hx hb dX7_wayTo_53 rfl (lv_at hl 0 rfl) ?_
      refine zg_a (o := 41) hC hW fl_X7_42 zck_0_0 zcs_0_0 (show _ = 42 from rfl) dX7_wayTo_54 ?_
      refine lv_iload_n hx hb dX7_wayTo_57 rfl (lv_at hl 1 rfl) ?_
      refine zc_i hW (zrun_s (As := [.int p1]) (rest := [.ref (adr 42)]) hC hW (mX7_bit p1 s1 hC.2.2.2.2.2.2.2 rfl) cs_X7_168 rfl ⟨⟨rfl, rfl⟩, Nat.le_of_ble_eq_true rfl, Nat.le_of_ble_eq_true rfl⟩ (zlv_size hl) rfl (Nat.le_of_ble_eq_true rfl) dX7_wayTo_58 ⟨Nat.le_refl _, Nat.le_refl _⟩) (fun H locs hW => ?_)
      refine lv_iconst (v := 0) hx hb dX7_wayTo_61 (by decide) ?_
      obtain ⟨v4, hq, hf⟩ := zb1_o hf
      refine zc_i hW (zrun_v (As := [.int (fX7_bit p1), .int 0]) (rest := []) hC hW (mX1_spread (fX7_bit p1) 0 s1 hC.2.2.2.2.2.2.2 hq) cv_X7_327 zck_0_42 zcs_0_42 rfl ⟨⟨rfl, rfl⟩, Nat.le_of_ble_eq_true rfl, Nat.le_of_ble_eq_true rfl⟩ (zlv_size hl) rfl (Nat.le_of_ble_eq_true rfl) dX7_wayTo_62 ⟨Nat.le_refl _, Nat.le_refl _⟩) (fun H locs hW => ?_)
      exact zr_i hx hb hr hlk hW (zo1 hf) (zo2 hf) dX7_wayTo_65
    · skip
      refine zi_c hf (fun h2 hf => ?_) (fun h2 hf => ?_)
      · skip
        refine zs_in (off := 51) (tgt := 66) hx hb h2 dX7_wayTo_15 (by decide) (by decide) (by decide +kernel) (by decide) ?_
        refine lv_aload_n hx hb dX7_wayTo_66 rfl (lv_at hl 0 rfl) ?_
        refine zg_a (o := 41) hC hW fl_X7_42 zck_0_0 zcs_0_0 (show _ = 42 from rfl) dX7_wayTo_67 ?_
        refine lv_iload_n hx hb dX7_wayTo_70 rfl (lv_at hl 1 rfl) ?_
        obtain ⟨v5, hq, hf⟩ := zb1_o hf
        refine zc_i hW (zrun_v (As := [.int p1]) (rest := []) hC hW (mX1_keptBy p1 s1 hC.2.2.2.2.2.2.2 hq) cv_X7_330 zck_0_42 zcs_0_42 rfl ⟨⟨rfl, rfl⟩, Nat.le_of_ble_eq_true rfl, Nat.le_of_ble_eq_true rfl⟩ (zlv_size hl) rfl (Nat.le_of_ble_eq_true rfl) dX7_wayTo_71 ⟨Nat.le_refl _, Nat.le_refl _⟩) (fun H locs hW => ?_)
        exact zr_i hx hb hr hlk hW (zo1 hf) (zo2 hf) dX7_wayTo_74
      · skip
        refine zi_c hf (fun h3 hf => ?_) (fun h3 hf => ?_)
        · skip
          refine zs_in (off := 60) (tgt := 75) hx hb h3 dX7_wayTo_15 (by decide) (by decide) (by decide +kernel) (by decide) ?_
          refine lv_aload_n hx hb dX7_wayTo_75 rfl (lv_at hl 0 rfl) ?_
          refine zg_a (o := 41) hC hW fl_X7_42 zck_0_0 zcs_0_0 (show _ = 42 from rfl) dX7_wayTo_76 ?_
          refine lv_aload_n hx hb dX7_wayTo_79 rfl (lv_at hl 0 rfl) ?_
          refine zg_a (o := 0) hC hW fl_X7_12 zck_0_0 zcs_0_0 (show _ = 1 from rfl) dX7_wayTo_80 ?_
          refine zg_a (o := 0) hC hW fl_X7_74 (zE_k zEc_1) (zE_s zEc_1) (show _ = 2 from rfl) dX7_wayTo_83 ?_
          refine lv_iload_n hx hb dX7_wayTo_86 rfl (lv_at hl 1 rfl) ?_
          obtain ⟨v6, s7, hq, hf⟩ := zb2_o hf
          refine zc_i hW (zrun_v (As := [.ref (adr 2), .int p1]) (rest := []) hC hW (mX1_cutOf zGc_2 p1 s1 hC.2.2.2.2.2.2.2 hq) cv_X7_333 zck_0_42 zcs_0_42 rfl ⟨⟨rfl, rfl⟩, Nat.le_of_ble_eq_true rfl, Nat.le_of_ble_eq_true rfl⟩ (zlv_size hl) rfl (Nat.le_of_ble_eq_true rfl) dX7_wayTo_87 ⟨Nat.le_refl _, Nat.le_refl _⟩) (fun H locs hW => ?_)
          exact zr_i hx hb hr hlk hW (zo1 hf) (zo2 hf) dX7_wayTo_90
        · skip
          refine lv_tableOut (tgt := 91) hx hb dX7_wayTo_15 (by have n0 := lv_neT h0 (show (8 : Int32).toInt = 8 from rfl); have n1 := lv_neT h1 (show (9 : Int32).toInt = 9 from rfl); have n2 := lv_neT h2 (show (10 : Int32).toInt = 10 from rfl); have n3 := lv_neT h3 (show (11 : Int32).toInt = 11 from rfl); omega) (by decide) ?_
          refine lv_iconst (v := (-1)) hx hb dX7_wayTo_91 (by decide) ?_
          exact zr_i hx hb hr hlk hW (zo1 hf) (zo2 hf) dX7_wayTo_92
set_option maxHeartbeats 4000000 in
set_option maxRecDepth 100000 in
theorem mX7_of {l : Launch} {D : va_G} {cI cJ : ClassId} {adr : Nat → Nat} (p1 : Int32) (p2 : Int32) (s0 : zkS) {z : Nat} {ro : Int32} {so : zkS} (hI : zInj 0 adr) (hf : fX7_of p1 p2 s0 = some (ro, so)) : Met l yX7_of (Cond.code yX7_of cX7_of 5 (some .int) :: zTb) { frames := 6, cells := 0, slots := 0, locals := 141 } (zPre 0 D cI cJ adr s0 z [.ref (adr 0), .int p1, .int p2]) (zQi 0 D cI cJ adr z ro so) 0 0 (zA 0 adr z) := by
  refine zen (cc := cX7_of) (own := RX7) (by decide +kernel) rfl hI (Nat.le_of_ble_eq_true rfl) (fun p e s m args below meth c ls hC hr hlk hz hl hW => ?_)
  subst hz
  obtain ⟨hx, hb, -⟩ := id hC
  have hl : lv_has ls 5 [(0, .ref (adr 0)), (1, .int p1), (2, .int p2)] := hl
  refine zst hW (fun H locs hW => ?_)
  unfold fX7_of at hf
  refine lv_aload_n hx hb dX7_of_0 rfl (lv_at hl 0 rfl) ?_
  refine zg_a (o := 0) hC hW fl_X7_12 zck_0_0 zcs_0_0 (show _ = 1 from rfl) dX7_of_1 ?_
  refine zg_a (o := 0) hC hW fl_X7_74 (zE_k zEc_1) (zE_s zEc_1) (show _ = 2 from rfl) dX7_of_4 ?_
  refine lv_astore_n (lv' := [(3, .ref (adr 2)), (0, .ref (adr 0)), (1, .int p1), (2, .int p2)]) hx hb dX7_of_7 rfl hl (by decide) rfl (fun ls hl => ?_)
  refine lv_aload_n hx hb dX7_of_8 rfl (lv_at hl 1 rfl) ?_
  refine zg_a (o := 0) hC hW fl_X7_12 zck_0_0 zcs_0_0 (show _ = 1 from rfl) dX7_of_9 ?_
  refine zg_a (o := 6) hC hW fl_X7_68 (zE_k zEc_1) (zE_s zEc_1) (show _ = 8 from rfl) dX7_of_12 ?_
  refine lv_astore (lv' := [(4, .ref (adr 8)), (3, .ref (adr 2)), (0, .ref (adr 0)), (1, .int p1), (2, .int p2)]) hx hb dX7_of_15 hl (by decide) rfl (fun ls hl => ?_)
  refine lv_aload_n hx hb dX7_of_17 rfl (lv_at hl 1 rfl) ?_
  refine lv_iload_n hx hb dX7_of_18 rfl (lv_at hl 3 rfl) ?_
  refine zc_i hW (zrun_v (As := [.int p1]) (rest := []) hC hW (mX0_isThere zGc_2 p1 s0 hC.2.2.2.2.2.2.2 rfl) cv_X7_88 (zG_k zGc_2) (zG_s zGc_2) rfl ⟨⟨rfl, rfl⟩, Nat.le_of_ble_eq_true rfl, Nat.le_of_ble_eq_true rfl⟩ (zlv_size hl) rfl (Nat.le_of_ble_eq_true rfl) dX7_of_19 ⟨Nat.le_refl _, Nat.le_refl _⟩) (fun H locs hW => ?_)
  refine zi_if_ne (tgt := 27) hx hb dX7_of_22 (by decide) hf (fun hc hf => ?_) (fun hc hf => ?_)
  · skip
    refine lv_iconst (v := (-1)) hx hb dX7_of_25 (by decide) ?_
    exact zr_i hx hb hr hlk hW (zo1 hf) (zo2 hf) dX7_of_26
  · skip
    refine lv_iload_n hx hb dX7_of_27 rfl (lv_at hl 4 rfl) ?_
    refine zi_c hf (fun h0 hf => ?_) (fun h0 hf => ?_)
    · skip
      refine zs_in (off := 68) (tgt := 96) hx hb h0 dX7_of_28 (by decide) (by decide) (by decide +kernel) (by decide) ?_
      refine lv_aload_n hx hb dX7_of_96 rfl (lv_at hl 1 rfl) ?_
      refine lv_iload_n hx hb dX7_of_97 rfl (lv_at hl 3 rfl) ?_
      obtain ⟨v2, hq, hf⟩ := zb1_o hf
      refine zc_i hW (zrun_v (As := [.int p1]) (rest := []) hC hW (mX0_layoutOf zGc_2 p1 s0 hC.2.2.2.2.2.2.2 hq) cv_X7_91 (zG_k zGc_2) (zG_s zGc_2) rfl ⟨⟨rfl, rfl⟩, Nat.le_of_ble_eq_true rfl, Nat.le_of_ble_eq_true rfl⟩ (zlv_size hl) rfl (Nat.le_of_ble_eq_true rfl) dX7_of_98 ⟨Nat.le_refl _, Nat.le_refl _⟩) (fun H locs hW => ?_)
      exact zr_i hx hb hr hlk hW (zo1 hf) (zo2 hf) dX7_of_101
    · skip
      refine zi_c hf (fun h1 hf => ?_) (fun h1 hf => ?_)
      · skip
        refine zs_in (off := 74) (tgt := 102) hx hb h1 dX7_of_28 (by decide) (by decide) (by decide +kernel) (by decide) ?_
        refine lv_aload_n hx hb dX7_of_102 rfl (lv_at hl 1 rfl) ?_
        refine lv_iload_n hx hb dX7_of_103 rfl (lv_at hl 3 rfl) ?_
        obtain ⟨v3, hq, hf⟩ := zb1_o hf
        refine zc_i hW (zrun_v (As := [.int p1]) (rest := []) hC hW (mX0_tagOf zGc_2 p1 s0 hC.2.2.2.2.2.2.2 hq) cv_X7_95 (zG_k zGc_2) (zG_s zGc_2) rfl ⟨⟨rfl, rfl⟩, Nat.le_of_ble_eq_true rfl, Nat.le_of_ble_eq_true rfl⟩ (zlv_size hl) rfl (Nat.le_of_ble_eq_true rfl) dX7_of_104 ⟨Nat.le_refl _, Nat.le_refl _⟩) (fun H locs hW => ?_)
        exact zr_i hx hb hr hlk hW (zo1 hf) (zo2 hf) dX7_of_107
      · skip
        refine zi_c hf (fun h2 hf => ?_) (fun h2 hf => ?_)
        · skip
          refine zs_in (off := 80) (tgt := 108) hx hb h2 dX7_of_28 (by decide) (by decide) (by decide +kernel) (by decide) ?_
          refine lv_aload_n hx hb dX7_of_108 rfl (lv_at hl 1 rfl) ?_
          refine lv_iload_n hx hb dX7_of_109 rfl (lv_at hl 3 rfl) ?_
          obtain ⟨v4, hq, hf⟩ := zb1_o hf
          refine zc_i hW (zrun_v (As := [.int p1]) (rest := []) hC hW (mX0_sizeOf zGc_2 p1 s0 hC.2.2.2.2.2.2.2 hq) cv_X7_98 (zG_k zGc_2) (zG_s zGc_2) rfl ⟨⟨rfl, rfl⟩, Nat.le_of_ble_eq_true rfl, Nat.le_of_ble_eq_true rfl⟩ (zlv_size hl) rfl (Nat.le_of_ble_eq_true rfl) dX7_of_110 ⟨Nat.le_refl _, Nat.le_refl _⟩) (fun H locs hW => ?_)
          exact zr_i hx hb hr hlk hW (zo1 hf) (zo2 hf) dX7_of_113
        · skip
          refine zi_c hf (fun h3 hf => ?_) (fun h3 hf => ?_)
          · skip
            refine zs_in (off := 86) (tgt := 114) hx hb h3 dX7_of_28 (by decide) (by decide) (by decide +kernel) (by decide) ?_
            refine lv_aload hx hb dX7_of_114 (lv_at hl 0 rfl) ?_
            refine zg_i hC hW fl_X7_101 (zK_k zKc_8) (zK_s zKc_8) dX7_of_116 ?_
            refine lv_iload_n hx hb dX7_of_119 rfl (lv_at hl 3 rfl) ?_
            refine zc_i hW (zrun_s (As := [.int (s0.1 8 2), .int p1]) (rest := []) hC hW (mX7_has (s0.1 8 2) p1 s0 hC.2.2.2.2.2.2.2 rfl) cs_X7_104 rfl ⟨⟨rfl, rfl⟩, Nat.le_of_ble_eq_true rfl, Nat.le_of_ble_eq_true rfl⟩ (zlv_size hl) rfl (Nat.le_of_ble_eq_true rfl) dX7_of_120 ⟨Nat.le_refl _, Nat.le_refl _⟩) (fun H locs hW => ?_)
            refine zc_i hW (zrun_s (As := [.int (fX7_has (s0.1 8 2) p1)]) (rest := []) hC hW (mX7_asNumber (fX7_has (s0.1 8 2) p1) s0 hC.2.2.2.2.2.2.2 rfl) cs_X7_108 rfl ⟨⟨rfl, rfl⟩, Nat.le_of_ble_eq_true rfl, Nat.le_of_ble_eq_true rfl⟩ (zlv_size hl) rfl (Nat.le_of_ble_eq_true rfl) dX7_of_123 ⟨Nat.le_refl _, Nat.le_refl _⟩) (fun H locs hW => ?_)
            exact zr_i hx hb hr hlk hW (zo1 hf) (zo2 hf) dX7_of_126
          · skip
            refine zi_c hf (fun h4 hf => ?_) (fun h4 hf => ?_)
            · skip
              refine zs_in (off := 99) (tgt := 127) hx hb h4 dX7_of_28 (by decide) (by decide) (by decide +kernel) (by decide) ?_
              refine lv_aload hx hb dX7_of_127 (lv_at hl 0 rfl) ?_
              refine lv_iload_n hx hb dX7_of_129 rfl (lv_at hl 3 rfl) ?_
              obtain ⟨v7, hq, hf⟩ := zb1_o hf
              refine zc_i hW (zrun_v (As := [.int p1]) (rest := []) hC hW (mX2_countOf zKc_8 p1 s0 hC.2.2.2.2.2.2.2 hq) cv_X7_112 (zK_k zKc_8) (zK_s zKc_8) rfl ⟨⟨rfl, rfl⟩, Nat.le_of_ble_eq_true rfl, Nat.le_of_ble_eq_true rfl⟩ (zlv_size hl) rfl (Nat.le_of_ble_eq_true rfl) dX7_of_130 ⟨Nat.le_refl _, Nat.le_refl _⟩) (fun H locs hW => ?_)
              exact zr_i hx hb hr hlk hW (zo1 hf) (zo2 hf) dX7_of_133
            · skip
              refine zi_c hf (fun h5 hf => ?_) (fun h5 hf => ?_)
              · skip
                refine zs_in (off := 106) (tgt := 134) hx hb h5 dX7_of_28 (by decide) (by decide) (by decide +kernel) (by decide) ?_
                refine lv_aload hx hb dX7_of_134 (lv_at hl 0 rfl) ?_
                refine zg_i hC hW fl_X7_115 (zK_k zKc_8) (zK_s zKc_8) dX7_of_136 ?_
                refine lv_iload_n hx hb dX7_of_139 rfl (lv_at hl 3 rfl) ?_
                refine zc_i hW (zrun_s (As := [.int (s0.1 8 3), .int p1]) (rest := []) hC hW (mX7_has (s0.1 8 3) p1 s0 hC.2.2.2.2.2.2.2 rfl) cs_X7_104 rfl ⟨⟨rfl, rfl⟩, Nat.le_of_ble_eq_true rfl, Nat.le_of_ble_eq_true rfl⟩ (zlv_size hl) rfl (Nat.le_of_ble_eq_true rfl) dX7_of_140 ⟨Nat.le_refl _, Nat.le_refl _⟩) (fun H locs hW => ?_)
                refine zc_i hW (zrun_s (As := [.int (fX7_has (s0.1 8 3) p1)]) (rest := []) hC hW (mX7_asNumber (fX7_has (s0.1 8 3) p1) s0 hC.2.2.2.2.2.2.2 rfl) cs_X7_108 rfl ⟨⟨rfl, rfl⟩, Nat.le_of_ble_eq_true rfl, Nat.le_of_ble_eq_true rfl⟩ (zlv_size hl) rfl (Nat.le_of_ble_eq_true rfl) dX7_of_143 ⟨Nat.le_refl _, Nat.le_refl _⟩) (fun H locs hW => ?_)
                exact zr_i hx hb hr hlk hW (zo1 hf) (zo2 hf) dX7_of_146
              · skip
                refine zi_c hf (fun h6 hf => ?_) (fun h6 hf => ?_)
                · skip
                  refine zs_in (off := 119) (tgt := 147) hx hb h6 dX7_of_28 (by decide) (by decide) (by decide +kernel) (by decide) ?_
                  refine lv_aload_n hx hb dX7_of_147 rfl (lv_at hl 1 rfl) ?_
                  refine zg_i hC hW fl_X7_118 (zG_k zGc_2) (zG_s zGc_2) dX7_of_148 ?_
                  refine lv_iload_n hx hb dX7_of_151 rfl (lv_at hl 3 rfl) ?_
                  refine zc_i hW (zrun_s (As := [.int (s0.1 2 2), .int p1]) (rest := []) hC hW (mX7_has (s0.1 2 2) p1 s0 hC.2.2.2.2.2.2.2 rfl) cs_X7_104 rfl ⟨⟨rfl, rfl⟩, Nat.le_of_ble_eq_true rfl, Nat.le_of_ble_eq_true rfl⟩ (zlv_size hl) rfl (Nat.le_of_ble_eq_true rfl) dX7_of_152 ⟨Nat.le_refl _, Nat.le_refl _⟩) (fun H locs hW => ?_)
                  refine zc_i hW (zrun_s (As := [.int (fX7_has (s0.1 2 2) p1)]) (rest := []) hC hW (mX7_asNumber (fX7_has (s0.1 2 2) p1) s0 hC.2.2.2.2.2.2.2 rfl) cs_X7_108 rfl ⟨⟨rfl, rfl⟩, Nat.le_of_ble_eq_true rfl, Nat.le_of_ble_eq_true rfl⟩ (zlv_size hl) rfl (Nat.le_of_ble_eq_true rfl) dX7_of_155 ⟨Nat.le_refl _, Nat.le_refl _⟩) (fun H locs hW => ?_)
                  exact zr_i hx hb hr hlk hW (zo1 hf) (zo2 hf) dX7_of_158
                · skip
                  refine zi_c hf (fun h7 hf => ?_) (fun h7 hf => ?_)
                  · skip
                    refine zs_in (off := 131) (tgt := 159) hx hb h7 dX7_of_28 (by decide) (by decide) (by decide +kernel) (by decide) ?_
                    refine lv_aload_n hx hb dX7_of_159 rfl (lv_at hl 1 rfl) ?_
                    refine lv_iload_n hx hb dX7_of_160 rfl (lv_at hl 3 rfl) ?_
                    obtain ⟨v12, hq, hf⟩ := zb1_o hf
                    refine zc_i hW (zrun_v (As := [.int p1]) (rest := []) hC hW (mX0_holders zGc_2 p1 s0 hC.2.2.2.2.2.2.2 hq) cv_X7_121 (zG_k zGc_2) (zG_s zGc_2) rfl ⟨⟨rfl, rfl⟩, Nat.le_of_ble_eq_true rfl, Nat.le_of_ble_eq_true rfl⟩ (zlv_size hl) rfl (Nat.le_of_ble_eq_true rfl) dX7_of_161 ⟨Nat.le_refl _, Nat.le_refl _⟩) (fun H locs hW => ?_)
                    exact zr_i hx hb hr hlk hW (zo1 hf) (zo2 hf) dX7_of_164
                  · skip
                    refine zi_c hf (fun h8 hf => ?_) (fun h8 hf => ?_)
                    · skip
                      refine zs_in (off := 146) (tgt := 174) hx hb h8 dX7_of_28 (by decide) (by decide) (by decide +kernel) (by decide) ?_
                      refine lv_aload_n hx hb dX7_of_174 rfl (lv_at hl 2 rfl) ?_
                      refine lv_iload_n hx hb dX7_of_175 rfl (lv_at hl 3 rfl) ?_
                      refine lv_iload_n hx hb dX7_of_176 rfl (lv_at hl 4 rfl) ?_
                      obtain ⟨v13, s14, hq, hf⟩ := zb2_o hf
                      refine zc_i hW (zrun_v (As := [.int p1, .int p2]) (rest := []) hC hW (mX7_wayTo p1 p2 s0 hC.2.2.2.2.2.2.2 hq) cv_X7_127 zck_0_0 zcs_0_0 rfl ⟨⟨rfl, rfl⟩, Nat.le_of_ble_eq_true rfl, Nat.le_of_ble_eq_true rfl⟩ (zlv_size hl) rfl (Nat.le_of_ble_eq_true rfl) dX7_of_177 ⟨Nat.le_refl _, Nat.le_refl _⟩) (fun H locs hW => ?_)
                      exact zr_i hx hb hr hlk hW (zo1 hf) (zo2 hf) dX7_of_180
                    · skip
                      refine zi_c hf (fun h9 hf => ?_) (fun h9 hf => ?_)
                      · skip
                        refine zs_in (off := 146) (tgt := 174) hx hb h9 dX7_of_28 (by decide) (by decide) (by decide +kernel) (by decide) ?_
                        refine lv_aload_n hx hb dX7_of_174 rfl (lv_at hl 2 rfl) ?_
                        refine lv_iload_n hx hb dX7_of_175 rfl (lv_at hl 3 rfl) ?_
                        refine lv_iload_n hx hb dX7_of_176 rfl (lv_at hl 4 rfl) ?_
                        obtain ⟨v15, s16, hq, hf⟩ := zb2_o hf
                        refine zc_i hW (zrun_v (As := [.int p1, .int p2]) (rest := []) hC hW (mX7_wayTo p1 p2 s0 hC.2.2.2.2.2.2.2 hq) cv_X7_127 zck_0_0 zcs_0_0 rfl ⟨⟨rfl, rfl⟩, Nat.le_of_ble_eq_true rfl, Nat.le_of_ble_eq_true rfl⟩ (zlv_size hl) rfl (Nat.le_of_ble_eq_true rfl) dX7_of_177 ⟨Nat.le_refl _, Nat.le_refl _⟩) (fun H locs hW => ?_)
                        exact zr_i hx hb hr hlk hW (zo1 hf) (zo2 hf) dX7_of_180
                      · skip
                        refine zi_c hf (fun h10 hf => ?_) (fun h10 hf => ?_)
                        · skip
                          refine zs_in (off := 146) (tgt := 174) hx hb h10 dX7_of_28 (by decide) (by decide) (by decide +kernel) (by decide) ?_
                          refine lv_aload_n hx hb dX7_of_174 rfl (lv_at hl 2 rfl) ?_
                          refine lv_iload_n hx hb dX7_of_175 rfl (lv_at hl 3 rfl) ?_
                          refine lv_iload_n hx hb dX7_of_176 rfl (lv_at hl 4 rfl) ?_
                          obtain ⟨v17, s18, hq, hf⟩ := zb2_o hf
                          refine zc_i hW (zrun_v (As := [.int p1, .int p2]) (rest := []) hC hW (mX7_wayTo p1 p2 s0 hC.2.2.2.2.2.2.2 hq) cv_X7_127 zck_0_0 zcs_0_0 rfl ⟨⟨rfl, rfl⟩, Nat.le_of_ble_eq_true rfl, Nat.le_of_ble_eq_true rfl⟩ (zlv_size hl) rfl (Nat.le_of_ble_eq_true rfl) dX7_of_177 ⟨Nat.le_refl _, Nat.le_refl _⟩) (fun H locs hW => ?_)
                          exact zr_i hx hb hr hlk hW (zo1 hf) (zo2 hf) dX7_of_180
                        · skip
                          refine zi_c hf (fun h11 hf => ?_) (fun h11 hf => ?_)
                          · skip
                            refine zs_in (off := 146) (tgt := 174) hx hb h11 dX7_of_28 (by decide) (by decide) (by decide +kernel) (by decide) ?_
                            refine lv_aload_n hx hb dX7_of_174 rfl (lv_at hl 2 rfl) ?_
                            refine lv_iload_n hx hb dX7_of_175 rfl (lv_at hl 3 rfl) ?_
                            refine lv_iload_n hx hb dX7_of_176 rfl (lv_at hl 4 rfl) ?_
                            obtain ⟨v19, s20, hq, hf⟩ := zb2_o hf
                            refine zc_i hW (zrun_v (As := [.int p1, .int p2]) (rest := []) hC hW (mX7_wayTo p1 p2 s0 hC.2.2.2.2.2.2.2 hq) cv_X7_127 zck_0_0 zcs_0_0 rfl ⟨⟨rfl, rfl⟩, Nat.le_of_ble_eq_true rfl, Nat.le_of_ble_eq_true rfl⟩ (zlv_size hl) rfl (Nat.le_of_ble_eq_true rfl) dX7_of_177 ⟨Nat.le_refl _, Nat.le_refl _⟩) (fun H locs hW => ?_)
                            exact zr_i hx hb hr hlk hW (zo1 hf) (zo2 hf) dX7_of_180
                          · skip
                            refine zi_c hf (fun h12 hf => ?_) (fun h12 hf => ?_)
                            · skip
                              refine zs_in (off := 137) (tgt := 165) hx hb h12 dX7_of_28 (by decide) (by decide) (by decide +kernel) (by decide) ?_
                              refine lv_aload_n hx hb dX7_of_165 rfl (lv_at hl 1 rfl) ?_
                              refine lv_iload_n hx hb dX7_of_166 rfl (lv_at hl 3 rfl) ?_
                              obtain ⟨v21, hq, hf⟩ := zb1_o hf
                              refine zc_i hW (zrun_v (As := [.int p1]) (rest := []) hC hW (mX0_sizeOf zGc_2 p1 s0 hC.2.2.2.2.2.2.2 hq) cv_X7_98 (zG_k zGc_2) (zG_s zGc_2) rfl ⟨⟨rfl, rfl⟩, Nat.le_of_ble_eq_true rfl, Nat.le_of_ble_eq_true rfl⟩ (zlv_size hl) rfl (Nat.le_of_ble_eq_true rfl) dX7_of_167 ⟨Nat.le_refl _, Nat.le_refl _⟩) (fun H locs hW => ?_)
                              obtain ⟨v22, hq, hf⟩ := zb1_o hf
                              refine zc_i hW (zrun_s (As := [.int v21]) (rest := []) hC hW (mX7_bitsFor v21 s0 hC.2.2.2.2.2.2.2 hq) cs_X7_124 rfl ⟨⟨rfl, rfl⟩, Nat.le_of_ble_eq_true rfl, Nat.le_of_ble_eq_true rfl⟩ (zlv_size hl) rfl (Nat.le_of_ble_eq_true rfl) dX7_of_170 ⟨Nat.le_refl _, Nat.le_refl _⟩) (fun H locs hW => ?_)
                              exact zr_i hx hb hr hlk hW (zo1 hf) (zo2 hf) dX7_of_173
                            · skip
                              refine lv_tableOut (tgt := 174) hx hb dX7_of_28 (by have n0 := lv_neT h0 (show (0 : Int32).toInt = 0 from rfl); have n1 := lv_neT h1 (show (1 : Int32).toInt = 1 from rfl); have n2 := lv_neT h2 (show (2 : Int32).toInt = 2 from rfl); have n3 := lv_neT h3 (show (3 : Int32).toInt = 3 from rfl); have n4 := lv_neT h4 (show (4 : Int32).toInt = 4 from rfl); have n5 := lv_neT h5 (show (5 : Int32).toInt = 5 from rfl); have n6 := lv_neT h6 (show (6 : Int32).toInt = 6 from rfl); have n7 := lv_neT h7 (show (7 : Int32).toInt = 7 from rfl); have n8 := lv_neT h8 (show (8 : Int32).toInt = 8 from rfl); have n9 := lv_neT h9 (show (9 : Int32).toInt = 9 from rfl); have n10 := lv_neT h10 (show (10 : Int32).toInt = 10 from rfl); have n11 := lv_neT h11 (show (11 : Int32).toInt = 11 from rfl); have n12 := lv_neT h12 (show (12 : Int32).toInt = 12 from rfl); omega) (by decide) ?_
                              refine lv_aload_n hx hb dX7_of_174 rfl (lv_at hl 2 rfl) ?_
                              refine lv_iload_n hx hb dX7_of_175 rfl (lv_at hl 3 rfl) ?_
                              refine lv_iload_n hx hb dX7_of_176 rfl (lv_at hl 4 rfl) ?_
                              obtain ⟨v23, s24, hq, hf⟩ := zb2_o hf
                              refine zc_i hW (zrun_v (As := [.int p1, .int p2]) (rest := []) hC hW (mX7_wayTo p1 p2 s0 hC.2.2.2.2.2.2.2 hq) cv_X7_127 zck_0_0 zcs_0_0 rfl ⟨⟨rfl, rfl⟩, Nat.le_of_ble_eq_true rfl, Nat.le_of_ble_eq_true rfl⟩ (zlv_size hl) rfl (Nat.le_of_ble_eq_true rfl) dX7_of_177 ⟨Nat.le_refl _, Nat.le_refl _⟩) (fun H locs hW => ?_)
                              exact zr_i hx hb hr hlk hW (zo1 hf) (zo2 hf) dX7_of_180
set_option maxHeartbeats 4000000 in
set_option maxRecDepth 100000 in
theorem mX7_field {l : Launch} {D : va_G} {cI cJ : ClassId} {adr : Nat → Nat} (p1 : Int32) (p2 : Int32) (s0 : zkS) {z : Nat} {ro : Int32} (hI : zInj 0 adr) (hf : fX7_field p1 p2 s0 = some ro) : Met l yX7_field (Cond.code yX7_field cX7_field 3 (some .int) :: zTb) { frames := 2, cells := 0, slots := 0, locals := 45 } (zPre 0 D cI cJ adr s0 z [.ref (adr 0), .int p1, .int p2]) (zQi 0 D cI cJ adr z ro s0) 0 0 (zA 0 adr z) := by
  refine zen (cc := cX7_field) (own := RX7) (by decide +kernel) rfl hI (Nat.le_of_ble_eq_true rfl) (fun p e s m args below meth c ls hC hr hlk hz hl hW => ?_)
  subst hz
  obtain ⟨hx, hb, -⟩ := id hC
  have hl : lv_has ls 3 [(0, .ref (adr 0)), (1, .int p1), (2, .int p2)] := hl
  refine zst hW (fun H locs hW => ?_)
  unfold fX7_field at hf
  refine lv_aload_n hx hb dX7_field_0 rfl (lv_at hl 0 rfl) ?_
  refine zg_a (o := 0) hC hW fl_X7_12 zck_0_0 zcs_0_0 (show _ = 1 from rfl) dX7_field_1 ?_
  refine zg_a (o := 0) hC hW fl_X7_74 (zE_k zEc_1) (zE_s zEc_1) (show _ = 2 from rfl) dX7_field_4 ?_
  refine lv_iload_n hx hb dX7_field_7 rfl (lv_at hl 1 rfl) ?_
  refine lv_iload_n hx hb dX7_field_8 rfl (lv_at hl 2 rfl) ?_
  obtain ⟨v1, hq, hf⟩ := zb1_o hf
  refine zc_i hW (zrun_v (As := [.int p1, .int p2]) (rest := []) hC hW (mX0_isField zGc_2 p1 p2 s0 hC.2.2.2.2.2.2.2 hq) cv_X7_130 (zG_k zGc_2) (zG_s zGc_2) rfl ⟨⟨rfl, rfl⟩, Nat.le_of_ble_eq_true rfl, Nat.le_of_ble_eq_true rfl⟩ (zlv_size hl) rfl (Nat.le_of_ble_eq_true rfl) dX7_field_9 ⟨Nat.le_refl _, Nat.le_refl _⟩) (fun H locs hW => ?_)
  refine zi_if_eq (tgt := 30) hx hb dX7_field_12 (by decide) hf (fun hc hf => ?_) (fun hc hf => ?_)
  · skip
    refine lv_iconst (v := (-1)) hx hb dX7_field_30 (by decide) ?_
    exact zr_i hx hb hr hlk hW (Option.some.inj hf) rfl dX7_field_31
  · skip
    refine lv_aload_n hx hb dX7_field_15 rfl (lv_at hl 0 rfl) ?_
    refine zg_a (o := 0) hC hW fl_X7_12 zck_0_0 zcs_0_0 (show _ = 1 from rfl) dX7_field_16 ?_
    refine zg_a (o := 0) hC hW fl_X7_74 (zE_k zEc_1) (zE_s zEc_1) (show _ = 2 from rfl) dX7_field_19 ?_
    refine lv_iload_n hx hb dX7_field_22 rfl (lv_at hl 1 rfl) ?_
    refine lv_iload_n hx hb dX7_field_23 rfl (lv_at hl 2 rfl) ?_
    obtain ⟨v2, hq, hf⟩ := zb1_o hf
    refine zc_i hW (zrun_v (As := [.int p1, .int p2]) (rest := []) hC hW (mX0_heldBy zGc_2 p1 p2 s0 hC.2.2.2.2.2.2.2 hq) cv_X7_133 (zG_k zGc_2) (zG_s zGc_2) rfl ⟨⟨rfl, rfl⟩, Nat.le_of_ble_eq_true rfl, Nat.le_of_ble_eq_true rfl⟩ (zlv_size hl) rfl (Nat.le_of_ble_eq_true rfl) dX7_field_24 ⟨Nat.le_refl _, Nat.le_refl _⟩) (fun H locs hW => ?_)
    refine lv_goto (tgt := 31) hx hb dX7_field_27 (by decide) ?_
    exact zr_i hx hb hr hlk hW (Option.some.inj hf) rfl dX7_field_31
