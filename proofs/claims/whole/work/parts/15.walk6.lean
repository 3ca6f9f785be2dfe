set_option maxHeartbeats 4000000 in
set_option maxRecDepth 100000 in
theorem mX8_turnedAt {l : Launch} {D : va_G} {cI cJ : ClassId} {adr : Nat → Nat} (p1 : Int32) (s0 : zkS) {z : Nat} {ro : Int32} (hI : zInj 1 adr) (hf : fX8_turnedAt p1 s0 = some ro) : Met l yX8_turnedAt (Cond.code yX8_turnedAt cX8_turnedAt 3 (some .int) :: zTb) { frames := 0, cells := 0, slots := 0, locals := 0 } (zPre 1 D cI cJ adr s0 z [.ref (adr 0), .int p1]) (zQi 1 D cI cJ adr z ro s0) 0 0 (zA 1 adr z) := by
  refine zen (cc := cX8_turnedAt) (own := RX8) (by decide +kernel) rfl hI (Nat.le_of_ble_eq_true rfl) (fun p e s m args below meth c ls hC hr hlk hz hl hW => ?_)
  subst hz
  obtain ⟨hx, hb, -⟩ := id hC
  have hl : lv_has ls 3 [(0, .ref (adr 0)), (1, .int p1)] := hl
  refine zst hW (fun H locs hW => ?_)
  unfold fX8_turnedAt at hf
  refine lv_aload_n hx hb dX8_turnedAt_0 rfl (lv_at hl 0 rfl) ?_
  refine zg_a (o := 0) hC hW fl_X8_11 zck_1_0 zcs_1_0 (show _ = 1 from rfl) dX8_turnedAt_1 ?_
  refine lv_iconst (v := 3) hx hb dX8_turnedAt_4 (by decide) ?_
  refine za_l hC hW hf zar_1_1 dX8_turnedAt_5 (fun v1 hf => ?_)
  refine lv_istore_n (lv' := [(2, .int v1), (0, .ref (adr 0)), (1, .int p1)]) hx hb dX8_turnedAt_6 rfl hl (by decide) rfl (fun ls hl => ?_)
  have hL7 : ∀ (n : Nat) (x1 : Int32) (x2 : Int32) (K7 : Unit → Option (Int32)) (H : Heap) (locs : List Loc) (ls : Array Slot), fX8_turnedAt_L7 n s0 x1 x2 K7 = some ro → zWo 1 D cI cJ adr s s0 H locs → lv_has ls 3 [(0, .ref (adr 0)), (1, .int x1), (2, .int x2)] → (∀  (H : Heap) (locs : List Loc) (ls : Array Slot), K7 () = some ro → zWo 1 D cI cJ adr s s0 H locs → lv_has ls 3 [] → W p l e { frames := 0, cells := 0, slots := 0, locals := 0 } s m args below meth c H locs 0 0 (MQ below (zQi 1 D cI cJ adr s.heap.size ro s0) args s 0 0 (zA 1 adr s.heap.size)) (F0 m 49 ls [])) → W p l e { frames := 0, cells := 0, slots := 0, locals := 0 } s m args below meth c H locs 0 0 (MQ below (zQi 1 D cI cJ adr s.heap.size ro s0) args s 0 0 (zA 1 adr s.heap.size)) (F0 m 7 ls []) := by
    intro n
    induction n with
    | zero =>
      intro x1 x2 K7 H locs ls hf hW hl hK7
      rw [fX8_turnedAt_L7] at hf
      cases hf
    | succ n ih7 =>
      intro x1 x2 K7 H locs ls hf hW hl hK7
      rw [fX8_turnedAt_L7] at hf
      refine lv_aload_n hx hb dX8_turnedAt_7 rfl (lv_at hl 0 rfl) ?_
      refine zg_a (o := 0) hC hW fl_X8_11 zck_1_0 zcs_1_0 (show _ = 1 from rfl) dX8_turnedAt_8 ?_
      refine lv_iconst (v := 2) hx hb dX8_turnedAt_11 (by decide) ?_
      refine za_l hC hW hf zar_1_1 dX8_turnedAt_12 (fun v2 hf => ?_)
      refine lv_iconst (v := 1) hx hb dX8_turnedAt_13 (by decide) ?_
      refine zi_icmp_ne (tgt := 49) hx hb dX8_turnedAt_14 (by decide) hf (fun hc hf => ?_) (fun hc hf => ?_)
      · skip
        refine lv_iload_n hx hb dX8_turnedAt_17 rfl (lv_at hl 2 rfl) ?_
        refine lv_aload_n hx hb dX8_turnedAt_18 rfl (lv_at hl 0 rfl) ?_
        refine zg_a (o := 0) hC hW fl_X8_11 zck_1_0 zcs_1_0 (show _ = 1 from rfl) dX8_turnedAt_19 ?_
        refine lv_bipush (v := 6) hx hb dX8_turnedAt_22 (by decide) ?_
        refine za_l hC hW hf zar_1_1 dX8_turnedAt_24 (fun v3 hf => ?_)
        refine zi_icmp_ge (tgt := 49) hx hb dX8_turnedAt_25 (by decide) hf (fun hc hf => ?_) (fun hc hf => ?_)
        · skip
          exact hK7  H locs ls hf hW (lv_sub hl [] rfl)
        · skip
          refine lv_aload_n hx hb dX8_turnedAt_28 rfl (lv_at hl 0 rfl) ?_
          refine zg_a (o := 0) hC hW fl_X8_11 zck_1_0 zcs_1_0 (show _ = 1 from rfl) dX8_turnedAt_29 ?_
          refine lv_bipush (v := 116) hx hb dX8_turnedAt_32 (by decide) ?_
          refine lv_iload_n hx hb dX8_turnedAt_34 rfl (lv_at hl 2 rfl) ?_
          refine lv_iadd hx hb dX8_turnedAt_35 ?_
          refine za_l hC hW hf zar_1_1 dX8_turnedAt_36 (fun v4 hf => ?_)
          refine lv_iload_n hx hb dX8_turnedAt_37 rfl (lv_at hl 1 rfl) ?_
          refine zi_icmp_ne (tgt := 43) hx hb dX8_turnedAt_38 (by decide) hf (fun hc hf => ?_) (fun hc hf => ?_)
          · skip
            refine lv_iload_n hx hb dX8_turnedAt_41 rfl (lv_at hl 2 rfl) ?_
            exact zr_i hx hb hr hlk hW (Option.some.inj hf) rfl dX8_turnedAt_42
          · skip
            refine zi_inc (v := (x2 + 1)) (lv' := fun v5 => [(2, .int v5), (0, .ref (adr 0)), (1, .int x1)]) hx hb dX8_turnedAt_43 hl (k := 2) rfl rfl (by decide) (fun _ => rfl) hf (fun v5 ls hf hl => ?_)
            refine lv_goto (tgt := 7) hx hb dX8_turnedAt_46 (by decide) ?_
            exact ih7 x1 v5 _ H locs ls hf hW (lv_sub hl [1, 2, 0] rfl) hK7
      · skip
        exact hK7  H locs ls hf hW (lv_sub hl [] rfl)
  refine hL7 zFU p1 v1 _ H locs ls hf hW (lv_sub hl [1, 2, 0] rfl) (fun  H locs ls hf hW hl => ?_)
  refine lv_bipush (v := (-5)) hx hb dX8_turnedAt_49 (by decide) ?_
  exact zr_i hx hb hr hlk hW (Option.some.inj hf) rfl dX8_turnedAt_51
set_option maxHeartbeats 4000000 in
set_option maxRecDepth 100000 in
theorem mX8_raw {l : Launch} {D : va_G} {cI cJ : ClassId} {adr : Nat → Nat} (p1 : Int32) (p2 : Int32) (s0 : zkS) {z : Nat} {ro : Int32} (hI : zInj 1 adr) (hf : fX8_raw p1 p2 s0 = some ro) : Met l yX8_raw (Cond.code yX8_raw cX8_raw 4 (some .int) :: zTb) { frames := 3, cells := 0, slots := 0, locals := 68 } (zPre 1 D cI cJ adr s0 z [.ref (adr 0), .int p1, .int p2]) (zQi 1 D cI cJ adr z ro s0) 0 0 (zA 1 adr z) := by
  refine zen (cc := cX8_raw) (own := RX8) (by decide +kernel) rfl hI (Nat.le_of_ble_eq_true rfl) (fun p e s m args below meth c ls hC hr hlk hz hl hW => ?_)
  subst hz
  obtain ⟨hx, hb, -⟩ := id hC
  have hl : lv_has ls 4 [(0, .ref (adr 0)), (1, .int p1), (2, .int p2)] := hl
  refine zst hW (fun H locs hW => ?_)
  unfold fX8_raw at hf
  refine lv_aload_n hx hb dX8_raw_0 rfl (lv_at hl 0 rfl) ?_
  refine lv_iload_n hx hb dX8_raw_1 rfl (lv_at hl 1 rfl) ?_
  refine lv_iload_n hx hb dX8_raw_2 rfl (lv_at hl 2 rfl) ?_
  obtain ⟨v1, hq, hf⟩ := zb1_o hf
  refine zc_i hW (zrun_v (As := [.int p1, .int p2]) (rest := []) hC hW (mX8_isField p1 p2 s0 hC.2.2.2.2.2.2.2 hq) cv_X8_96 zck_1_0 zcs_1_0 rfl ⟨⟨rfl, rfl⟩, Nat.le_of_ble_eq_true rfl, Nat.le_of_ble_eq_true rfl⟩ (zlv_size hl) rfl (Nat.le_of_ble_eq_true rfl) dX8_raw_3 ⟨Nat.le_refl _, Nat.le_refl _⟩) (fun H locs hW => ?_)
  refine zi_if_ne (tgt := 11) hx hb dX8_raw_6 (by decide) hf (fun hc hf => ?_) (fun hc hf => ?_)
  · skip
    refine lv_iconst (v := (-1)) hx hb dX8_raw_9 (by decide) ?_
    exact zr_i hx hb hr hlk hW (Option.some.inj hf) rfl dX8_raw_10
  · skip
    refine lv_aload_n hx hb dX8_raw_11 rfl (lv_at hl 0 rfl) ?_
    refine lv_iload_n hx hb dX8_raw_12 rfl (lv_at hl 1 rfl) ?_
    obtain ⟨v2, hq, hf⟩ := zb1_o hf
    refine zc_i hW (zrun_v (As := [.int p1]) (rest := []) hC hW (mX8_turnedAt p1 s0 hC.2.2.2.2.2.2.2 hq) cv_X8_132 zck_1_0 zcs_1_0 rfl ⟨⟨rfl, rfl⟩, Nat.le_of_ble_eq_true rfl, Nat.le_of_ble_eq_true rfl⟩ (zlv_size hl) rfl (Nat.le_of_ble_eq_true rfl) dX8_raw_13 ⟨Nat.le_refl _, Nat.le_refl _⟩) (fun H locs hW => ?_)
    refine lv_istore_n (lv' := [(3, .int v2), (0, .ref (adr 0)), (1, .int p1), (2, .int p2)]) hx hb dX8_raw_16 rfl hl (by decide) rfl (fun ls hl => ?_)
    refine lv_iload_n hx hb dX8_raw_17 rfl (lv_at hl 0 rfl) ?_
    refine zjn_e hf (fun J3 => ∀ (u4 : Unit) (H : Heap) (locs : List Loc) (ls : Array Slot), J3 u4 = some ro → zWo 1 D cI cJ adr s s0 H locs → lv_has ls 4 [(0, .ref (adr 0)), (1, .int p1), (2, .int p2)] → W p l e { frames := 3, cells := 0, slots := 0, locals := 68 } s m args below meth c H locs 0 0 (MQ below (zQi 1 D cI cJ adr s.heap.size ro s0) args s 0 0 (zA 1 adr s.heap.size)) (F0 m 34 ls [])) ?_ (fun J3 hJ3 hf => ?_)
    · intro u4 H locs ls hf hW hl
      refine lv_aload_n hx hb dX8_raw_34 rfl (lv_at hl 0 rfl) ?_
      refine zg_a (o := 0) hC hW fl_X8_11 zck_1_0 zcs_1_0 (show _ = 1 from rfl) dX8_raw_35 ?_
      refine lv_sipush (v := 140) hx hb dX8_raw_38 (by decide) ?_
      refine lv_bipush (v := 6) hx hb dX8_raw_41 (by decide) ?_
      refine lv_iload_n hx hb dX8_raw_43 rfl (lv_at hl 1 rfl) ?_
      refine lv_imul hx hb dX8_raw_44 ?_
      refine lv_iadd hx hb dX8_raw_45 ?_
      refine lv_iload_n hx hb dX8_raw_46 rfl (lv_at hl 2 rfl) ?_
      refine lv_iadd hx hb dX8_raw_47 ?_
      refine za_l hC hW hf zar_1_1 dX8_raw_48 (fun v5 hf => ?_)
      exact zr_i hx hb hr hlk hW (Option.some.inj hf) rfl dX8_raw_49
    refine zi_if_lt (tgt := 34) hx hb dX8_raw_18 (by decide) hf (fun hc hf => ?_) (fun hc hf => ?_)
    · skip
      exact hJ3 () H locs ls hf hW (lv_sub hl [1, 2, 3] rfl)
    · skip
      refine lv_aload_n hx hb dX8_raw_21 rfl (lv_at hl 1 rfl) ?_
      refine zg_a (o := 0) hC hW fl_X8_11 zck_1_0 zcs_1_0 (show _ = 1 from rfl) dX8_raw_22 ?_
      refine lv_bipush (v := 92) hx hb dX8_raw_25 (by decide) ?_
      refine lv_iload_n hx hb dX8_raw_27 rfl (lv_at hl 2 rfl) ?_
      refine lv_iadd hx hb dX8_raw_28 ?_
      refine za_l hC hW hf zar_1_1 dX8_raw_29 (fun v6 hf => ?_)
      refine lv_iload_n hx hb dX8_raw_30 rfl (lv_at hl 3 rfl) ?_
      refine zi_icmp_eq (tgt := 50) hx hb dX8_raw_31 (by decide) hf (fun hc hf => ?_) (fun hc hf => ?_)
      · skip
        refine lv_iload_n hx hb dX8_raw_50 rfl (lv_at hl 0 rfl) ?_
        refine lv_aload_n hx hb dX8_raw_51 rfl (lv_at hl 1 rfl) ?_
        refine zg_a (o := 0) hC hW fl_X8_11 zck_1_0 zcs_1_0 (show _ = 1 from rfl) dX8_raw_52 ?_
        refine lv_iconst (v := 3) hx hb dX8_raw_55 (by decide) ?_
        refine za_l hC hW hf zar_1_1 dX8_raw_56 (fun v7 hf => ?_)
        refine zi_icmp_ne (tgt := 65) hx hb dX8_raw_57 (by decide) hf (fun hc hf => ?_) (fun hc hf => ?_)
        · skip
          refine lv_bipush (v := (-5)) hx hb dX8_raw_60 (by decide) ?_
          refine lv_goto (tgt := 76) hx hb dX8_raw_62 (by decide) ?_
          exact zr_i hx hb hr hlk hW (Option.some.inj hf) rfl dX8_raw_76
        · skip
          refine lv_aload_n hx hb dX8_raw_65 rfl (lv_at hl 1 rfl) ?_
          refine zg_a (o := 0) hC hW fl_X8_11 zck_1_0 zcs_1_0 (show _ = 1 from rfl) dX8_raw_66 ?_
          refine lv_bipush (v := 116) hx hb dX8_raw_69 (by decide) ?_
          refine lv_iload_n hx hb dX8_raw_71 rfl (lv_at hl 0 rfl) ?_
          refine lv_iadd hx hb dX8_raw_72 ?_
          refine lv_iconst (v := 1) hx hb dX8_raw_73 (by decide) ?_
          refine lv_isub hx hb dX8_raw_74 ?_
          refine za_l hC hW hf zar_1_1 dX8_raw_75 (fun v8 hf => ?_)
          exact zr_i hx hb hr hlk hW (Option.some.inj hf) rfl dX8_raw_76
      · skip
        exact hJ3 () H locs ls hf hW (lv_sub hl [1, 2, 3] rfl)
set_option maxHeartbeats 4000000 in
set_option maxRecDepth 100000 in
theorem mX8_hold {l : Launch} {D : va_G} {cI cJ : ClassId} {adr : Nat → Nat} (p1 : Int32) (p2 : Int32) (p3 : Int32) (s0 : zkS) {z : Nat} {ro : Int32} {so : zkS} (hI : zInj 1 adr) (hf : fX8_hold p1 p2 p3 s0 = some (ro, so)) : Met l yX8_hold (Cond.code yX8_hold cX8_hold 5 (some .int) :: zTb) { frames := 3, cells := 0, slots := 0, locals := 68 } (zPre 1 D cI cJ adr s0 z [.ref (adr 0), .int p1, .int p2, .int p3]) (zQi 1 D cI cJ adr z ro so) 0 0 (zA 1 adr z) := by
  refine zen (cc := cX8_hold) (own := RX8) (by decide +kernel) rfl hI (Nat.le_of_ble_eq_true rfl) (fun p e s m args below meth c ls hC hr hlk hz hl hW => ?_)
  subst hz
  obtain ⟨hx, hb, -⟩ := id hC
  have hl : lv_has ls 5 [(0, .ref (adr 0)), (1, .int p1), (2, .int p2), (3, .int p3)] := hl
  refine zst hW (fun H locs hW => ?_)
  unfold fX8_hold at hf
  refine lv_aload_n hx hb dX8_hold_0 rfl (lv_at hl 0 rfl) ?_
  refine lv_iload_n hx hb dX8_hold_1 rfl (lv_at hl 1 rfl) ?_
  refine lv_iload_n hx hb dX8_hold_2 rfl (lv_at hl 2 rfl) ?_
  obtain ⟨v1, hq, hf⟩ := zb1_o hf
  refine zc_i hW (zrun_v (As := [.int p1, .int p2]) (rest := []) hC hW (mX8_isField p1 p2 s0 hC.2.2.2.2.2.2.2 hq) cv_X8_96 zck_1_0 zcs_1_0 rfl ⟨⟨rfl, rfl⟩, Nat.le_of_ble_eq_true rfl, Nat.le_of_ble_eq_true rfl⟩ (zlv_size hl) rfl (Nat.le_of_ble_eq_true rfl) dX8_hold_3 ⟨Nat.le_refl _, Nat.le_refl _⟩) (fun H locs hW => ?_)
  refine zi_if_eq (tgt := 22) hx hb dX8_hold_6 (by decide) hf (fun hc hf => ?_) (fun hc hf => ?_)
  · skip
    refine lv_iconst (v := (-1)) hx hb dX8_hold_22 (by decide) ?_
    exact zr_i hx hb hr hlk hW (zo1 hf) (zo2 hf) dX8_hold_23
  · skip
    refine lv_iload_n hx hb dX8_hold_9 rfl (lv_at hl 3 rfl) ?_
    refine lv_iconst (v := (-1)) hx hb dX8_hold_10 (by decide) ?_
    refine zjn_e hf (fun J2 => ∀ (u3 : Unit) (H : Heap) (locs : List Loc) (ls : Array Slot), J2 u3 = some (ro, so) → zWo 1 D cI cJ adr s s0 H locs → lv_has ls 5 [(0, .ref (adr 0)), (1, .int p1), (2, .int p2), (3, .int p3)] → W p l e { frames := 3, cells := 0, slots := 0, locals := 68 } s m args below meth c H locs 0 0 (MQ below (zQi 1 D cI cJ adr s.heap.size ro so) args s 0 0 (zA 1 adr s.heap.size)) (F0 m 24 ls [])) ?_ (fun J2 hJ2 hf => ?_)
    · intro u3 H locs ls hf hW hl
      refine lv_aload_n hx hb dX8_hold_24 rfl (lv_at hl 0 rfl) ?_
      refine zg_a (o := 0) hC hW fl_X8_11 zck_1_0 zcs_1_0 (show _ = 1 from rfl) dX8_hold_25 ?_
      refine lv_iconst (v := 2) hx hb dX8_hold_28 (by decide) ?_
      refine za_l hC hW hf zar_1_1 dX8_hold_29 (fun v4 hf => ?_)
      refine lv_iconst (v := 1) hx hb dX8_hold_30 (by decide) ?_
      refine zi_icmp_ne (tgt := 37) hx hb dX8_hold_31 (by decide) hf (fun hc hf => ?_) (fun hc hf => ?_)
      · skip
        refine lv_bipush (v := (-3)) hx hb dX8_hold_34 (by decide) ?_
        exact zr_i hx hb hr hlk hW (zo1 hf) (zo2 hf) dX8_hold_36
      · skip
        refine lv_aload_n hx hb dX8_hold_37 rfl (lv_at hl 0 rfl) ?_
        refine zg_a (o := 0) hC hW fl_X8_11 zck_1_0 zcs_1_0 (show _ = 1 from rfl) dX8_hold_38 ?_
        refine lv_sipush (v := 140) hx hb dX8_hold_41 (by decide) ?_
        refine lv_bipush (v := 6) hx hb dX8_hold_44 (by decide) ?_
        refine lv_iload_n hx hb dX8_hold_46 rfl (lv_at hl 1 rfl) ?_
        refine lv_imul hx hb dX8_hold_47 ?_
        refine lv_iadd hx hb dX8_hold_48 ?_
        refine lv_iload_n hx hb dX8_hold_49 rfl (lv_at hl 2 rfl) ?_
        refine lv_iadd hx hb dX8_hold_50 ?_
        refine za_l hC hW hf zar_1_1 dX8_hold_51 (fun v5 hf => ?_)
        refine lv_istore (lv' := [(4, .int v5), (0, .ref (adr 0)), (1, .int p1), (2, .int p2), (3, .int p3)]) hx hb dX8_hold_52 hl (by decide) rfl (fun ls hl => ?_)
        refine lv_aload_n hx hb dX8_hold_54 rfl (lv_at hl 1 rfl) ?_
        refine zg_a (o := 0) hC hW fl_X8_11 zck_1_0 zcs_1_0 (show _ = 1 from rfl) dX8_hold_55 ?_
        refine lv_sipush (v := 140) hx hb dX8_hold_58 (by decide) ?_
        refine lv_bipush (v := 6) hx hb dX8_hold_61 (by decide) ?_
        refine lv_iload_n hx hb dX8_hold_63 rfl (lv_at hl 2 rfl) ?_
        refine lv_imul hx hb dX8_hold_64 ?_
        refine lv_iadd hx hb dX8_hold_65 ?_
        refine lv_iload_n hx hb dX8_hold_66 rfl (lv_at hl 3 rfl) ?_
        refine lv_iadd hx hb dX8_hold_67 ?_
        refine lv_iload_n hx hb dX8_hold_68 rfl (lv_at hl 4 rfl) ?_
        refine lv_iconst (v := (-1)) hx hb dX8_hold_69 (by decide) ?_
        refine zi_icmp_ne (tgt := 78) hx hb dX8_hold_70 (by decide) hf (fun hc hf => ?_) (fun hc hf => ?_)
        · skip
          refine lv_bipush (v := (-5)) hx hb dX8_hold_73 (by decide) ?_
          refine lv_goto (tgt := 79) hx hb dX8_hold_75 (by decide) ?_
          refine za_s hC hW hf zar_1_1 dX8_hold_79 (fun s6 H locs hf hW => ?_)
          refine lv_aload_n hx hb dX8_hold_80 rfl (lv_at hl 1 rfl) ?_
          refine zg_a (o := 0) hC hW fl_X8_11 zck_1_0 zcs_1_0 (show _ = 1 from rfl) dX8_hold_81 ?_
          refine lv_bipush (v := 15) hx hb dX8_hold_84 (by decide) ?_
          refine lv_iconst (v := 0) hx hb dX8_hold_86 (by decide) ?_
          refine za_s hC hW hf zar_1_1 dX8_hold_87 (fun s7 H locs hf hW => ?_)
          refine lv_iload hx hb dX8_hold_88 (lv_at hl 0 rfl) ?_
          exact zr_i hx hb hr hlk hW (zo1 hf) (zo2 hf) dX8_hold_90
        · skip
          refine lv_iload_n hx hb dX8_hold_78 rfl (lv_at hl 4 rfl) ?_
          refine za_s hC hW hf zar_1_1 dX8_hold_79 (fun s8 H locs hf hW => ?_)
          refine lv_aload_n hx hb dX8_hold_80 rfl (lv_at hl 1 rfl) ?_
          refine zg_a (o := 0) hC hW fl_X8_11 zck_1_0 zcs_1_0 (show _ = 1 from rfl) dX8_hold_81 ?_
          refine lv_bipush (v := 15) hx hb dX8_hold_84 (by decide) ?_
          refine lv_iconst (v := 0) hx hb dX8_hold_86 (by decide) ?_
          refine za_s hC hW hf zar_1_1 dX8_hold_87 (fun s9 H locs hf hW => ?_)
          refine lv_iload hx hb dX8_hold_88 (lv_at hl 0 rfl) ?_
          exact zr_i hx hb hr hlk hW (zo1 hf) (zo2 hf) dX8_hold_90
    refine zi_icmp_eq (tgt := 24) hx hb dX8_hold_11 (by decide) hf (fun hc hf => ?_) (fun hc hf => ?_)
    · skip
      exact hJ2 () H locs ls hf hW (lv_sub hl [0, 1, 2, 3] rfl)
    · skip
      refine lv_aload_n hx hb dX8_hold_14 rfl (lv_at hl 0 rfl) ?_
      refine lv_iload_n hx hb dX8_hold_15 rfl (lv_at hl 3 rfl) ?_
      obtain ⟨v10, hq, hf⟩ := zb1_o hf
      refine zc_i hW (zrun_v (As := [.int p3]) (rest := []) hC hW (mX8_isThere p3 s0 hC.2.2.2.2.2.2.2 hq) cv_X8_65 zck_1_0 zcs_1_0 rfl ⟨⟨rfl, rfl⟩, Nat.le_of_ble_eq_true rfl, Nat.le_of_ble_eq_true rfl⟩ (zlv_size hl) rfl (Nat.le_of_ble_eq_true rfl) dX8_hold_16 ⟨Nat.le_refl _, Nat.le_refl _⟩) (fun H locs hW => ?_)
      refine zi_if_ne (tgt := 24) hx hb dX8_hold_19 (by decide) hf (fun hc hf => ?_) (fun hc hf => ?_)
      · skip
        refine lv_iconst (v := (-1)) hx hb dX8_hold_22 (by decide) ?_
        exact zr_i hx hb hr hlk hW (zo1 hf) (zo2 hf) dX8_hold_23
      · skip
        exact hJ2 () H locs ls hf hW (lv_sub hl [0, 1, 2, 3] rfl)
set_option maxHeartbeats 4000000 in
set_option maxRecDepth 100000 in
theorem mX8_tag {l : Launch} {D : va_G} {cI cJ : ClassId} {adr : Nat → Nat} (p1 : Int32) (p2 : Int32) (s0 : zkS) {z : Nat} {ro : Int32} {so : zkS} (hI : zInj 1 adr) (hf : fX8_tag p1 p2 s0 = some (ro, so)) : Met l yX8_tag (Cond.code yX8_tag cX8_tag 4 (some .int) :: zTb) { frames := 2, cells := 0, slots := 0, locals := 46 } (zPre 1 D cI cJ adr s0 z [.ref (adr 0), .int p1, .int p2]) (zQi 1 D cI cJ adr z ro so) 0 0 (zA 1 adr z) := by
  refine zen (cc := cX8_tag) (own := RX8) (by decide +kernel) rfl hI (Nat.le_of_ble_eq_true rfl) (fun p e s m args below meth c ls hC hr hlk hz hl hW => ?_)
  subst hz
  obtain ⟨hx, hb, -⟩ := id hC
  have hl : lv_has ls 4 [(0, .ref (adr 0)), (1, .int p1), (2, .int p2)] := hl
  refine zst hW (fun H locs hW => ?_)
  unfold fX8_tag at hf
  refine lv_aload_n hx hb dX8_tag_0 rfl (lv_at hl 0 rfl) ?_
  refine lv_iload_n hx hb dX8_tag_1 rfl (lv_at hl 1 rfl) ?_
  obtain ⟨v1, hq, hf⟩ := zb1_o hf
  refine zc_i hW (zrun_v (As := [.int p1]) (rest := []) hC hW (mX8_isThere p1 s0 hC.2.2.2.2.2.2.2 hq) cv_X8_65 zck_1_0 zcs_1_0 rfl ⟨⟨rfl, rfl⟩, Nat.le_of_ble_eq_true rfl, Nat.le_of_ble_eq_true rfl⟩ (zlv_size hl) rfl (Nat.le_of_ble_eq_true rfl) dX8_tag_2 ⟨Nat.le_refl _, Nat.le_refl _⟩) (fun H locs hW => ?_)
  refine zi_if_ne (tgt := 10) hx hb dX8_tag_5 (by decide) hf (fun hc hf => ?_) (fun hc hf => ?_)
  · skip
    refine lv_iconst (v := (-1)) hx hb dX8_tag_8 (by decide) ?_
    exact zr_i hx hb hr hlk hW (zo1 hf) (zo2 hf) dX8_tag_9
  · skip
    refine lv_iload_n hx hb dX8_tag_10 rfl (lv_at hl 2 rfl) ?_
    refine lv_i2l hx hb dX8_tag_11 rfl ?_
    refine lv_lconst (v := 0) hx hb dX8_tag_12 (by decide) ?_
    refine lv_ldc2 hx hb hC.2.2.2.1 (hC.2.2.2.2.1 _ wq_903) dX8_tag_13 ?_
    refine zc_i hW (zrun_s (As := [.long ((p2 : Int32).toInt64), .long 0, .long 9]) (rest := []) hC hW (mX8_in ((p2 : Int32).toInt64) 0 9 s0 hC.2.2.2.2.2.2.2 rfl) cs_X8_57 rfl ⟨⟨rfl, rfl⟩, Nat.le_of_ble_eq_true rfl, Nat.le_of_ble_eq_true rfl⟩ (zlv_size hl) rfl (Nat.le_of_ble_eq_true rfl) dX8_tag_16 ⟨Nat.le_refl _, Nat.le_refl _⟩) (fun H locs hW => ?_)
    refine zi_if_ne (tgt := 25) hx hb dX8_tag_19 (by decide) hf (fun hc hf => ?_) (fun hc hf => ?_)
    · skip
      refine lv_bipush (v := (-2)) hx hb dX8_tag_22 (by decide) ?_
      exact zr_i hx hb hr hlk hW (zo1 hf) (zo2 hf) dX8_tag_24
    · skip
      refine lv_aload_n hx hb dX8_tag_25 rfl (lv_at hl 0 rfl) ?_
      refine zg_a (o := 0) hC hW fl_X8_11 zck_1_0 zcs_1_0 (show _ = 1 from rfl) dX8_tag_26 ?_
      refine lv_iconst (v := 2) hx hb dX8_tag_29 (by decide) ?_
      refine za_l hC hW hf zar_1_1 dX8_tag_30 (fun v3 hf => ?_)
      refine lv_iconst (v := 1) hx hb dX8_tag_31 (by decide) ?_
      refine zi_icmp_ne (tgt := 38) hx hb dX8_tag_32 (by decide) hf (fun hc hf => ?_) (fun hc hf => ?_)
      · skip
        refine lv_bipush (v := (-3)) hx hb dX8_tag_35 (by decide) ?_
        exact zr_i hx hb hr hlk hW (zo1 hf) (zo2 hf) dX8_tag_37
      · skip
        refine lv_aload_n hx hb dX8_tag_38 rfl (lv_at hl 0 rfl) ?_
        refine zg_a (o := 0) hC hW fl_X8_11 zck_1_0 zcs_1_0 (show _ = 1 from rfl) dX8_tag_39 ?_
        refine lv_bipush (v := 44) hx hb dX8_tag_42 (by decide) ?_
        refine lv_iload_n hx hb dX8_tag_44 rfl (lv_at hl 1 rfl) ?_
        refine lv_iadd hx hb dX8_tag_45 ?_
        refine za_l hC hW hf zar_1_1 dX8_tag_46 (fun v4 hf => ?_)
        refine lv_istore_n (lv' := [(3, .int v4), (0, .ref (adr 0)), (1, .int p1), (2, .int p2)]) hx hb dX8_tag_47 rfl hl (by decide) rfl (fun ls hl => ?_)
        refine lv_aload_n hx hb dX8_tag_48 rfl (lv_at hl 1 rfl) ?_
        refine zg_a (o := 0) hC hW fl_X8_11 zck_1_0 zcs_1_0 (show _ = 1 from rfl) dX8_tag_49 ?_
        refine lv_bipush (v := 44) hx hb dX8_tag_52 (by decide) ?_
        refine lv_iload_n hx hb dX8_tag_54 rfl (lv_at hl 2 rfl) ?_
        refine lv_iadd hx hb dX8_tag_55 ?_
        refine lv_iload_n hx hb dX8_tag_56 rfl (lv_at hl 3 rfl) ?_
        refine za_s hC hW hf zar_1_1 dX8_tag_57 (fun s5 H locs hf hW => ?_)
        refine lv_aload_n hx hb dX8_tag_58 rfl (lv_at hl 1 rfl) ?_
        refine zg_a (o := 0) hC hW fl_X8_11 zck_1_0 zcs_1_0 (show _ = 1 from rfl) dX8_tag_59 ?_
        refine lv_bipush (v := 15) hx hb dX8_tag_62 (by decide) ?_
        refine lv_iconst (v := 0) hx hb dX8_tag_64 (by decide) ?_
        refine za_s hC hW hf zar_1_1 dX8_tag_65 (fun s6 H locs hf hW => ?_)
        refine lv_iload_n hx hb dX8_tag_66 rfl (lv_at hl 0 rfl) ?_
        exact zr_i hx hb hr hlk hW (zo1 hf) (zo2 hf) dX8_tag_67
set_option maxHeartbeats 4000000 in
set_option maxRecDepth 100000 in
theorem mX8_root {l : Launch} {D : va_G} {cI cJ : ClassId} {adr : Nat → Nat} (p1 : Int32) (p2 : Int32) (s0 : zkS) {z : Nat} {ro : Int32} {so : zkS} (hI : zInj 1 adr) (hf : fX8_root p1 p2 s0 = some (ro, so)) : Met l yX8_root (Cond.code yX8_root cX8_root 4 (some .int) :: zTb) { frames := 2, cells := 0, slots := 0, locals := 46 } (zPre 1 D cI cJ adr s0 z [.ref (adr 0), .int p1, .int p2]) (zQi 1 D cI cJ adr z ro so) 0 0 (zA 1 adr z) := by
  refine zen (cc := cX8_root) (own := RX8) (by decide +kernel) rfl hI (Nat.le_of_ble_eq_true rfl) (fun p e s m args below meth c ls hC hr hlk hz hl hW => ?_)
  subst hz
  obtain ⟨hx, hb, -⟩ := id hC
  have hl : lv_has ls 4 [(0, .ref (adr 0)), (1, .int p1), (2, .int p2)] := hl
  refine zst hW (fun H locs hW => ?_)
  unfold fX8_root at hf
  refine lv_iload_n hx hb dX8_root_0 rfl (lv_at hl 1 rfl) ?_
  refine lv_i2l hx hb dX8_root_1 rfl ?_
  refine lv_lconst (v := 0) hx hb dX8_root_2 (by decide) ?_
  refine lv_ldc2 hx hb hC.2.2.2.1 (hC.2.2.2.2.1 _ wq_986) dX8_root_3 ?_
  refine zc_i hW (zrun_s (As := [.long ((p1 : Int32).toInt64), .long 0, .long 3]) (rest := []) hC hW (mX8_in ((p1 : Int32).toInt64) 0 3 s0 hC.2.2.2.2.2.2.2 rfl) cs_X8_57 rfl ⟨⟨rfl, rfl⟩, Nat.le_of_ble_eq_true rfl, Nat.le_of_ble_eq_true rfl⟩ (zlv_size hl) rfl (Nat.le_of_ble_eq_true rfl) dX8_root_6 ⟨Nat.le_refl _, Nat.le_refl _⟩) (fun H locs hW => ?_)
  refine zi_if_eq (tgt := 25) hx hb dX8_root_9 (by decide) hf (fun hc hf => ?_) (fun hc hf => ?_)
  · skip
    refine lv_iconst (v := (-1)) hx hb dX8_root_25 (by decide) ?_
    exact zr_i hx hb hr hlk hW (zo1 hf) (zo2 hf) dX8_root_26
  · skip
    refine lv_iload_n hx hb dX8_root_12 rfl (lv_at hl 2 rfl) ?_
    refine lv_iconst (v := (-1)) hx hb dX8_root_13 (by decide) ?_
    refine zjn_e hf (fun J2 => ∀ (u3 : Unit) (H : Heap) (locs : List Loc) (ls : Array Slot), J2 u3 = some (ro, so) → zWo 1 D cI cJ adr s s0 H locs → lv_has ls 4 [(0, .ref (adr 0)), (1, .int p1), (2, .int p2)] → W p l e { frames := 2, cells := 0, slots := 0, locals := 46 } s m args below meth c H locs 0 0 (MQ below (zQi 1 D cI cJ adr s.heap.size ro so) args s 0 0 (zA 1 adr s.heap.size)) (F0 m 27 ls [])) ?_ (fun J2 hJ2 hf => ?_)
    · intro u3 H locs ls hf hW hl
      refine lv_aload_n hx hb dX8_root_27 rfl (lv_at hl 0 rfl) ?_
      refine zg_a (o := 0) hC hW fl_X8_11 zck_1_0 zcs_1_0 (show _ = 1 from rfl) dX8_root_28 ?_
      refine lv_iconst (v := 2) hx hb dX8_root_31 (by decide) ?_
      refine za_l hC hW hf zar_1_1 dX8_root_32 (fun v4 hf => ?_)
      refine lv_iconst (v := 1) hx hb dX8_root_33 (by decide) ?_
      refine zi_icmp_ne (tgt := 40) hx hb dX8_root_34 (by decide) hf (fun hc hf => ?_) (fun hc hf => ?_)
      · skip
        refine lv_bipush (v := (-3)) hx hb dX8_root_37 (by decide) ?_
        exact zr_i hx hb hr hlk hW (zo1 hf) (zo2 hf) dX8_root_39
      · skip
        refine lv_aload_n hx hb dX8_root_40 rfl (lv_at hl 0 rfl) ?_
        refine zg_a (o := 0) hC hW fl_X8_11 zck_1_0 zcs_1_0 (show _ = 1 from rfl) dX8_root_41 ?_
        refine lv_bipush (v := 16) hx hb dX8_root_44 (by decide) ?_
        refine lv_iload_n hx hb dX8_root_46 rfl (lv_at hl 1 rfl) ?_
        refine lv_iadd hx hb dX8_root_47 ?_
        refine za_l hC hW hf zar_1_1 dX8_root_48 (fun v5 hf => ?_)
        refine lv_istore_n (lv' := [(3, .int v5), (0, .ref (adr 0)), (1, .int p1), (2, .int p2)]) hx hb dX8_root_49 rfl hl (by decide) rfl (fun ls hl => ?_)
        refine lv_aload_n hx hb dX8_root_50 rfl (lv_at hl 1 rfl) ?_
        refine zg_a (o := 0) hC hW fl_X8_11 zck_1_0 zcs_1_0 (show _ = 1 from rfl) dX8_root_51 ?_
        refine lv_bipush (v := 16) hx hb dX8_root_54 (by decide) ?_
        refine lv_iload_n hx hb dX8_root_56 rfl (lv_at hl 2 rfl) ?_
        refine lv_iadd hx hb dX8_root_57 ?_
        refine lv_iload_n hx hb dX8_root_58 rfl (lv_at hl 3 rfl) ?_
        refine lv_iconst (v := (-1)) hx hb dX8_root_59 (by decide) ?_
        refine zi_icmp_ne (tgt := 68) hx hb dX8_root_60 (by decide) hf (fun hc hf => ?_) (fun hc hf => ?_)
        · skip
          refine lv_bipush (v := (-5)) hx hb dX8_root_63 (by decide) ?_
          refine lv_goto (tgt := 69) hx hb dX8_root_65 (by decide) ?_
          refine za_s hC hW hf zar_1_1 dX8_root_69 (fun s6 H locs hf hW => ?_)
          refine lv_aload_n hx hb dX8_root_70 rfl (lv_at hl 1 rfl) ?_
          refine zg_a (o := 0) hC hW fl_X8_11 zck_1_0 zcs_1_0 (show _ = 1 from rfl) dX8_root_71 ?_
          refine lv_bipush (v := 15) hx hb dX8_root_74 (by decide) ?_
          refine lv_iconst (v := 0) hx hb dX8_root_76 (by decide) ?_
          refine za_s hC hW hf zar_1_1 dX8_root_77 (fun s7 H locs hf hW => ?_)
          refine lv_iload_n hx hb dX8_root_78 rfl (lv_at hl 0 rfl) ?_
          exact zr_i hx hb hr hlk hW (zo1 hf) (zo2 hf) dX8_root_79
        · skip
          refine lv_iload_n hx hb dX8_root_68 rfl (lv_at hl 3 rfl) ?_
          refine za_s hC hW hf zar_1_1 dX8_root_69 (fun s8 H locs hf hW => ?_)
          refine lv_aload_n hx hb dX8_root_70 rfl (lv_at hl 1 rfl) ?_
          refine zg_a (o := 0) hC hW fl_X8_11 zck_1_0 zcs_1_0 (show _ = 1 from rfl) dX8_root_71 ?_
          refine lv_bipush (v := 15) hx hb dX8_root_74 (by decide) ?_
          refine lv_iconst (v := 0) hx hb dX8_root_76 (by decide) ?_
          refine za_s hC hW hf zar_1_1 dX8_root_77 (fun s9 H locs hf hW => ?_)
          refine lv_iload_n hx hb dX8_root_78 rfl (lv_at hl 0 rfl) ?_
          exact zr_i hx hb hr hlk hW (zo1 hf) (zo2 hf) dX8_root_79
    refine zi_icmp_eq (tgt := 27) hx hb dX8_root_14 (by decide) hf (fun hc hf => ?_) (fun hc hf => ?_)
    · skip
      exact hJ2 () H locs ls hf hW (lv_sub hl [0, 1, 2] rfl)
    · skip
      refine lv_aload_n hx hb dX8_root_17 rfl (lv_at hl 0 rfl) ?_
      refine lv_iload_n hx hb dX8_root_18 rfl (lv_at hl 2 rfl) ?_
      obtain ⟨v10, hq, hf⟩ := zb1_o hf
      refine zc_i hW (zrun_v (As := [.int p2]) (rest := []) hC hW (mX8_isThere p2 s0 hC.2.2.2.2.2.2.2 hq) cv_X8_65 zck_1_0 zcs_1_0 rfl ⟨⟨rfl, rfl⟩, Nat.le_of_ble_eq_true rfl, Nat.le_of_ble_eq_true rfl⟩ (zlv_size hl) rfl (Nat.le_of_ble_eq_true rfl) dX8_root_19 ⟨Nat.le_refl _, Nat.le_refl _⟩) (fun H locs hW => ?_)
      refine zi_if_ne (tgt := 27) hx hb dX8_root_22 (by decide) hf (fun hc hf => ?_) (fun hc hf => ?_)
      · skip
        refine lv_iconst (v := (-1)) hx hb dX8_root_25 (by decide) ?_
        exact zr_i hx hb hr hlk hW (zo1 hf) (zo2 hf) dX8_root_26
      · skip
        exact hJ2 () H locs ls hf hW (lv_sub hl [0, 1, 2] rfl)
set_option maxHeartbeats 4000000 in
set_option maxRecDepth 100000 in
theorem mX8_pin {l : Launch} {D : va_G} {cI cJ : ClassId} {adr : Nat → Nat} (p1 : Int32) (p2 : Int32) (s0 : zkS) {z : Nat} {ro : Int32} {so : zkS} (hI : zInj 1 adr) (hf : fX8_pin p1 p2 s0 = some (ro, so)) : Met l yX8_pin (Cond.code yX8_pin cX8_pin 4 (some .int) :: zTb) { frames := 2, cells := 0, slots := 0, locals := 46 } (zPre 1 D cI cJ adr s0 z [.ref (adr 0), .int p1, .int p2]) (zQi 1 D cI cJ adr z ro so) 0 0 (zA 1 adr z) := by
  refine zen (cc := cX8_pin) (own := RX8) (by decide +kernel) rfl hI (Nat.le_of_ble_eq_true rfl) (fun p e s m args below meth c ls hC hr hlk hz hl hW => ?_)
  subst hz
  obtain ⟨hx, hb, -⟩ := id hC
  have hl : lv_has ls 4 [(0, .ref (adr 0)), (1, .int p1), (2, .int p2)] := hl
  refine zst hW (fun H locs hW => ?_)
  unfold fX8_pin at hf
  refine lv_aload_n hx hb dX8_pin_0 rfl (lv_at hl 0 rfl) ?_
  refine lv_iload_n hx hb dX8_pin_1 rfl (lv_at hl 1 rfl) ?_
  obtain ⟨v1, hq, hf⟩ := zb1_o hf
  refine zc_i hW (zrun_v (As := [.int p1]) (rest := []) hC hW (mX8_isThere p1 s0 hC.2.2.2.2.2.2.2 hq) cv_X8_65 zck_1_0 zcs_1_0 rfl ⟨⟨rfl, rfl⟩, Nat.le_of_ble_eq_true rfl, Nat.le_of_ble_eq_true rfl⟩ (zlv_size hl) rfl (Nat.le_of_ble_eq_true rfl) dX8_pin_2 ⟨Nat.le_refl _, Nat.le_refl _⟩) (fun H locs hW => ?_)
  refine zi_if_ne (tgt := 10) hx hb dX8_pin_5 (by decide) hf (fun hc hf => ?_) (fun hc hf => ?_)
  · skip
    refine lv_iconst (v := (-1)) hx hb dX8_pin_8 (by decide) ?_
    exact zr_i hx hb hr hlk hW (zo1 hf) (zo2 hf) dX8_pin_9
  · skip
    refine lv_aload_n hx hb dX8_pin_10 rfl (lv_at hl 0 rfl) ?_
    refine lv_iload_n hx hb dX8_pin_11 rfl (lv_at hl 1 rfl) ?_
    obtain ⟨v2, hq, hf⟩ := zb1_o hf
    refine zc_i hW (zrun_v (As := [.int p1]) (rest := []) hC hW (mX8_turnedAt p1 s0 hC.2.2.2.2.2.2.2 hq) cv_X8_132 zck_1_0 zcs_1_0 rfl ⟨⟨rfl, rfl⟩, Nat.le_of_ble_eq_true rfl, Nat.le_of_ble_eq_true rfl⟩ (zlv_size hl) rfl (Nat.le_of_ble_eq_true rfl) dX8_pin_12 ⟨Nat.le_refl _, Nat.le_refl _⟩) (fun H locs hW => ?_)
    refine zi_if_lt (tgt := 21) hx hb dX8_pin_15 (by decide) hf (fun hc hf => ?_) (fun hc hf => ?_)
    · skip
      refine lv_aload_n hx hb dX8_pin_21 rfl (lv_at hl 0 rfl) ?_
      refine zg_a (o := 0) hC hW fl_X8_11 zck_1_0 zcs_1_0 (show _ = 1 from rfl) dX8_pin_22 ?_
      refine lv_bipush (v := 14) hx hb dX8_pin_25 (by decide) ?_
      refine za_l hC hW hf zar_1_1 dX8_pin_27 (fun v3 hf => ?_)
      refine lv_iload_n hx hb dX8_pin_28 rfl (lv_at hl 1 rfl) ?_
      refine zc_i hW (zrun_s (As := [.int v3, .int p1]) (rest := []) hC hW (mX8_bit v3 p1 s0 hC.2.2.2.2.2.2.2 rfl) cs_X8_61 rfl ⟨⟨rfl, rfl⟩, Nat.le_of_ble_eq_true rfl, Nat.le_of_ble_eq_true rfl⟩ (zlv_size hl) rfl (Nat.le_of_ble_eq_true rfl) dX8_pin_29 ⟨Nat.le_refl _, Nat.le_refl _⟩) (fun H locs hW => ?_)
      refine zc_i hW (zrun_s (As := [.int (fX8_bit v3 p1)]) (rest := []) hC hW (mX8_flag (fX8_bit v3 p1) s0 hC.2.2.2.2.2.2.2 rfl) cs_X8_106 rfl ⟨⟨rfl, rfl⟩, Nat.le_of_ble_eq_true rfl, Nat.le_of_ble_eq_true rfl⟩ (zlv_size hl) rfl (Nat.le_of_ble_eq_true rfl) dX8_pin_32 ⟨Nat.le_refl _, Nat.le_refl _⟩) (fun H locs hW => ?_)
      refine zn_i hf (fun v6 hf => ?_)
      refine lv_istore_n (lv' := [(3, .int v6), (0, .ref (adr 0)), (1, .int p1), (2, .int p2)]) hx hb dX8_pin_35 rfl hl (by decide) rfl (fun ls hl => ?_)
      refine lv_aload_n hx hb dX8_pin_36 rfl (lv_at hl 1 rfl) ?_
      refine zg_a (o := 0) hC hW fl_X8_11 zck_1_0 zcs_1_0 (show _ = 1 from rfl) dX8_pin_37 ?_
      refine lv_bipush (v := 14) hx hb dX8_pin_40 (by decide) ?_
      refine lv_iload_n hx hb dX8_pin_42 rfl (lv_at hl 3 rfl) ?_
      refine zi_if_eq (tgt := 60) hx hb dX8_pin_43 (by decide) hf (fun hc hf => ?_) (fun hc hf => ?_)
      · skip
        refine lv_aload_n hx hb dX8_pin_60 rfl (lv_at hl 1 rfl) ?_
        refine zg_a (o := 0) hC hW fl_X8_11 zck_1_0 zcs_1_0 (show _ = 1 from rfl) dX8_pin_61 ?_
        refine lv_bipush (v := 14) hx hb dX8_pin_64 (by decide) ?_
        refine za_l hC hW hf zar_1_1 dX8_pin_66 (fun v7 hf => ?_)
        refine lv_iconst (v := 1) hx hb dX8_pin_67 (by decide) ?_
        refine lv_iload_n hx hb dX8_pin_68 rfl (lv_at hl 2 rfl) ?_
        refine lv_ishl hx hb dX8_pin_69 ?_
        refine lv_iconst (v := (-1)) hx hb dX8_pin_70 (by decide) ?_
        refine lv_ixor hx hb dX8_pin_71 ?_
        refine lv_iand hx hb dX8_pin_72 ?_
        refine za_s hC hW hf zar_1_1 dX8_pin_73 (fun s8 H locs hf hW => ?_)
        refine lv_iload_n hx hb dX8_pin_74 rfl (lv_at hl 0 rfl) ?_
        exact zr_i hx hb hr hlk hW (zo1 hf) (zo2 hf) dX8_pin_75
      · skip
        refine lv_aload_n hx hb dX8_pin_46 rfl (lv_at hl 1 rfl) ?_
        refine zg_a (o := 0) hC hW fl_X8_11 zck_1_0 zcs_1_0 (show _ = 1 from rfl) dX8_pin_47 ?_
        refine lv_bipush (v := 14) hx hb dX8_pin_50 (by decide) ?_
        refine za_l hC hW hf zar_1_1 dX8_pin_52 (fun v9 hf => ?_)
        refine lv_iconst (v := 1) hx hb dX8_pin_53 (by decide) ?_
        refine lv_iload_n hx hb dX8_pin_54 rfl (lv_at hl 2 rfl) ?_
        refine lv_ishl hx hb dX8_pin_55 ?_
        refine lv_ior hx hb dX8_pin_56 ?_
        refine lv_goto (tgt := 73) hx hb dX8_pin_57 (by decide) ?_
        refine za_s hC hW hf zar_1_1 dX8_pin_73 (fun s10 H locs hf hW => ?_)
        refine lv_iload_n hx hb dX8_pin_74 rfl (lv_at hl 0 rfl) ?_
        exact zr_i hx hb hr hlk hW (zo1 hf) (zo2 hf) dX8_pin_75
    · skip
      refine lv_bipush (v := (-3)) hx hb dX8_pin_18 (by decide) ?_
      exact zr_i hx hb hr hlk hW (zo1 hf) (zo2 hf) dX8_pin_20
set_option maxHeartbeats 4000000 in
set_option maxRecDepth 100000 in
theorem mX8_feed {l : Launch} {D : va_G} {cI cJ : ClassId} {adr : Nat → Nat} (p1 : Int32) (s0 : zkS) {z : Nat} {ro : Int32} {so : zkS} (hI : zInj 1 adr) (hf : fX8_feed p1 s0 = some (ro, so)) : Met l yX8_feed (Cond.code yX8_feed cX8_feed 2 (some .int) :: zTb) { frames := 1, cells := 0, slots := 0, locals := 25 } (zPre 1 D cI cJ adr s0 z [.ref (adr 0), .int p1]) (zQi 1 D cI cJ adr z ro so) 0 0 (zA 1 adr z) := by
  refine zen (cc := cX8_feed) (own := RX8) (by decide +kernel) rfl hI (Nat.le_of_ble_eq_true rfl) (fun p e s m args below meth c ls hC hr hlk hz hl hW => ?_)
  subst hz
  obtain ⟨hx, hb, -⟩ := id hC
  have hl : lv_has ls 2 [(0, .ref (adr 0)), (1, .int p1)] := hl
  refine zst hW (fun H locs hW => ?_)
  unfold fX8_feed at hf
  refine lv_iload_n hx hb dX8_feed_0 rfl (lv_at hl 1 rfl) ?_
  refine lv_i2l hx hb dX8_feed_1 rfl ?_
  refine lv_lconst (v := 0) hx hb dX8_feed_2 (by decide) ?_
  refine lv_ldc2 hx hb hC.2.2.2.1 (hC.2.2.2.2.1 _ wq_995) dX8_feed_3 ?_
  refine zc_i hW (zrun_s (As := [.long ((p1 : Int32).toInt64), .long 0, .long 127]) (rest := []) hC hW (mX8_in ((p1 : Int32).toInt64) 0 127 s0 hC.2.2.2.2.2.2.2 rfl) cs_X8_57 rfl ⟨⟨rfl, rfl⟩, Nat.le_of_ble_eq_true rfl, Nat.le_of_ble_eq_true rfl⟩ (zlv_size hl) rfl (Nat.le_of_ble_eq_true rfl) dX8_feed_6 ⟨Nat.le_refl _, Nat.le_refl _⟩) (fun H locs hW => ?_)
  refine zi_if_ne (tgt := 15) hx hb dX8_feed_9 (by decide) hf (fun hc hf => ?_) (fun hc hf => ?_)
  · skip
    refine lv_bipush (v := (-2)) hx hb dX8_feed_12 (by decide) ?_
    exact zr_i hx hb hr hlk hW (zo1 hf) (zo2 hf) dX8_feed_14
  · skip
    refine lv_aload_n hx hb dX8_feed_15 rfl (lv_at hl 0 rfl) ?_
    refine zg_i hC hW fl_X8_139 zck_1_0 zcs_1_0 dX8_feed_16 ?_
    refine lv_bipush (v := 100) hx hb dX8_feed_19 (by decide) ?_
    refine zi_icmp_ne (tgt := 27) hx hb dX8_feed_21 (by decide) hf (fun hc hf => ?_) (fun hc hf => ?_)
    · skip
      refine lv_bipush (v := (-4)) hx hb dX8_feed_24 (by decide) ?_
      exact zr_i hx hb hr hlk hW (zo1 hf) (zo2 hf) dX8_feed_26
    · skip
      refine lv_aload_n hx hb dX8_feed_27 rfl (lv_at hl 0 rfl) ?_
      refine zg_a (o := 3) hC hW fl_X8_21 zck_1_0 zcs_1_0 (show _ = 4 from rfl) dX8_feed_28 ?_
      refine lv_aload_n hx hb dX8_feed_31 rfl (lv_at hl 0 rfl) ?_
      refine zg_i hC hW fl_X8_139 zck_1_0 zcs_1_0 dX8_feed_32 ?_
      refine lv_iload_n hx hb dX8_feed_35 rfl (lv_at hl 1 rfl) ?_
      refine za_s hC hW hf zar_1_4 dX8_feed_36 (fun s2 H locs hf hW => ?_)
      refine lv_aload_n hx hb dX8_feed_37 rfl (lv_at hl 0 rfl) ?_
      refine lv_dup hx hb dX8_feed_38 rfl ?_
      refine zg_i hC hW fl_X8_139 zck_1_0 zcs_1_0 dX8_feed_39 ?_
      refine lv_iconst (v := 1) hx hb dX8_feed_42 (by decide) ?_
      refine lv_iadd hx hb dX8_feed_43 ?_
      refine zp_i hC hW hf fp_X8_139 zck_1_0 zcs_1_0 dX8_feed_44 (fun s3 H locs hf hW => ?_)
      refine lv_aload_n hx hb dX8_feed_47 rfl (lv_at hl 0 rfl) ?_
      refine zg_i hC hW fl_X8_139 zck_1_0 zcs_1_0 dX8_feed_48 ?_
      exact zr_i hx hb hr hlk hW (zo1 hf) (zo2 hf) dX8_feed_51
set_option maxHeartbeats 4000000 in
set_option maxRecDepth 100000 in
theorem mX8_isNew {l : Launch} {D : va_G} {cI cJ : ClassId} {adr : Nat → Nat} (p1 : Int32) (p2 : Int32) (s0 : zkS) {z : Nat} {ro : Int32} {so : zkS} (hI : zInj 1 adr) (hf : fX8_isNew p1 p2 s0 = some (ro, so)) : Met l yX8_isNew (Cond.code yX8_isNew cX8_isNew 3 (some .int) :: zTb) { frames := 0, cells := 0, slots := 0, locals := 0 } (zPre 1 D cI cJ adr s0 z [.ref (adr 0), .int p1, .int p2]) (zQi 1 D cI cJ adr z ro so) 0 0 (zA 1 adr z) := by
  refine zen (cc := cX8_isNew) (own := RX8) (by decide +kernel) rfl hI (Nat.le_of_ble_eq_true rfl) (fun p e s m args below meth c ls hC hr hlk hz hl hW => ?_)
  subst hz
  obtain ⟨hx, hb, -⟩ := id hC
  have hl : lv_has ls 3 [(0, .ref (adr 0)), (1, .int p1), (2, .int p2)] := hl
  refine zst hW (fun H locs hW => ?_)
  unfold fX8_isNew at hf
  refine lv_aload_n hx hb dX8_isNew_0 rfl (lv_at hl 0 rfl) ?_
  refine zg_a (o := 7) hC hW fl_X8_33 zck_1_0 zcs_1_0 (show _ = 8 from rfl) dX8_isNew_1 ?_
  refine lv_aload_n hx hb dX8_isNew_4 rfl (lv_at hl 0 rfl) ?_
  refine zg_i hC hW fl_X8_143 zck_1_0 zcs_1_0 dX8_isNew_5 ?_
  refine lv_iload_n hx hb dX8_isNew_8 rfl (lv_at hl 1 rfl) ?_
  refine za_s hC hW hf zar_1_8 dX8_isNew_9 (fun s1 H locs hf hW => ?_)
  refine lv_aload_n hx hb dX8_isNew_10 rfl (lv_at hl 0 rfl) ?_
  refine zg_a (o := 8) hC hW fl_X8_36 zck_1_0 zcs_1_0 (show _ = 9 from rfl) dX8_isNew_11 ?_
  refine lv_aload_n hx hb dX8_isNew_14 rfl (lv_at hl 0 rfl) ?_
  refine zg_i hC hW fl_X8_143 zck_1_0 zcs_1_0 dX8_isNew_15 ?_
  refine lv_iload_n hx hb dX8_isNew_18 rfl (lv_at hl 2 rfl) ?_
  refine za_s hC hW hf zar_1_9 dX8_isNew_19 (fun s2 H locs hf hW => ?_)
  refine lv_aload_n hx hb dX8_isNew_20 rfl (lv_at hl 0 rfl) ?_
  refine zg_a (o := 9) hC hW fl_X8_39 zck_1_0 zcs_1_0 (show _ = 10 from rfl) dX8_isNew_21 ?_
  refine lv_aload_n hx hb dX8_isNew_24 rfl (lv_at hl 0 rfl) ?_
  refine zg_i hC hW fl_X8_143 zck_1_0 zcs_1_0 dX8_isNew_25 ?_
  refine lv_iconst (v := 0) hx hb dX8_isNew_28 (by decide) ?_
  refine za_s hC hW hf zar_1_10 dX8_isNew_29 (fun s3 H locs hf hW => ?_)
  refine lv_aload_n hx hb dX8_isNew_30 rfl (lv_at hl 0 rfl) ?_
  refine lv_dup hx hb dX8_isNew_31 rfl ?_
  refine zg_i hC hW fl_X8_143 zck_1_0 zcs_1_0 dX8_isNew_32 ?_
  refine lv_iconst (v := 1) hx hb dX8_isNew_35 (by decide) ?_
  refine lv_iadd hx hb dX8_isNew_36 ?_
  refine zp_i hC hW hf fp_X8_143 zck_1_0 zcs_1_0 dX8_isNew_37 (fun s4 H locs hf hW => ?_)
  refine lv_aload_n hx hb dX8_isNew_40 rfl (lv_at hl 0 rfl) ?_
  refine zg_i hC hW fl_X8_143 zck_1_0 zcs_1_0 dX8_isNew_41 ?_
  refine lv_iconst (v := 1) hx hb dX8_isNew_44 (by decide) ?_
  refine lv_isub hx hb dX8_isNew_45 ?_
  exact zr_i hx hb hr hlk hW (zo1 hf) (zo2 hf) dX8_isNew_46
set_option maxHeartbeats 4000000 in
set_option maxRecDepth 100000 in
theorem mX8_gives {l : Launch} {D : va_G} {cI cJ : ClassId} {adr : Nat → Nat} (p1 : Int32) (s0 : zkS) {z : Nat} {so : zkS} (hI : zInj 1 adr) (hf : fX8_gives p1 s0 = some so) : Met l yX8_gives (Cond.code yX8_gives cX8_gives 3 none :: zTb) { frames := 0, cells := 0, slots := 0, locals := 0 } (zPre 1 D cI cJ adr s0 z [.ref (adr 0), .int p1]) (zQv 1 D cI cJ adr z so) 0 0 (zA 1 adr z) := by
  refine zen (cc := cX8_gives) (own := RX8) (by decide +kernel) rfl hI (Nat.le_of_ble_eq_true rfl) (fun p e s m args below meth c ls hC hr hlk hz hl hW => ?_)
  subst hz
  obtain ⟨hx, hb, -⟩ := id hC
  have hl : lv_has ls 3 [(0, .ref (adr 0)), (1, .int p1)] := hl
  refine zst hW (fun H locs hW => ?_)
  unfold fX8_gives at hf
  refine lv_aload_n hx hb dX8_gives_0 rfl (lv_at hl 0 rfl) ?_
  refine zg_i hC hW fl_X8_146 zck_1_0 zcs_1_0 dX8_gives_1 ?_
  refine zi_if_ne (tgt := 18) hx hb dX8_gives_4 (by decide) hf (fun hc hf => ?_) (fun hc hf => ?_)
  · skip
    refine lv_aload_n hx hb dX8_gives_7 rfl (lv_at hl 0 rfl) ?_
    refine lv_iload_n hx hb dX8_gives_8 rfl (lv_at hl 1 rfl) ?_
    refine zp_i hC hW hf fp_X8_149 zck_1_0 zcs_1_0 dX8_gives_9 (fun s1 H locs hf hW => ?_)
    refine lv_aload_n hx hb dX8_gives_12 rfl (lv_at hl 0 rfl) ?_
    refine lv_iconst (v := 1) hx hb dX8_gives_13 (by decide) ?_
    refine zp_y hC hW hf (by decide) fp_X8_152 zck_1_0 zcs_1_0 dX8_gives_14 (fun s2 H locs hf hW => ?_)
    exact zr_v hx hb hr hlk hW (Option.some.inj hf) dX8_gives_17
  · skip
    refine lv_aload_n hx hb dX8_gives_18 rfl (lv_at hl 0 rfl) ?_
    refine zg_a (o := 4) hC hW fl_X8_24 zck_1_0 zcs_1_0 (show _ = 5 from rfl) dX8_gives_19 ?_
    refine lv_aload_n hx hb dX8_gives_22 rfl (lv_at hl 0 rfl) ?_
    refine zg_i hC hW fl_X8_146 zck_1_0 zcs_1_0 dX8_gives_23 ?_
    refine lv_iconst (v := 1) hx hb dX8_gives_26 (by decide) ?_
    refine lv_isub hx hb dX8_gives_27 ?_
    refine za_l hC hW hf zar_1_5 dX8_gives_28 (fun v3 hf => ?_)
    refine lv_istore_n (lv' := [(2, .int v3), (0, .ref (adr 0)), (1, .int p1)]) hx hb dX8_gives_29 rfl hl (by decide) rfl (fun ls hl => ?_)
    refine lv_aload_n hx hb dX8_gives_30 rfl (lv_at hl 1 rfl) ?_
    refine zg_a (o := 10) hC hW fl_X8_42 zck_1_0 zcs_1_0 (show _ = 11 from rfl) dX8_gives_31 ?_
    refine lv_bipush (v := 6) hx hb dX8_gives_34 (by decide) ?_
    refine lv_iload_n hx hb dX8_gives_36 rfl (lv_at hl 0 rfl) ?_
    refine lv_imul hx hb dX8_gives_37 ?_
    refine lv_aload_n hx hb dX8_gives_38 rfl (lv_at hl 1 rfl) ?_
    refine zg_a (o := 9) hC hW fl_X8_39 zck_1_0 zcs_1_0 (show _ = 10 from rfl) dX8_gives_39 ?_
    refine lv_iload_n hx hb dX8_gives_42 rfl (lv_at hl 0 rfl) ?_
    refine za_l hC hW hf zar_1_10 dX8_gives_43 (fun v4 hf => ?_)
    refine lv_iadd hx hb dX8_gives_44 ?_
    refine lv_iload_n hx hb dX8_gives_45 rfl (lv_at hl 2 rfl) ?_
    refine za_s hC hW hf zar_1_11 dX8_gives_46 (fun s5 H locs hf hW => ?_)
    refine lv_aload_n hx hb dX8_gives_47 rfl (lv_at hl 1 rfl) ?_
    refine zg_a (o := 9) hC hW fl_X8_39 zck_1_0 zcs_1_0 (show _ = 10 from rfl) dX8_gives_48 ?_
    refine lv_iload_n hx hb dX8_gives_51 rfl (lv_at hl 0 rfl) ?_
    refine lv_dup2_11 hx hb dX8_gives_52 rfl rfl ?_
    refine za_l hC hW hf zar_1_10 dX8_gives_53 (fun v6 hf => ?_)
    refine lv_iconst (v := 1) hx hb dX8_gives_54 (by decide) ?_
    refine lv_iadd hx hb dX8_gives_55 ?_
    refine za_s hC hW hf zar_1_10 dX8_gives_56 (fun s7 H locs hf hW => ?_)
    refine lv_aload_n hx hb dX8_gives_57 rfl (lv_at hl 1 rfl) ?_
    refine zg_a (o := 6) hC hW fl_X8_30 zck_1_0 zcs_1_0 (show _ = 7 from rfl) dX8_gives_58 ?_
    refine lv_aload_n hx hb dX8_gives_61 rfl (lv_at hl 1 rfl) ?_
    refine zg_i hC hW fl_X8_146 zck_1_0 zcs_1_0 dX8_gives_62 ?_
    refine lv_iconst (v := 1) hx hb dX8_gives_65 (by decide) ?_
    refine lv_isub hx hb dX8_gives_66 ?_
    refine lv_iconst (v := 1) hx hb dX8_gives_67 (by decide) ?_
    refine za_s hC hW hf zar_1_7 dX8_gives_68 (fun s8 H locs hf hW => ?_)
    exact zr_v hx hb hr hlk hW (Option.some.inj hf) dX8_gives_69
set_option maxHeartbeats 4000000 in
set_option maxRecDepth 100000 in
theorem mX8_begins {l : Launch} {D : va_G} {cI cJ : ClassId} {adr : Nat → Nat} (p1 : Int32) (s0 : zkS) {z : Nat} {ro : Int32} {so : zkS} (hI : zInj 1 adr) (hf : fX8_begins p1 s0 = some (ro, so)) : Met l yX8_begins (Cond.code yX8_begins cX8_begins 3 (some .boolean) :: zTb) { frames := 2, cells := 0, slots := 0, locals := 46 } (zPre 1 D cI cJ adr s0 z [.ref (adr 0), .int p1]) (zQi 1 D cI cJ adr z ro so) 0 0 (zA 1 adr z) := by
  refine zen (cc := cX8_begins) (own := RX8) (by decide +kernel) rfl hI (Nat.le_of_ble_eq_true rfl) (fun p e s m args below meth c ls hC hr hlk hz hl hW => ?_)
  subst hz
  obtain ⟨hx, hb, -⟩ := id hC
  have hl : lv_has ls 3 [(0, .ref (adr 0)), (1, .int p1)] := hl
  refine zst hW (fun H locs hW => ?_)
  unfold fX8_begins at hf
  refine lv_iload_n hx hb dX8_begins_0 rfl (lv_at hl 1 rfl) ?_
  refine lv_i2l hx hb dX8_begins_1 rfl ?_
  refine lv_ldc2 hx hb hC.2.2.2.1 (hC.2.2.2.2.1 _ wq_1008) dX8_begins_2 ?_
  refine lv_ldc2 hx hb hC.2.2.2.1 (hC.2.2.2.2.1 _ wq_1009) dX8_begins_5 ?_
  refine zc_i hW (zrun_s (As := [.long ((p1 : Int32).toInt64), .long 48, .long 57]) (rest := []) hC hW (mX8_in ((p1 : Int32).toInt64) 48 57 s0 hC.2.2.2.2.2.2.2 rfl) cs_X8_57 rfl ⟨⟨rfl, rfl⟩, Nat.le_of_ble_eq_true rfl, Nat.le_of_ble_eq_true rfl⟩ (zlv_size hl) rfl (Nat.le_of_ble_eq_true rfl) dX8_begins_8 ⟨Nat.le_refl _, Nat.le_refl _⟩) (fun H locs hW => ?_)
  refine zi_if_eq (tgt := 32) hx hb dX8_begins_11 (by decide) hf (fun hc hf => ?_) (fun hc hf => ?_)
  · skip
    refine lv_iload_n hx hb dX8_begins_32 rfl (lv_at hl 1 rfl) ?_
    refine lv_i2l hx hb dX8_begins_33 rfl ?_
    refine lv_ldc2 hx hb hC.2.2.2.1 (hC.2.2.2.2.1 _ wq_1018) dX8_begins_34 ?_
    refine lv_ldc2 hx hb hC.2.2.2.1 (hC.2.2.2.2.1 _ wq_1019) dX8_begins_37 ?_
    refine zc_i hW (zrun_s (As := [.long ((p1 : Int32).toInt64), .long 97, .long 120]) (rest := []) hC hW (mX8_in ((p1 : Int32).toInt64) 97 120 s0 hC.2.2.2.2.2.2.2 rfl) cs_X8_57 rfl ⟨⟨rfl, rfl⟩, Nat.le_of_ble_eq_true rfl, Nat.le_of_ble_eq_true rfl⟩ (zlv_size hl) rfl (Nat.le_of_ble_eq_true rfl) dX8_begins_40 ⟨Nat.le_refl _, Nat.le_refl _⟩) (fun H locs hW => ?_)
    refine zi_if_eq (tgt := 69) hx hb dX8_begins_43 (by decide) hf (fun hc hf => ?_) (fun hc hf => ?_)
    · skip
      refine lv_iload_n hx hb dX8_begins_69 rfl (lv_at hl 1 rfl) ?_
      refine lv_i2l hx hb dX8_begins_70 rfl ?_
      refine lv_ldc2 hx hb hC.2.2.2.1 (hC.2.2.2.2.1 _ wq_1020) dX8_begins_71 ?_
      refine lv_ldc2 hx hb hC.2.2.2.1 (hC.2.2.2.2.1 _ wq_1021) dX8_begins_74 ?_
      refine zc_i hW (zrun_s (As := [.long ((p1 : Int32).toInt64), .long 65, .long 70]) (rest := []) hC hW (mX8_in ((p1 : Int32).toInt64) 65 70 s0 hC.2.2.2.2.2.2.2 rfl) cs_X8_57 rfl ⟨⟨rfl, rfl⟩, Nat.le_of_ble_eq_true rfl, Nat.le_of_ble_eq_true rfl⟩ (zlv_size hl) rfl (Nat.le_of_ble_eq_true rfl) dX8_begins_77 ⟨Nat.le_refl _, Nat.le_refl _⟩) (fun H locs hW => ?_)
      refine zi_if_eq (tgt := 122) hx hb dX8_begins_80 (by decide) hf (fun hc hf => ?_) (fun hc hf => ?_)
      · skip
        refine lv_iload_n hx hb dX8_begins_122 rfl (lv_at hl 1 rfl) ?_
        refine lv_bipush (v := 126) hx hb dX8_begins_123 (by decide) ?_
        refine zi_icmp_ne (tgt := 136) hx hb dX8_begins_125 (by decide) hf (fun hc hf => ?_) (fun hc hf => ?_)
        · skip
          refine lv_aload_n hx hb dX8_begins_128 rfl (lv_at hl 0 rfl) ?_
          refine lv_bipush (v := (-5)) hx hb dX8_begins_129 (by decide) ?_
          obtain ⟨s4, hq, hf⟩ := zb1_o hf
          refine zc_v hW (zrun_v (As := [.int (-5)]) (rest := []) hC hW (mX8_gives (-5) s0 hC.2.2.2.2.2.2.2 hq) cv_X8_163 zck_1_0 zcs_1_0 rfl ⟨⟨rfl, rfl⟩, Nat.le_of_ble_eq_true rfl, Nat.le_of_ble_eq_true rfl⟩ (zlv_size hl) rfl (Nat.le_of_ble_eq_true rfl) dX8_begins_131 ⟨Nat.le_refl _, Nat.le_refl _⟩) (fun H locs hW => ?_)
          refine lv_iconst (v := 1) hx hb dX8_begins_134 (by decide) ?_
          exact zr_z hx hb hr hlk hW (by decide) (zo1 hf) (zo2 hf) dX8_begins_135
        · skip
          refine lv_iload_n hx hb dX8_begins_136 rfl (lv_at hl 1 rfl) ?_
          refine lv_bipush (v := 40) hx hb dX8_begins_137 (by decide) ?_
          refine zjn_e hf (fun J5 => ∀ (u6 : Unit) (H : Heap) (locs : List Loc) (ls : Array Slot), J5 u6 = some (ro, so) → zWo 1 D cI cJ adr s s0 H locs → lv_has ls 3 [(0, .ref (adr 0)), (1, .int p1)] → W p l e { frames := 2, cells := 0, slots := 0, locals := 46 } s m args below meth c H locs 0 0 (MQ below (zQi 1 D cI cJ adr s.heap.size ro so) args s 0 0 (zA 1 adr s.heap.size)) (F0 m 154 ls [])) ?_ (fun J5 hJ5 hf => ?_)
          · intro u6 H locs ls hf hW hl
            refine lv_aload_n hx hb dX8_begins_154 rfl (lv_at hl 0 rfl) ?_
            refine zg_i hC hW fl_X8_146 zck_1_0 zcs_1_0 dX8_begins_155 ?_
            refine lv_bipush (v := 6) hx hb dX8_begins_158 (by decide) ?_
            refine zi_icmp_ne (tgt := 165) hx hb dX8_begins_160 (by decide) hf (fun hc hf => ?_) (fun hc hf => ?_)
            · skip
              refine lv_iconst (v := 0) hx hb dX8_begins_163 (by decide) ?_
              exact zr_z hx hb hr hlk hW (by decide) (zo1 hf) (zo2 hf) dX8_begins_164
            · skip
              refine lv_aload_n hx hb dX8_begins_165 rfl (lv_at hl 0 rfl) ?_
              refine zg_a (o := 4) hC hW fl_X8_24 zck_1_0 zcs_1_0 (show _ = 5 from rfl) dX8_begins_166 ?_
              refine lv_aload_n hx hb dX8_begins_169 rfl (lv_at hl 0 rfl) ?_
              refine zg_i hC hW fl_X8_146 zck_1_0 zcs_1_0 dX8_begins_170 ?_
              refine lv_aload_n hx hb dX8_begins_173 rfl (lv_at hl 0 rfl) ?_
              refine lv_iload_n hx hb dX8_begins_174 rfl (lv_at hl 1 rfl) ?_
              refine lv_bipush (v := 40) hx hb dX8_begins_175 (by decide) ?_
              refine zjn_e hf (fun J7 => ∀ (v8 : Int32) (H : Heap) (locs : List Loc) (ls : Array Slot), J7 v8 = some (ro, so) → zWo 1 D cI cJ adr s s0 H locs → lv_has ls 3 [(0, .ref (adr 0)), (1, .int p1)] → W p l e { frames := 2, cells := 0, slots := 0, locals := 46 } s m args below meth c H locs 0 0 (MQ below (zQi 1 D cI cJ adr s.heap.size ro so) args s 0 0 (zA 1 adr s.heap.size)) (F0 m 195 ls [.int v8, .ref (adr 0), .int (s0.1 0 14), .ref (adr 5)])) ?_ (fun J7 hJ7 hf => ?_)
              · intro v8 H locs ls hf hW hl
                refine lv_iconst (v := 0) hx hb dX8_begins_195 (by decide) ?_
                obtain ⟨v9, s10, hq, hf⟩ := zb2_o hf
                refine zc_i hW (zrun_v (As := [.int v8, .int 0]) (rest := [.int (s0.1 0 14), .ref (adr 5)]) hC hW (mX8_isNew v8 0 s0 hC.2.2.2.2.2.2.2 hq) cv_X8_160 zck_1_0 zcs_1_0 rfl ⟨⟨rfl, rfl⟩, Nat.le_of_ble_eq_true rfl, Nat.le_of_ble_eq_true rfl⟩ (zlv_size hl) rfl (Nat.le_of_ble_eq_true rfl) dX8_begins_196 ⟨Nat.le_refl _, Nat.le_refl _⟩) (fun H locs hW => ?_)
                refine za_s hC hW hf zar_1_5 dX8_begins_199 (fun s11 H locs hf hW => ?_)
                refine lv_aload_n hx hb dX8_begins_200 rfl (lv_at hl 0 rfl) ?_
                refine zg_a (o := 5) hC hW fl_X8_27 zck_1_0 zcs_1_0 (show _ = 6 from rfl) dX8_begins_201 ?_
                refine lv_aload_n hx hb dX8_begins_204 rfl (lv_at hl 0 rfl) ?_
                refine zg_i hC hW fl_X8_146 zck_1_0 zcs_1_0 dX8_begins_205 ?_
                refine lv_iload_n hx hb dX8_begins_208 rfl (lv_at hl 1 rfl) ?_
                refine za_s hC hW hf zar_1_6 dX8_begins_209 (fun s12 H locs hf hW => ?_)
                refine lv_aload_n hx hb dX8_begins_210 rfl (lv_at hl 0 rfl) ?_
                refine zg_a (o := 6) hC hW fl_X8_30 zck_1_0 zcs_1_0 (show _ = 7 from rfl) dX8_begins_211 ?_
                refine lv_aload_n hx hb dX8_begins_214 rfl (lv_at hl 0 rfl) ?_
                refine zg_i hC hW fl_X8_146 zck_1_0 zcs_1_0 dX8_begins_215 ?_
                refine lv_iconst (v := 0) hx hb dX8_begins_218 (by decide) ?_
                refine za_s hC hW hf zar_1_7 dX8_begins_219 (fun s13 H locs hf hW => ?_)
                refine lv_aload_n hx hb dX8_begins_220 rfl (lv_at hl 0 rfl) ?_
                refine lv_dup hx hb dX8_begins_221 rfl ?_
                refine zg_i hC hW fl_X8_146 zck_1_0 zcs_1_0 dX8_begins_222 ?_
                refine lv_iconst (v := 1) hx hb dX8_begins_225 (by decide) ?_
                refine lv_iadd hx hb dX8_begins_226 ?_
                refine zp_i hC hW hf fp_X8_146 zck_1_0 zcs_1_0 dX8_begins_227 (fun s14 H locs hf hW => ?_)
                refine lv_iconst (v := 1) hx hb dX8_begins_230 (by decide) ?_
                exact zr_z hx hb hr hlk hW (by decide) (zo1 hf) (zo2 hf) dX8_begins_231
              refine zi_icmp_ne (tgt := 184) hx hb dX8_begins_177 (by decide) hf (fun hc hf => ?_) (fun hc hf => ?_)
              · skip
                refine lv_iconst (v := 1) hx hb dX8_begins_180 (by decide) ?_
                refine lv_goto (tgt := 195) hx hb dX8_begins_181 (by decide) ?_
                exact hJ7 1 H locs ls hf hW (lv_sub hl [0, 1] rfl)
              · skip
                refine lv_iload_n hx hb dX8_begins_184 rfl (lv_at hl 1 rfl) ?_
                refine lv_bipush (v := 91) hx hb dX8_begins_185 (by decide) ?_
                refine zi_icmp_ne (tgt := 194) hx hb dX8_begins_187 (by decide) hf (fun hc hf => ?_) (fun hc hf => ?_)
                · skip
                  refine lv_iconst (v := 2) hx hb dX8_begins_190 (by decide) ?_
                  refine lv_goto (tgt := 195) hx hb dX8_begins_191 (by decide) ?_
                  exact hJ7 2 H locs ls hf hW (lv_sub hl [0, 1] rfl)
                · skip
                  refine lv_iconst (v := 3) hx hb dX8_begins_194 (by decide) ?_
                  exact hJ7 3 H locs ls hf hW (lv_sub hl [0, 1] rfl)
          refine zi_icmp_eq (tgt := 154) hx hb dX8_begins_139 (by decide) hf (fun hc hf => ?_) (fun hc hf => ?_)
          · skip
            exact hJ5 () H locs ls hf hW (lv_sub hl [0, 1] rfl)
          · skip
            refine lv_iload_n hx hb dX8_begins_142 rfl (lv_at hl 1 rfl) ?_
            refine lv_bipush (v := 91) hx hb dX8_begins_143 (by decide) ?_
            refine zi_icmp_eq (tgt := 154) hx hb dX8_begins_145 (by decide) hf (fun hc hf => ?_) (fun hc hf => ?_)
            · skip
              exact hJ5 () H locs ls hf hW (lv_sub hl [0, 1] rfl)
            · skip
              refine lv_iload_n hx hb dX8_begins_148 rfl (lv_at hl 1 rfl) ?_
              refine lv_bipush (v := 60) hx hb dX8_begins_149 (by decide) ?_
              refine zi_icmp_ne (tgt := 163) hx hb dX8_begins_151 (by decide) hf (fun hc hf => ?_) (fun hc hf => ?_)
              · skip
                exact hJ5 () H locs ls hf hW (lv_sub hl [0, 1] rfl)
              · skip
                refine lv_iconst (v := 0) hx hb dX8_begins_163 (by decide) ?_
                exact zr_z hx hb hr hlk hW (by decide) (zo1 hf) (zo2 hf) dX8_begins_164
      · skip
        refine lv_aload_n hx hb dX8_begins_83 rfl (lv_at hl 0 rfl) ?_
        refine zg_i hC hW fl_X8_146 zck_1_0 zcs_1_0 dX8_begins_84 ?_
        refine lv_iconst (v := 1) hx hb dX8_begins_87 (by decide) ?_
        refine lv_isub hx hb dX8_begins_88 ?_
        refine lv_iload_n hx hb dX8_begins_89 rfl (lv_at hl 1 rfl) ?_
        refine lv_bipush (v := 65) hx hb dX8_begins_90 (by decide) ?_
        refine lv_isub hx hb dX8_begins_92 ?_
        refine lv_isub hx hb dX8_begins_93 ?_
        refine zn_i hf (fun v15 hf => ?_)
        refine lv_istore_n (lv' := [(2, .int v15), (0, .ref (adr 0)), (1, .int p1)]) hx hb dX8_begins_94 rfl hl (by decide) rfl (fun ls hl => ?_)
        refine lv_iload_n hx hb dX8_begins_95 rfl (lv_at hl 0 rfl) ?_
        refine zi_if_lt (tgt := 112) hx hb dX8_begins_96 (by decide) hf (fun hc hf => ?_) (fun hc hf => ?_)
        · skip
          refine lv_iload_n hx hb dX8_begins_112 rfl (lv_at hl 0 rfl) ?_
          refine zi_if_lt (tgt := 120) hx hb dX8_begins_113 (by decide) hf (fun hc hf => ?_) (fun hc hf => ?_)
          · skip
            refine lv_iconst (v := 0) hx hb dX8_begins_120 (by decide) ?_
            exact zr_z hx hb hr hlk hW (by decide) (zo1 hf) (zo2 hf) dX8_begins_121
          · skip
            refine lv_iconst (v := 1) hx hb dX8_begins_116 (by decide) ?_
            refine lv_goto (tgt := 121) hx hb dX8_begins_117 (by decide) ?_
            exact zr_z hx hb hr hlk hW (by decide) (zo1 hf) (zo2 hf) dX8_begins_121
        · skip
          refine lv_aload_n hx hb dX8_begins_99 rfl (lv_at hl 1 rfl) ?_
          refine lv_bipush (v := 100) hx hb dX8_begins_100 (by decide) ?_
          refine lv_aload_n hx hb dX8_begins_102 rfl (lv_at hl 1 rfl) ?_
          refine zg_a (o := 4) hC hW fl_X8_24 zck_1_0 zcs_1_0 (show _ = 5 from rfl) dX8_begins_103 ?_
          refine lv_iload_n hx hb dX8_begins_106 rfl (lv_at hl 0 rfl) ?_
          refine za_l hC hW hf zar_1_5 dX8_begins_107 (fun v16 hf => ?_)
          refine lv_iadd hx hb dX8_begins_108 ?_
          obtain ⟨s17, hq, hf⟩ := zb1_o hf
          refine zc_v hW (zrun_v (As := [.int (100 + v16)]) (rest := []) hC hW (mX8_gives (100 + v16) s0 hC.2.2.2.2.2.2.2 hq) cv_X8_163 zck_1_0 zcs_1_0 rfl ⟨⟨rfl, rfl⟩, Nat.le_of_ble_eq_true rfl, Nat.le_of_ble_eq_true rfl⟩ (zlv_size hl) rfl (Nat.le_of_ble_eq_true rfl) dX8_begins_109 ⟨Nat.le_refl _, Nat.le_refl _⟩) (fun H locs hW => ?_)
          refine lv_iload_n hx hb dX8_begins_112 rfl (lv_at hl 0 rfl) ?_
          refine zi_if_lt (tgt := 120) hx hb dX8_begins_113 (by decide) hf (fun hc hf => ?_) (fun hc hf => ?_)
          · skip
            refine lv_iconst (v := 0) hx hb dX8_begins_120 (by decide) ?_
            exact zr_z hx hb hr hlk hW (by decide) (zo1 hf) (zo2 hf) dX8_begins_121
          · skip
            refine lv_iconst (v := 1) hx hb dX8_begins_116 (by decide) ?_
            refine lv_goto (tgt := 121) hx hb dX8_begins_117 (by decide) ?_
            exact zr_z hx hb hr hlk hW (by decide) (zo1 hf) (zo2 hf) dX8_begins_121
    · skip
      refine lv_aload_n hx hb dX8_begins_46 rfl (lv_at hl 0 rfl) ?_
      refine lv_iload_n hx hb dX8_begins_47 rfl (lv_at hl 1 rfl) ?_
      refine lv_bipush (v := 97) hx hb dX8_begins_48 (by decide) ?_
      refine lv_isub hx hb dX8_begins_50 ?_
      obtain ⟨v18, hq, hf⟩ := zb1_o hf
      refine zc_i hW (zrun_v (As := [.int (p1 - 97)]) (rest := []) hC hW (mX8_isThere (p1 - 97) s0 hC.2.2.2.2.2.2.2 hq) cv_X8_65 zck_1_0 zcs_1_0 rfl ⟨⟨rfl, rfl⟩, Nat.le_of_ble_eq_true rfl, Nat.le_of_ble_eq_true rfl⟩ (zlv_size hl) rfl (Nat.le_of_ble_eq_true rfl) dX8_begins_51 ⟨Nat.le_refl _, Nat.le_refl _⟩) (fun H locs hW => ?_)
      refine lv_istore_n (lv' := [(2, .int v18), (0, .ref (adr 0)), (1, .int p1)]) hx hb dX8_begins_54 rfl hl (by decide) rfl (fun ls hl => ?_)
      refine lv_iload_n hx hb dX8_begins_55 rfl (lv_at hl 0 rfl) ?_
      refine zi_if_eq (tgt := 67) hx hb dX8_begins_56 (by decide) hf (fun hc hf => ?_) (fun hc hf => ?_)
      · skip
        refine lv_iload_n hx hb dX8_begins_67 rfl (lv_at hl 0 rfl) ?_
        obtain ⟨h01, hf⟩ := zck_o hf
        exact zr_z hx hb hr hlk hW h01 (zo1 hf) (zo2 hf) dX8_begins_68
      · skip
        refine lv_aload_n hx hb dX8_begins_59 rfl (lv_at hl 1 rfl) ?_
        refine lv_iload_n hx hb dX8_begins_60 rfl (lv_at hl 2 rfl) ?_
        refine lv_bipush (v := 97) hx hb dX8_begins_61 (by decide) ?_
        refine lv_isub hx hb dX8_begins_63 ?_
        obtain ⟨s19, hq, hf⟩ := zb1_o hf
        refine zc_v hW (zrun_v (As := [.int (p1 - 97)]) (rest := []) hC hW (mX8_gives (p1 - 97) s0 hC.2.2.2.2.2.2.2 hq) cv_X8_163 zck_1_0 zcs_1_0 rfl ⟨⟨rfl, rfl⟩, Nat.le_of_ble_eq_true rfl, Nat.le_of_ble_eq_true rfl⟩ (zlv_size hl) rfl (Nat.le_of_ble_eq_true rfl) dX8_begins_64 ⟨Nat.le_refl _, Nat.le_refl _⟩) (fun H locs hW => ?_)
        refine lv_iload_n hx hb dX8_begins_67 rfl (lv_at hl 0 rfl) ?_
        obtain ⟨h01, hf⟩ := zck_o hf
        exact zr_z hx hb hr hlk hW h01 (zo1 hf) (zo2 hf) dX8_begins_68
  · skip
    refine lv_aload_n hx hb dX8_begins_14 rfl (lv_at hl 0 rfl) ?_
    refine lv_bipush (v := 100) hx hb dX8_begins_15 (by decide) ?_
    refine lv_aload_n hx hb dX8_begins_17 rfl (lv_at hl 0 rfl) ?_
    refine lv_iconst (v := 0) hx hb dX8_begins_18 (by decide) ?_
    refine lv_iload_n hx hb dX8_begins_19 rfl (lv_at hl 1 rfl) ?_
    refine lv_bipush (v := 48) hx hb dX8_begins_20 (by decide) ?_
    refine lv_isub hx hb dX8_begins_22 ?_
    obtain ⟨v20, s21, hq, hf⟩ := zb2_o hf
    refine zc_i hW (zrun_v (As := [.int 0, .int (p1 - 48)]) (rest := [.int 100, .ref (adr 0)]) hC hW (mX8_isNew 0 (p1 - 48) s0 hC.2.2.2.2.2.2.2 hq) cv_X8_160 zck_1_0 zcs_1_0 rfl ⟨⟨rfl, rfl⟩, Nat.le_of_ble_eq_true rfl, Nat.le_of_ble_eq_true rfl⟩ (zlv_size hl) rfl (Nat.le_of_ble_eq_true rfl) dX8_begins_23 ⟨Nat.le_refl _, Nat.le_refl _⟩) (fun H locs hW => ?_)
    refine lv_iadd hx hb dX8_begins_26 ?_
    obtain ⟨s22, hq, hf⟩ := zb1_o hf
    refine zc_v hW (zrun_v (As := [.int (100 + v20)]) (rest := []) hC hW (mX8_gives (100 + v20) s21 hC.2.2.2.2.2.2.2 hq) cv_X8_163 zck_1_0 zcs_1_0 rfl ⟨⟨rfl, rfl⟩, Nat.le_of_ble_eq_true rfl, Nat.le_of_ble_eq_true rfl⟩ (zlv_size hl) rfl (Nat.le_of_ble_eq_true rfl) dX8_begins_27 ⟨Nat.le_refl _, Nat.le_refl _⟩) (fun H locs hW => ?_)
    refine lv_iconst (v := 1) hx hb dX8_begins_30 (by decide) ?_
    exact zr_z hx hb hr hlk hW (by decide) (zo1 hf) (zo2 hf) dX8_begins_31
set_option maxHeartbeats 4000000 in
set_option maxRecDepth 100000 in
theorem mX8_shuts {l : Launch} {D : va_G} {cI cJ : ClassId} {adr : Nat → Nat} (s0 : zkS) {z : Nat} {so : zkS} (hI : zInj 1 adr) (hf : fX8_shuts s0 = some so) : Met l yX8_shuts (Cond.code yX8_shuts cX8_shuts 1 none :: zTb) { frames := 1, cells := 0, slots := 0, locals := 22 } (zPre 1 D cI cJ adr s0 z [.ref (adr 0)]) (zQv 1 D cI cJ adr z so) 0 0 (zA 1 adr z) := by
  refine zen (cc := cX8_shuts) (own := RX8) (by decide +kernel) rfl hI (Nat.le_of_ble_eq_true rfl) (fun p e s m args below meth c ls hC hr hlk hz hl hW => ?_)
  subst hz
  obtain ⟨hx, hb, -⟩ := id hC
  have hl : lv_has ls 1 [(0, .ref (adr 0))] := hl
  refine zst hW (fun H locs hW => ?_)
  unfold fX8_shuts at hf
  refine lv_aload_n hx hb dX8_shuts_0 rfl (lv_at hl 0 rfl) ?_
  refine lv_dup hx hb dX8_shuts_1 rfl ?_
  refine zg_i hC hW fl_X8_146 zck_1_0 zcs_1_0 dX8_shuts_2 ?_
  refine lv_iconst (v := 1) hx hb dX8_shuts_5 (by decide) ?_
  refine lv_isub hx hb dX8_shuts_6 ?_
  refine zp_i hC hW hf fp_X8_146 zck_1_0 zcs_1_0 dX8_shuts_7 (fun s1 H locs hf hW => ?_)
  refine lv_aload_n hx hb dX8_shuts_10 rfl (lv_at hl 0 rfl) ?_
  refine lv_bipush (v := 100) hx hb dX8_shuts_11 (by decide) ?_
  refine lv_aload_n hx hb dX8_shuts_13 rfl (lv_at hl 0 rfl) ?_
  refine zg_a (o := 4) hC hW fl_X8_24 zck_1_0 zcs_1_0 (show _ = 5 from rfl) dX8_shuts_14 ?_
  refine lv_aload_n hx hb dX8_shuts_17 rfl (lv_at hl 0 rfl) ?_
  refine zg_i hC hW fl_X8_146 zck_1_0 zcs_1_0 dX8_shuts_18 ?_
  refine za_l hC hW hf zar_1_5 dX8_shuts_21 (fun v2 hf => ?_)
  refine lv_iadd hx hb dX8_shuts_22 ?_
  obtain ⟨s3, hq, hf⟩ := zb1_o hf
  refine zc_v hW (zrun_v (As := [.int (100 + v2)]) (rest := []) hC hW (mX8_gives (100 + v2) s1 hC.2.2.2.2.2.2.2 hq) cv_X8_163 zck_1_0 zcs_1_0 rfl ⟨⟨rfl, rfl⟩, Nat.le_of_ble_eq_true rfl, Nat.le_of_ble_eq_true rfl⟩ (zlv_size hl) rfl (Nat.le_of_ble_eq_true rfl) dX8_shuts_23 ⟨Nat.le_refl _, Nat.le_refl _⟩) (fun H locs hW => ?_)
  exact zr_v hx hb hr hlk hW (Option.some.inj hf) dX8_shuts_26
set_option maxHeartbeats 4000000 in
set_option maxRecDepth 100000 in
theorem mX8_takes {l : Launch} {D : va_G} {cI cJ : ClassId} {adr : Nat → Nat} (p1 : Int32) (s0 : zkS) {z : Nat} {ro : Int32} {so : zkS} (hI : zInj 1 adr) (hf : fX8_takes p1 s0 = some (ro, so)) : Met l yX8_takes (Cond.code yX8_takes cX8_takes 6 (some .boolean) :: zTb) { frames := 3, cells := 0, slots := 0, locals := 68 } (zPre 1 D cI cJ adr s0 z [.ref (adr 0), .int p1]) (zQi 1 D cI cJ adr z ro so) 0 0 (zA 1 adr z) := by
  refine zen (cc := cX8_takes) (own := RX8) (by decide +kernel) rfl hI (Nat.le_of_ble_eq_true rfl) (fun p e s m args below meth c ls hC hr hlk hz hl hW => ?_)
  subst hz
  obtain ⟨hx, hb, -⟩ := id hC
  have hl : lv_has ls 6 [(0, .ref (adr 0)), (1, .int p1)] := hl
  refine zst hW (fun H locs hW => ?_)
  unfold fX8_takes at hf
  refine lv_aload_n hx hb dX8_takes_0 rfl (lv_at hl 0 rfl) ?_
  refine zg_i hC hW fl_X8_152 zck_1_0 zcs_1_0 dX8_takes_1 ?_
  refine zi_if_eq (tgt := 9) hx hb dX8_takes_4 (by decide) hf (fun hc hf => ?_) (fun hc hf => ?_)
  · skip
    refine lv_aload_n hx hb dX8_takes_9 rfl (lv_at hl 0 rfl) ?_
    refine zg_i hC hW fl_X8_146 zck_1_0 zcs_1_0 dX8_takes_10 ?_
    refine zi_if_ne (tgt := 22) hx hb dX8_takes_13 (by decide) hf (fun hc hf => ?_) (fun hc hf => ?_)
    · skip
      refine lv_aload_n hx hb dX8_takes_16 rfl (lv_at hl 0 rfl) ?_
      refine lv_iload_n hx hb dX8_takes_17 rfl (lv_at hl 1 rfl) ?_
      obtain ⟨v1, s2, hq, hf⟩ := zb2_o hf
      refine zc_i hW (zrun_v (As := [.int p1]) (rest := []) hC hW (mX8_begins p1 s0 hC.2.2.2.2.2.2.2 hq) cv_X8_175 zck_1_0 zcs_1_0 rfl ⟨⟨rfl, rfl⟩, Nat.le_of_ble_eq_true rfl, Nat.le_of_ble_eq_true rfl⟩ (zlv_size hl) rfl (Nat.le_of_ble_eq_true rfl) dX8_takes_18 ⟨Nat.le_refl _, Nat.le_refl _⟩) (fun H locs hW => ?_)
      obtain ⟨h01, hf⟩ := zck_o hf
      exact zr_z hx hb hr hlk hW h01 (zo1 hf) (zo2 hf) dX8_takes_21
    · skip
      refine lv_aload_n hx hb dX8_takes_22 rfl (lv_at hl 0 rfl) ?_
      refine zg_a (o := 5) hC hW fl_X8_27 zck_1_0 zcs_1_0 (show _ = 6 from rfl) dX8_takes_23 ?_
      refine lv_aload_n hx hb dX8_takes_26 rfl (lv_at hl 0 rfl) ?_
      refine zg_i hC hW fl_X8_146 zck_1_0 zcs_1_0 dX8_takes_27 ?_
      refine lv_iconst (v := 1) hx hb dX8_takes_30 (by decide) ?_
      refine lv_isub hx hb dX8_takes_31 ?_
      refine za_l hC hW hf zar_1_6 dX8_takes_32 (fun v3 hf => ?_)
      refine lv_istore_n (lv' := [(2, .int v3), (0, .ref (adr 0)), (1, .int p1)]) hx hb dX8_takes_33 rfl hl (by decide) rfl (fun ls hl => ?_)
      refine lv_aload_n hx hb dX8_takes_34 rfl (lv_at hl 1 rfl) ?_
      refine zg_a (o := 6) hC hW fl_X8_30 zck_1_0 zcs_1_0 (show _ = 7 from rfl) dX8_takes_35 ?_
      refine lv_aload_n hx hb dX8_takes_38 rfl (lv_at hl 1 rfl) ?_
      refine zg_i hC hW fl_X8_146 zck_1_0 zcs_1_0 dX8_takes_39 ?_
      refine lv_iconst (v := 1) hx hb dX8_takes_42 (by decide) ?_
      refine lv_isub hx hb dX8_takes_43 ?_
      refine za_l hC hW hf zar_1_7 dX8_takes_44 (fun v4 hf => ?_)
      refine lv_istore_n (lv' := [(3, .int v4), (2, .int v3), (0, .ref (adr 0)), (1, .int p1)]) hx hb dX8_takes_45 rfl hl (by decide) rfl (fun ls hl => ?_)
      refine lv_aload_n hx hb dX8_takes_46 rfl (lv_at hl 2 rfl) ?_
      refine zg_a (o := 9) hC hW fl_X8_39 zck_1_0 zcs_1_0 (show _ = 10 from rfl) dX8_takes_47 ?_
      refine lv_aload_n hx hb dX8_takes_50 rfl (lv_at hl 2 rfl) ?_
      refine zg_a (o := 4) hC hW fl_X8_24 zck_1_0 zcs_1_0 (show _ = 5 from rfl) dX8_takes_51 ?_
      refine lv_aload_n hx hb dX8_takes_54 rfl (lv_at hl 2 rfl) ?_
      refine zg_i hC hW fl_X8_146 zck_1_0 zcs_1_0 dX8_takes_55 ?_
      refine lv_iconst (v := 1) hx hb dX8_takes_58 (by decide) ?_
      refine lv_isub hx hb dX8_takes_59 ?_
      refine za_l hC hW hf zar_1_5 dX8_takes_60 (fun v5 hf => ?_)
      refine za_l hC hW hf zar_1_10 dX8_takes_61 (fun v6 hf => ?_)
      refine lv_istore (lv' := [(4, .int v6), (3, .int v4), (2, .int v3), (0, .ref (adr 0)), (1, .int p1)]) hx hb dX8_takes_62 hl (by decide) rfl (fun ls hl => ?_)
      refine lv_iload_n hx hb dX8_takes_64 rfl (lv_at hl 1 rfl) ?_
      refine lv_iconst (v := 1) hx hb dX8_takes_65 (by decide) ?_
      refine zi_icmp_eq (tgt := 97) hx hb dX8_takes_66 (by decide) hf (fun hc hf => ?_) (fun hc hf => ?_)
      · skip
        refine lv_iload_n hx hb dX8_takes_97 rfl (lv_at hl 2 rfl) ?_
        refine lv_bipush (v := 40) hx hb dX8_takes_98 (by decide) ?_
        refine zjn_e hf (fun J7 => ∀ (u8 : Unit) (H : Heap) (locs : List Loc) (ls : Array Slot), J7 u8 = some (ro, so) → zWo 1 D cI cJ adr s s0 H locs → lv_has ls 6 [(0, .ref (adr 0))] → W p l e { frames := 3, cells := 0, slots := 0, locals := 68 } s m args below meth c H locs 0 0 (MQ below (zQi 1 D cI cJ adr s.heap.size ro so) args s 0 0 (zA 1 adr s.heap.size)) (F0 m 134 ls [])) ?_ (fun J7 hJ7 hf => ?_)
        · intro u8 H locs ls hf hW hl
          refine lv_aload_n hx hb dX8_takes_134 rfl (lv_at hl 0 rfl) ?_
          refine zg_a (o := 6) hC hW fl_X8_30 zck_1_0 zcs_1_0 (show _ = 7 from rfl) dX8_takes_135 ?_
          refine lv_aload_n hx hb dX8_takes_138 rfl (lv_at hl 0 rfl) ?_
          refine zg_i hC hW fl_X8_146 zck_1_0 zcs_1_0 dX8_takes_139 ?_
          refine lv_iconst (v := 1) hx hb dX8_takes_142 (by decide) ?_
          refine lv_isub hx hb dX8_takes_143 ?_
          refine lv_iconst (v := 2) hx hb dX8_takes_144 (by decide) ?_
          refine za_s hC hW hf zar_1_7 dX8_takes_145 (fun s9 H locs hf hW => ?_)
          refine lv_iconst (v := 1) hx hb dX8_takes_146 (by decide) ?_
          exact zr_z hx hb hr hlk hW (by decide) (zo1 hf) (zo2 hf) dX8_takes_147
        refine zjn_e hf (fun J10 => ∀ (u11 : Unit) (H : Heap) (locs : List Loc) (ls : Array Slot), J10 u11 = some (ro, so) → zWo 1 D cI cJ adr s s0 H locs → lv_has ls 6 [(0, .ref (adr 0)), (1, .int p1), (2, .int v3), (4, .int v6)] → W p l e { frames := 3, cells := 0, slots := 0, locals := 68 } s m args below meth c H locs 0 0 (MQ below (zQi 1 D cI cJ adr s.heap.size ro so) args s 0 0 (zA 1 adr s.heap.size)) (F0 m 115 ls [])) ?_ (fun J10 hJ10 hf => ?_)
        · intro u11 H locs ls hf hW hl
          refine lv_iload_n hx hb dX8_takes_115 rfl (lv_at hl 2 rfl) ?_
          refine lv_bipush (v := 91) hx hb dX8_takes_116 (by decide) ?_
          refine zjn_e hf (fun J12 => ∀ (u13 : Unit) (H : Heap) (locs : List Loc) (ls : Array Slot), J12 u13 = some (ro, so) → zWo 1 D cI cJ adr s s0 H locs → lv_has ls 6 [(0, .ref (adr 0)), (1, .int p1), (2, .int v3), (4, .int v6)] → W p l e { frames := 3, cells := 0, slots := 0, locals := 68 } s m args below meth c H locs 0 0 (MQ below (zQi 1 D cI cJ adr s.heap.size ro so) args s 0 0 (zA 1 adr s.heap.size)) (F0 m 148 ls [])) ?_ (fun J12 hJ12 hf => ?_)
          · intro u13 H locs ls hf hW hl
            refine lv_iload_n hx hb dX8_takes_148 rfl (lv_at hl 2 rfl) ?_
            refine lv_bipush (v := 40) hx hb dX8_takes_149 (by decide) ?_
            refine zjn_e hf (fun J14 => ∀ (u15 : Unit) (H : Heap) (locs : List Loc) (ls : Array Slot), J14 u15 = some (ro, so) → zWo 1 D cI cJ adr s s0 H locs → lv_has ls 6 [(0, .ref (adr 0)), (1, .int p1), (2, .int v3)] → W p l e { frames := 3, cells := 0, slots := 0, locals := 68 } s m args below meth c H locs 0 0 (MQ below (zQi 1 D cI cJ adr s.heap.size ro so) args s 0 0 (zA 1 adr s.heap.size)) (F0 m 166 ls [])) ?_ (fun J14 hJ14 hf => ?_)
            · intro u15 H locs ls hf hW hl
              refine lv_iload_n hx hb dX8_takes_166 rfl (lv_at hl 2 rfl) ?_
              refine lv_bipush (v := 91) hx hb dX8_takes_167 (by decide) ?_
              refine zjn_e hf (fun J16 => ∀ (u17 : Unit) (H : Heap) (locs : List Loc) (ls : Array Slot), J16 u17 = some (ro, so) → zWo 1 D cI cJ adr s s0 H locs → lv_has ls 6 [(0, .ref (adr 0)), (1, .int p1), (2, .int v3)] → W p l e { frames := 3, cells := 0, slots := 0, locals := 68 } s m args below meth c H locs 0 0 (MQ below (zQi 1 D cI cJ adr s.heap.size ro so) args s 0 0 (zA 1 adr s.heap.size)) (F0 m 178 ls [])) ?_ (fun J16 hJ16 hf => ?_)
              · intro u17 H locs ls hf hW hl
                refine lv_iload_n hx hb dX8_takes_178 rfl (lv_at hl 2 rfl) ?_
                refine lv_bipush (v := 60) hx hb dX8_takes_179 (by decide) ?_
                refine zi_icmp_ne (tgt := 194) hx hb dX8_takes_181 (by decide) hf (fun hc hf => ?_) (fun hc hf => ?_)
                · skip
                  refine lv_iload_n hx hb dX8_takes_184 rfl (lv_at hl 1 rfl) ?_
                  refine lv_bipush (v := 62) hx hb dX8_takes_185 (by decide) ?_
                  refine zi_icmp_ne (tgt := 194) hx hb dX8_takes_187 (by decide) hf (fun hc hf => ?_) (fun hc hf => ?_)
                  · skip
                    refine lv_iconst (v := 1) hx hb dX8_takes_190 (by decide) ?_
                    refine lv_goto (tgt := 195) hx hb dX8_takes_191 (by decide) ?_
                    refine lv_istore (lv' := [(5, .int 1), (0, .ref (adr 0)), (1, .int p1), (2, .int v3)]) hx hb dX8_takes_195 hl (by decide) rfl (fun ls hl => ?_)
                    refine lv_iload hx hb dX8_takes_197 (lv_at hl 0 rfl) ?_
                    refine zi_if_eq (tgt := 206) hx hb dX8_takes_199 (by decide) hf (fun hc hf => ?_) (fun hc hf => ?_)
                    · skip
                      refine lv_iload hx hb dX8_takes_206 (lv_at hl 0 rfl) ?_
                      exact zr_z hx hb hr hlk hW (by decide) (zo1 hf) (zo2 hf) dX8_takes_208
                    · skip
                      refine lv_aload_n hx hb dX8_takes_202 rfl (lv_at hl 1 rfl) ?_
                      obtain ⟨s18, hq, hf⟩ := zb1_o hf
                      refine zc_v hW (zrun_v (As := []) (rest := []) hC hW (mX8_shuts s0 hC.2.2.2.2.2.2.2 hq) cv_X8_178 zck_1_0 zcs_1_0 rfl ⟨⟨rfl, rfl⟩, Nat.le_of_ble_eq_true rfl, Nat.le_of_ble_eq_true rfl⟩ (zlv_size hl) rfl (Nat.le_of_ble_eq_true rfl) dX8_takes_203 ⟨Nat.le_refl _, Nat.le_refl _⟩) (fun H locs hW => ?_)
                      refine lv_iload hx hb dX8_takes_206 (lv_at hl 0 rfl) ?_
                      exact zr_z hx hb hr hlk hW (by decide) (zo1 hf) (zo2 hf) dX8_takes_208
                  · skip
                    refine lv_iconst (v := 0) hx hb dX8_takes_194 (by decide) ?_
                    refine lv_istore (lv' := [(5, .int 0), (0, .ref (adr 0)), (1, .int p1), (2, .int v3)]) hx hb dX8_takes_195 hl (by decide) rfl (fun ls hl => ?_)
                    refine lv_iload hx hb dX8_takes_197 (lv_at hl 0 rfl) ?_
                    refine zi_if_eq (tgt := 206) hx hb dX8_takes_199 (by decide) hf (fun hc hf => ?_) (fun hc hf => ?_)
                    · skip
                      refine lv_iload hx hb dX8_takes_206 (lv_at hl 0 rfl) ?_
                      exact zr_z hx hb hr hlk hW (by decide) (zo1 hf) (zo2 hf) dX8_takes_208
                    · skip
                      refine lv_aload_n hx hb dX8_takes_202 rfl (lv_at hl 1 rfl) ?_
                      obtain ⟨s19, hq, hf⟩ := zb1_o hf
                      refine zc_v hW (zrun_v (As := []) (rest := []) hC hW (mX8_shuts s0 hC.2.2.2.2.2.2.2 hq) cv_X8_178 zck_1_0 zcs_1_0 rfl ⟨⟨rfl, rfl⟩, Nat.le_of_ble_eq_true rfl, Nat.le_of_ble_eq_true rfl⟩ (zlv_size hl) rfl (Nat.le_of_ble_eq_true rfl) dX8_takes_203 ⟨Nat.le_refl _, Nat.le_refl _⟩) (fun H locs hW => ?_)
                      refine lv_iload hx hb dX8_takes_206 (lv_at hl 0 rfl) ?_
                      exact zr_z hx hb hr hlk hW (by decide) (zo1 hf) (zo2 hf) dX8_takes_208
                · skip
                  refine lv_iconst (v := 0) hx hb dX8_takes_194 (by decide) ?_
                  refine lv_istore (lv' := [(5, .int 0), (0, .ref (adr 0)), (1, .int p1), (2, .int v3)]) hx hb dX8_takes_195 hl (by decide) rfl (fun ls hl => ?_)
                  refine lv_iload hx hb dX8_takes_197 (lv_at hl 0 rfl) ?_
                  refine zi_if_eq (tgt := 206) hx hb dX8_takes_199 (by decide) hf (fun hc hf => ?_) (fun hc hf => ?_)
                  · skip
                    refine lv_iload hx hb dX8_takes_206 (lv_at hl 0 rfl) ?_
                    exact zr_z hx hb hr hlk hW (by decide) (zo1 hf) (zo2 hf) dX8_takes_208
                  · skip
                    refine lv_aload_n hx hb dX8_takes_202 rfl (lv_at hl 1 rfl) ?_
                    obtain ⟨s20, hq, hf⟩ := zb1_o hf
                    refine zc_v hW (zrun_v (As := []) (rest := []) hC hW (mX8_shuts s0 hC.2.2.2.2.2.2.2 hq) cv_X8_178 zck_1_0 zcs_1_0 rfl ⟨⟨rfl, rfl⟩, Nat.le_of_ble_eq_true rfl, Nat.le_of_ble_eq_true rfl⟩ (zlv_size hl) rfl (Nat.le_of_ble_eq_true rfl) dX8_takes_203 ⟨Nat.le_refl _, Nat.le_refl _⟩) (fun H locs hW => ?_)
                    refine lv_iload hx hb dX8_takes_206 (lv_at hl 0 rfl) ?_
                    exact zr_z hx hb hr hlk hW (by decide) (zo1 hf) (zo2 hf) dX8_takes_208
              refine zi_icmp_ne (tgt := 178) hx hb dX8_takes_169 (by decide) hf (fun hc hf => ?_) (fun hc hf => ?_)
              · skip
                refine lv_iload_n hx hb dX8_takes_172 rfl (lv_at hl 1 rfl) ?_
                refine lv_bipush (v := 93) hx hb dX8_takes_173 (by decide) ?_
                refine zi_icmp_eq (tgt := 190) hx hb dX8_takes_175 (by decide) hf (fun hc hf => ?_) (fun hc hf => ?_)
                · skip
                  refine lv_iconst (v := 1) hx hb dX8_takes_190 (by decide) ?_
                  refine lv_goto (tgt := 195) hx hb dX8_takes_191 (by decide) ?_
                  refine lv_istore (lv' := [(5, .int 1), (0, .ref (adr 0)), (1, .int p1), (2, .int v3)]) hx hb dX8_takes_195 hl (by decide) rfl (fun ls hl => ?_)
                  refine lv_iload hx hb dX8_takes_197 (lv_at hl 0 rfl) ?_
                  refine zi_if_eq (tgt := 206) hx hb dX8_takes_199 (by decide) hf (fun hc hf => ?_) (fun hc hf => ?_)
                  · skip
                    refine lv_iload hx hb dX8_takes_206 (lv_at hl 0 rfl) ?_
                    exact zr_z hx hb hr hlk hW (by decide) (zo1 hf) (zo2 hf) dX8_takes_208
                  · skip
                    refine lv_aload_n hx hb dX8_takes_202 rfl (lv_at hl 1 rfl) ?_
                    obtain ⟨s21, hq, hf⟩ := zb1_o hf
                    refine zc_v hW (zrun_v (As := []) (rest := []) hC hW (mX8_shuts s0 hC.2.2.2.2.2.2.2 hq) cv_X8_178 zck_1_0 zcs_1_0 rfl ⟨⟨rfl, rfl⟩, Nat.le_of_ble_eq_true rfl, Nat.le_of_ble_eq_true rfl⟩ (zlv_size hl) rfl (Nat.le_of_ble_eq_true rfl) dX8_takes_203 ⟨Nat.le_refl _, Nat.le_refl _⟩) (fun H locs hW => ?_)
                    refine lv_iload hx hb dX8_takes_206 (lv_at hl 0 rfl) ?_
                    exact zr_z hx hb hr hlk hW (by decide) (zo1 hf) (zo2 hf) dX8_takes_208
                · skip
                  exact hJ16 () H locs ls hf hW (lv_sub hl [0, 1, 2] rfl)
              · skip
                exact hJ16 () H locs ls hf hW (lv_sub hl [0, 1, 2] rfl)
            refine zi_icmp_ne (tgt := 166) hx hb dX8_takes_151 (by decide) hf (fun hc hf => ?_) (fun hc hf => ?_)
            · skip
              refine lv_iload hx hb dX8_takes_154 (lv_at hl 3 rfl) ?_
              refine lv_iconst (v := 2) hx hb dX8_takes_156 (by decide) ?_
              refine zi_icmp_ne (tgt := 166) hx hb dX8_takes_157 (by decide) hf (fun hc hf => ?_) (fun hc hf => ?_)
              · skip
                refine lv_iload_n hx hb dX8_takes_160 rfl (lv_at hl 1 rfl) ?_
                refine lv_bipush (v := 41) hx hb dX8_takes_161 (by decide) ?_
                refine zi_icmp_eq (tgt := 190) hx hb dX8_takes_163 (by decide) hf (fun hc hf => ?_) (fun hc hf => ?_)
                · skip
                  refine lv_iconst (v := 1) hx hb dX8_takes_190 (by decide) ?_
                  refine lv_goto (tgt := 195) hx hb dX8_takes_191 (by decide) ?_
                  refine lv_istore (lv' := [(5, .int 1), (0, .ref (adr 0)), (1, .int p1), (2, .int v3), (4, .int v6)]) hx hb dX8_takes_195 hl (by decide) rfl (fun ls hl => ?_)
                  refine lv_iload hx hb dX8_takes_197 (lv_at hl 0 rfl) ?_
                  refine zi_if_eq (tgt := 206) hx hb dX8_takes_199 (by decide) hf (fun hc hf => ?_) (fun hc hf => ?_)
                  · skip
                    refine lv_iload hx hb dX8_takes_206 (lv_at hl 0 rfl) ?_
                    exact zr_z hx hb hr hlk hW (by decide) (zo1 hf) (zo2 hf) dX8_takes_208
                  · skip
                    refine lv_aload_n hx hb dX8_takes_202 rfl (lv_at hl 1 rfl) ?_
                    obtain ⟨s22, hq, hf⟩ := zb1_o hf
                    refine zc_v hW (zrun_v (As := []) (rest := []) hC hW (mX8_shuts s0 hC.2.2.2.2.2.2.2 hq) cv_X8_178 zck_1_0 zcs_1_0 rfl ⟨⟨rfl, rfl⟩, Nat.le_of_ble_eq_true rfl, Nat.le_of_ble_eq_true rfl⟩ (zlv_size hl) rfl (Nat.le_of_ble_eq_true rfl) dX8_takes_203 ⟨Nat.le_refl _, Nat.le_refl _⟩) (fun H locs hW => ?_)
                    refine lv_iload hx hb dX8_takes_206 (lv_at hl 0 rfl) ?_
                    exact zr_z hx hb hr hlk hW (by decide) (zo1 hf) (zo2 hf) dX8_takes_208
                · skip
                  exact hJ14 () H locs ls hf hW (lv_sub hl [0, 1, 2] rfl)
              · skip
                exact hJ14 () H locs ls hf hW (lv_sub hl [0, 1, 2] rfl)
            · skip
              exact hJ14 () H locs ls hf hW (lv_sub hl [0, 1, 2] rfl)
          refine zi_icmp_ne (tgt := 148) hx hb dX8_takes_118 (by decide) hf (fun hc hf => ?_) (fun hc hf => ?_)
          · skip
            refine lv_iload hx hb dX8_takes_121 (lv_at hl 3 rfl) ?_
            refine lv_bipush (v := 6) hx hb dX8_takes_123 (by decide) ?_
            refine zi_icmp_ge (tgt := 148) hx hb dX8_takes_125 (by decide) hf (fun hc hf => ?_) (fun hc hf => ?_)
            · skip
              exact hJ12 () H locs ls hf hW (lv_sub hl [0, 1, 2, 3] rfl)
            · skip
              refine lv_iload_n hx hb dX8_takes_128 rfl (lv_at hl 1 rfl) ?_
              refine lv_bipush (v := 44) hx hb dX8_takes_129 (by decide) ?_
              refine zi_icmp_ne (tgt := 148) hx hb dX8_takes_131 (by decide) hf (fun hc hf => ?_) (fun hc hf => ?_)
              · skip
                exact hJ7 () H locs ls hf hW (lv_sub hl [0] rfl)
              · skip
                exact hJ12 () H locs ls hf hW (lv_sub hl [0, 1, 2, 3] rfl)
          · skip
            exact hJ12 () H locs ls hf hW (lv_sub hl [0, 1, 2, 3] rfl)
        refine zi_icmp_ne (tgt := 115) hx hb dX8_takes_100 (by decide) hf (fun hc hf => ?_) (fun hc hf => ?_)
        · skip
          refine lv_iload hx hb dX8_takes_103 (lv_at hl 0 rfl) ?_
          refine lv_iconst (v := 1) hx hb dX8_takes_105 (by decide) ?_
          refine zi_icmp_ne (tgt := 115) hx hb dX8_takes_106 (by decide) hf (fun hc hf => ?_) (fun hc hf => ?_)
          · skip
            refine lv_iload_n hx hb dX8_takes_109 rfl (lv_at hl 4 rfl) ?_
            refine lv_bipush (v := 46) hx hb dX8_takes_110 (by decide) ?_
            refine zi_icmp_eq (tgt := 134) hx hb dX8_takes_112 (by decide) hf (fun hc hf => ?_) (fun hc hf => ?_)
            · skip
              exact hJ7 () H locs ls hf hW (lv_sub hl [3] rfl)
            · skip
              exact hJ10 () H locs ls hf hW (lv_sub hl [3, 4, 2, 0] rfl)
          · skip
            exact hJ10 () H locs ls hf hW (lv_sub hl [3, 4, 2, 0] rfl)
        · skip
          exact hJ10 () H locs ls hf hW (lv_sub hl [3, 4, 2, 0] rfl)
      · skip
        refine lv_iload_n hx hb dX8_takes_69 rfl (lv_at hl 1 rfl) ?_
        refine zi_if_ne (tgt := 91) hx hb dX8_takes_70 (by decide) hf (fun hc hf => ?_) (fun hc hf => ?_)
        · skip
          refine lv_iload_n hx hb dX8_takes_73 rfl (lv_at hl 2 rfl) ?_
          refine lv_bipush (v := 91) hx hb dX8_takes_74 (by decide) ?_
          refine zi_icmp_ne (tgt := 91) hx hb dX8_takes_76 (by decide) hf (fun hc hf => ?_) (fun hc hf => ?_)
          · skip
            refine lv_iload_n hx hb dX8_takes_79 rfl (lv_at hl 4 rfl) ?_
            refine lv_bipush (v := 93) hx hb dX8_takes_80 (by decide) ?_
            refine zi_icmp_ne (tgt := 91) hx hb dX8_takes_82 (by decide) hf (fun hc hf => ?_) (fun hc hf => ?_)
            · skip
              refine lv_aload_n hx hb dX8_takes_85 rfl (lv_at hl 3 rfl) ?_
              obtain ⟨s23, hq, hf⟩ := zb1_o hf
              refine zc_v hW (zrun_v (As := []) (rest := []) hC hW (mX8_shuts s0 hC.2.2.2.2.2.2.2 hq) cv_X8_178 zck_1_0 zcs_1_0 rfl ⟨⟨rfl, rfl⟩, Nat.le_of_ble_eq_true rfl, Nat.le_of_ble_eq_true rfl⟩ (zlv_size hl) rfl (Nat.le_of_ble_eq_true rfl) dX8_takes_86 ⟨Nat.le_refl _, Nat.le_refl _⟩) (fun H locs hW => ?_)
              refine lv_iconst (v := 1) hx hb dX8_takes_89 (by decide) ?_
              exact zr_z hx hb hr hlk hW (by decide) (zo1 hf) (zo2 hf) dX8_takes_90
            · skip
              refine lv_aload_n hx hb dX8_takes_91 rfl (lv_at hl 3 rfl) ?_
              refine lv_iload_n hx hb dX8_takes_92 rfl (lv_at hl 4 rfl) ?_
              obtain ⟨v24, s25, hq, hf⟩ := zb2_o hf
              refine zc_i hW (zrun_v (As := [.int p1]) (rest := []) hC hW (mX8_begins p1 s0 hC.2.2.2.2.2.2.2 hq) cv_X8_175 zck_1_0 zcs_1_0 rfl ⟨⟨rfl, rfl⟩, Nat.le_of_ble_eq_true rfl, Nat.le_of_ble_eq_true rfl⟩ (zlv_size hl) rfl (Nat.le_of_ble_eq_true rfl) dX8_takes_93 ⟨Nat.le_refl _, Nat.le_refl _⟩) (fun H locs hW => ?_)
              obtain ⟨h01, hf⟩ := zck_o hf
              exact zr_z hx hb hr hlk hW h01 (zo1 hf) (zo2 hf) dX8_takes_96
          · skip
            refine lv_aload_n hx hb dX8_takes_91 rfl (lv_at hl 3 rfl) ?_
            refine lv_iload_n hx hb dX8_takes_92 rfl (lv_at hl 4 rfl) ?_
            obtain ⟨v26, s27, hq, hf⟩ := zb2_o hf
            refine zc_i hW (zrun_v (As := [.int p1]) (rest := []) hC hW (mX8_begins p1 s0 hC.2.2.2.2.2.2.2 hq) cv_X8_175 zck_1_0 zcs_1_0 rfl ⟨⟨rfl, rfl⟩, Nat.le_of_ble_eq_true rfl, Nat.le_of_ble_eq_true rfl⟩ (zlv_size hl) rfl (Nat.le_of_ble_eq_true rfl) dX8_takes_93 ⟨Nat.le_refl _, Nat.le_refl _⟩) (fun H locs hW => ?_)
            obtain ⟨h01, hf⟩ := zck_o hf
            exact zr_z hx hb hr hlk hW h01 (zo1 hf) (zo2 hf) dX8_takes_96
        · skip
          refine lv_aload_n hx hb dX8_takes_91 rfl (lv_at hl 3 rfl) ?_
          refine lv_iload_n hx hb dX8_takes_92 rfl (lv_at hl 4 rfl) ?_
          obtain ⟨v28, s29, hq, hf⟩ := zb2_o hf
          refine zc_i hW (zrun_v (As := [.int p1]) (rest := []) hC hW (mX8_begins p1 s0 hC.2.2.2.2.2.2.2 hq) cv_X8_175 zck_1_0 zcs_1_0 rfl ⟨⟨rfl, rfl⟩, Nat.le_of_ble_eq_true rfl, Nat.le_of_ble_eq_true rfl⟩ (zlv_size hl) rfl (Nat.le_of_ble_eq_true rfl) dX8_takes_93 ⟨Nat.le_refl _, Nat.le_refl _⟩) (fun H locs hW => ?_)
          obtain ⟨h01, hf⟩ := zck_o hf
          exact zr_z hx hb hr hlk hW h01 (zo1 hf) (zo2 hf) dX8_takes_96
  · skip
    refine lv_iconst (v := 0) hx hb dX8_takes_7 (by decide) ?_
    exact zr_z hx hb hr hlk hW (by decide) (zo1 hf) (zo2 hf) dX8_takes_8
set_option maxHeartbeats 4000000 in
set_option maxRecDepth 100000 in
theorem mX8_told {l : Launch} {D : va_G} {cI cJ : ClassId} {adr : Nat → Nat} {u : Nat} (p1 : Int32) (p2 : Int32) (s0 : zkS) {z : Nat} {ro : Int32} (hI : zInj u adr) (hf : fX8_told p1 p2 = ro) : Met l yX8_told (Cond.code yX8_told cX8_told 3 (some .int) :: zTb) { frames := 0, cells := 0, slots := 0, locals := 0 } (zPre u D cI cJ adr s0 z [.ref (adr 0), .int p1, .int p2]) (zQi u D cI cJ adr z ro s0) 0 0 (zA u adr z) := by
  refine zen (cc := cX8_told) (own := RX8) (by decide +kernel) rfl hI (Nat.le_of_ble_eq_true rfl) (fun p e s m args below meth c ls hC hr hlk hz hl hW => ?_)
  subst hz
  obtain ⟨hx, hb, -⟩ := id hC
  have hl : lv_has ls 3 [(0, .ref (adr 0)), (1, .int p1), (2, .int p2)] := hl
  refine zst hW (fun H locs hW => ?_)
  unfold fX8_told at hf
  refine lv_iload_n hx hb dX8_told_0 rfl (lv_at hl 1 rfl) ?_
  refine lv_bipush (v := 100) hx hb dX8_told_1 (by decide) ?_
  refine zi_icmp_lt (tgt := 15) hx hb dX8_told_3 (by decide) hf (fun hc hf => ?_) (fun hc hf => ?_)
  · skip
    refine lv_iload_n hx hb dX8_told_15 rfl (lv_at hl 1 rfl) ?_
    exact zr_i hx hb hr hlk hW hf rfl dX8_told_16
  · skip
    refine lv_iload_n hx hb dX8_told_6 rfl (lv_at hl 2 rfl) ?_
    refine lv_iload_n hx hb dX8_told_7 rfl (lv_at hl 1 rfl) ?_
    refine lv_iadd hx hb dX8_told_8 ?_
    refine lv_bipush (v := 100) hx hb dX8_told_9 (by decide) ?_
    refine lv_isub hx hb dX8_told_11 ?_
    refine lv_goto (tgt := 16) hx hb dX8_told_12 (by decide) ?_
    exact zr_i hx hb hr hlk hW hf rfl dX8_told_16
set_option maxHeartbeats 4000000 in
set_option maxRecDepth 100000 in
theorem mX8_build {l : Launch} {D : va_G} {cI cJ : ClassId} {adr : Nat → Nat} (p1 : Int32) (s0 : zkS) {z : Nat} {ro : Int32} {so : zkS} (hI : zInj 1 adr) (hf : fX8_build p1 s0 = some (ro, so)) : Met l yX8_build (Cond.code yX8_build cX8_build 7 (some .int) :: zTb) { frames := 4, cells := 0, slots := 0, locals := 93 } (zPre 1 D cI cJ adr s0 z [.ref (adr 0), .int p1]) (zQi 1 D cI cJ adr z ro so) 0 0 (zA 1 adr z) := by
  refine zen (cc := cX8_build) (own := RX8) (by decide +kernel) rfl hI (Nat.le_of_ble_eq_true rfl) (fun p e s m args below meth c ls hC hr hlk hz hl hW => ?_)
  subst hz
  obtain ⟨hx, hb, -⟩ := id hC
  have hl : lv_has ls 7 [(0, .ref (adr 0)), (1, .int p1)] := hl
  refine zst hW (fun H locs hW => ?_)
  unfold fX8_build at hf
  refine lv_iload_n hx hb dX8_build_0 rfl (lv_at hl 1 rfl) ?_
  refine lv_i2l hx hb dX8_build_1 rfl ?_
  refine lv_lconst (v := 0) hx hb dX8_build_2 (by decide) ?_
  refine lv_ldc2 hx hb hC.2.2.2.1 (hC.2.2.2.2.1 _ wq_986) dX8_build_3 ?_
  refine zc_i hW (zrun_s (As := [.long ((p1 : Int32).toInt64), .long 0, .long 3]) (rest := []) hC hW (mX8_in ((p1 : Int32).toInt64) 0 3 s0 hC.2.2.2.2.2.2.2 rfl) cs_X8_57 rfl ⟨⟨rfl, rfl⟩, Nat.le_of_ble_eq_true rfl, Nat.le_of_ble_eq_true rfl⟩ (zlv_size hl) rfl (Nat.le_of_ble_eq_true rfl) dX8_build_6 ⟨Nat.le_refl _, Nat.le_refl _⟩) (fun H locs hW => ?_)
  refine zi_if_ne (tgt := 14) hx hb dX8_build_9 (by decide) hf (fun hc hf => ?_) (fun hc hf => ?_)
  · skip
    refine lv_iconst (v := (-1)) hx hb dX8_build_12 (by decide) ?_
    exact zr_i hx hb hr hlk hW (zo1 hf) (zo2 hf) dX8_build_13
  · skip
    refine lv_aload_n hx hb dX8_build_14 rfl (lv_at hl 0 rfl) ?_
    refine zg_a (o := 0) hC hW fl_X8_11 zck_1_0 zcs_1_0 (show _ = 1 from rfl) dX8_build_15 ?_
    refine lv_iconst (v := 2) hx hb dX8_build_18 (by decide) ?_
    refine za_l hC hW hf zar_1_1 dX8_build_19 (fun v2 hf => ?_)
    refine lv_iconst (v := 1) hx hb dX8_build_20 (by decide) ?_
    refine zi_icmp_ne (tgt := 27) hx hb dX8_build_21 (by decide) hf (fun hc hf => ?_) (fun hc hf => ?_)
    · skip
      refine lv_bipush (v := (-3)) hx hb dX8_build_24 (by decide) ?_
      exact zr_i hx hb hr hlk hW (zo1 hf) (zo2 hf) dX8_build_26
    · skip
      refine lv_aload_n hx hb dX8_build_27 rfl (lv_at hl 0 rfl) ?_
      refine zg_i hC hW fl_X8_139 zck_1_0 zcs_1_0 dX8_build_28 ?_
      refine lv_istore_n (lv' := [(2, .int (s0.1 0 5)), (0, .ref (adr 0)), (1, .int p1)]) hx hb dX8_build_31 rfl hl (by decide) rfl (fun ls hl => ?_)
      refine lv_aload_n hx hb dX8_build_32 rfl (lv_at hl 1 rfl) ?_
      refine lv_iconst (v := 0) hx hb dX8_build_33 (by decide) ?_
      refine zp_i hC hW hf fp_X8_139 zck_1_0 zcs_1_0 dX8_build_34 (fun s3 H locs hf hW => ?_)
      refine lv_aload_n hx hb dX8_build_37 rfl (lv_at hl 1 rfl) ?_
      refine lv_iconst (v := 0) hx hb dX8_build_38 (by decide) ?_
      refine zp_i hC hW hf fp_X8_143 zck_1_0 zcs_1_0 dX8_build_39 (fun s4 H locs hf hW => ?_)
      refine lv_aload_n hx hb dX8_build_42 rfl (lv_at hl 1 rfl) ?_
      refine lv_iconst (v := 0) hx hb dX8_build_43 (by decide) ?_
      refine zp_i hC hW hf fp_X8_146 zck_1_0 zcs_1_0 dX8_build_44 (fun s5 H locs hf hW => ?_)
      refine lv_aload_n hx hb dX8_build_47 rfl (lv_at hl 1 rfl) ?_
      refine lv_iconst (v := 0) hx hb dX8_build_48 (by decide) ?_
      refine zp_y hC hW hf (by decide) fp_X8_152 zck_1_0 zcs_1_0 dX8_build_49 (fun s6 H locs hf hW => ?_)
      refine lv_iconst (v := 0) hx hb dX8_build_52 (by decide) ?_
      refine lv_istore_n (lv' := [(3, .int 0), (2, .int (s0.1 0 5)), (0, .ref (adr 0)), (1, .int p1)]) hx hb dX8_build_53 rfl hl (by decide) rfl (fun ls hl => ?_)
      have hL54 : ∀ (n : Nat) (x2 : Int32) (x3 : Int32) (s7 : zkS) (K54 : zkS → Option (Int32 × zkS)) (H : Heap) (locs : List Loc) (ls : Array Slot), fX8_build_L54 n x2 x3 s7 K54 = some (ro, so) → zWo 1 D cI cJ adr s s7 H locs → lv_has ls 7 [(0, .ref (adr 0)), (1, .int p1), (2, .int x2), (3, .int x3)] → (∀ (s7 : zkS) (H : Heap) (locs : List Loc) (ls : Array Slot), K54 s7 = some (ro, so) → zWo 1 D cI cJ adr s s7 H locs → lv_has ls 7 [(0, .ref (adr 0)), (1, .int p1), (2, .int x2)] → W p l e { frames := 4, cells := 0, slots := 0, locals := 93 } s m args below meth c H locs 0 0 (MQ below (zQi 1 D cI cJ adr s.heap.size ro so) args s 0 0 (zA 1 adr s.heap.size)) (F0 m 83 ls [])) → W p l e { frames := 4, cells := 0, slots := 0, locals := 93 } s m args below meth c H locs 0 0 (MQ below (zQi 1 D cI cJ adr s.heap.size ro so) args s 0 0 (zA 1 adr s.heap.size)) (F0 m 54 ls []) := by
        intro n
        induction n with
        | zero =>
          intro x2 x3 s7 K54 H locs ls hf hW hl hK54
          rw [fX8_build_L54] at hf
          cases hf
        | succ n ih54 =>
          intro x2 x3 s7 K54 H locs ls hf hW hl hK54
          rw [fX8_build_L54] at hf
          refine lv_iload_n hx hb dX8_build_54 rfl (lv_at hl 3 rfl) ?_
          refine lv_iload_n hx hb dX8_build_55 rfl (lv_at hl 2 rfl) ?_
          refine zi_icmp_ge (tgt := 83) hx hb dX8_build_56 (by decide) hf (fun hc hf => ?_) (fun hc hf => ?_)
          · skip
            exact hK54 s7 H locs ls hf hW (lv_sub hl [0, 1, 2] rfl)
          · skip
            refine lv_aload_n hx hb dX8_build_59 rfl (lv_at hl 0 rfl) ?_
            refine lv_aload_n hx hb dX8_build_60 rfl (lv_at hl 0 rfl) ?_
            refine zg_a (o := 3) hC hW fl_X8_21 zck_1_0 zcs_1_0 (show _ = 4 from rfl) dX8_build_61 ?_
            refine lv_iload_n hx hb dX8_build_64 rfl (lv_at hl 3 rfl) ?_
            refine za_l hC hW hf zar_1_4 dX8_build_65 (fun v8 hf => ?_)
            obtain ⟨v9, s10, hq, hf⟩ := zb2_o hf
            refine zc_i hW (zrun_v (As := [.int v8]) (rest := []) hC hW (mX8_takes v8 s7 hC.2.2.2.2.2.2.2 hq) cv_X8_181 zck_1_0 zcs_1_0 rfl ⟨⟨rfl, rfl⟩, Nat.le_of_ble_eq_true rfl, Nat.le_of_ble_eq_true rfl⟩ (zlv_size hl) rfl (Nat.le_of_ble_eq_true rfl) dX8_build_66 ⟨Nat.le_refl _, Nat.le_refl _⟩) (fun H locs hW => ?_)
            refine zi_if_ne (tgt := 77) hx hb dX8_build_69 (by decide) hf (fun hc hf => ?_) (fun hc hf => ?_)
            · skip
              refine lv_bipush (v := (-10)) hx hb dX8_build_72 (by decide) ?_
              refine lv_iload_n hx hb dX8_build_74 rfl (lv_at hl 3 rfl) ?_
              refine lv_isub hx hb dX8_build_75 ?_
              exact zr_i hx hb hr hlk hW (zo1 hf) (zo2 hf) dX8_build_76
            · skip
              refine zi_inc (v := (x3 + 1)) (lv' := fun v11 => [(3, .int v11), (0, .ref (adr 0)), (1, .int p1), (2, .int x2)]) hx hb dX8_build_77 hl (k := 3) rfl rfl (by decide) (fun _ => rfl) hf (fun v11 ls hf hl => ?_)
              refine lv_goto (tgt := 54) hx hb dX8_build_80 (by decide) ?_
              exact ih54 x2 v11 s10 _ H locs ls hf hW (lv_sub hl [1, 2, 3, 0] rfl) hK54
      refine hL54 zFU (s0.1 0 5) 0 s6 _ H locs ls hf hW (lv_sub hl [2, 3, 1, 0] rfl) (fun s12 H locs ls hf hW hl => ?_)
      refine lv_aload_n hx hb dX8_build_83 rfl (lv_at hl 0 rfl) ?_
      refine zg_i hC hW fl_X8_152 zck_1_0 zcs_1_0 dX8_build_84 ?_
      refine zi_if_ne (tgt := 95) hx hb dX8_build_87 (by decide) hf (fun hc hf => ?_) (fun hc hf => ?_)
      · skip
        refine lv_bipush (v := (-10)) hx hb dX8_build_90 (by decide) ?_
        refine lv_iload_n hx hb dX8_build_92 rfl (lv_at hl 2 rfl) ?_
        refine lv_isub hx hb dX8_build_93 ?_
        exact zr_i hx hb hr hlk hW (zo1 hf) (zo2 hf) dX8_build_94
      · skip
        refine lv_aload_n hx hb dX8_build_95 rfl (lv_at hl 0 rfl) ?_
        refine zg_a (o := 0) hC hW fl_X8_11 zck_1_0 zcs_1_0 (show _ = 1 from rfl) dX8_build_96 ?_
        refine lv_iconst (v := 0) hx hb dX8_build_99 (by decide) ?_
        refine za_l hC hW hf zar_1_1 dX8_build_100 (fun v13 hf => ?_)
        refine lv_istore_n (lv' := [(3, .int v13), (0, .ref (adr 0)), (1, .int p1), (2, .int (s0.1 0 5))]) hx hb dX8_build_101 rfl hl (by decide) rfl (fun ls hl => ?_)
        refine lv_iload_n hx hb dX8_build_102 rfl (lv_at hl 0 rfl) ?_
        refine lv_aload_n hx hb dX8_build_103 rfl (lv_at hl 1 rfl) ?_
        refine zg_i hC hW fl_X8_143 zck_1_0 zcs_1_0 dX8_build_104 ?_
        refine lv_iadd hx hb dX8_build_107 ?_
        refine lv_bipush (v := 24) hx hb dX8_build_108 (by decide) ?_
        refine zi_icmp_le (tgt := 116) hx hb dX8_build_110 (by decide) hf (fun hc hf => ?_) (fun hc hf => ?_)
        · skip
          refine lv_iconst (v := 0) hx hb dX8_build_116 (by decide) ?_
          refine lv_istore (lv' := [(4, .int 0), (3, .int v13), (0, .ref (adr 0)), (1, .int p1), (2, .int (s0.1 0 5))]) hx hb dX8_build_117 hl (by decide) rfl (fun ls hl => ?_)
          have hL119 : ∀ (n : Nat) (x3 : Int32) (x4 : Int32) (s14 : zkS) (K119 : zkS → Option (Int32 × zkS)) (H : Heap) (locs : List Loc) (ls : Array Slot), fX8_build_L119 n x3 x4 s14 K119 = some (ro, so) → zWo 1 D cI cJ adr s s14 H locs → lv_has ls 7 [(0, .ref (adr 0)), (1, .int p1), (3, .int x3), (4, .int x4)] → (∀ (s14 : zkS) (H : Heap) (locs : List Loc) (ls : Array Slot), K119 s14 = some (ro, so) → zWo 1 D cI cJ adr s s14 H locs → lv_has ls 7 [(0, .ref (adr 0)), (1, .int p1), (3, .int x3)] → W p l e { frames := 4, cells := 0, slots := 0, locals := 93 } s m args below meth c H locs 0 0 (MQ below (zQi 1 D cI cJ adr s.heap.size ro so) args s 0 0 (zA 1 adr s.heap.size)) (F0 m 220 ls [])) → W p l e { frames := 4, cells := 0, slots := 0, locals := 93 } s m args below meth c H locs 0 0 (MQ below (zQi 1 D cI cJ adr s.heap.size ro so) args s 0 0 (zA 1 adr s.heap.size)) (F0 m 119 ls []) := by
            intro n
            induction n with
            | zero =>
              intro x3 x4 s14 K119 H locs ls hf hW hl hK119
              rw [fX8_build_L119] at hf
              cases hf
            | succ n ih119 =>
              intro x3 x4 s14 K119 H locs ls hf hW hl hK119
              rw [fX8_build_L119] at hf
              refine lv_iload hx hb dX8_build_119 (lv_at hl 3 rfl) ?_
              refine lv_aload_n hx hb dX8_build_121 rfl (lv_at hl 0 rfl) ?_
              refine zg_i hC hW fl_X8_143 zck_1_0 zcs_1_0 dX8_build_122 ?_
              refine zi_icmp_ge (tgt := 220) hx hb dX8_build_125 (by decide) hf (fun hc hf => ?_) (fun hc hf => ?_)
              · skip
                exact hK119 s14 H locs ls hf hW (lv_sub hl [0, 1, 2] rfl)
              · skip
                refine lv_aload_n hx hb dX8_build_128 rfl (lv_at hl 0 rfl) ?_
                refine zg_a (o := 0) hC hW fl_X8_11 zck_1_0 zcs_1_0 (show _ = 1 from rfl) dX8_build_129 ?_
                refine lv_aload_n hx hb dX8_build_132 rfl (lv_at hl 0 rfl) ?_
                refine zg_a (o := 7) hC hW fl_X8_33 zck_1_0 zcs_1_0 (show _ = 8 from rfl) dX8_build_133 ?_
                refine lv_iload hx hb dX8_build_136 (lv_at hl 3 rfl) ?_
                refine za_l hC hW hf zar_1_8 dX8_build_138 (fun v15 hf => ?_)
                refine lv_aload_n hx hb dX8_build_139 rfl (lv_at hl 0 rfl) ?_
                refine zg_a (o := 8) hC hW fl_X8_36 zck_1_0 zcs_1_0 (show _ = 9 from rfl) dX8_build_140 ?_
                refine lv_iload hx hb dX8_build_143 (lv_at hl 3 rfl) ?_
                refine za_l hC hW hf zar_1_9 dX8_build_145 (fun v16 hf => ?_)
                refine lv_aload_n hx hb dX8_build_146 rfl (lv_at hl 0 rfl) ?_
                refine zg_a (o := 9) hC hW fl_X8_39 zck_1_0 zcs_1_0 (show _ = 10 from rfl) dX8_build_147 ?_
                refine lv_iload hx hb dX8_build_150 (lv_at hl 3 rfl) ?_
                refine za_l hC hW hf zar_1_10 dX8_build_152 (fun v17 hf => ?_)
                obtain ⟨v18, s19, hq, hf⟩ := zb2_o hf
                refine zc_i hW (zrun_s (As := [.ref (adr 1), .int v15, .int v16, .int v17]) (rest := []) hC hW (mX8_comes zMc_1 v15 v16 v17 s14 hC.2.2.2.2.2.2.2 hq) cs_X8_77 rfl ⟨⟨rfl, rfl⟩, Nat.le_of_ble_eq_true rfl, Nat.le_of_ble_eq_true rfl⟩ (zlv_size hl) rfl (Nat.le_of_ble_eq_true rfl) dX8_build_153 ⟨Nat.le_refl _, Nat.le_refl _⟩) (fun H locs hW => ?_)
                refine lv_istore (lv' := [(5, .int v18), (0, .ref (adr 0)), (1, .int p1), (3, .int x3), (4, .int x4)]) hx hb dX8_build_156 hl (by decide) rfl (fun ls hl => ?_)
                refine lv_iconst (v := 0) hx hb dX8_build_158 (by decide) ?_
                refine lv_istore (lv' := [(6, .int 0), (5, .int v18), (0, .ref (adr 0)), (1, .int p1), (3, .int x3), (4, .int x4)]) hx hb dX8_build_159 hl (by decide) rfl (fun ls hl => ?_)
                have hL161 : ∀ (n : Nat) (x3 : Int32) (x4 : Int32) (x5 : Int32) (x6 : Int32) (s20 : zkS) (K161 : zkS → Option (Int32 × zkS)) (H : Heap) (locs : List Loc) (ls : Array Slot), fX8_build_L161 n x3 x4 x5 x6 s20 K161 = some (ro, so) → zWo 1 D cI cJ adr s s20 H locs → lv_has ls 7 [(0, .ref (adr 0)), (1, .int p1), (3, .int x3), (4, .int x4), (5, .int x5), (6, .int x6)] → (∀ (s20 : zkS) (H : Heap) (locs : List Loc) (ls : Array Slot), K161 s20 = some (ro, so) → zWo 1 D cI cJ adr s s20 H locs → lv_has ls 7 [(0, .ref (adr 0)), (1, .int p1), (3, .int x3), (4, .int x4)] → W p l e { frames := 4, cells := 0, slots := 0, locals := 93 } s m args below meth c H locs 0 0 (MQ below (zQi 1 D cI cJ adr s.heap.size ro so) args s 0 0 (zA 1 adr s.heap.size)) (F0 m 214 ls [])) → W p l e { frames := 4, cells := 0, slots := 0, locals := 93 } s m args below meth c H locs 0 0 (MQ below (zQi 1 D cI cJ adr s.heap.size ro so) args s 0 0 (zA 1 adr s.heap.size)) (F0 m 161 ls []) := by
                  intro n
                  induction n with
                  | zero =>
                    intro x3 x4 x5 x6 s20 K161 H locs ls hf hW hl hK161
                    rw [fX8_build_L161] at hf
                    cases hf
                  | succ n ih161 =>
                    intro x3 x4 x5 x6 s20 K161 H locs ls hf hW hl hK161
                    rw [fX8_build_L161] at hf
                    refine lv_iload hx hb dX8_build_161 (lv_at hl 5 rfl) ?_
                    refine lv_aload_n hx hb dX8_build_163 rfl (lv_at hl 0 rfl) ?_
                    refine zg_a (o := 9) hC hW fl_X8_39 zck_1_0 zcs_1_0 (show _ = 10 from rfl) dX8_build_164 ?_
                    refine lv_iload hx hb dX8_build_167 (lv_at hl 3 rfl) ?_
                    refine za_l hC hW hf zar_1_10 dX8_build_169 (fun v21 hf => ?_)
                    refine zi_icmp_ge (tgt := 214) hx hb dX8_build_170 (by decide) hf (fun hc hf => ?_) (fun hc hf => ?_)
                    · skip
                      exact hK161 s20 H locs ls hf hW (lv_sub hl [0, 1, 2, 3] rfl)
                    · skip
                      refine lv_aload_n hx hb dX8_build_173 rfl (lv_at hl 0 rfl) ?_
                      refine zg_a (o := 0) hC hW fl_X8_11 zck_1_0 zcs_1_0 (show _ = 1 from rfl) dX8_build_174 ?_
                      refine lv_sipush (v := 140) hx hb dX8_build_177 (by decide) ?_
                      refine lv_bipush (v := 6) hx hb dX8_build_180 (by decide) ?_
                      refine lv_iload hx hb dX8_build_182 (lv_at hl 4 rfl) ?_
                      refine lv_imul hx hb dX8_build_184 ?_
                      refine lv_iadd hx hb dX8_build_185 ?_
                      refine lv_iload hx hb dX8_build_186 (lv_at hl 5 rfl) ?_
                      refine lv_iadd hx hb dX8_build_188 ?_
                      refine lv_aload_n hx hb dX8_build_189 rfl (lv_at hl 0 rfl) ?_
                      refine lv_aload_n hx hb dX8_build_190 rfl (lv_at hl 0 rfl) ?_
                      refine zg_a (o := 10) hC hW fl_X8_42 zck_1_0 zcs_1_0 (show _ = 11 from rfl) dX8_build_191 ?_
                      refine lv_bipush (v := 6) hx hb dX8_build_194 (by decide) ?_
                      refine lv_iload hx hb dX8_build_196 (lv_at hl 3 rfl) ?_
                      refine lv_imul hx hb dX8_build_198 ?_
                      refine lv_iload hx hb dX8_build_199 (lv_at hl 5 rfl) ?_
                      refine lv_iadd hx hb dX8_build_201 ?_
                      refine za_l hC hW hf zar_1_11 dX8_build_202 (fun v22 hf => ?_)
                      refine lv_iload_n hx hb dX8_build_203 rfl (lv_at hl 2 rfl) ?_
                      refine zc_i hW (zrun_v (As := [.int v22, .int x3]) (rest := [.int ((140 + (6 * x5)) + x6), .ref (adr 1)]) hC hW (mX8_told v22 x3 s20 hC.2.2.2.2.2.2.2 rfl) cv_X8_184 zck_1_0 zcs_1_0 rfl ⟨⟨rfl, rfl⟩, Nat.le_of_ble_eq_true rfl, Nat.le_of_ble_eq_true rfl⟩ (zlv_size hl) rfl (Nat.le_of_ble_eq_true rfl) dX8_build_204 ⟨Nat.le_refl _, Nat.le_refl _⟩) (fun H locs hW => ?_)
                      refine za_s hC hW hf zar_1_1 dX8_build_207 (fun s24 H locs hf hW => ?_)
                      refine zi_inc (v := (x6 + 1)) (lv' := fun v25 => [(6, .int v25), (0, .ref (adr 0)), (1, .int p1), (3, .int x3), (4, .int x4), (5, .int x5)]) hx hb dX8_build_208 hl (k := 5) rfl rfl (by decide) (fun _ => rfl) hf (fun v25 ls hf hl => ?_)
                      refine lv_goto (tgt := 161) hx hb dX8_build_211 (by decide) ?_
                      exact ih161 x3 x4 x5 v25 s24 _ H locs ls hf hW (lv_sub hl [1, 2, 3, 4, 5, 0] rfl) hK161
                refine hL161 zFU x3 x4 v18 0 s19 _ H locs ls hf hW (lv_sub hl [2, 3, 4, 5, 1, 0] rfl) (fun s26 H locs ls hf hW hl => ?_)
                refine zi_inc (v := (x4 + 1)) (lv' := fun v27 => [(4, .int v27), (0, .ref (adr 0)), (1, .int p1), (3, .int x3)]) hx hb dX8_build_214 hl (k := 3) rfl rfl (by decide) (fun _ => rfl) hf (fun v27 ls hf hl => ?_)
                refine lv_goto (tgt := 119) hx hb dX8_build_217 (by decide) ?_
                exact ih119 x3 v27 s26 _ H locs ls hf hW (lv_sub hl [1, 2, 3, 0] rfl) hK119
          refine hL119 zFU v13 0 s12 _ H locs ls hf hW (lv_sub hl [2, 3, 1, 0] rfl) (fun s28 H locs ls hf hW hl => ?_)
          refine lv_aload_n hx hb dX8_build_220 rfl (lv_at hl 0 rfl) ?_
          refine zg_a (o := 0) hC hW fl_X8_11 zck_1_0 zcs_1_0 (show _ = 1 from rfl) dX8_build_221 ?_
          refine lv_bipush (v := 16) hx hb dX8_build_224 (by decide) ?_
          refine lv_iload_n hx hb dX8_build_226 rfl (lv_at hl 1 rfl) ?_
          refine lv_iadd hx hb dX8_build_227 ?_
          refine lv_aload_n hx hb dX8_build_228 rfl (lv_at hl 0 rfl) ?_
          refine lv_aload_n hx hb dX8_build_229 rfl (lv_at hl 0 rfl) ?_
          refine zg_i hC hW fl_X8_149 zck_1_0 zcs_1_0 dX8_build_230 ?_
          refine lv_iload_n hx hb dX8_build_233 rfl (lv_at hl 2 rfl) ?_
          refine zc_i hW (zrun_v (As := [.int (s28.1 0 15), .int v13]) (rest := [.int (16 + p1), .ref (adr 1)]) hC hW (mX8_told (s28.1 0 15) v13 s28 hC.2.2.2.2.2.2.2 rfl) cv_X8_184 zck_1_0 zcs_1_0 rfl ⟨⟨rfl, rfl⟩, Nat.le_of_ble_eq_true rfl, Nat.le_of_ble_eq_true rfl⟩ (zlv_size hl) rfl (Nat.le_of_ble_eq_true rfl) dX8_build_234 ⟨Nat.le_refl _, Nat.le_refl _⟩) (fun H locs hW => ?_)
          refine za_s hC hW hf zar_1_1 dX8_build_237 (fun s30 H locs hf hW => ?_)
          refine lv_aload_n hx hb dX8_build_238 rfl (lv_at hl 0 rfl) ?_
          refine zg_a (o := 0) hC hW fl_X8_11 zck_1_0 zcs_1_0 (show _ = 1 from rfl) dX8_build_239 ?_
          refine lv_bipush (v := 15) hx hb dX8_build_242 (by decide) ?_
          refine lv_iconst (v := 0) hx hb dX8_build_244 (by decide) ?_
          refine za_s hC hW hf zar_1_1 dX8_build_245 (fun s31 H locs hf hW => ?_)
          refine lv_aload_n hx hb dX8_build_246 rfl (lv_at hl 0 rfl) ?_
          refine zg_i hC hW fl_X8_143 zck_1_0 zcs_1_0 dX8_build_247 ?_
          exact zr_i hx hb hr hlk hW (zo1 hf) (zo2 hf) dX8_build_250
        · skip
          refine lv_bipush (v := (-4)) hx hb dX8_build_113 (by decide) ?_
          exact zr_i hx hb hr hlk hW (zo1 hf) (zo2 hf) dX8_build_115
set_option maxHeartbeats 4000000 in
set_option maxRecDepth 100000 in
theorem mX8_starts {l : Launch} {D : va_G} {cI cJ : ClassId} {adr : Nat → Nat} {w1 : Nat} (k1 : zM w1) (p2 : Int32) (s0 : zkS) {z : Nat} {so : zkS} (hI : zInj 1 adr) (hf : fX8_starts w1 p2 s0 = some so) : Met l yX8_starts (Cond.code yX8_starts cX8_starts 2 none :: zTb) { frames := 0, cells := 0, slots := 0, locals := 0 } (zPre 1 D cI cJ adr s0 z [.ref (adr w1), .int p2]) (zQv 1 D cI cJ adr z so) 0 0 (zA 1 adr z) := by
  refine zen (cc := cX8_starts) (own := RX8) (by decide +kernel) rfl hI (Nat.le_of_ble_eq_true rfl) (fun p e s m args below meth c ls hC hr hlk hz hl hW => ?_)
  subst hz
  obtain ⟨hx, hb, -⟩ := id hC
  have hl : lv_has ls 2 [(0, .ref (adr w1)), (1, .int p2)] := hl
  refine zst hW (fun H locs hW => ?_)
  unfold fX8_starts at hf
  refine lv_aload_n hx hb dX8_starts_0 rfl (lv_at hl 0 rfl) ?_
  refine lv_iconst (v := 2) hx hb dX8_starts_1 (by decide) ?_
  refine lv_iconst (v := 1) hx hb dX8_starts_2 (by decide) ?_
  refine za_s hC hW hf (zM_a k1) dX8_starts_3 (fun s1 H locs hf hW => ?_)
  refine lv_aload_n hx hb dX8_starts_4 rfl (lv_at hl 0 rfl) ?_
  refine lv_iconst (v := 3) hx hb dX8_starts_5 (by decide) ?_
  refine lv_iload_n hx hb dX8_starts_6 rfl (lv_at hl 1 rfl) ?_
  refine za_s hC hW hf (zM_a k1) dX8_starts_7 (fun s2 H locs hf hW => ?_)
  refine lv_aload_n hx hb dX8_starts_8 rfl (lv_at hl 0 rfl) ?_
  refine lv_iconst (v := 4) hx hb dX8_starts_9 (by decide) ?_
  refine lv_bipush (v := (-5)) hx hb dX8_starts_10 (by decide) ?_
  refine za_s hC hW hf (zM_a k1) dX8_starts_12 (fun s3 H locs hf hW => ?_)
  refine lv_aload_n hx hb dX8_starts_13 rfl (lv_at hl 0 rfl) ?_
  refine lv_iconst (v := 5) hx hb dX8_starts_14 (by decide) ?_
  refine lv_iconst (v := 0) hx hb dX8_starts_15 (by decide) ?_
  refine za_s hC hW hf (zM_a k1) dX8_starts_16 (fun s4 H locs hf hW => ?_)
  refine lv_aload_n hx hb dX8_starts_17 rfl (lv_at hl 0 rfl) ?_
  refine lv_bipush (v := 6) hx hb dX8_starts_18 (by decide) ?_
  refine lv_iconst (v := 0) hx hb dX8_starts_20 (by decide) ?_
  refine za_s hC hW hf (zM_a k1) dX8_starts_21 (fun s5 H locs hf hW => ?_)
  refine lv_aload_n hx hb dX8_starts_22 rfl (lv_at hl 0 rfl) ?_
  refine lv_bipush (v := 7) hx hb dX8_starts_23 (by decide) ?_
  refine lv_iconst (v := 0) hx hb dX8_starts_25 (by decide) ?_
  refine za_s hC hW hf (zM_a k1) dX8_starts_26 (fun s6 H locs hf hW => ?_)
  refine lv_aload_n hx hb dX8_starts_27 rfl (lv_at hl 0 rfl) ?_
  refine lv_bipush (v := 8) hx hb dX8_starts_28 (by decide) ?_
  refine lv_iconst (v := 0) hx hb dX8_starts_30 (by decide) ?_
  refine za_s hC hW hf (zM_a k1) dX8_starts_31 (fun s7 H locs hf hW => ?_)
  refine lv_aload_n hx hb dX8_starts_32 rfl (lv_at hl 0 rfl) ?_
  refine lv_bipush (v := 9) hx hb dX8_starts_33 (by decide) ?_
  refine lv_iconst (v := 0) hx hb dX8_starts_35 (by decide) ?_
  refine za_s hC hW hf (zM_a k1) dX8_starts_36 (fun s8 H locs hf hW => ?_)
  refine lv_aload_n hx hb dX8_starts_37 rfl (lv_at hl 0 rfl) ?_
  refine lv_bipush (v := 10) hx hb dX8_starts_38 (by decide) ?_
  refine lv_iconst (v := 0) hx hb dX8_starts_40 (by decide) ?_
  refine za_s hC hW hf (zM_a k1) dX8_starts_41 (fun s9 H locs hf hW => ?_)
  refine lv_aload_n hx hb dX8_starts_42 rfl (lv_at hl 0 rfl) ?_
  refine lv_bipush (v := 11) hx hb dX8_starts_43 (by decide) ?_
  refine lv_iconst (v := 0) hx hb dX8_starts_45 (by decide) ?_
  refine za_s hC hW hf (zM_a k1) dX8_starts_46 (fun s10 H locs hf hW => ?_)
  refine lv_aload_n hx hb dX8_starts_47 rfl (lv_at hl 0 rfl) ?_
  refine lv_bipush (v := 12) hx hb dX8_starts_48 (by decide) ?_
  refine lv_iconst (v := 0) hx hb dX8_starts_50 (by decide) ?_
  refine za_s hC hW hf (zM_a k1) dX8_starts_51 (fun s11 H locs hf hW => ?_)
  refine lv_aload_n hx hb dX8_starts_52 rfl (lv_at hl 0 rfl) ?_
  refine lv_bipush (v := 13) hx hb dX8_starts_53 (by decide) ?_
  refine lv_iconst (v := 0) hx hb dX8_starts_55 (by decide) ?_
  refine za_s hC hW hf (zM_a k1) dX8_starts_56 (fun s12 H locs hf hW => ?_)
  refine lv_aload_n hx hb dX8_starts_57 rfl (lv_at hl 0 rfl) ?_
  refine lv_bipush (v := 15) hx hb dX8_starts_58 (by decide) ?_
  refine lv_iconst (v := 0) hx hb dX8_starts_60 (by decide) ?_
  refine za_s hC hW hf (zM_a k1) dX8_starts_61 (fun s13 H locs hf hW => ?_)
  exact zr_v hx hb hr hlk hW (Option.some.inj hf) dX8_starts_62
set_option maxHeartbeats 4000000 in
set_option maxRecDepth 100000 in
theorem mX8_marks {l : Launch} {D : va_G} {cI cJ : ClassId} {adr : Nat → Nat} {w1 : Nat} (k1 : zM w1) (p2 : Int32) (s0 : zkS) {z : Nat} {so : zkS} (hI : zInj 1 adr) (hf : fX8_marks w1 p2 s0 = some so) : Met l yX8_marks (Cond.code yX8_marks cX8_marks 2 none :: zTb) { frames := 0, cells := 0, slots := 0, locals := 0 } (zPre 1 D cI cJ adr s0 z [.ref (adr w1), .int p2]) (zQv 1 D cI cJ adr z so) 0 0 (zA 1 adr z) := by
  refine zen (cc := cX8_marks) (own := RX8) (by decide +kernel) rfl hI (Nat.le_of_ble_eq_true rfl) (fun p e s m args below meth c ls hC hr hlk hz hl hW => ?_)
  subst hz
  obtain ⟨hx, hb, -⟩ := id hC
  have hl : lv_has ls 2 [(0, .ref (adr w1)), (1, .int p2)] := hl
  refine zst hW (fun H locs hW => ?_)
  unfold fX8_marks at hf
  refine lv_aload_n hx hb dX8_marks_0 rfl (lv_at hl 0 rfl) ?_
  refine lv_bipush (v := 12) hx hb dX8_marks_1 (by decide) ?_
  refine lv_dup2_11 hx hb dX8_marks_3 rfl rfl ?_
  refine za_l hC hW hf (zM_a k1) dX8_marks_4 (fun v1 hf => ?_)
  refine lv_iconst (v := 1) hx hb dX8_marks_5 (by decide) ?_
  refine lv_iload_n hx hb dX8_marks_6 rfl (lv_at hl 1 rfl) ?_
  refine lv_ishl hx hb dX8_marks_7 ?_
  refine lv_ior hx hb dX8_marks_8 ?_
  refine za_s hC hW hf (zM_a k1) dX8_marks_9 (fun s2 H locs hf hW => ?_)
  refine lv_aload_n hx hb dX8_marks_10 rfl (lv_at hl 0 rfl) ?_
  refine lv_bipush (v := 92) hx hb dX8_marks_11 (by decide) ?_
  refine lv_iload_n hx hb dX8_marks_13 rfl (lv_at hl 1 rfl) ?_
  refine lv_iadd hx hb dX8_marks_14 ?_
  refine lv_iconst (v := 0) hx hb dX8_marks_15 (by decide) ?_
  refine za_s hC hW hf (zM_a k1) dX8_marks_16 (fun s3 H locs hf hW => ?_)
  exact zr_v hx hb hr hlk hW (Option.some.inj hf) dX8_marks_17
set_option maxHeartbeats 4000000 in
set_option maxRecDepth 100000 in
theorem mX8_stepAtNone {l : Launch} {D : va_G} {cI cJ : ClassId} {adr : Nat → Nat} {w1 : Nat} (k1 : zM w1) (s0 : zkS) {z : Nat} {so : zkS} (hI : zInj 1 adr) (hf : fX8_stepAtNone w1 s0 = some so) : Met l yX8_stepAtNone (Cond.code yX8_stepAtNone cX8_stepAtNone 2 none :: zTb) { frames := 1, cells := 0, slots := 0, locals := 21 } (zPre 1 D cI cJ adr s0 z [.ref (adr w1)]) (zQv 1 D cI cJ adr z so) 0 0 (zA 1 adr z) := by
  refine zen (cc := cX8_stepAtNone) (own := RX8) (by decide +kernel) rfl hI (Nat.le_of_ble_eq_true rfl) (fun p e s m args below meth c ls hC hr hlk hz hl hW => ?_)
  subst hz
  obtain ⟨hx, hb, -⟩ := id hC
  have hl : lv_has ls 2 [(0, .ref (adr w1))] := hl
  refine zst hW (fun H locs hW => ?_)
  unfold fX8_stepAtNone at hf
  refine lv_aload_n hx hb dX8_stepAtNone_0 rfl (lv_at hl 0 rfl) ?_
  refine lv_iconst (v := 5) hx hb dX8_stepAtNone_1 (by decide) ?_
  refine za_l hC hW hf (zM_a k1) dX8_stepAtNone_2 (fun v1 hf => ?_)
  refine lv_iconst (v := 4) hx hb dX8_stepAtNone_3 (by decide) ?_
  refine zi_icmp_ge (tgt := 48) hx hb dX8_stepAtNone_4 (by decide) hf (fun hc hf => ?_) (fun hc hf => ?_)
  · skip
    refine lv_iconst (v := 0) hx hb dX8_stepAtNone_48 (by decide) ?_
    refine lv_istore_n (lv' := [(1, .int 0), (0, .ref (adr w1))]) hx hb dX8_stepAtNone_49 rfl hl (by decide) rfl (fun ls hl => ?_)
    have hL50 : ∀ (n : Nat) (x1 : Int32) (s2 : zkS) (K50 : zkS → Option (zkS)) (H : Heap) (locs : List Loc) (ls : Array Slot), fX8_stepAtNone_L50 n w1 x1 s2 K50 = some so → zWo 1 D cI cJ adr s s2 H locs → lv_has ls 2 [(0, .ref (adr w1)), (1, .int x1)] → (∀ (s2 : zkS) (H : Heap) (locs : List Loc) (ls : Array Slot), K50 s2 = some so → zWo 1 D cI cJ adr s s2 H locs → lv_has ls 2 [(0, .ref (adr w1))] → W p l e { frames := 1, cells := 0, slots := 0, locals := 21 } s m args below meth c H locs 0 0 (MQ below (zQv 1 D cI cJ adr s.heap.size so) args s 0 0 (zA 1 adr s.heap.size)) (F0 m 97 ls [])) → W p l e { frames := 1, cells := 0, slots := 0, locals := 21 } s m args below meth c H locs 0 0 (MQ below (zQv 1 D cI cJ adr s.heap.size so) args s 0 0 (zA 1 adr s.heap.size)) (F0 m 50 ls []) := by
      intro n
      induction n with
      | zero =>
        intro x1 s2 K50 H locs ls hf hW hl hK50
        rw [fX8_stepAtNone_L50] at hf
        cases hf
      | succ n ih50 =>
        intro x1 s2 K50 H locs ls hf hW hl hK50
        rw [fX8_stepAtNone_L50] at hf
        refine lv_iload_n hx hb dX8_stepAtNone_50 rfl (lv_at hl 1 rfl) ?_
        refine lv_bipush (v := 24) hx hb dX8_stepAtNone_51 (by decide) ?_
        refine zi_icmp_ge (tgt := 97) hx hb dX8_stepAtNone_53 (by decide) hf (fun hc hf => ?_) (fun hc hf => ?_)
        · skip
          exact hK50 s2 H locs ls hf hW (lv_sub hl [0] rfl)
        · skip
          refine lv_aload_n hx hb dX8_stepAtNone_56 rfl (lv_at hl 0 rfl) ?_
          refine lv_bipush (v := 13) hx hb dX8_stepAtNone_57 (by decide) ?_
          refine za_l hC hW hf (zM_a k1) dX8_stepAtNone_59 (fun v3 hf => ?_)
          refine lv_iload_n hx hb dX8_stepAtNone_60 rfl (lv_at hl 1 rfl) ?_
          refine zc_i hW (zrun_s (As := [.int v3, .int x1]) (rest := []) hC hW (mX8_bit v3 x1 s2 hC.2.2.2.2.2.2.2 rfl) cs_X8_61 rfl ⟨⟨rfl, rfl⟩, Nat.le_of_ble_eq_true rfl, Nat.le_of_ble_eq_true rfl⟩ (zlv_size hl) rfl (Nat.le_of_ble_eq_true rfl) dX8_stepAtNone_61 ⟨Nat.le_refl _, Nat.le_refl _⟩) (fun H locs hW => ?_)
          refine zi_if_eq (tgt := 91) hx hb dX8_stepAtNone_64 (by decide) hf (fun hc hf => ?_) (fun hc hf => ?_)
          · skip
            refine zi_inc (v := (x1 + 1)) (lv' := fun v5 => [(1, .int v5), (0, .ref (adr w1))]) hx hb dX8_stepAtNone_91 hl (k := 1) rfl rfl (by decide) (fun _ => rfl) hf (fun v5 ls hf hl => ?_)
            refine lv_goto (tgt := 50) hx hb dX8_stepAtNone_94 (by decide) ?_
            exact ih50 v5 s2 _ H locs ls hf hW (lv_sub hl [1, 0] rfl) hK50
          · skip
            refine lv_aload_n hx hb dX8_stepAtNone_67 rfl (lv_at hl 0 rfl) ?_
            refine lv_bipush (v := 13) hx hb dX8_stepAtNone_68 (by decide) ?_
            refine lv_dup2_11 hx hb dX8_stepAtNone_70 rfl rfl ?_
            refine za_l hC hW hf (zM_a k1) dX8_stepAtNone_71 (fun v6 hf => ?_)
            refine lv_iconst (v := 1) hx hb dX8_stepAtNone_72 (by decide) ?_
            refine lv_iload_n hx hb dX8_stepAtNone_73 rfl (lv_at hl 1 rfl) ?_
            refine lv_ishl hx hb dX8_stepAtNone_74 ?_
            refine lv_iconst (v := (-1)) hx hb dX8_stepAtNone_75 (by decide) ?_
            refine lv_ixor hx hb dX8_stepAtNone_76 ?_
            refine lv_iand hx hb dX8_stepAtNone_77 ?_
            refine za_s hC hW hf (zM_a k1) dX8_stepAtNone_78 (fun s7 H locs hf hW => ?_)
            refine lv_aload_n hx hb dX8_stepAtNone_79 rfl (lv_at hl 0 rfl) ?_
            refine lv_iconst (v := 4) hx hb dX8_stepAtNone_80 (by decide) ?_
            refine lv_iload_n hx hb dX8_stepAtNone_81 rfl (lv_at hl 1 rfl) ?_
            refine za_s hC hW hf (zM_a k1) dX8_stepAtNone_82 (fun s8 H locs hf hW => ?_)
            refine lv_aload_n hx hb dX8_stepAtNone_83 rfl (lv_at hl 0 rfl) ?_
            refine lv_bipush (v := 92) hx hb dX8_stepAtNone_84 (by decide) ?_
            refine lv_iload_n hx hb dX8_stepAtNone_86 rfl (lv_at hl 1 rfl) ?_
            refine lv_iadd hx hb dX8_stepAtNone_87 ?_
            refine lv_iconst (v := 0) hx hb dX8_stepAtNone_88 (by decide) ?_
            refine za_s hC hW hf (zM_a k1) dX8_stepAtNone_89 (fun s9 H locs hf hW => ?_)
            exact zr_v hx hb hr hlk hW (Option.some.inj hf) dX8_stepAtNone_90
    refine hL50 zFU 0 s0 _ H locs ls hf hW (lv_sub hl [1, 0] rfl) (fun s10 H locs ls hf hW hl => ?_)
    refine lv_aload_n hx hb dX8_stepAtNone_97 rfl (lv_at hl 0 rfl) ?_
    refine lv_iconst (v := 2) hx hb dX8_stepAtNone_98 (by decide) ?_
    refine lv_iconst (v := 0) hx hb dX8_stepAtNone_99 (by decide) ?_
    refine za_s hC hW hf (zM_a k1) dX8_stepAtNone_100 (fun s11 H locs hf hW => ?_)
    refine lv_aload_n hx hb dX8_stepAtNone_101 rfl (lv_at hl 0 rfl) ?_
    refine lv_bipush (v := 15) hx hb dX8_stepAtNone_102 (by decide) ?_
    refine lv_iconst (v := 1) hx hb dX8_stepAtNone_104 (by decide) ?_
    refine za_s hC hW hf (zM_a k1) dX8_stepAtNone_105 (fun s12 H locs hf hW => ?_)
    exact zr_v hx hb hr hlk hW (Option.some.inj hf) dX8_stepAtNone_106
  · skip
    refine lv_aload_n hx hb dX8_stepAtNone_7 rfl (lv_at hl 0 rfl) ?_
    refine lv_bipush (v := 16) hx hb dX8_stepAtNone_8 (by decide) ?_
    refine lv_aload_n hx hb dX8_stepAtNone_10 rfl (lv_at hl 0 rfl) ?_
    refine lv_iconst (v := 5) hx hb dX8_stepAtNone_11 (by decide) ?_
    refine za_l hC hW hf (zM_a k1) dX8_stepAtNone_12 (fun v13 hf => ?_)
    refine lv_iadd hx hb dX8_stepAtNone_13 ?_
    refine za_l hC hW hf (zM_a k1) dX8_stepAtNone_14 (fun v14 hf => ?_)
    refine lv_istore_n (lv' := [(1, .int v14), (0, .ref (adr w1))]) hx hb dX8_stepAtNone_15 rfl hl (by decide) rfl (fun ls hl => ?_)
    refine lv_aload_n hx hb dX8_stepAtNone_16 rfl (lv_at hl 1 rfl) ?_
    refine lv_iconst (v := 5) hx hb dX8_stepAtNone_17 (by decide) ?_
    refine lv_dup2_11 hx hb dX8_stepAtNone_18 rfl rfl ?_
    refine za_l hC hW hf (zM_a k1) dX8_stepAtNone_19 (fun v15 hf => ?_)
    refine lv_iconst (v := 1) hx hb dX8_stepAtNone_20 (by decide) ?_
    refine lv_iadd hx hb dX8_stepAtNone_21 ?_
    refine za_s hC hW hf (zM_a k1) dX8_stepAtNone_22 (fun s16 H locs hf hW => ?_)
    refine lv_iload_n hx hb dX8_stepAtNone_23 rfl (lv_at hl 0 rfl) ?_
    refine zi_if_lt (tgt := 47) hx hb dX8_stepAtNone_24 (by decide) hf (fun hc hf => ?_) (fun hc hf => ?_)
    · skip
      exact zr_v hx hb hr hlk hW (Option.some.inj hf) dX8_stepAtNone_47
    · skip
      refine lv_aload_n hx hb dX8_stepAtNone_27 rfl (lv_at hl 1 rfl) ?_
      refine lv_bipush (v := 12) hx hb dX8_stepAtNone_28 (by decide) ?_
      refine za_l hC hW hf (zM_a k1) dX8_stepAtNone_30 (fun v17 hf => ?_)
      refine lv_iload_n hx hb dX8_stepAtNone_31 rfl (lv_at hl 0 rfl) ?_
      refine zc_i hW (zrun_s (As := [.int v17, .int v14]) (rest := []) hC hW (mX8_bit v17 v14 s16 hC.2.2.2.2.2.2.2 rfl) cs_X8_61 rfl ⟨⟨rfl, rfl⟩, Nat.le_of_ble_eq_true rfl, Nat.le_of_ble_eq_true rfl⟩ (zlv_size hl) rfl (Nat.le_of_ble_eq_true rfl) dX8_stepAtNone_32 ⟨Nat.le_refl _, Nat.le_refl _⟩) (fun H locs hW => ?_)
      refine zi_if_ne (tgt := 47) hx hb dX8_stepAtNone_35 (by decide) hf (fun hc hf => ?_) (fun hc hf => ?_)
      · skip
        refine lv_aload_n hx hb dX8_stepAtNone_38 rfl (lv_at hl 1 rfl) ?_
        refine lv_iload_n hx hb dX8_stepAtNone_39 rfl (lv_at hl 0 rfl) ?_
        obtain ⟨s19, hq, hf⟩ := zb1_o hf
        refine zc_v hW (zrun_s (As := [.ref (adr w1), .int v14]) (rest := []) hC hW (mX8_marks k1 v14 s16 hC.2.2.2.2.2.2.2 hq) cs_X8_187 rfl ⟨⟨rfl, rfl⟩, Nat.le_of_ble_eq_true rfl, Nat.le_of_ble_eq_true rfl⟩ (zlv_size hl) rfl (Nat.le_of_ble_eq_true rfl) dX8_stepAtNone_40 ⟨Nat.le_refl _, Nat.le_refl _⟩) (fun H locs hW => ?_)
        refine lv_aload_n hx hb dX8_stepAtNone_43 rfl (lv_at hl 1 rfl) ?_
        refine lv_iconst (v := 4) hx hb dX8_stepAtNone_44 (by decide) ?_
        refine lv_iload_n hx hb dX8_stepAtNone_45 rfl (lv_at hl 0 rfl) ?_
        refine za_s hC hW hf (zM_a k1) dX8_stepAtNone_46 (fun s20 H locs hf hW => ?_)
        exact zr_v hx hb hr hlk hW (Option.some.inj hf) dX8_stepAtNone_47
      · skip
        exact zr_v hx hb hr hlk hW (Option.some.inj hf) dX8_stepAtNone_47
set_option maxHeartbeats 4000000 in
set_option maxRecDepth 100000 in
theorem mX8_goesDown {l : Launch} {D : va_G} {cI cJ : ClassId} {adr : Nat → Nat} {w1 : Nat} (k1 : zM w1) (p2 : Int32) (p3 : Int32) (s0 : zkS) {z : Nat} {so : zkS} (hI : zInj 1 adr) (hf : fX8_goesDown w1 p2 p3 s0 = some so) : Met l yX8_goesDown (Cond.code yX8_goesDown cX8_goesDown 4 none :: zTb) { frames := 1, cells := 0, slots := 0, locals := 21 } (zPre 1 D cI cJ adr s0 z [.ref (adr w1), .int p2, .int p3]) (zQv 1 D cI cJ adr z so) 0 0 (zA 1 adr z) := by
  refine zen (cc := cX8_goesDown) (own := RX8) (by decide +kernel) rfl hI (Nat.le_of_ble_eq_true rfl) (fun p e s m args below meth c ls hC hr hlk hz hl hW => ?_)
  subst hz
  obtain ⟨hx, hb, -⟩ := id hC
  have hl : lv_has ls 4 [(0, .ref (adr w1)), (1, .int p2), (2, .int p3)] := hl
  refine zst hW (fun H locs hW => ?_)
  unfold fX8_goesDown at hf
  refine lv_aload_n hx hb dX8_goesDown_0 rfl (lv_at hl 0 rfl) ?_
  refine lv_iload_n hx hb dX8_goesDown_1 rfl (lv_at hl 2 rfl) ?_
  obtain ⟨s1, hq, hf⟩ := zb1_o hf
  refine zc_v hW (zrun_s (As := [.ref (adr w1), .int p3]) (rest := []) hC hW (mX8_marks k1 p3 s0 hC.2.2.2.2.2.2.2 hq) cs_X8_187 rfl ⟨⟨rfl, rfl⟩, Nat.le_of_ble_eq_true rfl, Nat.le_of_ble_eq_true rfl⟩ (zlv_size hl) rfl (Nat.le_of_ble_eq_true rfl) dX8_goesDown_2 ⟨Nat.le_refl _, Nat.le_refl _⟩) (fun H locs hW => ?_)
  refine lv_aload_n hx hb dX8_goesDown_5 rfl (lv_at hl 0 rfl) ?_
  refine lv_bipush (v := 6) hx hb dX8_goesDown_6 (by decide) ?_
  refine za_l hC hW hf (zM_a k1) dX8_goesDown_8 (fun v2 hf => ?_)
  refine lv_aload_n hx hb dX8_goesDown_9 rfl (lv_at hl 0 rfl) ?_
  refine lv_iconst (v := 3) hx hb dX8_goesDown_10 (by decide) ?_
  refine za_l hC hW hf (zM_a k1) dX8_goesDown_11 (fun v3 hf => ?_)
  refine zjn_e hf (fun J4 => ∀ (v5 : Int32) (H : Heap) (locs : List Loc) (ls : Array Slot), J4 v5 = some so → zWo 1 D cI cJ adr s s1 H locs → lv_has ls 4 [(0, .ref (adr w1)), (1, .int p2), (2, .int p3)] → W p l e { frames := 1, cells := 0, slots := 0, locals := 21 } s m args below meth c H locs 0 0 (MQ below (zQv 1 D cI cJ adr s.heap.size so) args s 0 0 (zA 1 adr s.heap.size)) (F0 m 20 ls [.int v5])) ?_ (fun J4 hJ4 hf => ?_)
  · intro v5 H locs ls hf hW hl
    refine lv_istore_n (lv' := [(3, .int v5), (0, .ref (adr w1)), (1, .int p2), (2, .int p3)]) hx hb dX8_goesDown_20 rfl hl (by decide) rfl (fun ls hl => ?_)
    refine lv_iload_n hx hb dX8_goesDown_21 rfl (lv_at hl 0 rfl) ?_
    refine zjn_e hf (fun J6 => ∀ (u7 : Unit) (H : Heap) (locs : List Loc) (ls : Array Slot), J6 u7 = some so → zWo 1 D cI cJ adr s s1 H locs → lv_has ls 4 [(0, .ref (adr w1)), (1, .int p2), (2, .int p3), (3, .int v5)] → W p l e { frames := 1, cells := 0, slots := 0, locals := 21 } s m args below meth c H locs 0 0 (MQ below (zQv 1 D cI cJ adr s.heap.size so) args s 0 0 (zA 1 adr s.heap.size)) (F0 m 65 ls [])) ?_ (fun J6 hJ6 hf => ?_)
    · intro u7 H locs ls hf hW hl
      refine lv_aload_n hx hb dX8_goesDown_65 rfl (lv_at hl 0 rfl) ?_
      refine lv_bipush (v := 9) hx hb dX8_goesDown_66 (by decide) ?_
      refine lv_dup2_11 hx hb dX8_goesDown_68 rfl rfl ?_
      refine za_l hC hW hf (zM_a k1) dX8_goesDown_69 (fun v8 hf => ?_)
      refine lv_iload_n hx hb dX8_goesDown_70 rfl (lv_at hl 3 rfl) ?_
      refine zjn_e hf (fun J9 => ∀ (v10 : Int32) (H : Heap) (locs : List Loc) (ls : Array Slot), J9 v10 = some so → zWo 1 D cI cJ adr s s1 H locs → lv_has ls 4 [(0, .ref (adr w1)), (1, .int p2), (2, .int p3), (3, .int v5)] → W p l e { frames := 1, cells := 0, slots := 0, locals := 21 } s m args below meth c H locs 0 0 (MQ below (zQv 1 D cI cJ adr s.heap.size so) args s 0 0 (zA 1 adr s.heap.size)) (F0 m 79 ls [.int v10, .int v8, .int 9, .ref (adr w1)])) ?_ (fun J9 hJ9 hf => ?_)
      · intro v10 H locs ls hf hW hl
        refine lv_iadd hx hb dX8_goesDown_79 ?_
        refine za_s hC hW hf (zM_a k1) dX8_goesDown_80 (fun s11 H locs hf hW => ?_)
        refine lv_aload_n hx hb dX8_goesDown_81 rfl (lv_at hl 0 rfl) ?_
        refine lv_bipush (v := 8) hx hb dX8_goesDown_82 (by decide) ?_
        refine lv_dup2_11 hx hb dX8_goesDown_84 rfl rfl ?_
        refine za_l hC hW hf (zM_a k1) dX8_goesDown_85 (fun v12 hf => ?_)
        refine lv_iload_n hx hb dX8_goesDown_86 rfl (lv_at hl 3 rfl) ?_
        refine zjn_e hf (fun J13 => ∀ (v14 : Int32) (H : Heap) (locs : List Loc) (ls : Array Slot), J13 v14 = some so → zWo 1 D cI cJ adr s s11 H locs → lv_has ls 4 [(0, .ref (adr w1)), (1, .int p2), (2, .int p3)] → W p l e { frames := 1, cells := 0, slots := 0, locals := 21 } s m args below meth c H locs 0 0 (MQ below (zQv 1 D cI cJ adr s.heap.size so) args s 0 0 (zA 1 adr s.heap.size)) (F0 m 95 ls [.int v14, .int v12, .int 8, .ref (adr w1)])) ?_ (fun J13 hJ13 hf => ?_)
        · intro v14 H locs ls hf hW hl
          refine lv_iadd hx hb dX8_goesDown_95 ?_
          refine za_s hC hW hf (zM_a k1) dX8_goesDown_96 (fun s15 H locs hf hW => ?_)
          refine lv_aload_n hx hb dX8_goesDown_97 rfl (lv_at hl 0 rfl) ?_
          refine lv_bipush (v := 116) hx hb dX8_goesDown_98 (by decide) ?_
          refine lv_aload_n hx hb dX8_goesDown_100 rfl (lv_at hl 0 rfl) ?_
          refine lv_bipush (v := 6) hx hb dX8_goesDown_101 (by decide) ?_
          refine za_l hC hW hf (zM_a k1) dX8_goesDown_103 (fun v16 hf => ?_)
          refine lv_iadd hx hb dX8_goesDown_104 ?_
          refine lv_iload_n hx hb dX8_goesDown_105 rfl (lv_at hl 1 rfl) ?_
          refine za_s hC hW hf (zM_a k1) dX8_goesDown_106 (fun s17 H locs hf hW => ?_)
          refine lv_aload_n hx hb dX8_goesDown_107 rfl (lv_at hl 0 rfl) ?_
          refine lv_bipush (v := 6) hx hb dX8_goesDown_108 (by decide) ?_
          refine lv_dup2_11 hx hb dX8_goesDown_110 rfl rfl ?_
          refine za_l hC hW hf (zM_a k1) dX8_goesDown_111 (fun v18 hf => ?_)
          refine lv_iconst (v := 1) hx hb dX8_goesDown_112 (by decide) ?_
          refine lv_iadd hx hb dX8_goesDown_113 ?_
          refine za_s hC hW hf (zM_a k1) dX8_goesDown_114 (fun s19 H locs hf hW => ?_)
          refine lv_aload_n hx hb dX8_goesDown_115 rfl (lv_at hl 0 rfl) ?_
          refine lv_iconst (v := 4) hx hb dX8_goesDown_116 (by decide) ?_
          refine lv_iload_n hx hb dX8_goesDown_117 rfl (lv_at hl 2 rfl) ?_
          refine za_s hC hW hf (zM_a k1) dX8_goesDown_118 (fun s20 H locs hf hW => ?_)
          refine lv_aload_n hx hb dX8_goesDown_119 rfl (lv_at hl 0 rfl) ?_
          refine lv_bipush (v := 11) hx hb dX8_goesDown_120 (by decide) ?_
          refine lv_aload_n hx hb dX8_goesDown_122 rfl (lv_at hl 0 rfl) ?_
          refine lv_bipush (v := 11) hx hb dX8_goesDown_123 (by decide) ?_
          refine za_l hC hW hf (zM_a k1) dX8_goesDown_125 (fun v21 hf => ?_)
          refine lv_aload_n hx hb dX8_goesDown_126 rfl (lv_at hl 0 rfl) ?_
          refine lv_bipush (v := 6) hx hb dX8_goesDown_127 (by decide) ?_
          refine za_l hC hW hf (zM_a k1) dX8_goesDown_129 (fun v22 hf => ?_)
          refine va_mmax hx hb (hC.2.2.1.trans (zlv_size hl).symm) hC.2.2.2.1 (hC.2.2.2.2.1 _ wq_1063) (hC.2.2.2.2.1 _ wq_603) (hC.2.2.2.2.1 _ wq_50) (hC.2.2.2.2.1 _ wq_604) (Nat.le_of_ble_eq_true rfl) (Nat.le_of_ble_eq_true rfl) (Nat.le_refl _) (Nat.le_refl _) dX8_goesDown_130 ?_
          refine za_s hC hW hf (zM_a k1) dX8_goesDown_133 (fun s23 H locs hf hW => ?_)
          exact zr_v hx hb hr hlk hW (Option.some.inj hf) dX8_goesDown_134
        refine zi_if_eq (tgt := 94) hx hb dX8_goesDown_87 (by decide) hf (fun hc hf => ?_) (fun hc hf => ?_)
        · skip
          refine lv_iconst (v := 1) hx hb dX8_goesDown_94 (by decide) ?_
          exact hJ13 1 H locs ls hf hW (lv_sub hl [0, 1, 2] rfl)
        · skip
          refine lv_iconst (v := 0) hx hb dX8_goesDown_90 (by decide) ?_
          refine lv_goto (tgt := 95) hx hb dX8_goesDown_91 (by decide) ?_
          exact hJ13 0 H locs ls hf hW (lv_sub hl [0, 1, 2] rfl)
      refine zi_if_eq (tgt := 78) hx hb dX8_goesDown_71 (by decide) hf (fun hc hf => ?_) (fun hc hf => ?_)
      · skip
        refine lv_iconst (v := 0) hx hb dX8_goesDown_78 (by decide) ?_
        exact hJ9 0 H locs ls hf hW (lv_sub hl [0, 1, 2, 3] rfl)
      · skip
        refine lv_iconst (v := 1) hx hb dX8_goesDown_74 (by decide) ?_
        refine lv_goto (tgt := 79) hx hb dX8_goesDown_75 (by decide) ?_
        exact hJ9 1 H locs ls hf hW (lv_sub hl [0, 1, 2, 3] rfl)
    refine zi_if_ne (tgt := 65) hx hb dX8_goesDown_22 (by decide) hf (fun hc hf => ?_) (fun hc hf => ?_)
    · skip
      refine lv_aload_n hx hb dX8_goesDown_25 rfl (lv_at hl 1 rfl) ?_
      refine lv_bipush (v := 14) hx hb dX8_goesDown_26 (by decide) ?_
      refine za_l hC hW hf (zM_a k1) dX8_goesDown_28 (fun v24 hf => ?_)
      refine lv_iload_n hx hb dX8_goesDown_29 rfl (lv_at hl 2 rfl) ?_
      refine zc_i hW (zrun_s (As := [.int v24, .int p2]) (rest := []) hC hW (mX8_bit v24 p2 s1 hC.2.2.2.2.2.2.2 rfl) cs_X8_61 rfl ⟨⟨rfl, rfl⟩, Nat.le_of_ble_eq_true rfl, Nat.le_of_ble_eq_true rfl⟩ (zlv_size hl) rfl (Nat.le_of_ble_eq_true rfl) dX8_goesDown_30 ⟨Nat.le_refl _, Nat.le_refl _⟩) (fun H locs hW => ?_)
      refine zi_if_eq (tgt := 65) hx hb dX8_goesDown_33 (by decide) hf (fun hc hf => ?_) (fun hc hf => ?_)
      · skip
        exact hJ6 () H locs ls hf hW (lv_sub hl [1, 2, 3, 0] rfl)
      · skip
        refine lv_aload_n hx hb dX8_goesDown_36 rfl (lv_at hl 1 rfl) ?_
        refine lv_bipush (v := 13) hx hb dX8_goesDown_37 (by decide) ?_
        refine lv_dup2_11 hx hb dX8_goesDown_39 rfl rfl ?_
        refine za_l hC hW hf (zM_a k1) dX8_goesDown_40 (fun v26 hf => ?_)
        refine lv_iconst (v := 1) hx hb dX8_goesDown_41 (by decide) ?_
        refine lv_iload_n hx hb dX8_goesDown_42 rfl (lv_at hl 3 rfl) ?_
        refine lv_ishl hx hb dX8_goesDown_43 ?_
        refine lv_ior hx hb dX8_goesDown_44 ?_
        refine za_s hC hW hf (zM_a k1) dX8_goesDown_45 (fun s27 H locs hf hW => ?_)
        refine lv_aload_n hx hb dX8_goesDown_46 rfl (lv_at hl 1 rfl) ?_
        refine lv_bipush (v := 10) hx hb dX8_goesDown_47 (by decide) ?_
        refine lv_dup2_11 hx hb dX8_goesDown_49 rfl rfl ?_
        refine za_l hC hW hf (zM_a k1) dX8_goesDown_50 (fun v28 hf => ?_)
        refine lv_iconst (v := 1) hx hb dX8_goesDown_51 (by decide) ?_
        refine lv_iadd hx hb dX8_goesDown_52 ?_
        refine za_s hC hW hf (zM_a k1) dX8_goesDown_53 (fun s29 H locs hf hW => ?_)
        refine lv_aload_n hx hb dX8_goesDown_54 rfl (lv_at hl 1 rfl) ?_
        refine lv_bipush (v := 92) hx hb dX8_goesDown_55 (by decide) ?_
        refine lv_iload_n hx hb dX8_goesDown_57 rfl (lv_at hl 2 rfl) ?_
        refine lv_iadd hx hb dX8_goesDown_58 ?_
        refine zn_i hf (fun v30 hf => ?_)
        refine lv_dup2_11 hx hb dX8_goesDown_59 rfl rfl ?_
        refine za_l hC hW hf (zM_a k1) dX8_goesDown_60 (fun v31 hf => ?_)
        refine lv_iconst (v := 1) hx hb dX8_goesDown_61 (by decide) ?_
        refine lv_iadd hx hb dX8_goesDown_62 ?_
        refine za_s hC hW hf (zM_a k1) dX8_goesDown_63 (fun s32 H locs hf hW => ?_)
        exact zr_v hx hb hr hlk hW (Option.some.inj hf) dX8_goesDown_64
    · skip
      exact hJ6 () H locs ls hf hW (lv_sub hl [1, 2, 3, 0] rfl)
  refine zi_icmp_ge (tgt := 19) hx hb dX8_goesDown_12 (by decide) hf (fun hc hf => ?_) (fun hc hf => ?_)
  · skip
    refine lv_iconst (v := 0) hx hb dX8_goesDown_19 (by decide) ?_
    exact hJ4 0 H locs ls hf hW (lv_sub hl [0, 1, 2] rfl)
  · skip
    refine lv_iconst (v := 1) hx hb dX8_goesDown_15 (by decide) ?_
    refine lv_goto (tgt := 20) hx hb dX8_goesDown_16 (by decide) ?_
    exact hJ4 1 H locs ls hf hW (lv_sub hl [0, 1, 2] rfl)
set_option maxHeartbeats 4000000 in
set_option maxRecDepth 100000 in
theorem mX8_goesUp {l : Launch} {D : va_G} {cI cJ : ClassId} {adr : Nat → Nat} {w1 : Nat} (k1 : zM w1) (s0 : zkS) {z : Nat} {so : zkS} (hI : zInj 1 adr) (hf : fX8_goesUp w1 s0 = some so) : Met l yX8_goesUp (Cond.code yX8_goesUp cX8_goesUp 1 none :: zTb) { frames := 0, cells := 0, slots := 0, locals := 0 } (zPre 1 D cI cJ adr s0 z [.ref (adr w1)]) (zQv 1 D cI cJ adr z so) 0 0 (zA 1 adr z) := by
  refine zen (cc := cX8_goesUp) (own := RX8) (by decide +kernel) rfl hI (Nat.le_of_ble_eq_true rfl) (fun p e s m args below meth c ls hC hr hlk hz hl hW => ?_)
  subst hz
  obtain ⟨hx, hb, -⟩ := id hC
  have hl : lv_has ls 1 [(0, .ref (adr w1))] := hl
  refine zst hW (fun H locs hW => ?_)
  unfold fX8_goesUp at hf
  refine lv_aload_n hx hb dX8_goesUp_0 rfl (lv_at hl 0 rfl) ?_
  refine lv_bipush (v := 6) hx hb dX8_goesUp_1 (by decide) ?_
  refine za_l hC hW hf (zM_a k1) dX8_goesUp_3 (fun v1 hf => ?_)
  refine zi_if_ne (tgt := 13) hx hb dX8_goesUp_4 (by decide) hf (fun hc hf => ?_) (fun hc hf => ?_)
  · skip
    refine lv_aload_n hx hb dX8_goesUp_7 rfl (lv_at hl 0 rfl) ?_
    refine lv_iconst (v := 4) hx hb dX8_goesUp_8 (by decide) ?_
    refine lv_bipush (v := (-5)) hx hb dX8_goesUp_9 (by decide) ?_
    refine za_s hC hW hf (zM_a k1) dX8_goesUp_11 (fun s2 H locs hf hW => ?_)
    exact zr_v hx hb hr hlk hW (Option.some.inj hf) dX8_goesUp_12
  · skip
    refine lv_aload_n hx hb dX8_goesUp_13 rfl (lv_at hl 0 rfl) ?_
    refine lv_bipush (v := 6) hx hb dX8_goesUp_14 (by decide) ?_
    refine lv_dup2_11 hx hb dX8_goesUp_16 rfl rfl ?_
    refine za_l hC hW hf (zM_a k1) dX8_goesUp_17 (fun v3 hf => ?_)
    refine lv_iconst (v := 1) hx hb dX8_goesUp_18 (by decide) ?_
    refine lv_isub hx hb dX8_goesUp_19 ?_
    refine za_s hC hW hf (zM_a k1) dX8_goesUp_20 (fun s4 H locs hf hW => ?_)
    refine lv_aload_n hx hb dX8_goesUp_21 rfl (lv_at hl 0 rfl) ?_
    refine lv_iconst (v := 4) hx hb dX8_goesUp_22 (by decide) ?_
    refine lv_aload_n hx hb dX8_goesUp_23 rfl (lv_at hl 0 rfl) ?_
    refine lv_bipush (v := 116) hx hb dX8_goesUp_24 (by decide) ?_
    refine lv_aload_n hx hb dX8_goesUp_26 rfl (lv_at hl 0 rfl) ?_
    refine lv_bipush (v := 6) hx hb dX8_goesUp_27 (by decide) ?_
    refine za_l hC hW hf (zM_a k1) dX8_goesUp_29 (fun v5 hf => ?_)
    refine lv_iadd hx hb dX8_goesUp_30 ?_
    refine za_l hC hW hf (zM_a k1) dX8_goesUp_31 (fun v6 hf => ?_)
    refine za_s hC hW hf (zM_a k1) dX8_goesUp_32 (fun s7 H locs hf hW => ?_)
    refine lv_aload_n hx hb dX8_goesUp_33 rfl (lv_at hl 0 rfl) ?_
    refine lv_bipush (v := 92) hx hb dX8_goesUp_34 (by decide) ?_
    refine lv_aload_n hx hb dX8_goesUp_36 rfl (lv_at hl 0 rfl) ?_
    refine lv_iconst (v := 4) hx hb dX8_goesUp_37 (by decide) ?_
    refine za_l hC hW hf (zM_a k1) dX8_goesUp_38 (fun v8 hf => ?_)
    refine lv_iadd hx hb dX8_goesUp_39 ?_
    refine zn_i hf (fun v9 hf => ?_)
    refine lv_dup2_11 hx hb dX8_goesUp_40 rfl rfl ?_
    refine za_l hC hW hf (zM_a k1) dX8_goesUp_41 (fun v10 hf => ?_)
    refine lv_iconst (v := 1) hx hb dX8_goesUp_42 (by decide) ?_
    refine lv_iadd hx hb dX8_goesUp_43 ?_
    refine za_s hC hW hf (zM_a k1) dX8_goesUp_44 (fun s11 H locs hf hW => ?_)
    exact zr_v hx hb hr hlk hW (Option.some.inj hf) dX8_goesUp_45
set_option maxHeartbeats 4000000 in
set_option maxRecDepth 100000 in
theorem mX8_steps {l : Launch} {D : va_G} {cI cJ : ClassId} {adr : Nat → Nat} {w1 : Nat} (k1 : zM w1) (s0 : zkS) {z : Nat} {so : zkS} (hI : zInj 1 adr) (hf : fX8_steps w1 s0 = some so) : Met l yX8_steps (Cond.code yX8_steps cX8_steps 3 none :: zTb) { frames := 2, cells := 0, slots := 0, locals := 45 } (zPre 1 D cI cJ adr s0 z [.ref (adr w1)]) (zQv 1 D cI cJ adr z so) 0 0 (zA 1 adr z) := by
  refine zen (cc := cX8_steps) (own := RX8) (by decide +kernel) rfl hI (Nat.le_of_ble_eq_true rfl) (fun p e s m args below meth c ls hC hr hlk hz hl hW => ?_)
  subst hz
  obtain ⟨hx, hb, -⟩ := id hC
  have hl : lv_has ls 3 [(0, .ref (adr w1))] := hl
  refine zst hW (fun H locs hW => ?_)
  unfold fX8_steps at hf
  refine lv_aload_n hx hb dX8_steps_0 rfl (lv_at hl 0 rfl) ?_
  refine lv_iconst (v := 4) hx hb dX8_steps_1 (by decide) ?_
  refine za_l hC hW hf (zM_a k1) dX8_steps_2 (fun v1 hf => ?_)
  refine lv_istore_n (lv' := [(1, .int v1), (0, .ref (adr w1))]) hx hb dX8_steps_3 rfl hl (by decide) rfl (fun ls hl => ?_)
  refine lv_aload_n hx hb dX8_steps_4 rfl (lv_at hl 1 rfl) ?_
  refine lv_bipush (v := 7) hx hb dX8_steps_5 (by decide) ?_
  refine lv_dup2_11 hx hb dX8_steps_7 rfl rfl ?_
  refine za_l hC hW hf (zM_a k1) dX8_steps_8 (fun v2 hf => ?_)
  refine lv_iconst (v := 1) hx hb dX8_steps_9 (by decide) ?_
  refine lv_iadd hx hb dX8_steps_10 ?_
  refine za_s hC hW hf (zM_a k1) dX8_steps_11 (fun s3 H locs hf hW => ?_)
  refine lv_iload_n hx hb dX8_steps_12 rfl (lv_at hl 0 rfl) ?_
  refine zi_if_ge (tgt := 23) hx hb dX8_steps_13 (by decide) hf (fun hc hf => ?_) (fun hc hf => ?_)
  · skip
    refine lv_aload_n hx hb dX8_steps_23 rfl (lv_at hl 1 rfl) ?_
    refine lv_bipush (v := 92) hx hb dX8_steps_24 (by decide) ?_
    refine lv_iload_n hx hb dX8_steps_26 rfl (lv_at hl 0 rfl) ?_
    refine lv_iadd hx hb dX8_steps_27 ?_
    refine za_l hC hW hf (zM_a k1) dX8_steps_28 (fun v4 hf => ?_)
    refine lv_aload_n hx hb dX8_steps_29 rfl (lv_at hl 1 rfl) ?_
    refine lv_bipush (v := 68) hx hb dX8_steps_30 (by decide) ?_
    refine lv_iload_n hx hb dX8_steps_32 rfl (lv_at hl 0 rfl) ?_
    refine lv_iadd hx hb dX8_steps_33 ?_
    refine za_l hC hW hf (zM_a k1) dX8_steps_34 (fun v5 hf => ?_)
    refine zi_icmp_ge (tgt := 87) hx hb dX8_steps_35 (by decide) hf (fun hc hf => ?_) (fun hc hf => ?_)
    · skip
      refine lv_aload_n hx hb dX8_steps_87 rfl (lv_at hl 1 rfl) ?_
      obtain ⟨s6, hq, hf⟩ := zb1_o hf
      refine zc_v hW (zrun_s (As := [.ref (adr w1)]) (rest := []) hC hW (mX8_goesUp k1 s3 hC.2.2.2.2.2.2.2 hq) cs_X8_199 rfl ⟨⟨rfl, rfl⟩, Nat.le_of_ble_eq_true rfl, Nat.le_of_ble_eq_true rfl⟩ (zlv_size hl) rfl (Nat.le_of_ble_eq_true rfl) dX8_steps_88 ⟨Nat.le_refl _, Nat.le_refl _⟩) (fun H locs hW => ?_)
      exact zr_v hx hb hr hlk hW (Option.some.inj hf) dX8_steps_91
    · skip
      refine lv_aload_n hx hb dX8_steps_38 rfl (lv_at hl 1 rfl) ?_
      refine lv_iload_n hx hb dX8_steps_39 rfl (lv_at hl 0 rfl) ?_
      refine lv_aload_n hx hb dX8_steps_40 rfl (lv_at hl 1 rfl) ?_
      refine lv_bipush (v := 92) hx hb dX8_steps_41 (by decide) ?_
      refine lv_iload_n hx hb dX8_steps_43 rfl (lv_at hl 0 rfl) ?_
      refine lv_iadd hx hb dX8_steps_44 ?_
      refine za_l hC hW hf (zM_a k1) dX8_steps_45 (fun v7 hf => ?_)
      obtain ⟨v8, hq, hf⟩ := zb1_o hf
      refine zc_i hW (zrun_s (As := [.ref (adr w1), .int v1, .int v7]) (rest := []) hC hW (mX8_leads k1 v1 v7 s3 hC.2.2.2.2.2.2.2 hq) cs_X8_85 rfl ⟨⟨rfl, rfl⟩, Nat.le_of_ble_eq_true rfl, Nat.le_of_ble_eq_true rfl⟩ (zlv_size hl) rfl (Nat.le_of_ble_eq_true rfl) dX8_steps_46 ⟨Nat.le_refl _, Nat.le_refl _⟩) (fun H locs hW => ?_)
      refine lv_istore_n (lv' := [(2, .int v8), (1, .int v1), (0, .ref (adr w1))]) hx hb dX8_steps_49 rfl hl (by decide) rfl (fun ls hl => ?_)
      refine lv_iload_n hx hb dX8_steps_50 rfl (lv_at hl 0 rfl) ?_
      refine zjn_e hf (fun J9 => ∀ (u10 : Unit) (H : Heap) (locs : List Loc) (ls : Array Slot), J9 u10 = some so → zWo 1 D cI cJ adr s s3 H locs → lv_has ls 3 [(0, .ref (adr w1)), (1, .int v1)] → W p l e { frames := 2, cells := 0, slots := 0, locals := 45 } s m args below meth c H locs 0 0 (MQ below (zQv 1 D cI cJ adr s.heap.size so) args s 0 0 (zA 1 adr s.heap.size)) (F0 m 74 ls [])) ?_ (fun J9 hJ9 hf => ?_)
      · intro u10 H locs ls hf hW hl
        refine lv_aload_n hx hb dX8_steps_74 rfl (lv_at hl 0 rfl) ?_
        refine lv_bipush (v := 92) hx hb dX8_steps_75 (by decide) ?_
        refine lv_iload_n hx hb dX8_steps_77 rfl (lv_at hl 1 rfl) ?_
        refine lv_iadd hx hb dX8_steps_78 ?_
        refine zn_i hf (fun v11 hf => ?_)
        refine lv_dup2_11 hx hb dX8_steps_79 rfl rfl ?_
        refine za_l hC hW hf (zM_a k1) dX8_steps_80 (fun v12 hf => ?_)
        refine lv_iconst (v := 1) hx hb dX8_steps_81 (by decide) ?_
        refine lv_iadd hx hb dX8_steps_82 ?_
        refine za_s hC hW hf (zM_a k1) dX8_steps_83 (fun s13 H locs hf hW => ?_)
        refine lv_goto (tgt := 91) hx hb dX8_steps_84 (by decide) ?_
        exact zr_v hx hb hr hlk hW (Option.some.inj hf) dX8_steps_91
      refine zi_if_lt (tgt := 74) hx hb dX8_steps_51 (by decide) hf (fun hc hf => ?_) (fun hc hf => ?_)
      · skip
        exact hJ9 () H locs ls hf hW (lv_sub hl [2, 1] rfl)
      · skip
        refine lv_aload_n hx hb dX8_steps_54 rfl (lv_at hl 2 rfl) ?_
        refine lv_bipush (v := 12) hx hb dX8_steps_55 (by decide) ?_
        refine za_l hC hW hf (zM_a k1) dX8_steps_57 (fun v14 hf => ?_)
        refine lv_iload_n hx hb dX8_steps_58 rfl (lv_at hl 0 rfl) ?_
        refine zc_i hW (zrun_s (As := [.int v14, .int v8]) (rest := []) hC hW (mX8_bit v14 v8 s3 hC.2.2.2.2.2.2.2 rfl) cs_X8_61 rfl ⟨⟨rfl, rfl⟩, Nat.le_of_ble_eq_true rfl, Nat.le_of_ble_eq_true rfl⟩ (zlv_size hl) rfl (Nat.le_of_ble_eq_true rfl) dX8_steps_59 ⟨Nat.le_refl _, Nat.le_refl _⟩) (fun H locs hW => ?_)
        refine zi_if_ne (tgt := 74) hx hb dX8_steps_62 (by decide) hf (fun hc hf => ?_) (fun hc hf => ?_)
        · skip
          refine lv_aload_n hx hb dX8_steps_65 rfl (lv_at hl 2 rfl) ?_
          refine lv_iload_n hx hb dX8_steps_66 rfl (lv_at hl 1 rfl) ?_
          refine lv_iload_n hx hb dX8_steps_67 rfl (lv_at hl 0 rfl) ?_
          obtain ⟨s16, hq, hf⟩ := zb1_o hf
          refine zc_v hW (zrun_s (As := [.ref (adr w1), .int v1, .int v8]) (rest := []) hC hW (mX8_goesDown k1 v1 v8 s3 hC.2.2.2.2.2.2.2 hq) cs_X8_195 rfl ⟨⟨rfl, rfl⟩, Nat.le_of_ble_eq_true rfl, Nat.le_of_ble_eq_true rfl⟩ (zlv_size hl) rfl (Nat.le_of_ble_eq_true rfl) dX8_steps_68 ⟨Nat.le_refl _, Nat.le_refl _⟩) (fun H locs hW => ?_)
          refine lv_goto (tgt := 84) hx hb dX8_steps_71 (by decide) ?_
          refine lv_goto (tgt := 91) hx hb dX8_steps_84 (by decide) ?_
          exact zr_v hx hb hr hlk hW (Option.some.inj hf) dX8_steps_91
        · skip
          exact hJ9 () H locs ls hf hW (lv_sub hl [2, 1] rfl)
  · skip
    refine lv_aload_n hx hb dX8_steps_16 rfl (lv_at hl 1 rfl) ?_
    obtain ⟨s17, hq, hf⟩ := zb1_o hf
    refine zc_v hW (zrun_s (As := [.ref (adr w1)]) (rest := []) hC hW (mX8_stepAtNone k1 s3 hC.2.2.2.2.2.2.2 hq) cs_X8_191 rfl ⟨⟨rfl, rfl⟩, Nat.le_of_ble_eq_true rfl, Nat.le_of_ble_eq_true rfl⟩ (zlv_size hl) rfl (Nat.le_of_ble_eq_true rfl) dX8_steps_17 ⟨Nat.le_refl _, Nat.le_refl _⟩) (fun H locs hW => ?_)
    refine lv_goto (tgt := 91) hx hb dX8_steps_20 (by decide) ?_
    exact zr_v hx hb hr hlk hW (Option.some.inj hf) dX8_steps_91
set_option maxHeartbeats 4000000 in
set_option maxRecDepth 100000 in
theorem mX8_goes {l : Launch} {D : va_G} {cI cJ : ClassId} {adr : Nat → Nat} {w1 : Nat} (k1 : zM w1) (p2 : Int32) (s0 : zkS) {z : Nat} {ro : Int32} {so : zkS} (hI : zInj 1 adr) (hf : fX8_goes w1 p2 s0 = some (ro, so)) : Met l yX8_goes (Cond.code yX8_goes cX8_goes 3 (some .int) :: zTb) { frames := 3, cells := 0, slots := 0, locals := 67 } (zPre 1 D cI cJ adr s0 z [.ref (adr w1), .int p2]) (zQi 1 D cI cJ adr z ro so) 0 0 (zA 1 adr z) := by
  refine zen (cc := cX8_goes) (own := RX8) (by decide +kernel) rfl hI (Nat.le_of_ble_eq_true rfl) (fun p e s m args below meth c ls hC hr hlk hz hl hW => ?_)
  subst hz
  obtain ⟨hx, hb, -⟩ := id hC
  have hl : lv_has ls 3 [(0, .ref (adr w1)), (1, .int p2)] := hl
  refine zst hW (fun H locs hW => ?_)
  unfold fX8_goes at hf
  refine lv_iconst (v := 0) hx hb dX8_goes_0 (by decide) ?_
  refine lv_istore_n (lv' := [(2, .int 0), (0, .ref (adr w1)), (1, .int p2)]) hx hb dX8_goes_1 rfl hl (by decide) rfl (fun ls hl => ?_)
  have hL2 : ∀ (n : Nat) (x1 : Int32) (x2 : Int32) (s1 : zkS) (K2 : Int32 → zkS → Option (Int32 × zkS)) (H : Heap) (locs : List Loc) (ls : Array Slot), fX8_goes_L2 n w1 x1 x2 s1 K2 = some (ro, so) → zWo 1 D cI cJ adr s s1 H locs → lv_has ls 3 [(0, .ref (adr w1)), (1, .int x1), (2, .int x2)] → (∀ (x2 : Int32) (s1 : zkS) (H : Heap) (locs : List Loc) (ls : Array Slot), K2 x2 s1 = some (ro, so) → zWo 1 D cI cJ adr s s1 H locs → lv_has ls 3 [(2, .int x2)] → W p l e { frames := 3, cells := 0, slots := 0, locals := 67 } s m args below meth c H locs 0 0 (MQ below (zQi 1 D cI cJ adr s.heap.size ro so) args s 0 0 (zA 1 adr s.heap.size)) (F0 m 24 ls [])) → W p l e { frames := 3, cells := 0, slots := 0, locals := 67 } s m args below meth c H locs 0 0 (MQ below (zQi 1 D cI cJ adr s.heap.size ro so) args s 0 0 (zA 1 adr s.heap.size)) (F0 m 2 ls []) := by
    intro n
    induction n with
    | zero =>
      intro x1 x2 s1 K2 H locs ls hf hW hl hK2
      rw [fX8_goes_L2] at hf
      cases hf
    | succ n ih2 =>
      intro x1 x2 s1 K2 H locs ls hf hW hl hK2
      rw [fX8_goes_L2] at hf
      refine lv_iload_n hx hb dX8_goes_2 rfl (lv_at hl 2 rfl) ?_
      refine lv_iload_n hx hb dX8_goes_3 rfl (lv_at hl 1 rfl) ?_
      refine zi_icmp_ge (tgt := 24) hx hb dX8_goes_4 (by decide) hf (fun hc hf => ?_) (fun hc hf => ?_)
      · skip
        exact hK2 x2 s1 H locs ls hf hW (lv_sub hl [2] rfl)
      · skip
        refine lv_aload_n hx hb dX8_goes_7 rfl (lv_at hl 0 rfl) ?_
        refine lv_iconst (v := 2) hx hb dX8_goes_8 (by decide) ?_
        refine za_l hC hW hf (zM_a k1) dX8_goes_9 (fun v2 hf => ?_)
        refine lv_iconst (v := 1) hx hb dX8_goes_10 (by decide) ?_
        refine zi_icmp_ne (tgt := 24) hx hb dX8_goes_11 (by decide) hf (fun hc hf => ?_) (fun hc hf => ?_)
        · skip
          refine lv_aload_n hx hb dX8_goes_14 rfl (lv_at hl 0 rfl) ?_
          obtain ⟨s3, hq, hf⟩ := zb1_o hf
          refine zc_v hW (zrun_s (As := [.ref (adr w1)]) (rest := []) hC hW (mX8_steps k1 s1 hC.2.2.2.2.2.2.2 hq) cs_X8_202 rfl ⟨⟨rfl, rfl⟩, Nat.le_of_ble_eq_true rfl, Nat.le_of_ble_eq_true rfl⟩ (zlv_size hl) rfl (Nat.le_of_ble_eq_true rfl) dX8_goes_15 ⟨Nat.le_refl _, Nat.le_refl _⟩) (fun H locs hW => ?_)
          refine zi_inc (v := (x2 + 1)) (lv' := fun v4 => [(2, .int v4), (0, .ref (adr w1)), (1, .int x1)]) hx hb dX8_goes_18 hl (k := 2) rfl rfl (by decide) (fun _ => rfl) hf (fun v4 ls hf hl => ?_)
          refine lv_goto (tgt := 2) hx hb dX8_goes_21 (by decide) ?_
          exact ih2 x1 v4 s3 _ H locs ls hf hW (lv_sub hl [1, 2, 0] rfl) hK2
        · skip
          exact hK2 x2 s1 H locs ls hf hW (lv_sub hl [2] rfl)
  refine hL2 zFU p2 0 s0 _ H locs ls hf hW (lv_sub hl [1, 2, 0] rfl) (fun x5 s6 H locs ls hf hW hl => ?_)
  refine lv_iload_n hx hb dX8_goes_24 rfl (lv_at hl 0 rfl) ?_
  exact zr_i hx hb hr hlk hW (zo1 hf) (zo2 hf) dX8_goes_25
set_option maxHeartbeats 4000000 in
set_option maxRecDepth 100000 in
theorem mX8_there {l : Launch} {D : va_G} {cI cJ : ClassId} {adr : Nat → Nat} (s0 : zkS) {z : Nat} {ro : Int32} (hI : zInj 1 adr) (hf : fX8_there s0 = some ro) : Met l yX8_there (Cond.code yX8_there cX8_there 1 (some .int) :: zTb) { frames := 1, cells := 0, slots := 0, locals := 20 } (zPre 1 D cI cJ adr s0 z [.ref (adr 0)]) (zQi 1 D cI cJ adr z ro s0) 0 0 (zA 1 adr z) := by
  refine zen (cc := cX8_there) (own := RX8) (by decide +kernel) rfl hI (Nat.le_of_ble_eq_true rfl) (fun p e s m args below meth c ls hC hr hlk hz hl hW => ?_)
  subst hz
  obtain ⟨hx, hb, -⟩ := id hC
  have hl : lv_has ls 1 [(0, .ref (adr 0))] := hl
  refine zst hW (fun H locs hW => ?_)
  unfold fX8_there at hf
  refine lv_aload_n hx hb dX8_there_0 rfl (lv_at hl 0 rfl) ?_
  refine zg_a (o := 0) hC hW fl_X8_11 zck_1_0 zcs_1_0 (show _ = 1 from rfl) dX8_there_1 ?_
  refine lv_iconst (v := 1) hx hb dX8_there_4 (by decide) ?_
  refine za_l hC hW hf zar_1_1 dX8_there_5 (fun v1 hf => ?_)
  refine zc_i hW (zrun_s (As := [.int v1]) (rest := []) hC hW (mJ6_bitCount_0f7a4 v1 s0 hC.2.2.2.2.2.2.2 rfl) cs_X8_205 rfl ⟨⟨rfl, rfl⟩, Nat.le_of_ble_eq_true rfl, Nat.le_of_ble_eq_true rfl⟩ (zlv_size hl) rfl (Nat.le_of_ble_eq_true rfl) dX8_there_6 ⟨Nat.le_refl _, Nat.le_refl _⟩) (fun H locs hW => ?_)
  exact zr_i hx hb hr hlk hW (Option.some.inj hf) rfl dX8_there_9
