set_option maxHeartbeats 4000000 in
set_option maxRecDepth 100000 in
theorem mX8_ends {l : Launch} {D : va_G} {cI cJ : ClassId} {adr : Nat → Nat} (s0 : zkS) {z : Nat} {ro : Int32} {so : zkS} (hI : zInj 1 adr) (hf : fX8_ends s0 = some (ro, so)) : Met l yX8_ends (Cond.code yX8_ends cX8_ends 4 (some .int) :: zTb) { frames := 4, cells := 0, slots := 0, locals := 93 } (zPre 1 D cI cJ adr s0 z [.ref (adr 0)]) (zQi 1 D cI cJ adr z ro so) 0 0 (zA 1 adr z) := by
  refine zen (cc := cX8_ends) (own := RX8) (by decide +kernel) rfl hI (Nat.le_of_ble_eq_true rfl) (fun p e s m args below meth c ls hC hr hlk hz hl hW => ?_)
  subst hz
  obtain ⟨hx, hb, -⟩ := id hC
  have hl : lv_has ls 4 [(0, .ref (adr 0))] := hl
  refine zst hW (fun H locs hW => ?_)
  unfold fX8_ends at hf
  refine lv_aload_n hx hb dX8_ends_0 rfl (lv_at hl 0 rfl) ?_
  refine zg_a (o := 0) hC hW fl_X8_11 zck_1_0 zcs_1_0 (show _ = 1 from rfl) dX8_ends_1 ?_
  refine lv_aload_n hx hb dX8_ends_4 rfl (lv_at hl 0 rfl) ?_
  refine zg_a (o := 1) hC hW fl_X8_15 zck_1_0 zcs_1_0 (show _ = 2 from rfl) dX8_ends_5 ?_
  obtain ⟨s1, hq, hf⟩ := zb1_o hf
  refine zc_v hW (zrun_s (As := [.ref (adr 1), .ref (adr 2)]) (rest := []) hC hW (mX8_copies zMc_1 zMc_2 s0 hC.2.2.2.2.2.2.2 hq) cs_X8_224 rfl ⟨⟨rfl, rfl⟩, Nat.le_of_ble_eq_true rfl, Nat.le_of_ble_eq_true rfl⟩ (zlv_size hl) rfl (Nat.le_of_ble_eq_true rfl) dX8_ends_8 ⟨Nat.le_refl _, Nat.le_refl _⟩) (fun H locs hW => ?_)
  refine lv_iconst (v := 0) hx hb dX8_ends_11 (by decide) ?_
  refine lv_istore_n (lv' := [(1, .int 0), (0, .ref (adr 0))]) hx hb dX8_ends_12 rfl hl (by decide) rfl (fun ls hl => ?_)
  have hL13 : ∀ (n : Nat) (x1 : Int32) (s2 : zkS) (K13 : zkS → Option (Int32 × zkS)) (H : Heap) (locs : List Loc) (ls : Array Slot), fX8_ends_L13 n x1 s2 K13 = some (ro, so) → zWo 1 D cI cJ adr s s2 H locs → lv_has ls 4 [(0, .ref (adr 0)), (1, .int x1)] → (∀ (s2 : zkS) (H : Heap) (locs : List Loc) (ls : Array Slot), K13 s2 = some (ro, so) → zWo 1 D cI cJ adr s s2 H locs → lv_has ls 4 [(0, .ref (adr 0))] → W p l e { frames := 4, cells := 0, slots := 0, locals := 93 } s m args below meth c H locs 0 0 (MQ below (zQi 1 D cI cJ adr s.heap.size ro so) args s 0 0 (zA 1 adr s.heap.size)) (F0 m 121 ls [])) → W p l e { frames := 4, cells := 0, slots := 0, locals := 93 } s m args below meth c H locs 0 0 (MQ below (zQi 1 D cI cJ adr s.heap.size ro so) args s 0 0 (zA 1 adr s.heap.size)) (F0 m 13 ls []) := by
    intro n
    induction n with
    | zero =>
      intro x1 s2 K13 H locs ls hf hW hl hK13
      rw [fX8_ends_L13] at hf
      cases hf
    | succ n ih13 =>
      intro x1 s2 K13 H locs ls hf hW hl hK13
      rw [fX8_ends_L13] at hf
      refine lv_iload_n hx hb dX8_ends_13 rfl (lv_at hl 1 rfl) ?_
      refine lv_aload_n hx hb dX8_ends_14 rfl (lv_at hl 0 rfl) ?_
      refine zg_a (o := 0) hC hW fl_X8_11 zck_1_0 zcs_1_0 (show _ = 1 from rfl) dX8_ends_15 ?_
      refine lv_sipush (v := 320) hx hb dX8_ends_18 (by decide) ?_
      refine za_l hC hW hf zar_1_1 dX8_ends_21 (fun v3 hf => ?_)
      refine zi_icmp_ge (tgt := 121) hx hb dX8_ends_22 (by decide) hf (fun hc hf => ?_) (fun hc hf => ?_)
      · skip
        exact hK13 s2 H locs ls hf hW (lv_sub hl [0] rfl)
      · skip
        refine lv_aload_n hx hb dX8_ends_25 rfl (lv_at hl 0 rfl) ?_
        refine zg_a (o := 0) hC hW fl_X8_11 zck_1_0 zcs_1_0 (show _ = 1 from rfl) dX8_ends_26 ?_
        refine lv_sipush (v := 300) hx hb dX8_ends_29 (by decide) ?_
        refine lv_iconst (v := 2) hx hb dX8_ends_32 (by decide) ?_
        refine lv_iload_n hx hb dX8_ends_33 rfl (lv_at hl 1 rfl) ?_
        refine lv_imul hx hb dX8_ends_34 ?_
        refine lv_iadd hx hb dX8_ends_35 ?_
        refine za_l hC hW hf zar_1_1 dX8_ends_36 (fun v4 hf => ?_)
        refine lv_istore_n (lv' := [(2, .int v4), (0, .ref (adr 0)), (1, .int x1)]) hx hb dX8_ends_37 rfl hl (by decide) rfl (fun ls hl => ?_)
        refine lv_aload_n hx hb dX8_ends_38 rfl (lv_at hl 1 rfl) ?_
        refine zg_a (o := 0) hC hW fl_X8_11 zck_1_0 zcs_1_0 (show _ = 1 from rfl) dX8_ends_39 ?_
        refine lv_sipush (v := 300) hx hb dX8_ends_42 (by decide) ?_
        refine lv_iconst (v := 2) hx hb dX8_ends_45 (by decide) ?_
        refine lv_iload_n hx hb dX8_ends_46 rfl (lv_at hl 2 rfl) ?_
        refine lv_imul hx hb dX8_ends_47 ?_
        refine lv_iadd hx hb dX8_ends_48 ?_
        refine lv_iconst (v := 1) hx hb dX8_ends_49 (by decide) ?_
        refine lv_iadd hx hb dX8_ends_50 ?_
        refine za_l hC hW hf zar_1_1 dX8_ends_51 (fun v5 hf => ?_)
        refine lv_istore_n (lv' := [(3, .int v5), (2, .int v4), (0, .ref (adr 0)), (1, .int x1)]) hx hb dX8_ends_52 rfl hl (by decide) rfl (fun ls hl => ?_)
        refine lv_iload_n hx hb dX8_ends_53 rfl (lv_at hl 1 rfl) ?_
        refine zi_if_ne (tgt := 83) hx hb dX8_ends_54 (by decide) hf (fun hc hf => ?_) (fun hc hf => ?_)
        · skip
          refine lv_aload_n hx hb dX8_ends_57 rfl (lv_at hl 2 rfl) ?_
          refine zg_a (o := 1) hC hW fl_X8_15 zck_1_0 zcs_1_0 (show _ = 2 from rfl) dX8_ends_58 ?_
          refine lv_sipush (v := 140) hx hb dX8_ends_61 (by decide) ?_
          refine lv_bipush (v := 6) hx hb dX8_ends_64 (by decide) ?_
          refine lv_iload_n hx hb dX8_ends_66 rfl (lv_at hl 0 rfl) ?_
          refine lv_bipush (v := 10) hx hb dX8_ends_67 (by decide) ?_
          refine lv_idiv hx hb dX8_ends_69 (by decide) ?_
          refine lv_imul hx hb dX8_ends_70 ?_
          refine lv_iadd hx hb dX8_ends_71 ?_
          refine lv_iload_n hx hb dX8_ends_72 rfl (lv_at hl 0 rfl) ?_
          refine lv_bipush (v := 10) hx hb dX8_ends_73 (by decide) ?_
          refine lv_irem hx hb dX8_ends_75 (by decide) ?_
          refine lv_iadd hx hb dX8_ends_76 ?_
          refine lv_bipush (v := (-5)) hx hb dX8_ends_77 (by decide) ?_
          refine za_s hC hW hf zar_1_2 dX8_ends_79 (fun s6 H locs hf hW => ?_)
          refine lv_goto (tgt := 115) hx hb dX8_ends_80 (by decide) ?_
          refine zi_inc (v := (x1 + 1)) (lv' := fun v7 => [(1, .int v7), (3, .int v5), (2, .int v4), (0, .ref (adr 0))]) hx hb dX8_ends_115 hl (k := 3) rfl rfl (by decide) (fun _ => rfl) hf (fun v7 ls hf hl => ?_)
          refine lv_goto (tgt := 13) hx hb dX8_ends_118 (by decide) ?_
          exact ih13 v7 s6 _ H locs ls hf hW (lv_sub hl [3, 0] rfl) hK13
        · skip
          refine lv_aload_n hx hb dX8_ends_83 rfl (lv_at hl 2 rfl) ?_
          refine zg_a (o := 1) hC hW fl_X8_15 zck_1_0 zcs_1_0 (show _ = 2 from rfl) dX8_ends_84 ?_
          refine lv_iload_n hx hb dX8_ends_87 rfl (lv_at hl 1 rfl) ?_
          refine lv_iconst (v := 1) hx hb dX8_ends_88 (by decide) ?_
          refine zi_icmp_ne (tgt := 99) hx hb dX8_ends_89 (by decide) hf (fun hc hf => ?_) (fun hc hf => ?_)
          · skip
            refine lv_bipush (v := 16) hx hb dX8_ends_92 (by decide) ?_
            refine lv_iload_n hx hb dX8_ends_94 rfl (lv_at hl 0 rfl) ?_
            refine lv_iadd hx hb dX8_ends_95 ?_
            refine lv_goto (tgt := 103) hx hb dX8_ends_96 (by decide) ?_
            refine lv_iload_n hx hb dX8_ends_103 rfl (lv_at hl 1 rfl) ?_
            refine lv_iconst (v := 1) hx hb dX8_ends_104 (by decide) ?_
            refine zi_icmp_ne (tgt := 113) hx hb dX8_ends_105 (by decide) hf (fun hc hf => ?_) (fun hc hf => ?_)
            · skip
              refine lv_bipush (v := (-5)) hx hb dX8_ends_108 (by decide) ?_
              refine lv_goto (tgt := 114) hx hb dX8_ends_110 (by decide) ?_
              refine za_s hC hW hf zar_1_2 dX8_ends_114 (fun s8 H locs hf hW => ?_)
              refine zi_inc (v := (x1 + 1)) (lv' := fun v9 => [(1, .int v9), (3, .int v5), (2, .int v4), (0, .ref (adr 0))]) hx hb dX8_ends_115 hl (k := 3) rfl rfl (by decide) (fun _ => rfl) hf (fun v9 ls hf hl => ?_)
              refine lv_goto (tgt := 13) hx hb dX8_ends_118 (by decide) ?_
              exact ih13 v9 s8 _ H locs ls hf hW (lv_sub hl [3, 0] rfl) hK13
            · skip
              refine lv_iconst (v := 0) hx hb dX8_ends_113 (by decide) ?_
              refine za_s hC hW hf zar_1_2 dX8_ends_114 (fun s10 H locs hf hW => ?_)
              refine zi_inc (v := (x1 + 1)) (lv' := fun v11 => [(1, .int v11), (3, .int v5), (2, .int v4), (0, .ref (adr 0))]) hx hb dX8_ends_115 hl (k := 3) rfl rfl (by decide) (fun _ => rfl) hf (fun v11 ls hf hl => ?_)
              refine lv_goto (tgt := 13) hx hb dX8_ends_118 (by decide) ?_
              exact ih13 v11 s10 _ H locs ls hf hW (lv_sub hl [3, 0] rfl) hK13
          · skip
            refine lv_bipush (v := 44) hx hb dX8_ends_99 (by decide) ?_
            refine lv_iload_n hx hb dX8_ends_101 rfl (lv_at hl 0 rfl) ?_
            refine lv_iadd hx hb dX8_ends_102 ?_
            refine lv_iload_n hx hb dX8_ends_103 rfl (lv_at hl 1 rfl) ?_
            refine lv_iconst (v := 1) hx hb dX8_ends_104 (by decide) ?_
            refine zi_icmp_ne (tgt := 113) hx hb dX8_ends_105 (by decide) hf (fun hc hf => ?_) (fun hc hf => ?_)
            · skip
              refine lv_bipush (v := (-5)) hx hb dX8_ends_108 (by decide) ?_
              refine lv_goto (tgt := 114) hx hb dX8_ends_110 (by decide) ?_
              refine za_s hC hW hf zar_1_2 dX8_ends_114 (fun s12 H locs hf hW => ?_)
              refine zi_inc (v := (x1 + 1)) (lv' := fun v13 => [(1, .int v13), (3, .int v5), (2, .int v4), (0, .ref (adr 0))]) hx hb dX8_ends_115 hl (k := 3) rfl rfl (by decide) (fun _ => rfl) hf (fun v13 ls hf hl => ?_)
              refine lv_goto (tgt := 13) hx hb dX8_ends_118 (by decide) ?_
              exact ih13 v13 s12 _ H locs ls hf hW (lv_sub hl [3, 0] rfl) hK13
            · skip
              refine lv_iconst (v := 0) hx hb dX8_ends_113 (by decide) ?_
              refine za_s hC hW hf zar_1_2 dX8_ends_114 (fun s14 H locs hf hW => ?_)
              refine zi_inc (v := (x1 + 1)) (lv' := fun v15 => [(1, .int v15), (3, .int v5), (2, .int v4), (0, .ref (adr 0))]) hx hb dX8_ends_115 hl (k := 3) rfl rfl (by decide) (fun _ => rfl) hf (fun v15 ls hf hl => ?_)
              refine lv_goto (tgt := 13) hx hb dX8_ends_118 (by decide) ?_
              exact ih13 v15 s14 _ H locs ls hf hW (lv_sub hl [3, 0] rfl) hK13
  refine hL13 zFU 0 s1 _ H locs ls hf hW (lv_sub hl [1, 0] rfl) (fun s16 H locs ls hf hW hl => ?_)
  refine lv_aload_n hx hb dX8_ends_121 rfl (lv_at hl 0 rfl) ?_
  refine zg_a (o := 1) hC hW fl_X8_15 zck_1_0 zcs_1_0 (show _ = 2 from rfl) dX8_ends_122 ?_
  obtain ⟨v17, hq, hf⟩ := zb1_o hf
  refine zc_i hW (zrun_s (As := [.ref (adr 2)]) (rest := []) hC hW (mX8_reached zMc_2 s16 hC.2.2.2.2.2.2.2 hq) cs_X8_99 rfl ⟨⟨rfl, rfl⟩, Nat.le_of_ble_eq_true rfl, Nat.le_of_ble_eq_true rfl⟩ (zlv_size hl) rfl (Nat.le_of_ble_eq_true rfl) dX8_ends_125 ⟨Nat.le_refl _, Nat.le_refl _⟩) (fun H locs hW => ?_)
  exact zr_i hx hb hr hlk hW (zo1 hf) (zo2 hf) dX8_ends_128
set_option maxHeartbeats 4000000 in
set_option maxRecDepth 100000 in
theorem mX8_book {l : Launch} {D : va_G} {cI cJ : ClassId} {adr : Nat → Nat} (p1 : Int32) (p2 : Int32) (p3 : Int32) (s0 : zkS) {z : Nat} {ro : Int32} {so : zkS} (hI : zInj 1 adr) (hf : fX8_book p1 p2 p3 s0 = some (ro, so)) : Met l yX8_book (Cond.code yX8_book cX8_book 5 (some .int) :: zTb) { frames := 3, cells := 0, slots := 0, locals := 68 } (zPre 1 D cI cJ adr s0 z [.ref (adr 0), .int p1, .int p2, .int p3]) (zQi 1 D cI cJ adr z ro so) 0 0 (zA 1 adr z) := by
  refine zen (cc := cX8_book) (own := RX8) (by decide +kernel) rfl hI (Nat.le_of_ble_eq_true rfl) (fun p e s m args below meth c ls hC hr hlk hz hl hW => ?_)
  subst hz
  obtain ⟨hx, hb, -⟩ := id hC
  have hl : lv_has ls 5 [(0, .ref (adr 0)), (1, .int p1), (2, .int p2), (3, .int p3)] := hl
  refine zst hW (fun H locs hW => ?_)
  unfold fX8_book at hf
  refine lv_iload_n hx hb dX8_book_0 rfl (lv_at hl 1 rfl) ?_
  refine lv_iconst (v := (-1)) hx hb dX8_book_1 (by decide) ?_
  refine zi_icmp_ne (tgt := 16) hx hb dX8_book_2 (by decide) hf (fun hc hf => ?_) (fun hc hf => ?_)
  · skip
    refine lv_aload_n hx hb dX8_book_5 rfl (lv_at hl 0 rfl) ?_
    refine zg_a (o := 0) hC hW fl_X8_11 zck_1_0 zcs_1_0 (show _ = 1 from rfl) dX8_book_6 ?_
    refine lv_sipush (v := 345) hx hb dX8_book_9 (by decide) ?_
    refine lv_iconst (v := 0) hx hb dX8_book_12 (by decide) ?_
    refine za_s hC hW hf zar_1_1 dX8_book_13 (fun s1 H locs hf hW => ?_)
    refine lv_iconst (v := 0) hx hb dX8_book_14 (by decide) ?_
    exact zr_i hx hb hr hlk hW (zo1 hf) (zo2 hf) dX8_book_15
  · skip
    refine lv_aload_n hx hb dX8_book_16 rfl (lv_at hl 0 rfl) ?_
    refine lv_iload_n hx hb dX8_book_17 rfl (lv_at hl 1 rfl) ?_
    refine lv_iload_n hx hb dX8_book_18 rfl (lv_at hl 2 rfl) ?_
    obtain ⟨v2, hq, hf⟩ := zb1_o hf
    refine zc_i hW (zrun_v (As := [.int p1, .int p2]) (rest := []) hC hW (mX8_isField p1 p2 s0 hC.2.2.2.2.2.2.2 hq) cv_X8_96 zck_1_0 zcs_1_0 rfl ⟨⟨rfl, rfl⟩, Nat.le_of_ble_eq_true rfl, Nat.le_of_ble_eq_true rfl⟩ (zlv_size hl) rfl (Nat.le_of_ble_eq_true rfl) dX8_book_19 ⟨Nat.le_refl _, Nat.le_refl _⟩) (fun H locs hW => ?_)
    refine zi_if_eq (tgt := 38) hx hb dX8_book_22 (by decide) hf (fun hc hf => ?_) (fun hc hf => ?_)
    · skip
      refine lv_iconst (v := (-1)) hx hb dX8_book_38 (by decide) ?_
      exact zr_i hx hb hr hlk hW (zo1 hf) (zo2 hf) dX8_book_39
    · skip
      refine lv_iload_n hx hb dX8_book_25 rfl (lv_at hl 3 rfl) ?_
      refine lv_iconst (v := (-1)) hx hb dX8_book_26 (by decide) ?_
      refine zjn_e hf (fun J3 => ∀ (u4 : Unit) (H : Heap) (locs : List Loc) (ls : Array Slot), J3 u4 = some (ro, so) → zWo 1 D cI cJ adr s s0 H locs → lv_has ls 5 [(0, .ref (adr 0)), (1, .int p1), (2, .int p2), (3, .int p3)] → W p l e { frames := 3, cells := 0, slots := 0, locals := 68 } s m args below meth c H locs 0 0 (MQ below (zQi 1 D cI cJ adr s.heap.size ro so) args s 0 0 (zA 1 adr s.heap.size)) (F0 m 40 ls [])) ?_ (fun J3 hJ3 hf => ?_)
      · intro u4 H locs ls hf hW hl
        refine lv_aload_n hx hb dX8_book_40 rfl (lv_at hl 0 rfl) ?_
        refine zg_a (o := 0) hC hW fl_X8_11 zck_1_0 zcs_1_0 (show _ = 1 from rfl) dX8_book_41 ?_
        refine lv_sipush (v := 345) hx hb dX8_book_44 (by decide) ?_
        refine za_l hC hW hf zar_1_1 dX8_book_47 (fun v5 hf => ?_)
        refine lv_istore (lv' := [(4, .int v5), (0, .ref (adr 0)), (1, .int p1), (2, .int p2), (3, .int p3)]) hx hb dX8_book_48 hl (by decide) rfl (fun ls hl => ?_)
        refine lv_iload hx hb dX8_book_50 (lv_at hl 0 rfl) ?_
        refine lv_bipush (v := 8) hx hb dX8_book_52 (by decide) ?_
        refine zi_icmp_ne (tgt := 60) hx hb dX8_book_54 (by decide) hf (fun hc hf => ?_) (fun hc hf => ?_)
        · skip
          refine lv_bipush (v := (-4)) hx hb dX8_book_57 (by decide) ?_
          exact zr_i hx hb hr hlk hW (zo1 hf) (zo2 hf) dX8_book_59
        · skip
          refine lv_aload_n hx hb dX8_book_60 rfl (lv_at hl 1 rfl) ?_
          refine zg_a (o := 0) hC hW fl_X8_11 zck_1_0 zcs_1_0 (show _ = 1 from rfl) dX8_book_61 ?_
          refine lv_sipush (v := 321) hx hb dX8_book_64 (by decide) ?_
          refine lv_iconst (v := 3) hx hb dX8_book_67 (by decide) ?_
          refine lv_iload hx hb dX8_book_68 (lv_at hl 0 rfl) ?_
          refine lv_imul hx hb dX8_book_70 ?_
          refine lv_iadd hx hb dX8_book_71 ?_
          refine lv_iload_n hx hb dX8_book_72 rfl (lv_at hl 2 rfl) ?_
          refine za_s hC hW hf zar_1_1 dX8_book_73 (fun s6 H locs hf hW => ?_)
          refine lv_aload_n hx hb dX8_book_74 rfl (lv_at hl 1 rfl) ?_
          refine zg_a (o := 0) hC hW fl_X8_11 zck_1_0 zcs_1_0 (show _ = 1 from rfl) dX8_book_75 ?_
          refine lv_sipush (v := 321) hx hb dX8_book_78 (by decide) ?_
          refine lv_iconst (v := 3) hx hb dX8_book_81 (by decide) ?_
          refine lv_iload hx hb dX8_book_82 (lv_at hl 0 rfl) ?_
          refine lv_imul hx hb dX8_book_84 ?_
          refine lv_iadd hx hb dX8_book_85 ?_
          refine lv_iconst (v := 1) hx hb dX8_book_86 (by decide) ?_
          refine lv_iadd hx hb dX8_book_87 ?_
          refine lv_iload_n hx hb dX8_book_88 rfl (lv_at hl 3 rfl) ?_
          refine za_s hC hW hf zar_1_1 dX8_book_89 (fun s7 H locs hf hW => ?_)
          refine lv_aload_n hx hb dX8_book_90 rfl (lv_at hl 1 rfl) ?_
          refine zg_a (o := 0) hC hW fl_X8_11 zck_1_0 zcs_1_0 (show _ = 1 from rfl) dX8_book_91 ?_
          refine lv_sipush (v := 321) hx hb dX8_book_94 (by decide) ?_
          refine lv_iconst (v := 3) hx hb dX8_book_97 (by decide) ?_
          refine lv_iload hx hb dX8_book_98 (lv_at hl 0 rfl) ?_
          refine lv_imul hx hb dX8_book_100 ?_
          refine lv_iadd hx hb dX8_book_101 ?_
          refine lv_iconst (v := 2) hx hb dX8_book_102 (by decide) ?_
          refine lv_iadd hx hb dX8_book_103 ?_
          refine lv_iload_n hx hb dX8_book_104 rfl (lv_at hl 4 rfl) ?_
          refine lv_iconst (v := (-1)) hx hb dX8_book_105 (by decide) ?_
          refine zjn_e hf (fun J8 => ∀ (v9 : Int32) (H : Heap) (locs : List Loc) (ls : Array Slot), J8 v9 = some (ro, so) → zWo 1 D cI cJ adr s s7 H locs → lv_has ls 5 [(0, .ref (adr 0)), (4, .int v5)] → W p l e { frames := 3, cells := 0, slots := 0, locals := 68 } s m args below meth c H locs 0 0 (MQ below (zQi 1 D cI cJ adr s.heap.size ro so) args s 0 0 (zA 1 adr s.heap.size)) (F0 m 115 ls [.int v9, .int ((321 + (3 * v5)) + 2), .ref (adr 1)])) ?_ (fun J8 hJ8 hf => ?_)
          · intro v9 H locs ls hf hW hl
            refine za_s hC hW hf zar_1_1 dX8_book_115 (fun s10 H locs hf hW => ?_)
            refine lv_aload_n hx hb dX8_book_116 rfl (lv_at hl 0 rfl) ?_
            refine zg_a (o := 0) hC hW fl_X8_11 zck_1_0 zcs_1_0 (show _ = 1 from rfl) dX8_book_117 ?_
            refine lv_sipush (v := 345) hx hb dX8_book_120 (by decide) ?_
            refine lv_iload hx hb dX8_book_123 (lv_at hl 1 rfl) ?_
            refine lv_iconst (v := 1) hx hb dX8_book_125 (by decide) ?_
            refine lv_iadd hx hb dX8_book_126 ?_
            refine za_s hC hW hf zar_1_1 dX8_book_127 (fun s11 H locs hf hW => ?_)
            refine lv_iload hx hb dX8_book_128 (lv_at hl 1 rfl) ?_
            refine lv_iconst (v := 1) hx hb dX8_book_130 (by decide) ?_
            refine lv_iadd hx hb dX8_book_131 ?_
            exact zr_i hx hb hr hlk hW (zo1 hf) (zo2 hf) dX8_book_132
          refine zi_icmp_ne (tgt := 114) hx hb dX8_book_106 (by decide) hf (fun hc hf => ?_) (fun hc hf => ?_)
          · skip
            refine lv_bipush (v := (-5)) hx hb dX8_book_109 (by decide) ?_
            refine lv_goto (tgt := 115) hx hb dX8_book_111 (by decide) ?_
            exact hJ8 (-5) H locs ls hf hW (lv_sub hl [1, 0] rfl)
          · skip
            refine lv_iload_n hx hb dX8_book_114 rfl (lv_at hl 4 rfl) ?_
            exact hJ8 p3 H locs ls hf hW (lv_sub hl [1, 0] rfl)
      refine zi_icmp_eq (tgt := 40) hx hb dX8_book_27 (by decide) hf (fun hc hf => ?_) (fun hc hf => ?_)
      · skip
        exact hJ3 () H locs ls hf hW (lv_sub hl [0, 1, 2, 3] rfl)
      · skip
        refine lv_aload_n hx hb dX8_book_30 rfl (lv_at hl 0 rfl) ?_
        refine lv_iload_n hx hb dX8_book_31 rfl (lv_at hl 3 rfl) ?_
        obtain ⟨v12, hq, hf⟩ := zb1_o hf
        refine zc_i hW (zrun_v (As := [.int p3]) (rest := []) hC hW (mX8_isThere p3 s0 hC.2.2.2.2.2.2.2 hq) cv_X8_65 zck_1_0 zcs_1_0 rfl ⟨⟨rfl, rfl⟩, Nat.le_of_ble_eq_true rfl, Nat.le_of_ble_eq_true rfl⟩ (zlv_size hl) rfl (Nat.le_of_ble_eq_true rfl) dX8_book_32 ⟨Nat.le_refl _, Nat.le_refl _⟩) (fun H locs hW => ?_)
        refine zi_if_ne (tgt := 40) hx hb dX8_book_35 (by decide) hf (fun hc hf => ?_) (fun hc hf => ?_)
        · skip
          refine lv_iconst (v := (-1)) hx hb dX8_book_38 (by decide) ?_
          exact zr_i hx hb hr hlk hW (zo1 hf) (zo2 hf) dX8_book_39
        · skip
          exact hJ3 () H locs ls hf hW (lv_sub hl [0, 1, 2, 3] rfl)
set_option maxHeartbeats 4000000 in
set_option maxRecDepth 100000 in
theorem mX8_looked {l : Launch} {D : va_G} {cI cJ : ClassId} {adr : Nat → Nat} (s0 : zkS) {z : Nat} {ro : Int32} (hI : zInj 1 adr) (hf : fX8_looked s0 = some ro) : Met l yX8_looked (Cond.code yX8_looked cX8_looked 3 (some .int) :: zTb) { frames := 2, cells := 0, slots := 0, locals := 46 } (zPre 1 D cI cJ adr s0 z [.ref (adr 0)]) (zQi 1 D cI cJ adr z ro s0) 0 0 (zA 1 adr z) := by
  refine zen (cc := cX8_looked) (own := RX8) (by decide +kernel) rfl hI (Nat.le_of_ble_eq_true rfl) (fun p e s m args below meth c ls hC hr hlk hz hl hW => ?_)
  subst hz
  obtain ⟨hx, hb, -⟩ := id hC
  have hl : lv_has ls 3 [(0, .ref (adr 0))] := hl
  refine zst hW (fun H locs hW => ?_)
  unfold fX8_looked at hf
  refine lv_iconst (v := 0) hx hb dX8_looked_0 (by decide) ?_
  refine lv_istore_n (lv' := [(1, .int 0), (0, .ref (adr 0))]) hx hb dX8_looked_1 rfl hl (by decide) rfl (fun ls hl => ?_)
  have hL2 : ∀ (n : Nat) (x1 : Int32) (K2 : Unit → Option (Int32)) (H : Heap) (locs : List Loc) (ls : Array Slot), fX8_looked_L2 n s0 x1 K2 = some ro → zWo 1 D cI cJ adr s s0 H locs → lv_has ls 3 [(0, .ref (adr 0)), (1, .int x1)] → (∀  (H : Heap) (locs : List Loc) (ls : Array Slot), K2 () = some ro → zWo 1 D cI cJ adr s s0 H locs → lv_has ls 3 [] → W p l e { frames := 2, cells := 0, slots := 0, locals := 46 } s m args below meth c H locs 0 0 (MQ below (zQi 1 D cI cJ adr s.heap.size ro s0) args s 0 0 (zA 1 adr s.heap.size)) (F0 m 88 ls [])) → W p l e { frames := 2, cells := 0, slots := 0, locals := 46 } s m args below meth c H locs 0 0 (MQ below (zQi 1 D cI cJ adr s.heap.size ro s0) args s 0 0 (zA 1 adr s.heap.size)) (F0 m 2 ls []) := by
    intro n
    induction n with
    | zero =>
      intro x1 K2 H locs ls hf hW hl hK2
      rw [fX8_looked_L2] at hf
      cases hf
    | succ n ih2 =>
      intro x1 K2 H locs ls hf hW hl hK2
      rw [fX8_looked_L2] at hf
      refine lv_iload_n hx hb dX8_looked_2 rfl (lv_at hl 1 rfl) ?_
      refine lv_aload_n hx hb dX8_looked_3 rfl (lv_at hl 0 rfl) ?_
      refine zg_a (o := 0) hC hW fl_X8_11 zck_1_0 zcs_1_0 (show _ = 1 from rfl) dX8_looked_4 ?_
      refine lv_sipush (v := 345) hx hb dX8_looked_7 (by decide) ?_
      refine za_l hC hW hf zar_1_1 dX8_looked_10 (fun v1 hf => ?_)
      refine zi_icmp_ge (tgt := 88) hx hb dX8_looked_11 (by decide) hf (fun hc hf => ?_) (fun hc hf => ?_)
      · skip
        exact hK2  H locs ls hf hW (lv_sub hl [] rfl)
      · skip
        refine lv_aload_n hx hb dX8_looked_14 rfl (lv_at hl 0 rfl) ?_
        refine zg_a (o := 0) hC hW fl_X8_11 zck_1_0 zcs_1_0 (show _ = 1 from rfl) dX8_looked_15 ?_
        refine lv_sipush (v := 321) hx hb dX8_looked_18 (by decide) ?_
        refine lv_iconst (v := 3) hx hb dX8_looked_21 (by decide) ?_
        refine lv_iload_n hx hb dX8_looked_22 rfl (lv_at hl 1 rfl) ?_
        refine lv_imul hx hb dX8_looked_23 ?_
        refine lv_iadd hx hb dX8_looked_24 ?_
        refine za_l hC hW hf zar_1_1 dX8_looked_25 (fun v2 hf => ?_)
        refine lv_istore_n (lv' := [(2, .int v2), (0, .ref (adr 0)), (1, .int x1)]) hx hb dX8_looked_26 rfl hl (by decide) rfl (fun ls hl => ?_)
        refine lv_aload_n hx hb dX8_looked_27 rfl (lv_at hl 1 rfl) ?_
        refine lv_iload_n hx hb dX8_looked_28 rfl (lv_at hl 0 rfl) ?_
        obtain ⟨v3, hq, hf⟩ := zb1_o hf
        refine zc_i hW (zrun_v (As := [.int v2]) (rest := []) hC hW (mX8_isThere v2 s0 hC.2.2.2.2.2.2.2 hq) cv_X8_65 zck_1_0 zcs_1_0 rfl ⟨⟨rfl, rfl⟩, Nat.le_of_ble_eq_true rfl, Nat.le_of_ble_eq_true rfl⟩ (zlv_size hl) rfl (Nat.le_of_ble_eq_true rfl) dX8_looked_29 ⟨Nat.le_refl _, Nat.le_refl _⟩) (fun H locs hW => ?_)
        refine zi_if_eq (tgt := 80) hx hb dX8_looked_32 (by decide) hf (fun hc hf => ?_) (fun hc hf => ?_)
        · skip
          refine lv_iload_n hx hb dX8_looked_80 rfl (lv_at hl 2 rfl) ?_
          exact zr_i hx hb hr hlk hW (Option.some.inj hf) rfl dX8_looked_81
        · skip
          refine lv_aload_n hx hb dX8_looked_35 rfl (lv_at hl 1 rfl) ?_
          refine zg_a (o := 0) hC hW fl_X8_11 zck_1_0 zcs_1_0 (show _ = 1 from rfl) dX8_looked_36 ?_
          refine lv_sipush (v := 140) hx hb dX8_looked_39 (by decide) ?_
          refine lv_bipush (v := 6) hx hb dX8_looked_42 (by decide) ?_
          refine lv_iload_n hx hb dX8_looked_44 rfl (lv_at hl 0 rfl) ?_
          refine lv_imul hx hb dX8_looked_45 ?_
          refine lv_iadd hx hb dX8_looked_46 ?_
          refine lv_aload_n hx hb dX8_looked_47 rfl (lv_at hl 1 rfl) ?_
          refine zg_a (o := 0) hC hW fl_X8_11 zck_1_0 zcs_1_0 (show _ = 1 from rfl) dX8_looked_48 ?_
          refine lv_sipush (v := 321) hx hb dX8_looked_51 (by decide) ?_
          refine lv_iconst (v := 3) hx hb dX8_looked_54 (by decide) ?_
          refine lv_iload_n hx hb dX8_looked_55 rfl (lv_at hl 2 rfl) ?_
          refine lv_imul hx hb dX8_looked_56 ?_
          refine lv_iadd hx hb dX8_looked_57 ?_
          refine lv_iconst (v := 1) hx hb dX8_looked_58 (by decide) ?_
          refine lv_iadd hx hb dX8_looked_59 ?_
          refine za_l hC hW hf zar_1_1 dX8_looked_60 (fun v4 hf => ?_)
          refine lv_iadd hx hb dX8_looked_61 ?_
          refine za_l hC hW hf zar_1_1 dX8_looked_62 (fun v5 hf => ?_)
          refine lv_aload_n hx hb dX8_looked_63 rfl (lv_at hl 1 rfl) ?_
          refine zg_a (o := 0) hC hW fl_X8_11 zck_1_0 zcs_1_0 (show _ = 1 from rfl) dX8_looked_64 ?_
          refine lv_sipush (v := 321) hx hb dX8_looked_67 (by decide) ?_
          refine lv_iconst (v := 3) hx hb dX8_looked_70 (by decide) ?_
          refine lv_iload_n hx hb dX8_looked_71 rfl (lv_at hl 2 rfl) ?_
          refine lv_imul hx hb dX8_looked_72 ?_
          refine lv_iadd hx hb dX8_looked_73 ?_
          refine lv_iconst (v := 2) hx hb dX8_looked_74 (by decide) ?_
          refine lv_iadd hx hb dX8_looked_75 ?_
          refine za_l hC hW hf zar_1_1 dX8_looked_76 (fun v6 hf => ?_)
          refine zi_icmp_eq (tgt := 82) hx hb dX8_looked_77 (by decide) hf (fun hc hf => ?_) (fun hc hf => ?_)
          · skip
            refine zi_inc (v := (x1 + 1)) (lv' := fun v7 => [(1, .int v7), (2, .int v2), (0, .ref (adr 0))]) hx hb dX8_looked_82 hl (k := 2) rfl rfl (by decide) (fun _ => rfl) hf (fun v7 ls hf hl => ?_)
            refine lv_goto (tgt := 2) hx hb dX8_looked_85 (by decide) ?_
            exact ih2 v7 _ H locs ls hf hW (lv_sub hl [2, 0] rfl) hK2
          · skip
            refine lv_iload_n hx hb dX8_looked_80 rfl (lv_at hl 2 rfl) ?_
            exact zr_i hx hb hr hlk hW (Option.some.inj hf) rfl dX8_looked_81
  refine hL2 zFU 0 _ H locs ls hf hW (lv_sub hl [1, 0] rfl) (fun  H locs ls hf hW hl => ?_)
  refine lv_bipush (v := (-5)) hx hb dX8_looked_88 (by decide) ?_
  exact zr_i hx hb hr hlk hW (Option.some.inj hf) rfl dX8_looked_90
set_option maxHeartbeats 4000000 in
set_option maxRecDepth 100000 in
theorem mX8_judge {l : Launch} {D : va_G} {cI cJ : ClassId} {adr : Nat → Nat} (p1 : Int32) (p2 : Int32) (s0 : zkS) {z : Nat} {ro : Int32} (hI : zInj 1 adr) (hf : fX8_judge p1 p2 s0 = some ro) : Met l yX8_judge (Cond.code yX8_judge cX8_judge 4 (some .int) :: zTb) { frames := 1, cells := 0, slots := 0, locals := 25 } (zPre 1 D cI cJ adr s0 z [.ref (adr 0), .int p1, .int p2]) (zQi 1 D cI cJ adr z ro s0) 0 0 (zA 1 adr z) := by
  refine zen (cc := cX8_judge) (own := RX8) (by decide +kernel) rfl hI (Nat.le_of_ble_eq_true rfl) (fun p e s m args below meth c ls hC hr hlk hz hl hW => ?_)
  subst hz
  obtain ⟨hx, hb, -⟩ := id hC
  have hl : lv_has ls 4 [(0, .ref (adr 0)), (1, .int p1), (2, .int p2)] := hl
  refine zst hW (fun H locs hW => ?_)
  unfold fX8_judge at hf
  refine lv_iload_n hx hb dX8_judge_0 rfl (lv_at hl 1 rfl) ?_
  refine lv_i2l hx hb dX8_judge_1 rfl ?_
  refine lv_lconst (v := 0) hx hb dX8_judge_2 (by decide) ?_
  refine lv_ldc2 hx hb hC.2.2.2.1 (hC.2.2.2.2.1 _ wq_1168) dX8_judge_3 ?_
  refine zc_i hW (zrun_s (As := [.long ((p1 : Int32).toInt64), .long 0, .long 5]) (rest := []) hC hW (mX8_in ((p1 : Int32).toInt64) 0 5 s0 hC.2.2.2.2.2.2.2 rfl) cs_X8_57 rfl ⟨⟨rfl, rfl⟩, Nat.le_of_ble_eq_true rfl, Nat.le_of_ble_eq_true rfl⟩ (zlv_size hl) rfl (Nat.le_of_ble_eq_true rfl) dX8_judge_6 ⟨Nat.le_refl _, Nat.le_refl _⟩) (fun H locs hW => ?_)
  refine zi_if_ne (tgt := 14) hx hb dX8_judge_9 (by decide) hf (fun hc hf => ?_) (fun hc hf => ?_)
  · skip
    refine lv_iconst (v := (-1)) hx hb dX8_judge_12 (by decide) ?_
    exact zr_i hx hb hr hlk hW (Option.some.inj hf) rfl dX8_judge_13
  · skip
    refine lv_aload_n hx hb dX8_judge_14 rfl (lv_at hl 0 rfl) ?_
    refine zg_a (o := 11) hC hW fl_X8_45 zck_1_0 zcs_1_0 (show _ = 12 from rfl) dX8_judge_15 ?_
    refine lv_iload_n hx hb dX8_judge_18 rfl (lv_at hl 1 rfl) ?_
    refine za_l hC hW hf zar_1_12 dX8_judge_19 (fun v2 hf => ?_)
    refine lv_iconst (v := (-1)) hx hb dX8_judge_20 (by decide) ?_
    refine zjn_e hf (fun J3 => ∀ (u4 : Unit) (H : Heap) (locs : List Loc) (ls : Array Slot), J3 u4 = some ro → zWo 1 D cI cJ adr s s0 H locs → lv_has ls 4 [(0, .ref (adr 0)), (1, .int p1), (2, .int p2)] → W p l e { frames := 1, cells := 0, slots := 0, locals := 25 } s m args below meth c H locs 0 0 (MQ below (zQi 1 D cI cJ adr s.heap.size ro s0) args s 0 0 (zA 1 adr s.heap.size)) (F0 m 37 ls [])) ?_ (fun J3 hJ3 hf => ?_)
    · intro u4 H locs ls hf hW hl
      refine lv_iconst (v := 0) hx hb dX8_judge_37 (by decide) ?_
      refine lv_istore_n (lv' := [(3, .int 0), (0, .ref (adr 0)), (1, .int p1), (2, .int p2)]) hx hb dX8_judge_38 rfl hl (by decide) rfl (fun ls hl => ?_)
      have hL39 : ∀ (n : Nat) (x1 : Int32) (x2 : Int32) (x3 : Int32) (K39 : Unit → Option (Int32)) (H : Heap) (locs : List Loc) (ls : Array Slot), fX8_judge_L39 n s0 x1 x2 x3 K39 = some ro → zWo 1 D cI cJ adr s s0 H locs → lv_has ls 4 [(0, .ref (adr 0)), (1, .int x1), (2, .int x2), (3, .int x3)] → (∀  (H : Heap) (locs : List Loc) (ls : Array Slot), K39 () = some ro → zWo 1 D cI cJ adr s s0 H locs → lv_has ls 4 [] → W p l e { frames := 1, cells := 0, slots := 0, locals := 25 } s m args below meth c H locs 0 0 (MQ below (zQi 1 D cI cJ adr s.heap.size ro s0) args s 0 0 (zA 1 adr s.heap.size)) (F0 m 124 ls [])) → W p l e { frames := 1, cells := 0, slots := 0, locals := 25 } s m args below meth c H locs 0 0 (MQ below (zQi 1 D cI cJ adr s.heap.size ro s0) args s 0 0 (zA 1 adr s.heap.size)) (F0 m 39 ls []) := by
        intro n
        induction n with
        | zero =>
          intro x1 x2 x3 K39 H locs ls hf hW hl hK39
          rw [fX8_judge_L39] at hf
          cases hf
        | succ n ih39 =>
          intro x1 x2 x3 K39 H locs ls hf hW hl hK39
          rw [fX8_judge_L39] at hf
          refine lv_iload_n hx hb dX8_judge_39 rfl (lv_at hl 3 rfl) ?_
          refine lv_aload_n hx hb dX8_judge_40 rfl (lv_at hl 0 rfl) ?_
          refine zg_a (o := 0) hC hW fl_X8_11 zck_1_0 zcs_1_0 (show _ = 1 from rfl) dX8_judge_41 ?_
          refine lv_iconst (v := 0) hx hb dX8_judge_44 (by decide) ?_
          refine za_l hC hW hf zar_1_1 dX8_judge_45 (fun v5 hf => ?_)
          refine zi_icmp_ge (tgt := 124) hx hb dX8_judge_46 (by decide) hf (fun hc hf => ?_) (fun hc hf => ?_)
          · skip
            exact hK39  H locs ls hf hW (lv_sub hl [] rfl)
          · skip
            refine lv_aload_n hx hb dX8_judge_49 rfl (lv_at hl 0 rfl) ?_
            refine zg_a (o := 11) hC hW fl_X8_45 zck_1_0 zcs_1_0 (show _ = 12 from rfl) dX8_judge_50 ?_
            refine lv_iload_n hx hb dX8_judge_53 rfl (lv_at hl 1 rfl) ?_
            refine za_l hC hW hf zar_1_12 dX8_judge_54 (fun v6 hf => ?_)
            refine lv_iconst (v := (-1)) hx hb dX8_judge_55 (by decide) ?_
            refine zi_icmp_eq (tgt := 75) hx hb dX8_judge_56 (by decide) hf (fun hc hf => ?_) (fun hc hf => ?_)
            · skip
              refine lv_bipush (v := 100) hx hb dX8_judge_75 (by decide) ?_
              refine lv_iload_n hx hb dX8_judge_77 rfl (lv_at hl 3 rfl) ?_
              refine lv_iadd hx hb dX8_judge_78 ?_
              exact zr_i hx hb hr hlk hW (Option.some.inj hf) rfl dX8_judge_79
            · skip
              refine lv_iload_n hx hb dX8_judge_59 rfl (lv_at hl 2 rfl) ?_
              refine zi_if_lt (tgt := 75) hx hb dX8_judge_60 (by decide) hf (fun hc hf => ?_) (fun hc hf => ?_)
              · skip
                refine lv_bipush (v := 100) hx hb dX8_judge_75 (by decide) ?_
                refine lv_iload_n hx hb dX8_judge_77 rfl (lv_at hl 3 rfl) ?_
                refine lv_iadd hx hb dX8_judge_78 ?_
                exact zr_i hx hb hr hlk hW (Option.some.inj hf) rfl dX8_judge_79
              · skip
                refine lv_iload_n hx hb dX8_judge_63 rfl (lv_at hl 3 rfl) ?_
                refine lv_aload_n hx hb dX8_judge_64 rfl (lv_at hl 0 rfl) ?_
                refine zg_a (o := 12) hC hW fl_X8_48 zck_1_0 zcs_1_0 (show _ = 13 from rfl) dX8_judge_65 ?_
                refine lv_iload_n hx hb dX8_judge_68 rfl (lv_at hl 1 rfl) ?_
                refine za_l hC hW hf zar_1_13 dX8_judge_69 (fun v7 hf => ?_)
                refine lv_iload_n hx hb dX8_judge_70 rfl (lv_at hl 2 rfl) ?_
                refine lv_isub hx hb dX8_judge_71 ?_
                refine zi_icmp_lt (tgt := 80) hx hb dX8_judge_72 (by decide) hf (fun hc hf => ?_) (fun hc hf => ?_)
                · skip
                  refine lv_aload_n hx hb dX8_judge_80 rfl (lv_at hl 0 rfl) ?_
                  refine zg_a (o := 13) hC hW fl_X8_51 zck_1_0 zcs_1_0 (show _ = 14 from rfl) dX8_judge_81 ?_
                  refine lv_bipush (v := 60) hx hb dX8_judge_84 (by decide) ?_
                  refine lv_iload_n hx hb dX8_judge_86 rfl (lv_at hl 1 rfl) ?_
                  refine lv_imul hx hb dX8_judge_87 ?_
                  refine lv_iload_n hx hb dX8_judge_88 rfl (lv_at hl 2 rfl) ?_
                  refine lv_iadd hx hb dX8_judge_89 ?_
                  refine lv_iload_n hx hb dX8_judge_90 rfl (lv_at hl 3 rfl) ?_
                  refine lv_iadd hx hb dX8_judge_91 ?_
                  refine za_lL hC hW hf zaj_1_14 dX8_judge_92 (fun v8 hf => ?_)
                  refine lv_aload_n hx hb dX8_judge_93 rfl (lv_at hl 0 rfl) ?_
                  refine zg_a (o := 0) hC hW fl_X8_11 zck_1_0 zcs_1_0 (show _ = 1 from rfl) dX8_judge_94 ?_
                  refine lv_bipush (v := 12) hx hb dX8_judge_97 (by decide) ?_
                  refine za_l hC hW hf zar_1_1 dX8_judge_99 (fun v9 hf => ?_)
                  refine lv_iload_n hx hb dX8_judge_100 rfl (lv_at hl 3 rfl) ?_
                  refine zc_i hW (zrun_s (As := [.int v9, .int x3]) (rest := [.long v8]) hC hW (mX8_bit v9 x3 s0 hC.2.2.2.2.2.2.2 rfl) cs_X8_61 rfl ⟨⟨rfl, rfl⟩, Nat.le_of_ble_eq_true rfl, Nat.le_of_ble_eq_true rfl⟩ (zlv_size hl) rfl (Nat.le_of_ble_eq_true rfl) dX8_judge_101 ⟨Nat.le_refl _, Nat.le_refl _⟩) (fun H locs hW => ?_)
                  refine zi_if_eq (tgt := 111) hx hb dX8_judge_104 (by decide) hf (fun hc hf => ?_) (fun hc hf => ?_)
                  · skip
                    refine lv_lconst (v := 0) hx hb dX8_judge_111 (by decide) ?_
                    refine W.lcmp hx hb dX8_judge_112 ?_
                    refine zi_if_eq (tgt := 118) hx hb dX8_judge_113 (by decide) hf (fun hc hf => ?_) (fun hc hf => ?_)
                    · skip
                      refine zi_inc (v := (x3 + 1)) (lv' := fun v11 => [(3, .int v11), (0, .ref (adr 0)), (1, .int x1), (2, .int x2)]) hx hb dX8_judge_118 hl (k := 3) rfl rfl (by decide) (fun _ => rfl) hf (fun v11 ls hf hl => ?_)
                      refine lv_goto (tgt := 39) hx hb dX8_judge_121 (by decide) ?_
                      exact ih39 x1 x2 v11 _ H locs ls hf hW (lv_sub hl [1, 2, 3, 0] rfl) hK39
                    · skip
                      refine lv_iload_n hx hb dX8_judge_116 rfl (lv_at hl 3 rfl) ?_
                      exact zr_i hx hb hr hlk hW (Option.some.inj hf) rfl dX8_judge_117
                  · skip
                    refine lv_lconst (v := 1) hx hb dX8_judge_107 (by decide) ?_
                    refine lv_goto (tgt := 112) hx hb dX8_judge_108 (by decide) ?_
                    refine W.lcmp hx hb dX8_judge_112 ?_
                    refine zi_if_eq (tgt := 118) hx hb dX8_judge_113 (by decide) hf (fun hc hf => ?_) (fun hc hf => ?_)
                    · skip
                      refine zi_inc (v := (x3 + 1)) (lv' := fun v12 => [(3, .int v12), (0, .ref (adr 0)), (1, .int x1), (2, .int x2)]) hx hb dX8_judge_118 hl (k := 3) rfl rfl (by decide) (fun _ => rfl) hf (fun v12 ls hf hl => ?_)
                      refine lv_goto (tgt := 39) hx hb dX8_judge_121 (by decide) ?_
                      exact ih39 x1 x2 v12 _ H locs ls hf hW (lv_sub hl [1, 2, 3, 0] rfl) hK39
                    · skip
                      refine lv_iload_n hx hb dX8_judge_116 rfl (lv_at hl 3 rfl) ?_
                      exact zr_i hx hb hr hlk hW (Option.some.inj hf) rfl dX8_judge_117
                · skip
                  refine lv_bipush (v := 100) hx hb dX8_judge_75 (by decide) ?_
                  refine lv_iload_n hx hb dX8_judge_77 rfl (lv_at hl 3 rfl) ?_
                  refine lv_iadd hx hb dX8_judge_78 ?_
                  exact zr_i hx hb hr hlk hW (Option.some.inj hf) rfl dX8_judge_79
      refine hL39 zFU p1 p2 0 _ H locs ls hf hW (lv_sub hl [1, 2, 3, 0] rfl) (fun  H locs ls hf hW hl => ?_)
      refine lv_bipush (v := (-5)) hx hb dX8_judge_124 (by decide) ?_
      exact zr_i hx hb hr hlk hW (Option.some.inj hf) rfl dX8_judge_126
    refine zi_icmp_eq (tgt := 37) hx hb dX8_judge_21 (by decide) hf (fun hc hf => ?_) (fun hc hf => ?_)
    · skip
      exact hJ3 () H locs ls hf hW (lv_sub hl [0, 1, 2] rfl)
    · skip
      refine lv_aload_n hx hb dX8_judge_24 rfl (lv_at hl 0 rfl) ?_
      refine zg_a (o := 11) hC hW fl_X8_45 zck_1_0 zcs_1_0 (show _ = 12 from rfl) dX8_judge_25 ?_
      refine lv_iload_n hx hb dX8_judge_28 rfl (lv_at hl 1 rfl) ?_
      refine za_l hC hW hf zar_1_12 dX8_judge_29 (fun v13 hf => ?_)
      refine lv_iconst (v := 4) hx hb dX8_judge_30 (by decide) ?_
      refine zi_icmp_eq (tgt := 37) hx hb dX8_judge_31 (by decide) hf (fun hc hf => ?_) (fun hc hf => ?_)
      · skip
        exact hJ3 () H locs ls hf hW (lv_sub hl [0, 1, 2] rfl)
      · skip
        refine lv_bipush (v := (-12)) hx hb dX8_judge_34 (by decide) ?_
        exact zr_i hx hb hr hlk hW (Option.some.inj hf) rfl dX8_judge_36
set_option maxHeartbeats 4000000 in
set_option maxRecDepth 100000 in
theorem mX8_image {l : Launch} {D : va_G} {cI cJ : ClassId} {adr : Nat → Nat} (s0 : zkS) {z : Nat} {ro : Int32} {so : zkS} (hI : zInj 1 adr) (hf : fX8_image s0 = some (ro, so)) : Met l yX8_image (Cond.code yX8_image cX8_image 1 (some .int) :: zTb) { frames := 2, cells := 0, slots := 0, locals := 40 } (zPre 1 D cI cJ adr s0 z [.ref (adr 0)]) (zQi 1 D cI cJ adr z ro so) 0 0 (zA 1 adr z) := by
  refine zen (cc := cX8_image) (own := RX8) (by decide +kernel) rfl hI (Nat.le_of_ble_eq_true rfl) (fun p e s m args below meth c ls hC hr hlk hz hl hW => ?_)
  subst hz
  obtain ⟨hx, hb, -⟩ := id hC
  have hl : lv_has ls 1 [(0, .ref (adr 0))] := hl
  refine zst hW (fun H locs hW => ?_)
  unfold fX8_image at hf
  refine lv_aload_n hx hb dX8_image_0 rfl (lv_at hl 0 rfl) ?_
  refine zg_a (o := 0) hC hW fl_X8_11 zck_1_0 zcs_1_0 (show _ = 1 from rfl) dX8_image_1 ?_
  refine lv_aload_n hx hb dX8_image_4 rfl (lv_at hl 0 rfl) ?_
  refine zg_a (o := 2) hC hW fl_X8_18 zck_1_0 zcs_1_0 (show _ = 3 from rfl) dX8_image_5 ?_
  obtain ⟨s1, hq, hf⟩ := zb1_o hf
  refine zc_v hW (zrun_s (As := [.ref (adr 1), .ref (adr 3)]) (rest := []) hC hW (mX8_copies zMc_1 zMc_3 s0 hC.2.2.2.2.2.2.2 hq) cs_X8_224 rfl ⟨⟨rfl, rfl⟩, Nat.le_of_ble_eq_true rfl, Nat.le_of_ble_eq_true rfl⟩ (zlv_size hl) rfl (Nat.le_of_ble_eq_true rfl) dX8_image_8 ⟨Nat.le_refl _, Nat.le_refl _⟩) (fun H locs hW => ?_)
  refine lv_aload_n hx hb dX8_image_11 rfl (lv_at hl 0 rfl) ?_
  refine lv_iconst (v := 1) hx hb dX8_image_12 (by decide) ?_
  refine zp_y hC hW hf (by decide) fp_X8_265 zck_1_0 zcs_1_0 dX8_image_13 (fun s2 H locs hf hW => ?_)
  refine lv_aload_n hx hb dX8_image_16 rfl (lv_at hl 0 rfl) ?_
  obtain ⟨v3, hq, hf⟩ := zb1_o hf
  refine zc_i hW (zrun_v (As := []) (rest := []) hC hW (mX8_there s2 hC.2.2.2.2.2.2.2 hq) cv_X8_215 zck_1_0 zcs_1_0 rfl ⟨⟨rfl, rfl⟩, Nat.le_of_ble_eq_true rfl, Nat.le_of_ble_eq_true rfl⟩ (zlv_size hl) rfl (Nat.le_of_ble_eq_true rfl) dX8_image_17 ⟨Nat.le_refl _, Nat.le_refl _⟩) (fun H locs hW => ?_)
  exact zr_i hx hb hr hlk hW (zo1 hf) (zo2 hf) dX8_image_20
set_option maxHeartbeats 4000000 in
set_option maxRecDepth 100000 in
theorem mX8_undo {l : Launch} {D : va_G} {cI cJ : ClassId} {adr : Nat → Nat} (s0 : zkS) {z : Nat} {ro : Int32} {so : zkS} (hI : zInj 1 adr) (hf : fX8_undo s0 = some (ro, so)) : Met l yX8_undo (Cond.code yX8_undo cX8_undo 1 (some .int) :: zTb) { frames := 2, cells := 0, slots := 0, locals := 40 } (zPre 1 D cI cJ adr s0 z [.ref (adr 0)]) (zQi 1 D cI cJ adr z ro so) 0 0 (zA 1 adr z) := by
  refine zen (cc := cX8_undo) (own := RX8) (by decide +kernel) rfl hI (Nat.le_of_ble_eq_true rfl) (fun p e s m args below meth c ls hC hr hlk hz hl hW => ?_)
  subst hz
  obtain ⟨hx, hb, -⟩ := id hC
  have hl : lv_has ls 1 [(0, .ref (adr 0))] := hl
  refine zst hW (fun H locs hW => ?_)
  unfold fX8_undo at hf
  refine lv_aload_n hx hb dX8_undo_0 rfl (lv_at hl 0 rfl) ?_
  refine zg_i hC hW fl_X8_265 zck_1_0 zcs_1_0 dX8_undo_1 ?_
  refine zi_if_ne (tgt := 10) hx hb dX8_undo_4 (by decide) hf (fun hc hf => ?_) (fun hc hf => ?_)
  · skip
    refine lv_bipush (v := (-3)) hx hb dX8_undo_7 (by decide) ?_
    exact zr_i hx hb hr hlk hW (zo1 hf) (zo2 hf) dX8_undo_9
  · skip
    refine lv_aload_n hx hb dX8_undo_10 rfl (lv_at hl 0 rfl) ?_
    refine zg_a (o := 2) hC hW fl_X8_18 zck_1_0 zcs_1_0 (show _ = 3 from rfl) dX8_undo_11 ?_
    refine lv_aload_n hx hb dX8_undo_14 rfl (lv_at hl 0 rfl) ?_
    refine zg_a (o := 0) hC hW fl_X8_11 zck_1_0 zcs_1_0 (show _ = 1 from rfl) dX8_undo_15 ?_
    obtain ⟨s1, hq, hf⟩ := zb1_o hf
    refine zc_v hW (zrun_s (As := [.ref (adr 3), .ref (adr 1)]) (rest := []) hC hW (mX8_copies zMc_3 zMc_1 s0 hC.2.2.2.2.2.2.2 hq) cs_X8_224 rfl ⟨⟨rfl, rfl⟩, Nat.le_of_ble_eq_true rfl, Nat.le_of_ble_eq_true rfl⟩ (zlv_size hl) rfl (Nat.le_of_ble_eq_true rfl) dX8_undo_18 ⟨Nat.le_refl _, Nat.le_refl _⟩) (fun H locs hW => ?_)
    refine lv_aload_n hx hb dX8_undo_21 rfl (lv_at hl 0 rfl) ?_
    obtain ⟨v2, hq, hf⟩ := zb1_o hf
    refine zc_i hW (zrun_v (As := []) (rest := []) hC hW (mX8_there s1 hC.2.2.2.2.2.2.2 hq) cv_X8_215 zck_1_0 zcs_1_0 rfl ⟨⟨rfl, rfl⟩, Nat.le_of_ble_eq_true rfl, Nat.le_of_ble_eq_true rfl⟩ (zlv_size hl) rfl (Nat.le_of_ble_eq_true rfl) dX8_undo_22 ⟨Nat.le_refl _, Nat.le_refl _⟩) (fun H locs hW => ?_)
    exact zr_i hx hb hr hlk hW (zo1 hf) (zo2 hf) dX8_undo_25
set_option maxHeartbeats 4000000 in
set_option maxRecDepth 100000 in
theorem mX8_taken {l : Launch} {D : va_G} {cI cJ : ClassId} {adr : Nat → Nat} (p1 : Int32) (p2 : Int32) (s0 : zkS) {z : Nat} {ro : Int32} (hI : zInj 1 adr) (hf : fX8_taken p1 p2 s0 = some ro) : Met l yX8_taken (Cond.code yX8_taken cX8_taken 5 (some .int) :: zTb) { frames := 2, cells := 0, slots := 0, locals := 46 } (zPre 1 D cI cJ adr s0 z [.ref (adr 0), .int p1, .int p2]) (zQi 1 D cI cJ adr z ro s0) 0 0 (zA 1 adr z) := by
  refine zen (cc := cX8_taken) (own := RX8) (by decide +kernel) rfl hI (Nat.le_of_ble_eq_true rfl) (fun p e s m args below meth c ls hC hr hlk hz hl hW => ?_)
  subst hz
  obtain ⟨hx, hb, -⟩ := id hC
  have hl : lv_has ls 5 [(0, .ref (adr 0)), (1, .int p1), (2, .int p2)] := hl
  refine zst hW (fun H locs hW => ?_)
  unfold fX8_taken at hf
  refine lv_iload_n hx hb dX8_taken_0 rfl (lv_at hl 2 rfl) ?_
  refine lv_i2l hx hb dX8_taken_1 rfl ?_
  refine lv_lconst (v := 0) hx hb dX8_taken_2 (by decide) ?_
  refine lv_ldc2 hx hb hC.2.2.2.1 (hC.2.2.2.2.1 _ wq_899) dX8_taken_3 ?_
  refine zc_i hW (zrun_s (As := [.long ((p2 : Int32).toInt64), .long 0, .long 6]) (rest := []) hC hW (mX8_in ((p2 : Int32).toInt64) 0 6 s0 hC.2.2.2.2.2.2.2 rfl) cs_X8_57 rfl ⟨⟨rfl, rfl⟩, Nat.le_of_ble_eq_true rfl, Nat.le_of_ble_eq_true rfl⟩ (zlv_size hl) rfl (Nat.le_of_ble_eq_true rfl) dX8_taken_6 ⟨Nat.le_refl _, Nat.le_refl _⟩) (fun H locs hW => ?_)
  refine zi_if_ne (tgt := 15) hx hb dX8_taken_9 (by decide) hf (fun hc hf => ?_) (fun hc hf => ?_)
  · skip
    refine lv_bipush (v := (-2)) hx hb dX8_taken_12 (by decide) ?_
    exact zr_i hx hb hr hlk hW (Option.some.inj hf) rfl dX8_taken_14
  · skip
    refine lv_aload_n hx hb dX8_taken_15 rfl (lv_at hl 0 rfl) ?_
    refine lv_iload_n hx hb dX8_taken_16 rfl (lv_at hl 1 rfl) ?_
    obtain ⟨v2, hq, hf⟩ := zb1_o hf
    refine zc_i hW (zrun_v (As := [.int p1]) (rest := []) hC hW (mX8_isThere p1 s0 hC.2.2.2.2.2.2.2 hq) cv_X8_65 zck_1_0 zcs_1_0 rfl ⟨⟨rfl, rfl⟩, Nat.le_of_ble_eq_true rfl, Nat.le_of_ble_eq_true rfl⟩ (zlv_size hl) rfl (Nat.le_of_ble_eq_true rfl) dX8_taken_17 ⟨Nat.le_refl _, Nat.le_refl _⟩) (fun H locs hW => ?_)
    refine zi_if_ne (tgt := 26) hx hb dX8_taken_20 (by decide) hf (fun hc hf => ?_) (fun hc hf => ?_)
    · skip
      refine lv_bipush (v := (-11)) hx hb dX8_taken_23 (by decide) ?_
      exact zr_i hx hb hr hlk hW (Option.some.inj hf) rfl dX8_taken_25
    · skip
      refine lv_aload_n hx hb dX8_taken_26 rfl (lv_at hl 0 rfl) ?_
      refine zg_a (o := 0) hC hW fl_X8_11 zck_1_0 zcs_1_0 (show _ = 1 from rfl) dX8_taken_27 ?_
      refine lv_bipush (v := 20) hx hb dX8_taken_30 (by decide) ?_
      refine lv_iload_n hx hb dX8_taken_32 rfl (lv_at hl 1 rfl) ?_
      refine lv_iadd hx hb dX8_taken_33 ?_
      refine za_l hC hW hf zar_1_1 dX8_taken_34 (fun v3 hf => ?_)
      refine lv_istore_n (lv' := [(3, .int v3), (0, .ref (adr 0)), (1, .int p1), (2, .int p2)]) hx hb dX8_taken_35 rfl hl (by decide) rfl (fun ls hl => ?_)
      refine lv_iload_n hx hb dX8_taken_36 rfl (lv_at hl 3 rfl) ?_
      refine zi_if_eq (tgt := 76) hx hb dX8_taken_37 (by decide) hf (fun hc hf => ?_) (fun hc hf => ?_)
      · skip
        refine lv_iconst (v := 1) hx hb dX8_taken_76 (by decide) ?_
        refine lv_goto (tgt := 81) hx hb dX8_taken_77 (by decide) ?_
        refine lv_istore (lv' := [(4, .int 1), (3, .int v3), (0, .ref (adr 0)), (1, .int p1), (2, .int p2)]) hx hb dX8_taken_81 hl (by decide) rfl (fun ls hl => ?_)
        refine lv_iload hx hb dX8_taken_83 (lv_at hl 0 rfl) ?_
        refine zi_if_eq (tgt := 92) hx hb dX8_taken_85 (by decide) hf (fun hc hf => ?_) (fun hc hf => ?_)
        · skip
          refine lv_bipush (v := (-12)) hx hb dX8_taken_92 (by decide) ?_
          exact zr_i hx hb hr hlk hW (Option.some.inj hf) rfl dX8_taken_94
        · skip
          refine lv_iload_n hx hb dX8_taken_88 rfl (lv_at hl 1 rfl) ?_
          refine lv_goto (tgt := 94) hx hb dX8_taken_89 (by decide) ?_
          exact zr_i hx hb hr hlk hW (Option.some.inj hf) rfl dX8_taken_94
      · skip
        refine lv_iload_n hx hb dX8_taken_40 rfl (lv_at hl 3 rfl) ?_
        refine lv_iload_n hx hb dX8_taken_41 rfl (lv_at hl 0 rfl) ?_
        refine zi_icmp_eq (tgt := 76) hx hb dX8_taken_42 (by decide) hf (fun hc hf => ?_) (fun hc hf => ?_)
        · skip
          refine lv_iconst (v := 1) hx hb dX8_taken_76 (by decide) ?_
          refine lv_goto (tgt := 81) hx hb dX8_taken_77 (by decide) ?_
          refine lv_istore (lv' := [(4, .int 1), (3, .int v3), (0, .ref (adr 0)), (1, .int p1), (2, .int p2)]) hx hb dX8_taken_81 hl (by decide) rfl (fun ls hl => ?_)
          refine lv_iload hx hb dX8_taken_83 (lv_at hl 0 rfl) ?_
          refine zi_if_eq (tgt := 92) hx hb dX8_taken_85 (by decide) hf (fun hc hf => ?_) (fun hc hf => ?_)
          · skip
            refine lv_bipush (v := (-12)) hx hb dX8_taken_92 (by decide) ?_
            exact zr_i hx hb hr hlk hW (Option.some.inj hf) rfl dX8_taken_94
          · skip
            refine lv_iload_n hx hb dX8_taken_88 rfl (lv_at hl 1 rfl) ?_
            refine lv_goto (tgt := 94) hx hb dX8_taken_89 (by decide) ?_
            exact zr_i hx hb hr hlk hW (Option.some.inj hf) rfl dX8_taken_94
        · skip
          refine lv_iload_n hx hb dX8_taken_45 rfl (lv_at hl 3 rfl) ?_
          refine lv_iconst (v := 3) hx hb dX8_taken_46 (by decide) ?_
          refine zjn_e hf (fun J4 => ∀ (u5 : Unit) (H : Heap) (locs : List Loc) (ls : Array Slot), J4 u5 = some ro → zWo 1 D cI cJ adr s s0 H locs → lv_has ls 5 [(2, .int p2), (3, .int v3)] → W p l e { frames := 2, cells := 0, slots := 0, locals := 46 } s m args below meth c H locs 0 0 (MQ below (zQi 1 D cI cJ adr s.heap.size ro s0) args s 0 0 (zA 1 adr s.heap.size)) (F0 m 55 ls [])) ?_ (fun J4 hJ4 hf => ?_)
          · intro u5 H locs ls hf hW hl
            refine lv_iload_n hx hb dX8_taken_55 rfl (lv_at hl 0 rfl) ?_
            refine lv_iconst (v := 2) hx hb dX8_taken_56 (by decide) ?_
            refine zjn_e hf (fun J6 => ∀ (u7 : Unit) (H : Heap) (locs : List Loc) (ls : Array Slot), J6 u7 = some ro → zWo 1 D cI cJ adr s s0 H locs → lv_has ls 5 [(2, .int p2), (3, .int v3)] → W p l e { frames := 2, cells := 0, slots := 0, locals := 46 } s m args below meth c H locs 0 0 (MQ below (zQi 1 D cI cJ adr s.heap.size ro s0) args s 0 0 (zA 1 adr s.heap.size)) (F0 m 65 ls [])) ?_ (fun J6 hJ6 hf => ?_)
            · intro u7 H locs ls hf hW hl
              refine lv_iload_n hx hb dX8_taken_65 rfl (lv_at hl 0 rfl) ?_
              refine lv_iconst (v := 1) hx hb dX8_taken_66 (by decide) ?_
              refine zi_icmp_ne (tgt := 80) hx hb dX8_taken_67 (by decide) hf (fun hc hf => ?_) (fun hc hf => ?_)
              · skip
                refine lv_iload_n hx hb dX8_taken_70 rfl (lv_at hl 1 rfl) ?_
                refine lv_bipush (v := 6) hx hb dX8_taken_71 (by decide) ?_
                refine zi_icmp_ne (tgt := 80) hx hb dX8_taken_73 (by decide) hf (fun hc hf => ?_) (fun hc hf => ?_)
                · skip
                  refine lv_iconst (v := 1) hx hb dX8_taken_76 (by decide) ?_
                  refine lv_goto (tgt := 81) hx hb dX8_taken_77 (by decide) ?_
                  refine lv_istore (lv' := [(4, .int 1), (2, .int p2), (3, .int v3)]) hx hb dX8_taken_81 hl (by decide) rfl (fun ls hl => ?_)
                  refine lv_iload hx hb dX8_taken_83 (lv_at hl 0 rfl) ?_
                  refine zi_if_eq (tgt := 92) hx hb dX8_taken_85 (by decide) hf (fun hc hf => ?_) (fun hc hf => ?_)
                  · skip
                    refine lv_bipush (v := (-12)) hx hb dX8_taken_92 (by decide) ?_
                    exact zr_i hx hb hr hlk hW (Option.some.inj hf) rfl dX8_taken_94
                  · skip
                    refine lv_iload_n hx hb dX8_taken_88 rfl (lv_at hl 2 rfl) ?_
                    refine lv_goto (tgt := 94) hx hb dX8_taken_89 (by decide) ?_
                    exact zr_i hx hb hr hlk hW (Option.some.inj hf) rfl dX8_taken_94
                · skip
                  refine lv_iconst (v := 0) hx hb dX8_taken_80 (by decide) ?_
                  refine lv_istore (lv' := [(4, .int 0), (2, .int p2), (3, .int v3)]) hx hb dX8_taken_81 hl (by decide) rfl (fun ls hl => ?_)
                  refine lv_iload hx hb dX8_taken_83 (lv_at hl 0 rfl) ?_
                  refine zi_if_eq (tgt := 92) hx hb dX8_taken_85 (by decide) hf (fun hc hf => ?_) (fun hc hf => ?_)
                  · skip
                    refine lv_bipush (v := (-12)) hx hb dX8_taken_92 (by decide) ?_
                    exact zr_i hx hb hr hlk hW (Option.some.inj hf) rfl dX8_taken_94
                  · skip
                    refine lv_iload_n hx hb dX8_taken_88 rfl (lv_at hl 2 rfl) ?_
                    refine lv_goto (tgt := 94) hx hb dX8_taken_89 (by decide) ?_
                    exact zr_i hx hb hr hlk hW (Option.some.inj hf) rfl dX8_taken_94
              · skip
                refine lv_iconst (v := 0) hx hb dX8_taken_80 (by decide) ?_
                refine lv_istore (lv' := [(4, .int 0), (2, .int p2), (3, .int v3)]) hx hb dX8_taken_81 hl (by decide) rfl (fun ls hl => ?_)
                refine lv_iload hx hb dX8_taken_83 (lv_at hl 0 rfl) ?_
                refine zi_if_eq (tgt := 92) hx hb dX8_taken_85 (by decide) hf (fun hc hf => ?_) (fun hc hf => ?_)
                · skip
                  refine lv_bipush (v := (-12)) hx hb dX8_taken_92 (by decide) ?_
                  exact zr_i hx hb hr hlk hW (Option.some.inj hf) rfl dX8_taken_94
                · skip
                  refine lv_iload_n hx hb dX8_taken_88 rfl (lv_at hl 2 rfl) ?_
                  refine lv_goto (tgt := 94) hx hb dX8_taken_89 (by decide) ?_
                  exact zr_i hx hb hr hlk hW (Option.some.inj hf) rfl dX8_taken_94
            refine zi_icmp_ne (tgt := 65) hx hb dX8_taken_57 (by decide) hf (fun hc hf => ?_) (fun hc hf => ?_)
            · skip
              refine lv_iload_n hx hb dX8_taken_60 rfl (lv_at hl 1 rfl) ?_
              refine lv_iconst (v := 5) hx hb dX8_taken_61 (by decide) ?_
              refine zi_icmp_eq (tgt := 76) hx hb dX8_taken_62 (by decide) hf (fun hc hf => ?_) (fun hc hf => ?_)
              · skip
                refine lv_iconst (v := 1) hx hb dX8_taken_76 (by decide) ?_
                refine lv_goto (tgt := 81) hx hb dX8_taken_77 (by decide) ?_
                refine lv_istore (lv' := [(4, .int 1), (2, .int p2), (3, .int v3)]) hx hb dX8_taken_81 hl (by decide) rfl (fun ls hl => ?_)
                refine lv_iload hx hb dX8_taken_83 (lv_at hl 0 rfl) ?_
                refine zi_if_eq (tgt := 92) hx hb dX8_taken_85 (by decide) hf (fun hc hf => ?_) (fun hc hf => ?_)
                · skip
                  refine lv_bipush (v := (-12)) hx hb dX8_taken_92 (by decide) ?_
                  exact zr_i hx hb hr hlk hW (Option.some.inj hf) rfl dX8_taken_94
                · skip
                  refine lv_iload_n hx hb dX8_taken_88 rfl (lv_at hl 2 rfl) ?_
                  refine lv_goto (tgt := 94) hx hb dX8_taken_89 (by decide) ?_
                  exact zr_i hx hb hr hlk hW (Option.some.inj hf) rfl dX8_taken_94
              · skip
                exact hJ6 () H locs ls hf hW (lv_sub hl [0, 1] rfl)
            · skip
              exact hJ6 () H locs ls hf hW (lv_sub hl [0, 1] rfl)
          refine zi_icmp_ne (tgt := 55) hx hb dX8_taken_47 (by decide) hf (fun hc hf => ?_) (fun hc hf => ?_)
          · skip
            refine lv_iload_n hx hb dX8_taken_50 rfl (lv_at hl 0 rfl) ?_
            refine lv_iconst (v := 4) hx hb dX8_taken_51 (by decide) ?_
            refine zi_icmp_eq (tgt := 76) hx hb dX8_taken_52 (by decide) hf (fun hc hf => ?_) (fun hc hf => ?_)
            · skip
              refine lv_iconst (v := 1) hx hb dX8_taken_76 (by decide) ?_
              refine lv_goto (tgt := 81) hx hb dX8_taken_77 (by decide) ?_
              refine lv_istore (lv' := [(4, .int 1), (3, .int v3), (0, .ref (adr 0)), (1, .int p1), (2, .int p2)]) hx hb dX8_taken_81 hl (by decide) rfl (fun ls hl => ?_)
              refine lv_iload hx hb dX8_taken_83 (lv_at hl 0 rfl) ?_
              refine zi_if_eq (tgt := 92) hx hb dX8_taken_85 (by decide) hf (fun hc hf => ?_) (fun hc hf => ?_)
              · skip
                refine lv_bipush (v := (-12)) hx hb dX8_taken_92 (by decide) ?_
                exact zr_i hx hb hr hlk hW (Option.some.inj hf) rfl dX8_taken_94
              · skip
                refine lv_iload_n hx hb dX8_taken_88 rfl (lv_at hl 1 rfl) ?_
                refine lv_goto (tgt := 94) hx hb dX8_taken_89 (by decide) ?_
                exact zr_i hx hb hr hlk hW (Option.some.inj hf) rfl dX8_taken_94
            · skip
              exact hJ4 () H locs ls hf hW (lv_sub hl [3, 0] rfl)
          · skip
            exact hJ4 () H locs ls hf hW (lv_sub hl [3, 0] rfl)
set_option maxHeartbeats 4000000 in
set_option maxRecDepth 100000 in
theorem mX8_count {l : Launch} {D : va_G} {cI cJ : ClassId} {adr : Nat → Nat} (p1 : Int32) (s0 : zkS) {z : Nat} {ro : Int32} (hI : zInj 1 adr) (hf : fX8_count p1 s0 = some ro) : Met l yX8_count (Cond.code yX8_count cX8_count 2 (some .int) :: zTb) { frames := 0, cells := 0, slots := 0, locals := 0 } (zPre 1 D cI cJ adr s0 z [.ref (adr 0), .int p1]) (zQi 1 D cI cJ adr z ro s0) 0 0 (zA 1 adr z) := by
  refine zen (cc := cX8_count) (own := RX8) (by decide +kernel) rfl hI (Nat.le_of_ble_eq_true rfl) (fun p e s m args below meth c ls hC hr hlk hz hl hW => ?_)
  subst hz
  obtain ⟨hx, hb, -⟩ := id hC
  have hl : lv_has ls 2 [(0, .ref (adr 0)), (1, .int p1)] := hl
  refine zst hW (fun H locs hW => ?_)
  unfold fX8_count at hf
  refine lv_iload_n hx hb dX8_count_0 rfl (lv_at hl 1 rfl) ?_
  refine zi_c hf (fun h0 hf => ?_) (fun h0 hf => ?_)
  · skip
    refine zs_in (off := 35) (tgt := 36) hx hb h0 dX8_count_1 (by decide) (by decide) (by decide +kernel) (by decide) ?_
    refine lv_aload_n hx hb dX8_count_36 rfl (lv_at hl 0 rfl) ?_
    refine zg_a (o := 0) hC hW fl_X8_11 zck_1_0 zcs_1_0 (show _ = 1 from rfl) dX8_count_37 ?_
    refine lv_iconst (v := 0) hx hb dX8_count_40 (by decide) ?_
    refine za_l hC hW hf zar_1_1 dX8_count_41 (fun v1 hf => ?_)
    exact zr_i hx hb hr hlk hW (Option.some.inj hf) rfl dX8_count_42
  · skip
    refine zi_c hf (fun h1 hf => ?_) (fun h1 hf => ?_)
    · skip
      refine zs_in (off := 42) (tgt := 43) hx hb h1 dX8_count_1 (by decide) (by decide) (by decide +kernel) (by decide) ?_
      refine lv_aload_n hx hb dX8_count_43 rfl (lv_at hl 0 rfl) ?_
      refine zg_a (o := 0) hC hW fl_X8_11 zck_1_0 zcs_1_0 (show _ = 1 from rfl) dX8_count_44 ?_
      refine lv_sipush (v := 299) hx hb dX8_count_47 (by decide) ?_
      refine za_l hC hW hf zar_1_1 dX8_count_50 (fun v2 hf => ?_)
      exact zr_i hx hb hr hlk hW (Option.some.inj hf) rfl dX8_count_51
    · skip
      refine zi_c hf (fun h2 hf => ?_) (fun h2 hf => ?_)
      · skip
        refine zs_in (off := 51) (tgt := 52) hx hb h2 dX8_count_1 (by decide) (by decide) (by decide +kernel) (by decide) ?_
        refine lv_aload_n hx hb dX8_count_52 rfl (lv_at hl 0 rfl) ?_
        refine zg_a (o := 0) hC hW fl_X8_11 zck_1_0 zcs_1_0 (show _ = 1 from rfl) dX8_count_53 ?_
        refine lv_sipush (v := 320) hx hb dX8_count_56 (by decide) ?_
        refine za_l hC hW hf zar_1_1 dX8_count_59 (fun v3 hf => ?_)
        exact zr_i hx hb hr hlk hW (Option.some.inj hf) rfl dX8_count_60
      · skip
        refine zi_c hf (fun h3 hf => ?_) (fun h3 hf => ?_)
        · skip
          refine zs_in (off := 60) (tgt := 61) hx hb h3 dX8_count_1 (by decide) (by decide) (by decide +kernel) (by decide) ?_
          refine lv_aload_n hx hb dX8_count_61 rfl (lv_at hl 0 rfl) ?_
          refine zg_a (o := 0) hC hW fl_X8_11 zck_1_0 zcs_1_0 (show _ = 1 from rfl) dX8_count_62 ?_
          refine lv_sipush (v := 345) hx hb dX8_count_65 (by decide) ?_
          refine za_l hC hW hf zar_1_1 dX8_count_68 (fun v4 hf => ?_)
          exact zr_i hx hb hr hlk hW (Option.some.inj hf) rfl dX8_count_69
        · skip
          refine zi_c hf (fun h4 hf => ?_) (fun h4 hf => ?_)
          · skip
            refine zs_in (off := 69) (tgt := 70) hx hb h4 dX8_count_1 (by decide) (by decide) (by decide +kernel) (by decide) ?_
            refine lv_aload_n hx hb dX8_count_70 rfl (lv_at hl 0 rfl) ?_
            refine zg_i hC hW fl_X8_139 zck_1_0 zcs_1_0 dX8_count_71 ?_
            exact zr_i hx hb hr hlk hW (Option.some.inj hf) rfl dX8_count_74
          · skip
            refine lv_tableOut (tgt := 75) hx hb dX8_count_1 (by have n0 := lv_neT h0 (show (0 : Int32).toInt = 0 from rfl); have n1 := lv_neT h1 (show (1 : Int32).toInt = 1 from rfl); have n2 := lv_neT h2 (show (2 : Int32).toInt = 2 from rfl); have n3 := lv_neT h3 (show (3 : Int32).toInt = 3 from rfl); have n4 := lv_neT h4 (show (4 : Int32).toInt = 4 from rfl); omega) (by decide) ?_
            refine lv_bipush (v := (-2)) hx hb dX8_count_75 (by decide) ?_
            exact zr_i hx hb hr hlk hW (Option.some.inj hf) rfl dX8_count_77
set_option maxHeartbeats 4000000 in
set_option maxRecDepth 100000 in
theorem mX8_tape {l : Launch} {D : va_G} {cI cJ : ClassId} {adr : Nat → Nat} (p1 : Int32) (p2 : Int32) (p3 : Int32) (s0 : zkS) {z : Nat} {ro : Int32} {so : zkS} (hI : zInj 1 adr) (hf : fX8_tape p1 p2 p3 s0 = some (ro, so)) : Met l yX8_tape (Cond.code yX8_tape cX8_tape 5 (some .int) :: zTb) { frames := 1, cells := 0, slots := 0, locals := 25 } (zPre 1 D cI cJ adr s0 z [.ref (adr 0), .int p1, .int p2, .int p3]) (zQi 1 D cI cJ adr z ro so) 0 0 (zA 1 adr z) := by
  refine zen (cc := cX8_tape) (own := RX8) (by decide +kernel) rfl hI (Nat.le_of_ble_eq_true rfl) (fun p e s m args below meth c ls hC hr hlk hz hl hW => ?_)
  subst hz
  obtain ⟨hx, hb, -⟩ := id hC
  have hl : lv_has ls 5 [(0, .ref (adr 0)), (1, .int p1), (2, .int p2), (3, .int p3)] := hl
  refine zst hW (fun H locs hW => ?_)
  unfold fX8_tape at hf
  refine lv_iload_n hx hb dX8_tape_0 rfl (lv_at hl 1 rfl) ?_
  refine lv_i2l hx hb dX8_tape_1 rfl ?_
  refine lv_lconst (v := 0) hx hb dX8_tape_2 (by decide) ?_
  refine lv_ldc2 hx hb hC.2.2.2.1 (hC.2.2.2.2.1 _ wq_1168) dX8_tape_3 ?_
  refine zc_i hW (zrun_s (As := [.long ((p1 : Int32).toInt64), .long 0, .long 5]) (rest := []) hC hW (mX8_in ((p1 : Int32).toInt64) 0 5 s0 hC.2.2.2.2.2.2.2 rfl) cs_X8_57 rfl ⟨⟨rfl, rfl⟩, Nat.le_of_ble_eq_true rfl, Nat.le_of_ble_eq_true rfl⟩ (zlv_size hl) rfl (Nat.le_of_ble_eq_true rfl) dX8_tape_6 ⟨Nat.le_refl _, Nat.le_refl _⟩) (fun H locs hW => ?_)
  refine zi_if_ne (tgt := 14) hx hb dX8_tape_9 (by decide) hf (fun hc hf => ?_) (fun hc hf => ?_)
  · skip
    refine lv_iconst (v := (-1)) hx hb dX8_tape_12 (by decide) ?_
    exact zr_i hx hb hr hlk hW (zo1 hf) (zo2 hf) dX8_tape_13
  · skip
    refine lv_iload_n hx hb dX8_tape_14 rfl (lv_at hl 2 rfl) ?_
    refine lv_i2l hx hb dX8_tape_15 rfl ?_
    refine lv_ldc2 hx hb hC.2.2.2.1 (hC.2.2.2.2.1 _ wq_1189) dX8_tape_16 ?_
    refine lv_ldc2 hx hb hC.2.2.2.1 (hC.2.2.2.2.1 _ wq_1101) dX8_tape_19 ?_
    refine zc_i hW (zrun_s (As := [.long ((p2 : Int32).toInt64), .long (-1), .long 4]) (rest := []) hC hW (mX8_in ((p2 : Int32).toInt64) (-1) 4 s0 hC.2.2.2.2.2.2.2 rfl) cs_X8_57 rfl ⟨⟨rfl, rfl⟩, Nat.le_of_ble_eq_true rfl, Nat.le_of_ble_eq_true rfl⟩ (zlv_size hl) rfl (Nat.le_of_ble_eq_true rfl) dX8_tape_22 ⟨Nat.le_refl _, Nat.le_refl _⟩) (fun H locs hW => ?_)
    refine zi_if_eq (tgt := 39) hx hb dX8_tape_25 (by decide) hf (fun hc hf => ?_) (fun hc hf => ?_)
    · skip
      refine lv_bipush (v := (-2)) hx hb dX8_tape_39 (by decide) ?_
      exact zr_i hx hb hr hlk hW (zo1 hf) (zo2 hf) dX8_tape_41
    · skip
      refine lv_iload_n hx hb dX8_tape_28 rfl (lv_at hl 2 rfl) ?_
      refine lv_iconst (v := (-1)) hx hb dX8_tape_29 (by decide) ?_
      refine zjn_e hf (fun J3 => ∀ (u4 : Unit) (H : Heap) (locs : List Loc) (ls : Array Slot), J3 u4 = some (ro, so) → zWo 1 D cI cJ adr s s0 H locs → lv_has ls 5 [(0, .ref (adr 0)), (1, .int p1), (2, .int p2), (3, .int p3)] → W p l e { frames := 1, cells := 0, slots := 0, locals := 25 } s m args below meth c H locs 0 0 (MQ below (zQi 1 D cI cJ adr s.heap.size ro so) args s 0 0 (zA 1 adr s.heap.size)) (F0 m 42 ls [])) ?_ (fun J3 hJ3 hf => ?_)
      · intro u4 H locs ls hf hW hl
        refine lv_iload_n hx hb dX8_tape_42 rfl (lv_at hl 2 rfl) ?_
        refine lv_iconst (v := (-1)) hx hb dX8_tape_43 (by decide) ?_
        refine zjn_e hf (fun J5 => ∀ (u6 : Unit) (H : Heap) (locs : List Loc) (ls : Array Slot), J5 u6 = some (ro, so) → zWo 1 D cI cJ adr s s0 H locs → lv_has ls 5 [(0, .ref (adr 0)), (1, .int p1), (2, .int p2), (3, .int p3)] → W p l e { frames := 1, cells := 0, slots := 0, locals := 25 } s m args below meth c H locs 0 0 (MQ below (zQi 1 D cI cJ adr s.heap.size ro so) args s 0 0 (zA 1 adr s.heap.size)) (F0 m 54 ls [])) ?_ (fun J5 hJ5 hf => ?_)
        · intro u6 H locs ls hf hW hl
          refine lv_aload_n hx hb dX8_tape_54 rfl (lv_at hl 0 rfl) ?_
          refine zg_a (o := 11) hC hW fl_X8_45 zck_1_0 zcs_1_0 (show _ = 12 from rfl) dX8_tape_55 ?_
          refine lv_iload_n hx hb dX8_tape_58 rfl (lv_at hl 1 rfl) ?_
          refine lv_iload_n hx hb dX8_tape_59 rfl (lv_at hl 2 rfl) ?_
          refine za_s hC hW hf zar_1_12 dX8_tape_60 (fun s7 H locs hf hW => ?_)
          refine lv_aload_n hx hb dX8_tape_61 rfl (lv_at hl 0 rfl) ?_
          refine zg_a (o := 12) hC hW fl_X8_48 zck_1_0 zcs_1_0 (show _ = 13 from rfl) dX8_tape_62 ?_
          refine lv_iload_n hx hb dX8_tape_65 rfl (lv_at hl 1 rfl) ?_
          refine lv_iload_n hx hb dX8_tape_66 rfl (lv_at hl 2 rfl) ?_
          refine lv_iconst (v := (-1)) hx hb dX8_tape_67 (by decide) ?_
          refine zjn_e hf (fun J8 => ∀ (v9 : Int32) (H : Heap) (locs : List Loc) (ls : Array Slot), J8 v9 = some (ro, so) → zWo 1 D cI cJ adr s s7 H locs → lv_has ls 5 [(0, .ref (adr 0)), (1, .int p1)] → W p l e { frames := 1, cells := 0, slots := 0, locals := 25 } s m args below meth c H locs 0 0 (MQ below (zQi 1 D cI cJ adr s.heap.size ro so) args s 0 0 (zA 1 adr s.heap.size)) (F0 m 76 ls [.int v9, .int p1, .ref (adr 13)])) ?_ (fun J8 hJ8 hf => ?_)
          · intro v9 H locs ls hf hW hl
            refine za_s hC hW hf zar_1_13 dX8_tape_76 (fun s10 H locs hf hW => ?_)
            refine lv_iconst (v := 0) hx hb dX8_tape_77 (by decide) ?_
            refine lv_istore (lv' := [(4, .int 0), (0, .ref (adr 0)), (1, .int p1)]) hx hb dX8_tape_78 hl (by decide) rfl (fun ls hl => ?_)
            have hL80 : ∀ (n : Nat) (x1 : Int32) (x4 : Int32) (s11 : zkS) (K80 : zkS → Option (Int32 × zkS)) (H : Heap) (locs : List Loc) (ls : Array Slot), fX8_tape_L80 n x1 x4 s11 K80 = some (ro, so) → zWo 1 D cI cJ adr s s11 H locs → lv_has ls 5 [(0, .ref (adr 0)), (1, .int x1), (4, .int x4)] → (∀ (s11 : zkS) (H : Heap) (locs : List Loc) (ls : Array Slot), K80 s11 = some (ro, so) → zWo 1 D cI cJ adr s s11 H locs → lv_has ls 5 [] → W p l e { frames := 1, cells := 0, slots := 0, locals := 25 } s m args below meth c H locs 0 0 (MQ below (zQi 1 D cI cJ adr s.heap.size ro so) args s 0 0 (zA 1 adr s.heap.size)) (F0 m 106 ls [])) → W p l e { frames := 1, cells := 0, slots := 0, locals := 25 } s m args below meth c H locs 0 0 (MQ below (zQi 1 D cI cJ adr s.heap.size ro so) args s 0 0 (zA 1 adr s.heap.size)) (F0 m 80 ls []) := by
              intro n
              induction n with
              | zero =>
                intro x1 x4 s11 K80 H locs ls hf hW hl hK80
                rw [fX8_tape_L80] at hf
                cases hf
              | succ n ih80 =>
                intro x1 x4 s11 K80 H locs ls hf hW hl hK80
                rw [fX8_tape_L80] at hf
                refine lv_iload hx hb dX8_tape_80 (lv_at hl 2 rfl) ?_
                refine lv_bipush (v := 60) hx hb dX8_tape_82 (by decide) ?_
                refine zi_icmp_ge (tgt := 106) hx hb dX8_tape_84 (by decide) hf (fun hc hf => ?_) (fun hc hf => ?_)
                · skip
                  exact hK80 s11 H locs ls hf hW (lv_sub hl [] rfl)
                · skip
                  refine lv_aload_n hx hb dX8_tape_87 rfl (lv_at hl 0 rfl) ?_
                  refine zg_a (o := 13) hC hW fl_X8_51 zck_1_0 zcs_1_0 (show _ = 14 from rfl) dX8_tape_88 ?_
                  refine lv_bipush (v := 60) hx hb dX8_tape_91 (by decide) ?_
                  refine lv_iload_n hx hb dX8_tape_93 rfl (lv_at hl 1 rfl) ?_
                  refine lv_imul hx hb dX8_tape_94 ?_
                  refine lv_iload hx hb dX8_tape_95 (lv_at hl 2 rfl) ?_
                  refine lv_iadd hx hb dX8_tape_97 ?_
                  refine lv_lconst (v := 0) hx hb dX8_tape_98 (by decide) ?_
                  refine za_sL hC hW hf zaj_1_14 dX8_tape_99 (fun s12 H locs hf hW => ?_)
                  refine zi_inc (v := (x4 + 1)) (lv' := fun v13 => [(4, .int v13), (0, .ref (adr 0)), (1, .int x1)]) hx hb dX8_tape_100 hl (k := 2) rfl rfl (by decide) (fun _ => rfl) hf (fun v13 ls hf hl => ?_)
                  refine lv_goto (tgt := 80) hx hb dX8_tape_103 (by decide) ?_
                  exact ih80 x1 v13 s12 _ H locs ls hf hW (lv_sub hl [1, 2, 0] rfl) hK80
            refine hL80 zFU p1 0 s10 _ H locs ls hf hW (lv_sub hl [1, 2, 0] rfl) (fun s14 H locs ls hf hW hl => ?_)
            refine lv_iconst (v := 1) hx hb dX8_tape_106 (by decide) ?_
            exact zr_i hx hb hr hlk hW (zo1 hf) (zo2 hf) dX8_tape_107
          refine zi_icmp_ne (tgt := 75) hx hb dX8_tape_68 (by decide) hf (fun hc hf => ?_) (fun hc hf => ?_)
          · skip
            refine lv_iconst (v := 0) hx hb dX8_tape_71 (by decide) ?_
            refine lv_goto (tgt := 76) hx hb dX8_tape_72 (by decide) ?_
            exact hJ8 0 H locs ls hf hW (lv_sub hl [0, 1] rfl)
          · skip
            refine lv_iload_n hx hb dX8_tape_75 rfl (lv_at hl 3 rfl) ?_
            exact hJ8 p3 H locs ls hf hW (lv_sub hl [0, 1] rfl)
        refine zi_icmp_eq (tgt := 54) hx hb dX8_tape_44 (by decide) hf (fun hc hf => ?_) (fun hc hf => ?_)
        · skip
          exact hJ5 () H locs ls hf hW (lv_sub hl [0, 1, 2, 3] rfl)
        · skip
          refine lv_iload_n hx hb dX8_tape_47 rfl (lv_at hl 3 rfl) ?_
          refine zi_if_ge (tgt := 54) hx hb dX8_tape_48 (by decide) hf (fun hc hf => ?_) (fun hc hf => ?_)
          · skip
            exact hJ5 () H locs ls hf hW (lv_sub hl [0, 1, 2, 3] rfl)
          · skip
            refine lv_bipush (v := (-14)) hx hb dX8_tape_51 (by decide) ?_
            exact zr_i hx hb hr hlk hW (zo1 hf) (zo2 hf) dX8_tape_53
      refine zi_icmp_eq (tgt := 42) hx hb dX8_tape_30 (by decide) hf (fun hc hf => ?_) (fun hc hf => ?_)
      · skip
        exact hJ3 () H locs ls hf hW (lv_sub hl [0, 1, 2, 3] rfl)
      · skip
        refine lv_iload_n hx hb dX8_tape_33 rfl (lv_at hl 3 rfl) ?_
        refine lv_bipush (v := 60) hx hb dX8_tape_34 (by decide) ?_
        refine zi_icmp_le (tgt := 42) hx hb dX8_tape_36 (by decide) hf (fun hc hf => ?_) (fun hc hf => ?_)
        · skip
          exact hJ3 () H locs ls hf hW (lv_sub hl [0, 1, 2, 3] rfl)
        · skip
          refine lv_bipush (v := (-2)) hx hb dX8_tape_39 (by decide) ?_
          exact zr_i hx hb hr hlk hW (zo1 hf) (zo2 hf) dX8_tape_41
set_option maxHeartbeats 4000000 in
set_option maxRecDepth 100000 in
theorem mX8_lowestBits {l : Launch} {D : va_G} {cI cJ : ClassId} {adr : Nat → Nat} {u : Nat} (p1 : Int32) (p2 : Int64) (s0 : zkS) {z : Nat} {ro : Int64} (hI : zInj u adr) (hf : fX8_lowestBits p1 p2 = ro) : Met l yX8_lowestBits (Cond.code yX8_lowestBits cX8_lowestBits 3 (some .long) :: zTb) { frames := 0, cells := 0, slots := 0, locals := 0 } (zPre u D cI cJ adr s0 z [.int p1, .long p2]) (zQl u D cI cJ adr z ro s0) 0 0 (zA u adr z) := by
  refine zen (cc := cX8_lowestBits) (own := RX8) (by decide +kernel) rfl hI (Nat.le_of_ble_eq_true rfl) (fun p e s m args below meth c ls hC hr hlk hz hl hW => ?_)
  subst hz
  obtain ⟨hx, hb, -⟩ := id hC
  have hl : lv_has ls 3 [(0, .int p1), (1, .long p2)] := hl
  refine zst hW (fun H locs hW => ?_)
  unfold fX8_lowestBits at hf
  refine lv_iload_n hx hb dX8_lowestBits_0 rfl (lv_at hl 0 rfl) ?_
  refine zi_c hf (fun h0 hf => ?_) (fun h0 hf => ?_)
  · skip
    refine zs_in (off := 31) (tgt := 32) hx hb h0 dX8_lowestBits_1 (by decide) (by decide) (by decide +kernel) (by decide) ?_
    refine lv_lload_n hx hb dX8_lowestBits_32 rfl (lv_at hl 1 rfl) ?_
    refine lv_l2i hx hb dX8_lowestBits_33 rfl ?_
    refine lv_i2b hx hb dX8_lowestBits_34 rfl ?_
    refine lv_i2l hx hb dX8_lowestBits_35 rfl ?_
    exact zr_l hx hb hr hlk hW hf rfl dX8_lowestBits_36
  · skip
    refine zi_c hf (fun h1 hf => ?_) (fun h1 hf => ?_)
    · skip
      refine zs_in (off := 36) (tgt := 37) hx hb h1 dX8_lowestBits_1 (by decide) (by decide) (by decide +kernel) (by decide) ?_
      refine lv_lload_n hx hb dX8_lowestBits_37 rfl (lv_at hl 1 rfl) ?_
      refine lv_l2i hx hb dX8_lowestBits_38 rfl ?_
      refine lv_i2s hx hb dX8_lowestBits_39 rfl ?_
      refine lv_i2l hx hb dX8_lowestBits_40 rfl ?_
      exact zr_l hx hb hr hlk hW hf rfl dX8_lowestBits_41
    · skip
      refine zi_c hf (fun h2 hf => ?_) (fun h2 hf => ?_)
      · skip
        refine zs_in (off := 41) (tgt := 42) hx hb h2 dX8_lowestBits_1 (by decide) (by decide) (by decide +kernel) (by decide) ?_
        refine lv_lload_n hx hb dX8_lowestBits_42 rfl (lv_at hl 1 rfl) ?_
        refine lv_l2i hx hb dX8_lowestBits_43 rfl ?_
        refine lv_i2l hx hb dX8_lowestBits_44 rfl ?_
        exact zr_l hx hb hr hlk hW hf rfl dX8_lowestBits_45
      · skip
        refine zi_c hf (fun h3 hf => ?_) (fun h3 hf => ?_)
        · skip
          refine zs_in (off := 45) (tgt := 46) hx hb h3 dX8_lowestBits_1 (by decide) (by decide) (by decide +kernel) (by decide) ?_
          refine lv_lload_n hx hb dX8_lowestBits_46 rfl (lv_at hl 1 rfl) ?_
          exact zr_l hx hb hr hlk hW hf rfl dX8_lowestBits_47
        · skip
          refine lv_tableOut (tgt := 48) hx hb dX8_lowestBits_1 (by have n0 := lv_neT h0 (show (0 : Int32).toInt = 0 from rfl); have n1 := lv_neT h1 (show (1 : Int32).toInt = 1 from rfl); have n2 := lv_neT h2 (show (2 : Int32).toInt = 2 from rfl); have n3 := lv_neT h3 (show (3 : Int32).toInt = 3 from rfl); omega) (by decide) ?_
          refine lv_lload_n hx hb dX8_lowestBits_48 rfl (lv_at hl 1 rfl) ?_
          refine lv_lconst (v := 0) hx hb dX8_lowestBits_49 (by decide) ?_
          refine W.lcmp hx hb dX8_lowestBits_50 ?_
          refine zi_if_ne (tgt := 58) hx hb dX8_lowestBits_51 (by decide) hf (fun hc hf => ?_) (fun hc hf => ?_)
          · skip
            refine lv_lconst (v := 0) hx hb dX8_lowestBits_54 (by decide) ?_
            refine lv_goto (tgt := 59) hx hb dX8_lowestBits_55 (by decide) ?_
            exact zr_l hx hb hr hlk hW hf rfl dX8_lowestBits_59
          · skip
            refine lv_lconst (v := 1) hx hb dX8_lowestBits_58 (by decide) ?_
            exact zr_l hx hb hr hlk hW hf rfl dX8_lowestBits_59
set_option maxHeartbeats 4000000 in
set_option maxRecDepth 100000 in
theorem mX8_item {l : Launch} {D : va_G} {cI cJ : ClassId} {adr : Nat → Nat} (p1 : Int32) (p2 : Int32) (p3 : Int64) (s0 : zkS) {z : Nat} {ro : Int32} {so : zkS} (hI : zInj 1 adr) (hf : fX8_item p1 p2 p3 s0 = some (ro, so)) : Met l yX8_item (Cond.code yX8_item cX8_item 5 (some .int) :: zTb) { frames := 1, cells := 0, slots := 0, locals := 25 } (zPre 1 D cI cJ adr s0 z [.ref (adr 0), .int p1, .int p2, .long p3]) (zQi 1 D cI cJ adr z ro so) 0 0 (zA 1 adr z) := by
  refine zen (cc := cX8_item) (own := RX8) (by decide +kernel) rfl hI (Nat.le_of_ble_eq_true rfl) (fun p e s m args below meth c ls hC hr hlk hz hl hW => ?_)
  subst hz
  obtain ⟨hx, hb, -⟩ := id hC
  have hl : lv_has ls 5 [(0, .ref (adr 0)), (1, .int p1), (2, .int p2), (3, .long p3)] := hl
  refine zst hW (fun H locs hW => ?_)
  unfold fX8_item at hf
  refine lv_iload_n hx hb dX8_item_0 rfl (lv_at hl 1 rfl) ?_
  refine lv_i2l hx hb dX8_item_1 rfl ?_
  refine lv_lconst (v := 0) hx hb dX8_item_2 (by decide) ?_
  refine lv_ldc2 hx hb hC.2.2.2.1 (hC.2.2.2.2.1 _ wq_1168) dX8_item_3 ?_
  refine zc_i hW (zrun_s (As := [.long ((p1 : Int32).toInt64), .long 0, .long 5]) (rest := []) hC hW (mX8_in ((p1 : Int32).toInt64) 0 5 s0 hC.2.2.2.2.2.2.2 rfl) cs_X8_57 rfl ⟨⟨rfl, rfl⟩, Nat.le_of_ble_eq_true rfl, Nat.le_of_ble_eq_true rfl⟩ (zlv_size hl) rfl (Nat.le_of_ble_eq_true rfl) dX8_item_6 ⟨Nat.le_refl _, Nat.le_refl _⟩) (fun H locs hW => ?_)
  refine zi_if_ne (tgt := 14) hx hb dX8_item_9 (by decide) hf (fun hc hf => ?_) (fun hc hf => ?_)
  · skip
    refine lv_iconst (v := (-1)) hx hb dX8_item_12 (by decide) ?_
    exact zr_i hx hb hr hlk hW (zo1 hf) (zo2 hf) dX8_item_13
  · skip
    refine lv_aload_n hx hb dX8_item_14 rfl (lv_at hl 0 rfl) ?_
    refine zg_a (o := 11) hC hW fl_X8_45 zck_1_0 zcs_1_0 (show _ = 12 from rfl) dX8_item_15 ?_
    refine lv_iload_n hx hb dX8_item_18 rfl (lv_at hl 1 rfl) ?_
    refine za_l hC hW hf zar_1_12 dX8_item_19 (fun v2 hf => ?_)
    refine lv_iconst (v := (-1)) hx hb dX8_item_20 (by decide) ?_
    refine zi_icmp_ne (tgt := 27) hx hb dX8_item_21 (by decide) hf (fun hc hf => ?_) (fun hc hf => ?_)
    · skip
      refine lv_bipush (v := (-11)) hx hb dX8_item_24 (by decide) ?_
      exact zr_i hx hb hr hlk hW (zo1 hf) (zo2 hf) dX8_item_26
    · skip
      refine lv_iload_n hx hb dX8_item_27 rfl (lv_at hl 2 rfl) ?_
      refine lv_i2l hx hb dX8_item_28 rfl ?_
      refine lv_lconst (v := 0) hx hb dX8_item_29 (by decide) ?_
      refine lv_aload_n hx hb dX8_item_30 rfl (lv_at hl 0 rfl) ?_
      refine zg_a (o := 12) hC hW fl_X8_48 zck_1_0 zcs_1_0 (show _ = 13 from rfl) dX8_item_31 ?_
      refine lv_iload_n hx hb dX8_item_34 rfl (lv_at hl 1 rfl) ?_
      refine za_l hC hW hf zar_1_13 dX8_item_35 (fun v3 hf => ?_)
      refine lv_iconst (v := 1) hx hb dX8_item_36 (by decide) ?_
      refine lv_isub hx hb dX8_item_37 ?_
      refine lv_i2l hx hb dX8_item_38 rfl ?_
      refine zc_i hW (zrun_s (As := [.long ((p2 : Int32).toInt64), .long 0, .long (((v3 - 1) : Int32).toInt64)]) (rest := []) hC hW (mX8_in ((p2 : Int32).toInt64) 0 (((v3 - 1) : Int32).toInt64) s0 hC.2.2.2.2.2.2.2 rfl) cs_X8_57 rfl ⟨⟨rfl, rfl⟩, Nat.le_of_ble_eq_true rfl, Nat.le_of_ble_eq_true rfl⟩ (zlv_size hl) rfl (Nat.le_of_ble_eq_true rfl) dX8_item_39 ⟨Nat.le_refl _, Nat.le_refl _⟩) (fun H locs hW => ?_)
      refine zi_if_ne (tgt := 48) hx hb dX8_item_42 (by decide) hf (fun hc hf => ?_) (fun hc hf => ?_)
      · skip
        refine lv_bipush (v := (-13)) hx hb dX8_item_45 (by decide) ?_
        exact zr_i hx hb hr hlk hW (zo1 hf) (zo2 hf) dX8_item_47
      · skip
        refine lv_aload_n hx hb dX8_item_48 rfl (lv_at hl 0 rfl) ?_
        refine zg_a (o := 13) hC hW fl_X8_51 zck_1_0 zcs_1_0 (show _ = 14 from rfl) dX8_item_49 ?_
        refine lv_bipush (v := 60) hx hb dX8_item_52 (by decide) ?_
        refine lv_iload_n hx hb dX8_item_54 rfl (lv_at hl 1 rfl) ?_
        refine lv_imul hx hb dX8_item_55 ?_
        refine lv_iload_n hx hb dX8_item_56 rfl (lv_at hl 2 rfl) ?_
        refine lv_iadd hx hb dX8_item_57 ?_
        refine lv_aload_n hx hb dX8_item_58 rfl (lv_at hl 0 rfl) ?_
        refine zg_a (o := 11) hC hW fl_X8_45 zck_1_0 zcs_1_0 (show _ = 12 from rfl) dX8_item_59 ?_
        refine lv_iload_n hx hb dX8_item_62 rfl (lv_at hl 1 rfl) ?_
        refine za_l hC hW hf zar_1_12 dX8_item_63 (fun v5 hf => ?_)
        refine lv_lload_n hx hb dX8_item_64 rfl (lv_at hl 3 rfl) ?_
        refine zc_l hW (zrun_s (As := [.int v5, .long p3]) (rest := [.int ((60 * p1) + p2), .ref (adr 14)]) hC hW (mX8_lowestBits v5 p3 s0 hC.2.2.2.2.2.2.2 rfl) cs_X8_270 rfl ⟨⟨rfl, rfl⟩, Nat.le_of_ble_eq_true rfl, Nat.le_of_ble_eq_true rfl⟩ (zlv_size hl) rfl (Nat.le_of_ble_eq_true rfl) dX8_item_65 ⟨Nat.le_refl _, Nat.le_refl _⟩) (fun H locs hW => ?_)
        refine za_sL hC hW hf zaj_1_14 dX8_item_68 (fun s7 H locs hf hW => ?_)
        refine lv_iconst (v := 1) hx hb dX8_item_69 (by decide) ?_
        exact zr_i hx hb hr hlk hW (zo1 hf) (zo2 hf) dX8_item_70
set_option maxHeartbeats 4000000 in
set_option maxRecDepth 100000 in
theorem mX8_read {l : Launch} {D : va_G} {cI cJ : ClassId} {adr : Nat → Nat} (p1 : Int32) (p2 : Int32) (s0 : zkS) {z : Nat} {ro : Int64} (hI : zInj 1 adr) (hf : fX8_read p1 p2 s0 = some ro) : Met l yX8_read (Cond.code yX8_read cX8_read 3 (some .long) :: zTb) { frames := 1, cells := 0, slots := 0, locals := 25 } (zPre 1 D cI cJ adr s0 z [.ref (adr 0), .int p1, .int p2]) (zQl 1 D cI cJ adr z ro s0) 0 0 (zA 1 adr z) := by
  refine zen (cc := cX8_read) (own := RX8) (by decide +kernel) rfl hI (Nat.le_of_ble_eq_true rfl) (fun p e s m args below meth c ls hC hr hlk hz hl hW => ?_)
  subst hz
  obtain ⟨hx, hb, -⟩ := id hC
  have hl : lv_has ls 3 [(0, .ref (adr 0)), (1, .int p1), (2, .int p2)] := hl
  refine zst hW (fun H locs hW => ?_)
  unfold fX8_read at hf
  refine lv_iload_n hx hb dX8_read_0 rfl (lv_at hl 1 rfl) ?_
  refine lv_i2l hx hb dX8_read_1 rfl ?_
  refine lv_lconst (v := 0) hx hb dX8_read_2 (by decide) ?_
  refine lv_ldc2 hx hb hC.2.2.2.1 (hC.2.2.2.2.1 _ wq_1168) dX8_read_3 ?_
  refine zc_i hW (zrun_s (As := [.long ((p1 : Int32).toInt64), .long 0, .long 5]) (rest := []) hC hW (mX8_in ((p1 : Int32).toInt64) 0 5 s0 hC.2.2.2.2.2.2.2 rfl) cs_X8_57 rfl ⟨⟨rfl, rfl⟩, Nat.le_of_ble_eq_true rfl, Nat.le_of_ble_eq_true rfl⟩ (zlv_size hl) rfl (Nat.le_of_ble_eq_true rfl) dX8_read_6 ⟨Nat.le_refl _, Nat.le_refl _⟩) (fun H locs hW => ?_)
  refine zi_if_eq (tgt := 44) hx hb dX8_read_9 (by decide) hf (fun hc hf => ?_) (fun hc hf => ?_)
  · skip
    refine lv_ldc2 hx hb hC.2.2.2.1 (hC.2.2.2.2.1 _ wq_1136) dX8_read_44 ?_
    exact zr_l hx hb hr hlk hW (Option.some.inj hf) rfl dX8_read_47
  · skip
    refine lv_iload_n hx hb dX8_read_12 rfl (lv_at hl 2 rfl) ?_
    refine lv_i2l hx hb dX8_read_13 rfl ?_
    refine lv_lconst (v := 0) hx hb dX8_read_14 (by decide) ?_
    refine lv_aload_n hx hb dX8_read_15 rfl (lv_at hl 0 rfl) ?_
    refine zg_a (o := 12) hC hW fl_X8_48 zck_1_0 zcs_1_0 (show _ = 13 from rfl) dX8_read_16 ?_
    refine lv_iload_n hx hb dX8_read_19 rfl (lv_at hl 1 rfl) ?_
    refine za_l hC hW hf zar_1_13 dX8_read_20 (fun v2 hf => ?_)
    refine lv_iconst (v := 1) hx hb dX8_read_21 (by decide) ?_
    refine lv_isub hx hb dX8_read_22 ?_
    refine lv_i2l hx hb dX8_read_23 rfl ?_
    refine zc_i hW (zrun_s (As := [.long ((p2 : Int32).toInt64), .long 0, .long (((v2 - 1) : Int32).toInt64)]) (rest := []) hC hW (mX8_in ((p2 : Int32).toInt64) 0 (((v2 - 1) : Int32).toInt64) s0 hC.2.2.2.2.2.2.2 rfl) cs_X8_57 rfl ⟨⟨rfl, rfl⟩, Nat.le_of_ble_eq_true rfl, Nat.le_of_ble_eq_true rfl⟩ (zlv_size hl) rfl (Nat.le_of_ble_eq_true rfl) dX8_read_24 ⟨Nat.le_refl _, Nat.le_refl _⟩) (fun H locs hW => ?_)
    refine zi_if_eq (tgt := 44) hx hb dX8_read_27 (by decide) hf (fun hc hf => ?_) (fun hc hf => ?_)
    · skip
      refine lv_ldc2 hx hb hC.2.2.2.1 (hC.2.2.2.2.1 _ wq_1136) dX8_read_44 ?_
      exact zr_l hx hb hr hlk hW (Option.some.inj hf) rfl dX8_read_47
    · skip
      refine lv_aload_n hx hb dX8_read_30 rfl (lv_at hl 0 rfl) ?_
      refine zg_a (o := 13) hC hW fl_X8_51 zck_1_0 zcs_1_0 (show _ = 14 from rfl) dX8_read_31 ?_
      refine lv_bipush (v := 60) hx hb dX8_read_34 (by decide) ?_
      refine lv_iload_n hx hb dX8_read_36 rfl (lv_at hl 1 rfl) ?_
      refine lv_imul hx hb dX8_read_37 ?_
      refine lv_iload_n hx hb dX8_read_38 rfl (lv_at hl 2 rfl) ?_
      refine lv_iadd hx hb dX8_read_39 ?_
      refine za_lL hC hW hf zaj_1_14 dX8_read_40 (fun v4 hf => ?_)
      refine lv_goto (tgt := 47) hx hb dX8_read_41 (by decide) ?_
      exact zr_l hx hb hr hlk hW (Option.some.inj hf) rfl dX8_read_47
set_option maxHeartbeats 4000000 in
set_option maxRecDepth 100000 in
theorem mX8_shift {l : Launch} {D : va_G} {cI cJ : ClassId} {adr : Nat → Nat} (p1 : Int32) (p2 : Int32) (p3 : Int32) (p4 : Int32) (p5 : Int32) (s0 : zkS) {z : Nat} {ro : Int32} {so : zkS} (hI : zInj 1 adr) (hf : fX8_shift p1 p2 p3 p4 p5 s0 = some (ro, so)) : Met l yX8_shift (Cond.code yX8_shift cX8_shift 8 (some .int) :: zTb) { frames := 1, cells := 0, slots := 0, locals := 25 } (zPre 1 D cI cJ adr s0 z [.ref (adr 0), .int p1, .int p2, .int p3, .int p4, .int p5]) (zQi 1 D cI cJ adr z ro so) 0 0 (zA 1 adr z) := by
  refine zen (cc := cX8_shift) (own := RX8) (by decide +kernel) rfl hI (Nat.le_of_ble_eq_true rfl) (fun p e s m args below meth c ls hC hr hlk hz hl hW => ?_)
  subst hz
  obtain ⟨hx, hb, -⟩ := id hC
  have hl : lv_has ls 8 [(0, .ref (adr 0)), (1, .int p1), (2, .int p2), (3, .int p3), (4, .int p4), (5, .int p5)] := hl
  refine zst hW (fun H locs hW => ?_)
  unfold fX8_shift at hf
  refine lv_iload_n hx hb dX8_shift_0 rfl (lv_at hl 1 rfl) ?_
  refine lv_i2l hx hb dX8_shift_1 rfl ?_
  refine lv_lconst (v := 0) hx hb dX8_shift_2 (by decide) ?_
  refine lv_ldc2 hx hb hC.2.2.2.1 (hC.2.2.2.2.1 _ wq_1168) dX8_shift_3 ?_
  refine zc_i hW (zrun_s (As := [.long ((p1 : Int32).toInt64), .long 0, .long 5]) (rest := []) hC hW (mX8_in ((p1 : Int32).toInt64) 0 5 s0 hC.2.2.2.2.2.2.2 rfl) cs_X8_57 rfl ⟨⟨rfl, rfl⟩, Nat.le_of_ble_eq_true rfl, Nat.le_of_ble_eq_true rfl⟩ (zlv_size hl) rfl (Nat.le_of_ble_eq_true rfl) dX8_shift_6 ⟨Nat.le_refl _, Nat.le_refl _⟩) (fun H locs hW => ?_)
  refine zi_if_eq (tgt := 24) hx hb dX8_shift_9 (by decide) hf (fun hc hf => ?_) (fun hc hf => ?_)
  · skip
    refine lv_iconst (v := (-1)) hx hb dX8_shift_24 (by decide) ?_
    exact zr_i hx hb hr hlk hW (zo1 hf) (zo2 hf) dX8_shift_25
  · skip
    refine lv_iload_n hx hb dX8_shift_12 rfl (lv_at hl 3 rfl) ?_
    refine lv_i2l hx hb dX8_shift_13 rfl ?_
    refine lv_lconst (v := 0) hx hb dX8_shift_14 (by decide) ?_
    refine lv_ldc2 hx hb hC.2.2.2.1 (hC.2.2.2.2.1 _ wq_1168) dX8_shift_15 ?_
    refine zc_i hW (zrun_s (As := [.long ((p3 : Int32).toInt64), .long 0, .long 5]) (rest := []) hC hW (mX8_in ((p3 : Int32).toInt64) 0 5 s0 hC.2.2.2.2.2.2.2 rfl) cs_X8_57 rfl ⟨⟨rfl, rfl⟩, Nat.le_of_ble_eq_true rfl, Nat.le_of_ble_eq_true rfl⟩ (zlv_size hl) rfl (Nat.le_of_ble_eq_true rfl) dX8_shift_18 ⟨Nat.le_refl _, Nat.le_refl _⟩) (fun H locs hW => ?_)
    refine zi_if_ne (tgt := 26) hx hb dX8_shift_21 (by decide) hf (fun hc hf => ?_) (fun hc hf => ?_)
    · skip
      refine lv_iconst (v := (-1)) hx hb dX8_shift_24 (by decide) ?_
      exact zr_i hx hb hr hlk hW (zo1 hf) (zo2 hf) dX8_shift_25
    · skip
      refine lv_aload_n hx hb dX8_shift_26 rfl (lv_at hl 0 rfl) ?_
      refine zg_a (o := 11) hC hW fl_X8_45 zck_1_0 zcs_1_0 (show _ = 12 from rfl) dX8_shift_27 ?_
      refine lv_iload_n hx hb dX8_shift_30 rfl (lv_at hl 1 rfl) ?_
      refine za_l hC hW hf zar_1_12 dX8_shift_31 (fun v3 hf => ?_)
      refine lv_iconst (v := (-1)) hx hb dX8_shift_32 (by decide) ?_
      refine zi_icmp_eq (tgt := 46) hx hb dX8_shift_33 (by decide) hf (fun hc hf => ?_) (fun hc hf => ?_)
      · skip
        refine lv_bipush (v := (-11)) hx hb dX8_shift_46 (by decide) ?_
        exact zr_i hx hb hr hlk hW (zo1 hf) (zo2 hf) dX8_shift_48
      · skip
        refine lv_aload_n hx hb dX8_shift_36 rfl (lv_at hl 0 rfl) ?_
        refine zg_a (o := 11) hC hW fl_X8_45 zck_1_0 zcs_1_0 (show _ = 12 from rfl) dX8_shift_37 ?_
        refine lv_iload_n hx hb dX8_shift_40 rfl (lv_at hl 3 rfl) ?_
        refine za_l hC hW hf zar_1_12 dX8_shift_41 (fun v4 hf => ?_)
        refine lv_iconst (v := (-1)) hx hb dX8_shift_42 (by decide) ?_
        refine zi_icmp_ne (tgt := 49) hx hb dX8_shift_43 (by decide) hf (fun hc hf => ?_) (fun hc hf => ?_)
        · skip
          refine lv_bipush (v := (-11)) hx hb dX8_shift_46 (by decide) ?_
          exact zr_i hx hb hr hlk hW (zo1 hf) (zo2 hf) dX8_shift_48
        · skip
          refine lv_aload_n hx hb dX8_shift_49 rfl (lv_at hl 0 rfl) ?_
          refine zg_a (o := 11) hC hW fl_X8_45 zck_1_0 zcs_1_0 (show _ = 12 from rfl) dX8_shift_50 ?_
          refine lv_iload_n hx hb dX8_shift_53 rfl (lv_at hl 1 rfl) ?_
          refine za_l hC hW hf zar_1_12 dX8_shift_54 (fun v5 hf => ?_)
          refine lv_aload_n hx hb dX8_shift_55 rfl (lv_at hl 0 rfl) ?_
          refine zg_a (o := 11) hC hW fl_X8_45 zck_1_0 zcs_1_0 (show _ = 12 from rfl) dX8_shift_56 ?_
          refine lv_iload_n hx hb dX8_shift_59 rfl (lv_at hl 3 rfl) ?_
          refine za_l hC hW hf zar_1_12 dX8_shift_60 (fun v6 hf => ?_)
          refine zi_icmp_eq (tgt := 67) hx hb dX8_shift_61 (by decide) hf (fun hc hf => ?_) (fun hc hf => ?_)
          · skip
            refine lv_iload hx hb dX8_shift_67 (lv_at hl 5 rfl) ?_
            refine zi_if_lt (tgt := 129) hx hb dX8_shift_69 (by decide) hf (fun hc hf => ?_) (fun hc hf => ?_)
            · skip
              refine lv_bipush (v := (-13)) hx hb dX8_shift_129 (by decide) ?_
              exact zr_i hx hb hr hlk hW (zo1 hf) (zo2 hf) dX8_shift_131
            · skip
              refine lv_iload_n hx hb dX8_shift_72 rfl (lv_at hl 2 rfl) ?_
              refine zi_if_lt (tgt := 129) hx hb dX8_shift_73 (by decide) hf (fun hc hf => ?_) (fun hc hf => ?_)
              · skip
                refine lv_bipush (v := (-13)) hx hb dX8_shift_129 (by decide) ?_
                exact zr_i hx hb hr hlk hW (zo1 hf) (zo2 hf) dX8_shift_131
              · skip
                refine lv_iload hx hb dX8_shift_76 (lv_at hl 4 rfl) ?_
                refine zi_if_lt (tgt := 129) hx hb dX8_shift_78 (by decide) hf (fun hc hf => ?_) (fun hc hf => ?_)
                · skip
                  refine lv_bipush (v := (-13)) hx hb dX8_shift_129 (by decide) ?_
                  exact zr_i hx hb hr hlk hW (zo1 hf) (zo2 hf) dX8_shift_131
                · skip
                  refine lv_iload_n hx hb dX8_shift_81 rfl (lv_at hl 2 rfl) ?_
                  refine lv_aload_n hx hb dX8_shift_82 rfl (lv_at hl 0 rfl) ?_
                  refine zg_a (o := 12) hC hW fl_X8_48 zck_1_0 zcs_1_0 (show _ = 13 from rfl) dX8_shift_83 ?_
                  refine lv_iload_n hx hb dX8_shift_86 rfl (lv_at hl 1 rfl) ?_
                  refine za_l hC hW hf zar_1_13 dX8_shift_87 (fun v7 hf => ?_)
                  refine zi_icmp_gt (tgt := 129) hx hb dX8_shift_88 (by decide) hf (fun hc hf => ?_) (fun hc hf => ?_)
                  · skip
                    refine lv_bipush (v := (-13)) hx hb dX8_shift_129 (by decide) ?_
                    exact zr_i hx hb hr hlk hW (zo1 hf) (zo2 hf) dX8_shift_131
                  · skip
                    refine lv_iload hx hb dX8_shift_91 (lv_at hl 4 rfl) ?_
                    refine lv_aload_n hx hb dX8_shift_93 rfl (lv_at hl 0 rfl) ?_
                    refine zg_a (o := 12) hC hW fl_X8_48 zck_1_0 zcs_1_0 (show _ = 13 from rfl) dX8_shift_94 ?_
                    refine lv_iload_n hx hb dX8_shift_97 rfl (lv_at hl 3 rfl) ?_
                    refine za_l hC hW hf zar_1_13 dX8_shift_98 (fun v8 hf => ?_)
                    refine zi_icmp_gt (tgt := 129) hx hb dX8_shift_99 (by decide) hf (fun hc hf => ?_) (fun hc hf => ?_)
                    · skip
                      refine lv_bipush (v := (-13)) hx hb dX8_shift_129 (by decide) ?_
                      exact zr_i hx hb hr hlk hW (zo1 hf) (zo2 hf) dX8_shift_131
                    · skip
                      refine lv_iload hx hb dX8_shift_102 (lv_at hl 5 rfl) ?_
                      refine lv_aload_n hx hb dX8_shift_104 rfl (lv_at hl 0 rfl) ?_
                      refine zg_a (o := 12) hC hW fl_X8_48 zck_1_0 zcs_1_0 (show _ = 13 from rfl) dX8_shift_105 ?_
                      refine lv_iload_n hx hb dX8_shift_108 rfl (lv_at hl 1 rfl) ?_
                      refine za_l hC hW hf zar_1_13 dX8_shift_109 (fun v9 hf => ?_)
                      refine lv_iload_n hx hb dX8_shift_110 rfl (lv_at hl 2 rfl) ?_
                      refine lv_isub hx hb dX8_shift_111 ?_
                      refine zi_icmp_gt (tgt := 129) hx hb dX8_shift_112 (by decide) hf (fun hc hf => ?_) (fun hc hf => ?_)
                      · skip
                        refine lv_bipush (v := (-13)) hx hb dX8_shift_129 (by decide) ?_
                        exact zr_i hx hb hr hlk hW (zo1 hf) (zo2 hf) dX8_shift_131
                      · skip
                        refine lv_iload hx hb dX8_shift_115 (lv_at hl 5 rfl) ?_
                        refine lv_aload_n hx hb dX8_shift_117 rfl (lv_at hl 0 rfl) ?_
                        refine zg_a (o := 12) hC hW fl_X8_48 zck_1_0 zcs_1_0 (show _ = 13 from rfl) dX8_shift_118 ?_
                        refine lv_iload_n hx hb dX8_shift_121 rfl (lv_at hl 3 rfl) ?_
                        refine za_l hC hW hf zar_1_13 dX8_shift_122 (fun v10 hf => ?_)
                        refine lv_iload hx hb dX8_shift_123 (lv_at hl 4 rfl) ?_
                        refine lv_isub hx hb dX8_shift_125 ?_
                        refine zi_icmp_le (tgt := 132) hx hb dX8_shift_126 (by decide) hf (fun hc hf => ?_) (fun hc hf => ?_)
                        · skip
                          refine lv_iconst (v := 0) hx hb dX8_shift_132 (by decide) ?_
                          refine lv_istore (lv' := [(6, .int 0), (0, .ref (adr 0)), (1, .int p1), (2, .int p2), (3, .int p3), (4, .int p4), (5, .int p5)]) hx hb dX8_shift_133 hl (by decide) rfl (fun ls hl => ?_)
                          have hL135 : ∀ (n : Nat) (x1 : Int32) (x2 : Int32) (x3 : Int32) (x4 : Int32) (x5 : Int32) (x6 : Int32) (s11 : zkS) (K135 : zkS → Option (Int32 × zkS)) (H : Heap) (locs : List Loc) (ls : Array Slot), fX8_shift_L135 n x1 x2 x3 x4 x5 x6 s11 K135 = some (ro, so) → zWo 1 D cI cJ adr s s11 H locs → lv_has ls 8 [(0, .ref (adr 0)), (1, .int x1), (2, .int x2), (3, .int x3), (4, .int x4), (5, .int x5), (6, .int x6)] → (∀ (s11 : zkS) (H : Heap) (locs : List Loc) (ls : Array Slot), K135 s11 = some (ro, so) → zWo 1 D cI cJ adr s s11 H locs → lv_has ls 8 [(5, .int x5)] → W p l e { frames := 1, cells := 0, slots := 0, locals := 25 } s m args below meth c H locs 0 0 (MQ below (zQi 1 D cI cJ adr s.heap.size ro so) args s 0 0 (zA 1 adr s.heap.size)) (F0 m 197 ls [])) → W p l e { frames := 1, cells := 0, slots := 0, locals := 25 } s m args below meth c H locs 0 0 (MQ below (zQi 1 D cI cJ adr s.heap.size ro so) args s 0 0 (zA 1 adr s.heap.size)) (F0 m 135 ls []) := by
                            intro n
                            induction n with
                            | zero =>
                              intro x1 x2 x3 x4 x5 x6 s11 K135 H locs ls hf hW hl hK135
                              rw [fX8_shift_L135] at hf
                              cases hf
                            | succ n ih135 =>
                              intro x1 x2 x3 x4 x5 x6 s11 K135 H locs ls hf hW hl hK135
                              rw [fX8_shift_L135] at hf
                              refine lv_iload hx hb dX8_shift_135 (lv_at hl 6 rfl) ?_
                              refine lv_iload hx hb dX8_shift_137 (lv_at hl 5 rfl) ?_
                              refine zi_icmp_ge (tgt := 197) hx hb dX8_shift_139 (by decide) hf (fun hc hf => ?_) (fun hc hf => ?_)
                              · skip
                                exact hK135 s11 H locs ls hf hW (lv_sub hl [5] rfl)
                              · skip
                                refine lv_iload_n hx hb dX8_shift_142 rfl (lv_at hl 2 rfl) ?_
                                refine lv_iload hx hb dX8_shift_143 (lv_at hl 4 rfl) ?_
                                refine zjn_e hf (fun J12 => ∀ (v13 : Int32) (H : Heap) (locs : List Loc) (ls : Array Slot), J12 v13 = some (ro, so) → zWo 1 D cI cJ adr s s11 H locs → lv_has ls 8 [(0, .ref (adr 0)), (1, .int x1), (2, .int x2), (3, .int x3), (4, .int x4), (5, .int x5), (6, .int x6)] → W p l e { frames := 1, cells := 0, slots := 0, locals := 25 } s m args below meth c H locs 0 0 (MQ below (zQi 1 D cI cJ adr s.heap.size ro so) args s 0 0 (zA 1 adr s.heap.size)) (F0 m 160 ls [.int v13])) ?_ (fun J12 hJ12 hf => ?_)
                                · intro v13 H locs ls hf hW hl
                                  refine lv_istore (lv' := [(7, .int v13), (0, .ref (adr 0)), (1, .int x1), (2, .int x2), (3, .int x3), (4, .int x4), (5, .int x5), (6, .int x6)]) hx hb dX8_shift_160 hl (by decide) rfl (fun ls hl => ?_)
                                  refine lv_aload_n hx hb dX8_shift_162 rfl (lv_at hl 1 rfl) ?_
                                  refine zg_a (o := 13) hC hW fl_X8_51 zck_1_0 zcs_1_0 (show _ = 14 from rfl) dX8_shift_163 ?_
                                  refine lv_bipush (v := 60) hx hb dX8_shift_166 (by decide) ?_
                                  refine lv_iload_n hx hb dX8_shift_168 rfl (lv_at hl 4 rfl) ?_
                                  refine lv_imul hx hb dX8_shift_169 ?_
                                  refine lv_iload hx hb dX8_shift_170 (lv_at hl 5 rfl) ?_
                                  refine lv_iadd hx hb dX8_shift_172 ?_
                                  refine lv_iload hx hb dX8_shift_173 (lv_at hl 0 rfl) ?_
                                  refine lv_iadd hx hb dX8_shift_175 ?_
                                  refine lv_aload_n hx hb dX8_shift_176 rfl (lv_at hl 1 rfl) ?_
                                  refine zg_a (o := 13) hC hW fl_X8_51 zck_1_0 zcs_1_0 (show _ = 14 from rfl) dX8_shift_177 ?_
                                  refine lv_bipush (v := 60) hx hb dX8_shift_180 (by decide) ?_
                                  refine lv_iload_n hx hb dX8_shift_182 rfl (lv_at hl 2 rfl) ?_
                                  refine lv_imul hx hb dX8_shift_183 ?_
                                  refine lv_iload_n hx hb dX8_shift_184 rfl (lv_at hl 3 rfl) ?_
                                  refine lv_iadd hx hb dX8_shift_185 ?_
                                  refine lv_iload hx hb dX8_shift_186 (lv_at hl 0 rfl) ?_
                                  refine lv_iadd hx hb dX8_shift_188 ?_
                                  refine za_lL hC hW hf zaj_1_14 dX8_shift_189 (fun v14 hf => ?_)
                                  refine za_sL hC hW hf zaj_1_14 dX8_shift_190 (fun s15 H locs hf hW => ?_)
                                  refine zi_inc (v := (x6 + 1)) (lv' := fun v16 => [(6, .int v16), (7, .int v13), (0, .ref (adr 0)), (1, .int x1), (2, .int x2), (3, .int x3), (4, .int x4), (5, .int x5)]) hx hb dX8_shift_191 hl (k := 7) rfl rfl (by decide) (fun _ => rfl) hf (fun v16 ls hf hl => ?_)
                                  refine lv_goto (tgt := 135) hx hb dX8_shift_194 (by decide) ?_
                                  exact ih135 x1 x2 x3 x4 x5 v16 s15 _ H locs ls hf hW (lv_sub hl [2, 3, 4, 5, 6, 7, 0] rfl) hK135
                                refine zi_icmp_ge (tgt := 158) hx hb dX8_shift_145 (by decide) hf (fun hc hf => ?_) (fun hc hf => ?_)
                                · skip
                                  refine lv_iload hx hb dX8_shift_158 (lv_at hl 6 rfl) ?_
                                  exact hJ12 x6 H locs ls hf hW (lv_sub hl [0, 1, 2, 3, 4, 5, 6] rfl)
                                · skip
                                  refine lv_iload hx hb dX8_shift_148 (lv_at hl 5 rfl) ?_
                                  refine lv_iconst (v := 1) hx hb dX8_shift_150 (by decide) ?_
                                  refine lv_isub hx hb dX8_shift_151 ?_
                                  refine lv_iload hx hb dX8_shift_152 (lv_at hl 6 rfl) ?_
                                  refine lv_isub hx hb dX8_shift_154 ?_
                                  refine lv_goto (tgt := 160) hx hb dX8_shift_155 (by decide) ?_
                                  exact hJ12 ((x5 - 1) - x6) H locs ls hf hW (lv_sub hl [0, 1, 2, 3, 4, 5, 6] rfl)
                          refine hL135 zFU p1 p2 p3 p4 p5 0 s0 _ H locs ls hf hW (lv_sub hl [1, 2, 3, 4, 5, 6, 0] rfl) (fun s17 H locs ls hf hW hl => ?_)
                          refine lv_iload hx hb dX8_shift_197 (lv_at hl 0 rfl) ?_
                          exact zr_i hx hb hr hlk hW (zo1 hf) (zo2 hf) dX8_shift_199
                        · skip
                          refine lv_bipush (v := (-13)) hx hb dX8_shift_129 (by decide) ?_
                          exact zr_i hx hb hr hlk hW (zo1 hf) (zo2 hf) dX8_shift_131
          · skip
            refine lv_bipush (v := (-12)) hx hb dX8_shift_64 (by decide) ?_
            exact zr_i hx hb hr hlk hW (zo1 hf) (zo2 hf) dX8_shift_66
