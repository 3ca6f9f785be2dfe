set_option maxHeartbeats 4000000 in
set_option maxRecDepth 100000 in
theorem mX7_fits {l : Launch} {D : va_G} {cI cJ : ClassId} {adr : Nat → Nat} (p1 : Int32) (s0 : zkS) {z : Nat} {ro : Int32} {so : zkS} (hI : zInj 0 adr) (hf : fX7_fits p1 s0 = some (ro, so)) : Met l yX7_fits (Cond.code yX7_fits cX7_fits 4 (some .int) :: zTb) { frames := 6, cells := 0, slots := 0, locals := 132 } (zPre 0 D cI cJ adr s0 z [.ref (adr 0), .int p1]) (zQi 0 D cI cJ adr z ro so) 0 0 (zA 0 adr z) := by
  refine zen (cc := cX7_fits) (own := RX7) (by decide +kernel) rfl hI (Nat.le_of_ble_eq_true rfl) (fun p e s m args below meth c ls hC hr hlk hz hl hW => ?_)
  subst hz
  obtain ⟨hx, hb, -⟩ := id hC
  have hl : lv_has ls 4 [(0, .ref (adr 0)), (1, .int p1)] := hl
  refine zst hW (fun H locs hW => ?_)
  unfold fX7_fits at hf
  refine lv_iload_n hx hb dX7_fits_0 rfl (lv_at hl 1 rfl) ?_
  refine zc_i hW (zrun_s (As := [.int p1]) (rest := []) hC hW (mX7_isLimit p1 s0 hC.2.2.2.2.2.2.2 rfl) cs_X7_194 rfl ⟨⟨rfl, rfl⟩, Nat.le_of_ble_eq_true rfl, Nat.le_of_ble_eq_true rfl⟩ (zlv_size hl) rfl (Nat.le_of_ble_eq_true rfl) dX7_fits_1 ⟨Nat.le_refl _, Nat.le_refl _⟩) (fun H locs hW => ?_)
  refine zi_if_ne (tgt := 10) hx hb dX7_fits_4 (by decide) hf (fun hc hf => ?_) (fun hc hf => ?_)
  · skip
    refine lv_bipush (v := (-2)) hx hb dX7_fits_7 (by decide) ?_
    exact zr_i hx hb hr hlk hW (zo1 hf) (zo2 hf) dX7_fits_9
  · skip
    refine lv_aload_n hx hb dX7_fits_10 rfl (lv_at hl 0 rfl) ?_
    refine zg_a (o := 0) hC hW fl_X7_12 zck_0_0 zcs_0_0 (show _ = 1 from rfl) dX7_fits_11 ?_
    refine zg_a (o := 6) hC hW fl_X7_68 (zE_k zEc_1) (zE_s zEc_1) (show _ = 8 from rfl) dX7_fits_14 ?_
    refine zg_i hC hW fl_X7_71 (zK_k zKc_8) (zK_s zKc_8) dX7_fits_17 ?_
    refine zi_if_eq (tgt := 26) hx hb dX7_fits_20 (by decide) hf (fun hc hf => ?_) (fun hc hf => ?_)
    · skip
      refine lv_iconst (v := 0) hx hb dX7_fits_26 (by decide) ?_
      refine lv_istore_n (lv' := [(2, .int 0), (0, .ref (adr 0)), (1, .int p1)]) hx hb dX7_fits_27 rfl hl (by decide) rfl (fun ls hl => ?_)
      refine lv_aload_n hx hb dX7_fits_28 rfl (lv_at hl 1 rfl) ?_
      refine zg_a (o := 32) hC hW fl_X7_28 zck_0_0 zcs_0_0 (show _ = 33 from rfl) dX7_fits_29 ?_
      refine lv_aload_n hx hb dX7_fits_32 rfl (lv_at hl 1 rfl) ?_
      refine zg_a (o := 0) hC hW fl_X7_12 zck_0_0 zcs_0_0 (show _ = 1 from rfl) dX7_fits_33 ?_
      refine zg_a (o := 0) hC hW fl_X7_74 (zE_k zEc_1) (zE_s zEc_1) (show _ = 2 from rfl) dX7_fits_36 ?_
      obtain ⟨s2, hq, hf⟩ := zb1_o hf
      refine zc_v hW (zrun_v (As := [.ref (adr 2)]) (rest := []) hC hW (mX0_copyFrom zGc_33 zGc_2 s0 hC.2.2.2.2.2.2.2 hq) cv_X7_177 (zG_k zGc_33) (zG_s zGc_33) rfl ⟨⟨rfl, rfl⟩, Nat.le_of_ble_eq_true rfl, Nat.le_of_ble_eq_true rfl⟩ (zlv_size hl) rfl (Nat.le_of_ble_eq_true rfl) dX7_fits_39 ⟨Nat.le_refl _, Nat.le_refl _⟩) (fun H locs hW => ?_)
      refine lv_iconst (v := 0) hx hb dX7_fits_42 (by decide) ?_
      refine lv_istore_n (lv' := [(3, .int 0), (2, .int 0), (0, .ref (adr 0)), (1, .int p1)]) hx hb dX7_fits_43 rfl hl (by decide) rfl (fun ls hl => ?_)
      have hL44 : ∀ (n : Nat) (x1 : Int32) (x2 : Int32) (x3 : Int32) (s3 : zkS) (K44 : Int32 → zkS → Option (Int32 × zkS)) (H : Heap) (locs : List Loc) (ls : Array Slot), fX7_fits_L44 n x1 x2 x3 s3 K44 = some (ro, so) → zWo 0 D cI cJ adr s s3 H locs → lv_has ls 4 [(0, .ref (adr 0)), (1, .int x1), (2, .int x2), (3, .int x3)] → (∀ (x2 : Int32) (s3 : zkS) (H : Heap) (locs : List Loc) (ls : Array Slot), K44 x2 s3 = some (ro, so) → zWo 0 D cI cJ adr s s3 H locs → lv_has ls 4 [(2, .int x2)] → W p l e { frames := 6, cells := 0, slots := 0, locals := 132 } s m args below meth c H locs 0 0 (MQ below (zQi 0 D cI cJ adr s.heap.size ro so) args s 0 0 (zA 0 adr s.heap.size)) (F0 m 98 ls [])) → W p l e { frames := 6, cells := 0, slots := 0, locals := 132 } s m args below meth c H locs 0 0 (MQ below (zQi 0 D cI cJ adr s.heap.size ro so) args s 0 0 (zA 0 adr s.heap.size)) (F0 m 44 ls []) := by
        intro n
        induction n with
        | zero =>
          intro x1 x2 x3 s3 K44 H locs ls hf hW hl hK44
          rw [fX7_fits_L44] at hf
          cases hf
        | succ n ih44 =>
          intro x1 x2 x3 s3 K44 H locs ls hf hW hl hK44
          rw [fX7_fits_L44] at hf
          refine lv_iload_n hx hb dX7_fits_44 rfl (lv_at hl 3 rfl) ?_
          refine lv_bipush (v := 24) hx hb dX7_fits_45 (by decide) ?_
          refine zi_icmp_ge (tgt := 98) hx hb dX7_fits_47 (by decide) hf (fun hc hf => ?_) (fun hc hf => ?_)
          · skip
            exact hK44 x2 s3 H locs ls hf hW (lv_sub hl [2] rfl)
          · skip
            refine lv_aload_n hx hb dX7_fits_50 rfl (lv_at hl 0 rfl) ?_
            refine zg_a (o := 32) hC hW fl_X7_28 zck_0_0 zcs_0_0 (show _ = 33 from rfl) dX7_fits_51 ?_
            refine lv_iconst (v := 0) hx hb dX7_fits_54 (by decide) ?_
            refine lv_iload_n hx hb dX7_fits_55 rfl (lv_at hl 3 rfl) ?_
            obtain ⟨s4, hq, hf⟩ := zb1_o hf
            refine zc_v hW (zrun_v (As := [.int 0, .int x3]) (rest := []) hC hW (mX0_putIntoRoot zGc_33 0 x3 s3 hC.2.2.2.2.2.2.2 hq) cv_X7_162 (zG_k zGc_33) (zG_s zGc_33) rfl ⟨⟨rfl, rfl⟩, Nat.le_of_ble_eq_true rfl, Nat.le_of_ble_eq_true rfl⟩ (zlv_size hl) rfl (Nat.le_of_ble_eq_true rfl) dX7_fits_56 ⟨Nat.le_refl _, Nat.le_refl _⟩) (fun H locs hW => ?_)
            refine lv_aload_n hx hb dX7_fits_59 rfl (lv_at hl 0 rfl) ?_
            refine zg_a (o := 0) hC hW fl_X7_12 zck_0_0 zcs_0_0 (show _ = 1 from rfl) dX7_fits_60 ?_
            refine zg_a (o := 0) hC hW fl_X7_74 (zE_k zEc_1) (zE_s zEc_1) (show _ = 2 from rfl) dX7_fits_63 ?_
            refine lv_iload_n hx hb dX7_fits_66 rfl (lv_at hl 3 rfl) ?_
            refine zc_i hW (zrun_v (As := [.int x3]) (rest := []) hC hW (mX0_isThere zGc_2 x3 s4 hC.2.2.2.2.2.2.2 rfl) cv_X7_88 (zG_k zGc_2) (zG_s zGc_2) rfl ⟨⟨rfl, rfl⟩, Nat.le_of_ble_eq_true rfl, Nat.le_of_ble_eq_true rfl⟩ (zlv_size hl) rfl (Nat.le_of_ble_eq_true rfl) dX7_fits_67 ⟨Nat.le_refl _, Nat.le_refl _⟩) (fun H locs hW => ?_)
            refine zi_if_eq (tgt := 92) hx hb dX7_fits_70 (by decide) hf (fun hc hf => ?_) (fun hc hf => ?_)
            · skip
              refine zi_inc (v := (x3 + 1)) (lv' := fun v6 => [(3, .int v6), (0, .ref (adr 0)), (1, .int x1), (2, .int x2)]) hx hb dX7_fits_92 hl (k := 3) rfl rfl (by decide) (fun _ => rfl) hf (fun v6 ls hf hl => ?_)
              refine lv_goto (tgt := 44) hx hb dX7_fits_95 (by decide) ?_
              exact ih44 x1 x2 v6 s4 _ H locs ls hf hW (lv_sub hl [1, 2, 3, 0] rfl) hK44
            · skip
              refine lv_aload_n hx hb dX7_fits_73 rfl (lv_at hl 0 rfl) ?_
              refine lv_aload_n hx hb dX7_fits_74 rfl (lv_at hl 0 rfl) ?_
              refine zg_a (o := 32) hC hW fl_X7_28 zck_0_0 zcs_0_0 (show _ = 33 from rfl) dX7_fits_75 ?_
              refine lv_iload_n hx hb dX7_fits_78 rfl (lv_at hl 1 rfl) ?_
              obtain ⟨v7, s8, hq, hf⟩ := zb2_o hf
              refine zc_i hW (zrun_v (As := [.ref (adr 33), .int x1]) (rest := []) hC hW (mX7_isAsSeen zGc_33 x1 s4 hC.2.2.2.2.2.2.2 hq) cv_X7_256 zck_0_0 zcs_0_0 rfl ⟨⟨rfl, rfl⟩, Nat.le_of_ble_eq_true rfl, Nat.le_of_ble_eq_true rfl⟩ (zlv_size hl) rfl (Nat.le_of_ble_eq_true rfl) dX7_fits_79 ⟨Nat.le_refl _, Nat.le_refl _⟩) (fun H locs hW => ?_)
              refine zi_if_eq (tgt := 92) hx hb dX7_fits_82 (by decide) hf (fun hc hf => ?_) (fun hc hf => ?_)
              · skip
                refine zi_inc (v := (x3 + 1)) (lv' := fun v9 => [(3, .int v9), (0, .ref (adr 0)), (1, .int x1), (2, .int x2)]) hx hb dX7_fits_92 hl (k := 3) rfl rfl (by decide) (fun _ => rfl) hf (fun v9 ls hf hl => ?_)
                refine lv_goto (tgt := 44) hx hb dX7_fits_95 (by decide) ?_
                exact ih44 x1 x2 v9 s8 _ H locs ls hf hW (lv_sub hl [1, 2, 3, 0] rfl) hK44
              · skip
                refine lv_iload_n hx hb dX7_fits_85 rfl (lv_at hl 2 rfl) ?_
                refine lv_iload_n hx hb dX7_fits_86 rfl (lv_at hl 3 rfl) ?_
                refine zc_i hW (zrun_s (As := [.int x3]) (rest := [.int x2]) hC hW (mX7_bit x3 s8 hC.2.2.2.2.2.2.2 rfl) cs_X7_168 rfl ⟨⟨rfl, rfl⟩, Nat.le_of_ble_eq_true rfl, Nat.le_of_ble_eq_true rfl⟩ (zlv_size hl) rfl (Nat.le_of_ble_eq_true rfl) dX7_fits_87 ⟨Nat.le_refl _, Nat.le_refl _⟩) (fun H locs hW => ?_)
                refine lv_ior hx hb dX7_fits_90 ?_
                refine zn_i hf (fun v11 hf => ?_)
                refine lv_istore_n (lv' := [(2, .int v11), (0, .ref (adr 0)), (1, .int x1), (3, .int x3)]) hx hb dX7_fits_91 rfl hl (by decide) rfl (fun ls hl => ?_)
                refine zi_inc (v := (x3 + 1)) (lv' := fun v12 => [(3, .int v12), (2, .int v11), (0, .ref (adr 0)), (1, .int x1)]) hx hb dX7_fits_92 hl (k := 3) rfl rfl (by decide) (fun _ => rfl) hf (fun v12 ls hf hl => ?_)
                refine lv_goto (tgt := 44) hx hb dX7_fits_95 (by decide) ?_
                exact ih44 x1 v11 v12 s8 _ H locs ls hf hW (lv_sub hl [2, 3, 1, 0] rfl) hK44
      refine hL44 zFU p1 0 0 s2 _ H locs ls hf hW (lv_sub hl [2, 3, 1, 0] rfl) (fun x13 s14 H locs ls hf hW hl => ?_)
      refine lv_iload_n hx hb dX7_fits_98 rfl (lv_at hl 0 rfl) ?_
      exact zr_i hx hb hr hlk hW (zo1 hf) (zo2 hf) dX7_fits_99
    · skip
      refine lv_bipush (v := (-3)) hx hb dX7_fits_23 (by decide) ?_
      exact zr_i hx hb hr hlk hW (zo1 hf) (zo2 hf) dX7_fits_25
set_option maxHeartbeats 4000000 in
set_option maxRecDepth 100000 in
theorem mX7_can {l : Launch} {D : va_G} {cI cJ : ClassId} {adr : Nat → Nat} (p1 : Int32) (p2 : Int32) (p3 : Int32) (s0 : zkS) {z : Nat} {ro : Int32} {so : zkS} (hI : zInj 0 adr) (hf : fX7_can p1 p2 p3 s0 = some (ro, so)) : Met l yX7_can (Cond.code yX7_can cX7_can 7 (some .int) :: zTb) { frames := 6, cells := 0, slots := 0, locals := 132 } (zPre 0 D cI cJ adr s0 z [.ref (adr 0), .int p1, .int p2, .int p3]) (zQi 0 D cI cJ adr z ro so) 0 0 (zA 0 adr z) := by
  refine zen (cc := cX7_can) (own := RX7) (by decide +kernel) rfl hI (Nat.le_of_ble_eq_true rfl) (fun p e s m args below meth c ls hC hr hlk hz hl hW => ?_)
  subst hz
  obtain ⟨hx, hb, -⟩ := id hC
  have hl : lv_has ls 7 [(0, .ref (adr 0)), (1, .int p1), (2, .int p2), (3, .int p3)] := hl
  refine zst hW (fun H locs hW => ?_)
  unfold fX7_can at hf
  refine lv_aload_n hx hb dX7_can_0 rfl (lv_at hl 0 rfl) ?_
  refine zg_a (o := 0) hC hW fl_X7_12 zck_0_0 zcs_0_0 (show _ = 1 from rfl) dX7_can_1 ?_
  refine zg_a (o := 0) hC hW fl_X7_74 (zE_k zEc_1) (zE_s zEc_1) (show _ = 2 from rfl) dX7_can_4 ?_
  refine lv_iload_n hx hb dX7_can_7 rfl (lv_at hl 1 rfl) ?_
  refine zc_i hW (zrun_v (As := [.int p1]) (rest := []) hC hW (mX0_isThere zGc_2 p1 s0 hC.2.2.2.2.2.2.2 rfl) cv_X7_88 (zG_k zGc_2) (zG_s zGc_2) rfl ⟨⟨rfl, rfl⟩, Nat.le_of_ble_eq_true rfl, Nat.le_of_ble_eq_true rfl⟩ (zlv_size hl) rfl (Nat.le_of_ble_eq_true rfl) dX7_can_8 ⟨Nat.le_refl _, Nat.le_refl _⟩) (fun H locs hW => ?_)
  refine zi_if_eq (tgt := 23) hx hb dX7_can_11 (by decide) hf (fun hc hf => ?_) (fun hc hf => ?_)
  · skip
    refine lv_iconst (v := (-1)) hx hb dX7_can_23 (by decide) ?_
    exact zr_i hx hb hr hlk hW (zo1 hf) (zo2 hf) dX7_can_24
  · skip
    refine lv_iload_n hx hb dX7_can_14 rfl (lv_at hl 3 rfl) ?_
    refine zi_if_lt (tgt := 23) hx hb dX7_can_15 (by decide) hf (fun hc hf => ?_) (fun hc hf => ?_)
    · skip
      refine lv_iconst (v := (-1)) hx hb dX7_can_23 (by decide) ?_
      exact zr_i hx hb hr hlk hW (zo1 hf) (zo2 hf) dX7_can_24
    · skip
      refine lv_iload_n hx hb dX7_can_18 rfl (lv_at hl 3 rfl) ?_
      refine lv_iconst (v := 1) hx hb dX7_can_19 (by decide) ?_
      refine zi_icmp_le (tgt := 25) hx hb dX7_can_20 (by decide) hf (fun hc hf => ?_) (fun hc hf => ?_)
      · skip
        refine lv_iload_n hx hb dX7_can_25 rfl (lv_at hl 2 rfl) ?_
        refine zc_i hW (zrun_s (As := [.int p2]) (rest := []) hC hW (mX7_isLimit p2 s0 hC.2.2.2.2.2.2.2 rfl) cs_X7_194 rfl ⟨⟨rfl, rfl⟩, Nat.le_of_ble_eq_true rfl, Nat.le_of_ble_eq_true rfl⟩ (zlv_size hl) rfl (Nat.le_of_ble_eq_true rfl) dX7_can_26 ⟨Nat.le_refl _, Nat.le_refl _⟩) (fun H locs hW => ?_)
        refine zi_if_ne (tgt := 35) hx hb dX7_can_29 (by decide) hf (fun hc hf => ?_) (fun hc hf => ?_)
        · skip
          refine lv_bipush (v := (-2)) hx hb dX7_can_32 (by decide) ?_
          exact zr_i hx hb hr hlk hW (zo1 hf) (zo2 hf) dX7_can_34
        · skip
          refine lv_aload_n hx hb dX7_can_35 rfl (lv_at hl 0 rfl) ?_
          refine zg_a (o := 0) hC hW fl_X7_12 zck_0_0 zcs_0_0 (show _ = 1 from rfl) dX7_can_36 ?_
          refine zg_a (o := 6) hC hW fl_X7_68 (zE_k zEc_1) (zE_s zEc_1) (show _ = 8 from rfl) dX7_can_39 ?_
          refine zg_i hC hW fl_X7_71 (zK_k zKc_8) (zK_s zKc_8) dX7_can_42 ?_
          refine zi_if_eq (tgt := 51) hx hb dX7_can_45 (by decide) hf (fun hc hf => ?_) (fun hc hf => ?_)
          · skip
            refine lv_iconst (v := 0) hx hb dX7_can_51 (by decide) ?_
            refine lv_istore (lv' := [(4, .int 0), (0, .ref (adr 0)), (1, .int p1), (2, .int p2), (3, .int p3)]) hx hb dX7_can_52 hl (by decide) rfl (fun ls hl => ?_)
            refine lv_bipush (v := (-5)) hx hb dX7_can_54 (by decide) ?_
            refine lv_istore (lv' := [(5, .int (-5)), (4, .int 0), (0, .ref (adr 0)), (1, .int p1), (2, .int p2), (3, .int p3)]) hx hb dX7_can_56 hl (by decide) rfl (fun ls hl => ?_)
            refine lv_aload_n hx hb dX7_can_58 rfl (lv_at hl 2 rfl) ?_
            refine zg_a (o := 32) hC hW fl_X7_28 zck_0_0 zcs_0_0 (show _ = 33 from rfl) dX7_can_59 ?_
            refine lv_aload_n hx hb dX7_can_62 rfl (lv_at hl 2 rfl) ?_
            refine zg_a (o := 0) hC hW fl_X7_12 zck_0_0 zcs_0_0 (show _ = 1 from rfl) dX7_can_63 ?_
            refine zg_a (o := 0) hC hW fl_X7_74 (zE_k zEc_1) (zE_s zEc_1) (show _ = 2 from rfl) dX7_can_66 ?_
            obtain ⟨s3, hq, hf⟩ := zb1_o hf
            refine zc_v hW (zrun_v (As := [.ref (adr 2)]) (rest := []) hC hW (mX0_copyFrom zGc_33 zGc_2 s0 hC.2.2.2.2.2.2.2 hq) cv_X7_177 (zG_k zGc_33) (zG_s zGc_33) rfl ⟨⟨rfl, rfl⟩, Nat.le_of_ble_eq_true rfl, Nat.le_of_ble_eq_true rfl⟩ (zlv_size hl) rfl (Nat.le_of_ble_eq_true rfl) dX7_can_69 ⟨Nat.le_refl _, Nat.le_refl _⟩) (fun H locs hW => ?_)
            refine lv_bipush (v := 9) hx hb dX7_can_72 (by decide) ?_
            refine lv_istore (lv' := [(6, .int 9), (5, .int (-5)), (4, .int 0), (0, .ref (adr 0)), (1, .int p1), (2, .int p2), (3, .int p3)]) hx hb dX7_can_74 hl (by decide) rfl (fun ls hl => ?_)
            have hL76 : ∀ (n : Nat) (x1 : Int32) (x2 : Int32) (x4 : Int32) (x5 : Int32) (x6 : Int32) (s4 : zkS) (K76 : Int32 → Int32 → zkS → Option (Int32 × zkS)) (H : Heap) (locs : List Loc) (ls : Array Slot), fX7_can_L76 n x1 x2 x4 x5 x6 s4 K76 = some (ro, so) → zWo 0 D cI cJ adr s s4 H locs → lv_has ls 7 [(0, .ref (adr 0)), (1, .int x1), (2, .int x2), (3, .int p3), (4, .int x4), (5, .int x5), (6, .int x6)] → (∀ (x4 : Int32) (x5 : Int32) (s4 : zkS) (H : Heap) (locs : List Loc) (ls : Array Slot), K76 x4 x5 s4 = some (ro, so) → zWo 0 D cI cJ adr s s4 H locs → lv_has ls 7 [(3, .int p3), (4, .int x4), (5, .int x5)] → W p l e { frames := 6, cells := 0, slots := 0, locals := 132 } s m args below meth c H locs 0 0 (MQ below (zQi 0 D cI cJ adr s.heap.size ro so) args s 0 0 (zA 0 adr s.heap.size)) (F0 m 116 ls [])) → W p l e { frames := 6, cells := 0, slots := 0, locals := 132 } s m args below meth c H locs 0 0 (MQ below (zQi 0 D cI cJ adr s.heap.size ro so) args s 0 0 (zA 0 adr s.heap.size)) (F0 m 76 ls []) := by
              intro n
              induction n with
              | zero =>
                intro x1 x2 x4 x5 x6 s4 K76 H locs ls hf hW hl hK76
                rw [fX7_can_L76] at hf
                cases hf
              | succ n ih76 =>
                intro x1 x2 x4 x5 x6 s4 K76 H locs ls hf hW hl hK76
                rw [fX7_can_L76] at hf
                refine lv_iload hx hb dX7_can_76 (lv_at hl 6 rfl) ?_
                refine zi_if_lt (tgt := 116) hx hb dX7_can_78 (by decide) hf (fun hc hf => ?_) (fun hc hf => ?_)
                · skip
                  exact hK76 x4 x5 s4 H locs ls hf hW (lv_sub hl [3, 4, 5] rfl)
                · skip
                  refine lv_aload_n hx hb dX7_can_81 rfl (lv_at hl 0 rfl) ?_
                  refine zg_a (o := 32) hC hW fl_X7_28 zck_0_0 zcs_0_0 (show _ = 33 from rfl) dX7_can_82 ?_
                  refine lv_iload_n hx hb dX7_can_85 rfl (lv_at hl 1 rfl) ?_
                  refine lv_iload hx hb dX7_can_86 (lv_at hl 6 rfl) ?_
                  obtain ⟨s5, hq, hf⟩ := zb1_o hf
                  refine zc_v hW (zrun_v (As := [.int x1, .int x6]) (rest := []) hC hW (mX0_retag zGc_33 x1 x6 s4 hC.2.2.2.2.2.2.2 hq) cv_X7_152 (zG_k zGc_33) (zG_s zGc_33) rfl ⟨⟨rfl, rfl⟩, Nat.le_of_ble_eq_true rfl, Nat.le_of_ble_eq_true rfl⟩ (zlv_size hl) rfl (Nat.le_of_ble_eq_true rfl) dX7_can_88 ⟨Nat.le_refl _, Nat.le_refl _⟩) (fun H locs hW => ?_)
                  refine lv_aload_n hx hb dX7_can_91 rfl (lv_at hl 0 rfl) ?_
                  refine lv_aload_n hx hb dX7_can_92 rfl (lv_at hl 0 rfl) ?_
                  refine zg_a (o := 32) hC hW fl_X7_28 zck_0_0 zcs_0_0 (show _ = 33 from rfl) dX7_can_93 ?_
                  refine lv_iload_n hx hb dX7_can_96 rfl (lv_at hl 2 rfl) ?_
                  obtain ⟨v6, s7, hq, hf⟩ := zb2_o hf
                  refine zc_i hW (zrun_v (As := [.ref (adr 33), .int x2]) (rest := []) hC hW (mX7_isAsSeen zGc_33 x2 s5 hC.2.2.2.2.2.2.2 hq) cv_X7_256 zck_0_0 zcs_0_0 rfl ⟨⟨rfl, rfl⟩, Nat.le_of_ble_eq_true rfl, Nat.le_of_ble_eq_true rfl⟩ (zlv_size hl) rfl (Nat.le_of_ble_eq_true rfl) dX7_can_97 ⟨Nat.le_refl _, Nat.le_refl _⟩) (fun H locs hW => ?_)
                  refine zi_if_eq (tgt := 110) hx hb dX7_can_100 (by decide) hf (fun hc hf => ?_) (fun hc hf => ?_)
                  · skip
                    refine zi_inc (v := (x6 + (-1))) (lv' := fun v8 => [(6, .int v8), (0, .ref (adr 0)), (1, .int x1), (2, .int x2), (3, .int p3), (4, .int x4), (5, .int x5)]) hx hb dX7_can_110 hl (k := 6) rfl rfl (by decide) (fun _ => rfl) hf (fun v8 ls hf hl => ?_)
                    refine lv_goto (tgt := 76) hx hb dX7_can_113 (by decide) ?_
                    exact ih76 x1 x2 x4 x5 v8 s7 _ H locs ls hf hW (lv_sub hl [1, 2, 3, 4, 5, 6, 0] rfl) hK76
                  · skip
                    refine zi_inc (v := (x4 + 1)) (lv' := fun v9 => [(4, .int v9), (0, .ref (adr 0)), (1, .int x1), (2, .int x2), (3, .int p3), (5, .int x5), (6, .int x6)]) hx hb dX7_can_103 hl (k := 4) rfl rfl (by decide) (fun _ => rfl) hf (fun v9 ls hf hl => ?_)
                    refine lv_iload hx hb dX7_can_106 (lv_at hl 6 rfl) ?_
                    refine lv_istore (lv' := [(5, .int x6), (4, .int v9), (0, .ref (adr 0)), (1, .int x1), (2, .int x2), (3, .int p3), (6, .int x6)]) hx hb dX7_can_108 hl (by decide) rfl (fun ls hl => ?_)
                    refine zi_inc (v := (x6 + (-1))) (lv' := fun v10 => [(6, .int v10), (5, .int x6), (4, .int v9), (0, .ref (adr 0)), (1, .int x1), (2, .int x2), (3, .int p3)]) hx hb dX7_can_110 hl (k := 6) rfl rfl (by decide) (fun _ => rfl) hf (fun v10 ls hf hl => ?_)
                    refine lv_goto (tgt := 76) hx hb dX7_can_113 (by decide) ?_
                    exact ih76 x1 x2 v9 x6 v10 s7 _ H locs ls hf hW (lv_sub hl [3, 4, 5, 6, 2, 1, 0] rfl) hK76
            refine hL76 zFU p1 p2 0 (-5) 9 s3 _ H locs ls hf hW (lv_sub hl [3, 4, 5, 6, 2, 1, 0] rfl) (fun x11 x12 s13 H locs ls hf hW hl => ?_)
            refine lv_iload_n hx hb dX7_can_116 rfl (lv_at hl 0 rfl) ?_
            refine zi_if_ne (tgt := 125) hx hb dX7_can_117 (by decide) hf (fun hc hf => ?_) (fun hc hf => ?_)
            · skip
              refine lv_iload hx hb dX7_can_120 (lv_at hl 1 rfl) ?_
              refine lv_goto (tgt := 127) hx hb dX7_can_122 (by decide) ?_
              exact zr_i hx hb hr hlk hW (zo1 hf) (zo2 hf) dX7_can_127
            · skip
              refine lv_iload hx hb dX7_can_125 (lv_at hl 2 rfl) ?_
              exact zr_i hx hb hr hlk hW (zo1 hf) (zo2 hf) dX7_can_127
          · skip
            refine lv_bipush (v := (-3)) hx hb dX7_can_48 (by decide) ?_
            exact zr_i hx hb hr hlk hW (zo1 hf) (zo2 hf) dX7_can_50
      · skip
        refine lv_iconst (v := (-1)) hx hb dX7_can_23 (by decide) ?_
        exact zr_i hx hb hr hlk hW (zo1 hf) (zo2 hf) dX7_can_24
set_option maxHeartbeats 4000000 in
set_option maxRecDepth 100000 in
theorem mX7_fraction {l : Launch} {D : va_G} {cI cJ : ClassId} {adr : Nat → Nat} {u : Nat} (p1 : Int32) (p2 : Int32) (p3 : Int32) (s0 : zkS) {z : Nat} {ro : Int64} (hI : zInj u adr) (hf : fX7_fraction p1 p2 p3 = some ro) : Met l yX7_fraction (Cond.code yX7_fraction cX7_fraction 5 (some .long) :: zTb) { frames := 0, cells := 0, slots := 0, locals := 0 } (zPre u D cI cJ adr s0 z [.int p1, .int p2, .int p3]) (zQl u D cI cJ adr z ro s0) 0 0 (zA u adr z) := by
  refine zen (cc := cX7_fraction) (own := RX7) (by decide +kernel) rfl hI (Nat.le_of_ble_eq_true rfl) (fun p e s m args below meth c ls hC hr hlk hz hl hW => ?_)
  subst hz
  obtain ⟨hx, hb, -⟩ := id hC
  have hl : lv_has ls 5 [(0, .int p1), (1, .int p2), (2, .int p3)] := hl
  refine zst hW (fun H locs hW => ?_)
  unfold fX7_fraction at hf
  refine lv_iload_n hx hb dX7_fraction_0 rfl (lv_at hl 1 rfl) ?_
  refine zi_if_le (tgt := 13) hx hb dX7_fraction_1 (by decide) hf (fun hc hf => ?_) (fun hc hf => ?_)
  · skip
    refine lv_ldc2 hx hb hC.2.2.2.1 (hC.2.2.2.2.1 _ wq_701) dX7_fraction_13 ?_
    exact zr_l hx hb hr hlk hW (Option.some.inj hf) rfl dX7_fraction_16
  · skip
    refine lv_iload_n hx hb dX7_fraction_4 rfl (lv_at hl 2 rfl) ?_
    refine zi_if_lt (tgt := 13) hx hb dX7_fraction_5 (by decide) hf (fun hc hf => ?_) (fun hc hf => ?_)
    · skip
      refine lv_ldc2 hx hb hC.2.2.2.1 (hC.2.2.2.2.1 _ wq_701) dX7_fraction_13 ?_
      exact zr_l hx hb hr hlk hW (Option.some.inj hf) rfl dX7_fraction_16
    · skip
      refine lv_iload_n hx hb dX7_fraction_8 rfl (lv_at hl 2 rfl) ?_
      refine lv_iconst (v := 1) hx hb dX7_fraction_9 (by decide) ?_
      refine zi_icmp_le (tgt := 17) hx hb dX7_fraction_10 (by decide) hf (fun hc hf => ?_) (fun hc hf => ?_)
      · skip
        refine lv_iload_n hx hb dX7_fraction_17 rfl (lv_at hl 2 rfl) ?_
        refine zjn_e hf (fun J1 => ∀ (v2 : Int32) (H : Heap) (locs : List Loc) (ls : Array Slot), J1 v2 = some ro → zWo u D cI cJ adr s s0 H locs → lv_has ls 5 [(0, .int p1), (1, .int p2)] → W p l e { frames := 0, cells := 0, slots := 0, locals := 0 } s m args below meth c H locs 0 0 (MQ below (zQl u D cI cJ adr s.heap.size ro s0) args s 0 0 (zA u adr s.heap.size)) (F0 m 26 ls [.int v2])) ?_ (fun J1 hJ1 hf => ?_)
        · intro v2 H locs ls hf hW hl
          refine lv_istore_n (lv' := [(3, .int v2), (0, .int p1), (1, .int p2)]) hx hb dX7_fraction_26 rfl hl (by decide) rfl (fun ls hl => ?_)
          refine lv_iload_n hx hb dX7_fraction_27 rfl (lv_at hl 2 rfl) ?_
          refine lv_istore (lv' := [(4, .int p2), (3, .int v2), (0, .int p1), (1, .int p2)]) hx hb dX7_fraction_28 hl (by decide) rfl (fun ls hl => ?_)
          have hL30 : ∀ (n : Nat) (x0 : Int32) (x1 : Int32) (x3 : Int32) (x4 : Int32) (K30 : Unit → Option (Int64)) (H : Heap) (locs : List Loc) (ls : Array Slot), fX7_fraction_L30 n x0 x1 x3 x4 K30 = some ro → zWo u D cI cJ adr s s0 H locs → lv_has ls 5 [(0, .int x0), (1, .int x1), (3, .int x3), (4, .int x4)] → (∀  (H : Heap) (locs : List Loc) (ls : Array Slot), K30 () = some ro → zWo u D cI cJ adr s s0 H locs → lv_has ls 5 [(3, .int x3)] → W p l e { frames := 0, cells := 0, slots := 0, locals := 0 } s m args below meth c H locs 0 0 (MQ below (zQl u D cI cJ adr s.heap.size ro s0) args s 0 0 (zA u adr s.heap.size)) (F0 m 62 ls [])) → W p l e { frames := 0, cells := 0, slots := 0, locals := 0 } s m args below meth c H locs 0 0 (MQ below (zQl u D cI cJ adr s.heap.size ro s0) args s 0 0 (zA u adr s.heap.size)) (F0 m 30 ls []) := by
            intro n
            induction n with
            | zero =>
              intro x0 x1 x3 x4 K30 H locs ls hf hW hl hK30
              rw [fX7_fraction_L30] at hf
              cases hf
            | succ n ih30 =>
              intro x0 x1 x3 x4 K30 H locs ls hf hW hl hK30
              rw [fX7_fraction_L30] at hf
              refine lv_iload hx hb dX7_fraction_30 (lv_at hl 3 rfl) ?_
              refine lv_iconst (v := 1) hx hb dX7_fraction_32 (by decide) ?_
              refine zi_icmp_le (tgt := 62) hx hb dX7_fraction_33 (by decide) hf (fun hc hf => ?_) (fun hc hf => ?_)
              · skip
                exact hK30  H locs ls hf hW (lv_sub hl [2] rfl)
              · skip
                refine lv_iload_n hx hb dX7_fraction_36 rfl (lv_at hl 0 rfl) ?_
                refine lv_iload hx hb dX7_fraction_37 (lv_at hl 3 rfl) ?_
                refine zd_r hx hb hf dX7_fraction_39 (fun v3 hf => ?_)
                refine zi_if_ne (tgt := 56) hx hb dX7_fraction_40 (by decide) hf (fun hc hf => ?_) (fun hc hf => ?_)
                · skip
                  refine lv_iload_n hx hb dX7_fraction_43 rfl (lv_at hl 1 rfl) ?_
                  refine lv_iload hx hb dX7_fraction_44 (lv_at hl 3 rfl) ?_
                  refine zd_r hx hb hf dX7_fraction_46 (fun v4 hf => ?_)
                  refine zi_if_ne (tgt := 56) hx hb dX7_fraction_47 (by decide) hf (fun hc hf => ?_) (fun hc hf => ?_)
                  · skip
                    refine lv_iload_n hx hb dX7_fraction_50 rfl (lv_at hl 2 rfl) ?_
                    refine lv_iload hx hb dX7_fraction_51 (lv_at hl 3 rfl) ?_
                    refine zd_i hx hb hf dX7_fraction_53 (fun v5 hf => ?_)
                    refine lv_i2l hx hb dX7_fraction_54 rfl ?_
                    exact zr_l hx hb hr hlk hW (Option.some.inj hf) rfl dX7_fraction_55
                  · skip
                    refine zi_inc (v := (x4 + (-1))) (lv' := fun v6 => [(4, .int v6), (0, .int x0), (1, .int x1), (3, .int x3)]) hx hb dX7_fraction_56 hl (k := 3) rfl rfl (by decide) (fun _ => rfl) hf (fun v6 ls hf hl => ?_)
                    refine lv_goto (tgt := 30) hx hb dX7_fraction_59 (by decide) ?_
                    exact ih30 x0 x1 x3 v6 _ H locs ls hf hW (lv_sub hl [1, 2, 3, 0] rfl) hK30
                · skip
                  refine zi_inc (v := (x4 + (-1))) (lv' := fun v7 => [(4, .int v7), (0, .int x0), (1, .int x1), (3, .int x3)]) hx hb dX7_fraction_56 hl (k := 3) rfl rfl (by decide) (fun _ => rfl) hf (fun v7 ls hf hl => ?_)
                  refine lv_goto (tgt := 30) hx hb dX7_fraction_59 (by decide) ?_
                  exact ih30 x0 x1 x3 v7 _ H locs ls hf hW (lv_sub hl [1, 2, 3, 0] rfl) hK30
          refine hL30 zFU p1 p2 v2 p2 _ H locs ls hf hW (lv_sub hl [2, 3, 1, 0] rfl) (fun  H locs ls hf hW hl => ?_)
          refine lv_iload_n hx hb dX7_fraction_62 rfl (lv_at hl 0 rfl) ?_
          refine lv_i2l hx hb dX7_fraction_63 rfl ?_
          exact zr_l hx hb hr hlk hW (Option.some.inj hf) rfl dX7_fraction_64
        refine zi_if_ne (tgt := 25) hx hb dX7_fraction_18 (by decide) hf (fun hc hf => ?_) (fun hc hf => ?_)
        · skip
          refine lv_iload_n hx hb dX7_fraction_21 rfl (lv_at hl 0 rfl) ?_
          refine lv_goto (tgt := 26) hx hb dX7_fraction_22 (by decide) ?_
          exact hJ1 p1 H locs ls hf hW (lv_sub hl [0, 1] rfl)
        · skip
          refine lv_iload_n hx hb dX7_fraction_25 rfl (lv_at hl 1 rfl) ?_
          exact hJ1 p2 H locs ls hf hW (lv_sub hl [0, 1] rfl)
      · skip
        refine lv_ldc2 hx hb hC.2.2.2.1 (hC.2.2.2.2.1 _ wq_701) dX7_fraction_13 ?_
        exact zr_l hx hb hr hlk hW (Option.some.inj hf) rfl dX7_fraction_16
set_option maxHeartbeats 4000000 in
set_option maxRecDepth 100000 in
theorem mX7_odds {l : Launch} {D : va_G} {cI cJ : ClassId} {adr : Nat → Nat} (p1 : Int32) (p2 : Int32) (s0 : zkS) {z : Nat} {ro : Int64} {so : zkS} (hI : zInj 0 adr) (hf : fX7_odds p1 p2 s0 = some (ro, so)) : Met l yX7_odds (Cond.code yX7_odds cX7_odds 8 (some .long) :: zTb) { frames := 4, cells := 0, slots := 0, locals := 94 } (zPre 0 D cI cJ adr s0 z [.ref (adr 0), .int p1, .int p2]) (zQl 0 D cI cJ adr z ro so) 0 0 (zA 0 adr z) := by
  refine zen (cc := cX7_odds) (own := RX7) (by decide +kernel) rfl hI (Nat.le_of_ble_eq_true rfl) (fun p e s m args below meth c ls hC hr hlk hz hl hW => ?_)
  subst hz
  obtain ⟨hx, hb, -⟩ := id hC
  have hl : lv_has ls 8 [(0, .ref (adr 0)), (1, .int p1), (2, .int p2)] := hl
  refine zst hW (fun H locs hW => ?_)
  unfold fX7_odds at hf
  refine lv_aload_n hx hb dX7_odds_0 rfl (lv_at hl 0 rfl) ?_
  refine zg_a (o := 0) hC hW fl_X7_12 zck_0_0 zcs_0_0 (show _ = 1 from rfl) dX7_odds_1 ?_
  refine zg_a (o := 0) hC hW fl_X7_74 (zE_k zEc_1) (zE_s zEc_1) (show _ = 2 from rfl) dX7_odds_4 ?_
  refine lv_astore_n (lv' := [(3, .ref (adr 2)), (0, .ref (adr 0)), (1, .int p1), (2, .int p2)]) hx hb dX7_odds_7 rfl hl (by decide) rfl (fun ls hl => ?_)
  refine lv_aload_n hx hb dX7_odds_8 rfl (lv_at hl 0 rfl) ?_
  refine lv_iload_n hx hb dX7_odds_9 rfl (lv_at hl 2 rfl) ?_
  refine zc_i hW (zrun_v (As := [.int p1]) (rest := []) hC hW (mX0_isThere zGc_2 p1 s0 hC.2.2.2.2.2.2.2 rfl) cv_X7_88 (zG_k zGc_2) (zG_s zGc_2) rfl ⟨⟨rfl, rfl⟩, Nat.le_of_ble_eq_true rfl, Nat.le_of_ble_eq_true rfl⟩ (zlv_size hl) rfl (Nat.le_of_ble_eq_true rfl) dX7_odds_10 ⟨Nat.le_refl _, Nat.le_refl _⟩) (fun H locs hW => ?_)
  refine zi_if_ne (tgt := 20) hx hb dX7_odds_13 (by decide) hf (fun hc hf => ?_) (fun hc hf => ?_)
  · skip
    refine lv_ldc2 hx hb hC.2.2.2.1 (hC.2.2.2.2.1 _ wq_701) dX7_odds_16 ?_
    exact zr_l hx hb hr hlk hW (zo1 hf) (zo2 hf) dX7_odds_19
  · skip
    refine lv_aload_n hx hb dX7_odds_20 rfl (lv_at hl 1 rfl) ?_
    refine zg_a (o := 41) hC hW fl_X7_42 zck_0_0 zcs_0_0 (show _ = 42 from rfl) dX7_odds_21 ?_
    refine lv_aload_n hx hb dX7_odds_24 rfl (lv_at hl 0 rfl) ?_
    obtain ⟨s2, hq, hf⟩ := zb1_o hf
    refine zc_v hW (zrun_v (As := [.ref (adr 2)]) (rest := []) hC hW (mX1_readFrom zGc_2 s0 hC.2.2.2.2.2.2.2 hq) cv_X7_219 zck_0_42 zcs_0_42 rfl ⟨⟨rfl, rfl⟩, Nat.le_of_ble_eq_true rfl, Nat.le_of_ble_eq_true rfl⟩ (zlv_size hl) rfl (Nat.le_of_ble_eq_true rfl) dX7_odds_25 ⟨Nat.le_refl _, Nat.le_refl _⟩) (fun H locs hW => ?_)
    refine lv_iconst (v := 0) hx hb dX7_odds_28 (by decide) ?_
    refine lv_istore (lv' := [(4, .int 0), (3, .ref (adr 2)), (0, .ref (adr 0)), (1, .int p1), (2, .int p2)]) hx hb dX7_odds_29 hl (by decide) rfl (fun ls hl => ?_)
    refine lv_iconst (v := 0) hx hb dX7_odds_31 (by decide) ?_
    refine lv_istore (lv' := [(5, .int 0), (4, .int 0), (3, .ref (adr 2)), (0, .ref (adr 0)), (1, .int p1), (2, .int p2)]) hx hb dX7_odds_32 hl (by decide) rfl (fun ls hl => ?_)
    refine lv_iconst (v := 0) hx hb dX7_odds_34 (by decide) ?_
    refine lv_istore (lv' := [(6, .int 0), (5, .int 0), (4, .int 0), (3, .ref (adr 2)), (0, .ref (adr 0)), (1, .int p1), (2, .int p2)]) hx hb dX7_odds_35 hl (by decide) rfl (fun ls hl => ?_)
    have hL37 : ∀ (n : Nat) (x1 : Int32) (x4 : Int32) (x5 : Int32) (x6 : Int32) (s3 : zkS) (K37 : Int32 → Int32 → zkS → Option (Int64 × zkS)) (H : Heap) (locs : List Loc) (ls : Array Slot), fX7_odds_L37 n x1 x4 x5 x6 s3 K37 = some (ro, so) → zWo 0 D cI cJ adr s s3 H locs → lv_has ls 8 [(0, .ref (adr 0)), (1, .int x1), (2, .int p2), (3, .ref (adr 2)), (4, .int x4), (5, .int x5), (6, .int x6)] → (∀ (x4 : Int32) (x5 : Int32) (s3 : zkS) (H : Heap) (locs : List Loc) (ls : Array Slot), K37 x4 x5 s3 = some (ro, so) → zWo 0 D cI cJ adr s s3 H locs → lv_has ls 8 [(2, .int p2), (4, .int x4), (5, .int x5)] → W p l e { frames := 4, cells := 0, slots := 0, locals := 94 } s m args below meth c H locs 0 0 (MQ below (zQl 0 D cI cJ adr s.heap.size ro so) args s 0 0 (zA 0 adr s.heap.size)) (F0 m 110 ls [])) → W p l e { frames := 4, cells := 0, slots := 0, locals := 94 } s m args below meth c H locs 0 0 (MQ below (zQl 0 D cI cJ adr s.heap.size ro so) args s 0 0 (zA 0 adr s.heap.size)) (F0 m 37 ls []) := by
      intro n
      induction n with
      | zero =>
        intro x1 x4 x5 x6 s3 K37 H locs ls hf hW hl hK37
        rw [fX7_odds_L37] at hf
        cases hf
      | succ n ih37 =>
        intro x1 x4 x5 x6 s3 K37 H locs ls hf hW hl hK37
        rw [fX7_odds_L37] at hf
        refine lv_iload hx hb dX7_odds_37 (lv_at hl 6 rfl) ?_
        refine lv_bipush (v := 24) hx hb dX7_odds_39 (by decide) ?_
        refine zi_icmp_ge (tgt := 110) hx hb dX7_odds_41 (by decide) hf (fun hc hf => ?_) (fun hc hf => ?_)
        · skip
          exact hK37 x4 x5 s3 H locs ls hf hW (lv_sub hl [2, 4, 5] rfl)
        · skip
          refine lv_iconst (v := 0) hx hb dX7_odds_44 (by decide) ?_
          refine lv_istore (lv' := [(7, .int 0), (0, .ref (adr 0)), (1, .int x1), (2, .int p2), (3, .ref (adr 2)), (4, .int x4), (5, .int x5), (6, .int x6)]) hx hb dX7_odds_45 hl (by decide) rfl (fun ls hl => ?_)
          have hL47 : ∀ (n : Nat) (x1 : Int32) (x6 : Int32) (x4 : Int32) (x5 : Int32) (x7 : Int32) (s4 : zkS) (K47 : Int32 → Int32 → zkS → Option (Int64 × zkS)) (H : Heap) (locs : List Loc) (ls : Array Slot), fX7_odds_L47 n x1 x6 x4 x5 x7 s4 K47 = some (ro, so) → zWo 0 D cI cJ adr s s4 H locs → lv_has ls 8 [(0, .ref (adr 0)), (1, .int x1), (2, .int p2), (3, .ref (adr 2)), (4, .int x4), (5, .int x5), (6, .int x6), (7, .int x7)] → (∀ (x4 : Int32) (x5 : Int32) (s4 : zkS) (H : Heap) (locs : List Loc) (ls : Array Slot), K47 x4 x5 s4 = some (ro, so) → zWo 0 D cI cJ adr s s4 H locs → lv_has ls 8 [(0, .ref (adr 0)), (1, .int x1), (2, .int p2), (3, .ref (adr 2)), (4, .int x4), (5, .int x5), (6, .int x6)] → W p l e { frames := 4, cells := 0, slots := 0, locals := 94 } s m args below meth c H locs 0 0 (MQ below (zQl 0 D cI cJ adr s.heap.size ro so) args s 0 0 (zA 0 adr s.heap.size)) (F0 m 104 ls [])) → W p l e { frames := 4, cells := 0, slots := 0, locals := 94 } s m args below meth c H locs 0 0 (MQ below (zQl 0 D cI cJ adr s.heap.size ro so) args s 0 0 (zA 0 adr s.heap.size)) (F0 m 47 ls []) := by
            intro n
            induction n with
            | zero =>
              intro x1 x6 x4 x5 x7 s4 K47 H locs ls hf hW hl hK47
              rw [fX7_odds_L47] at hf
              cases hf
            | succ n ih47 =>
              intro x1 x6 x4 x5 x7 s4 K47 H locs ls hf hW hl hK47
              rw [fX7_odds_L47] at hf
              refine lv_iload hx hb dX7_odds_47 (lv_at hl 7 rfl) ?_
              refine lv_aload_n hx hb dX7_odds_49 rfl (lv_at hl 3 rfl) ?_
              refine lv_iload hx hb dX7_odds_50 (lv_at hl 6 rfl) ?_
              obtain ⟨v5, hq, hf⟩ := zb1_o hf
              refine zc_i hW (zrun_v (As := [.int x6]) (rest := [.int x7]) hC hW (mX0_sizeOf zGc_2 x6 s4 hC.2.2.2.2.2.2.2 hq) cv_X7_98 (zG_k zGc_2) (zG_s zGc_2) rfl ⟨⟨rfl, rfl⟩, Nat.le_of_ble_eq_true rfl, Nat.le_of_ble_eq_true rfl⟩ (zlv_size hl) rfl (Nat.le_of_ble_eq_true rfl) dX7_odds_52 ⟨Nat.le_refl _, Nat.le_refl _⟩) (fun H locs hW => ?_)
              refine zi_icmp_ge (tgt := 104) hx hb dX7_odds_55 (by decide) hf (fun hc hf => ?_) (fun hc hf => ?_)
              · skip
                exact hK47 x4 x5 s4 H locs ls hf hW (lv_sub hl [0, 1, 2, 3, 4, 5, 6] rfl)
              · skip
                refine lv_aload_n hx hb dX7_odds_58 rfl (lv_at hl 3 rfl) ?_
                refine lv_iload hx hb dX7_odds_59 (lv_at hl 6 rfl) ?_
                refine lv_iload hx hb dX7_odds_61 (lv_at hl 7 rfl) ?_
                obtain ⟨v6, hq, hf⟩ := zb1_o hf
                refine zc_i hW (zrun_v (As := [.int x6, .int x7]) (rest := []) hC hW (mX0_leadsTo zGc_2 x6 x7 s4 hC.2.2.2.2.2.2.2 hq) cv_X7_262 (zG_k zGc_2) (zG_s zGc_2) rfl ⟨⟨rfl, rfl⟩, Nat.le_of_ble_eq_true rfl, Nat.le_of_ble_eq_true rfl⟩ (zlv_size hl) rfl (Nat.le_of_ble_eq_true rfl) dX7_odds_63 ⟨Nat.le_refl _, Nat.le_refl _⟩) (fun H locs hW => ?_)
                refine lv_bipush (v := (-5)) hx hb dX7_odds_66 (by decide) ?_
                refine zi_icmp_eq (tgt := 98) hx hb dX7_odds_68 (by decide) hf (fun hc hf => ?_) (fun hc hf => ?_)
                · skip
                  refine zi_inc (v := (x7 + 1)) (lv' := fun v7 => [(7, .int v7), (0, .ref (adr 0)), (1, .int x1), (2, .int p2), (3, .ref (adr 2)), (4, .int x4), (5, .int x5), (6, .int x6)]) hx hb dX7_odds_98 hl (k := 7) rfl rfl (by decide) (fun _ => rfl) hf (fun v7 ls hf hl => ?_)
                  refine lv_goto (tgt := 47) hx hb dX7_odds_101 (by decide) ?_
                  exact ih47 x1 x6 x4 x5 v7 s4 _ H locs ls hf hW (lv_sub hl [1, 2, 3, 4, 5, 6, 7, 0] rfl) hK47
                · skip
                  refine zi_inc (v := (x4 + 1)) (lv' := fun v8 => [(4, .int v8), (0, .ref (adr 0)), (1, .int x1), (2, .int p2), (3, .ref (adr 2)), (5, .int x5), (6, .int x6), (7, .int x7)]) hx hb dX7_odds_71 hl (k := 4) rfl rfl (by decide) (fun _ => rfl) hf (fun v8 ls hf hl => ?_)
                  refine lv_iload hx hb dX7_odds_74 (lv_at hl 5 rfl) ?_
                  refine lv_aload_n hx hb dX7_odds_76 rfl (lv_at hl 1 rfl) ?_
                  refine zg_a (o := 41) hC hW fl_X7_42 zck_0_0 zcs_0_0 (show _ = 42 from rfl) dX7_odds_77 ?_
                  refine lv_aload_n hx hb dX7_odds_80 rfl (lv_at hl 4 rfl) ?_
                  refine lv_iload hx hb dX7_odds_81 (lv_at hl 6 rfl) ?_
                  refine lv_iload hx hb dX7_odds_83 (lv_at hl 7 rfl) ?_
                  obtain ⟨v9, s10, hq, hf⟩ := zb2_o hf
                  refine zc_i hW (zrun_v (As := [.ref (adr 2), .int x6, .int x7]) (rest := [.int x5]) hC hW (mX1_reachedWithout zGc_2 x6 x7 s4 hC.2.2.2.2.2.2.2 hq) cv_X7_265 zck_0_42 zcs_0_42 rfl ⟨⟨rfl, rfl⟩, Nat.le_of_ble_eq_true rfl, Nat.le_of_ble_eq_true rfl⟩ (zlv_size hl) rfl (Nat.le_of_ble_eq_true rfl) dX7_odds_85 ⟨Nat.le_refl _, Nat.le_refl _⟩) (fun H locs hW => ?_)
                  refine lv_iload_n hx hb dX7_odds_88 rfl (lv_at hl 2 rfl) ?_
                  refine zc_i hW (zrun_s (As := [.int v9, .int x1]) (rest := [.int x5]) hC hW (mX7_has v9 x1 s10 hC.2.2.2.2.2.2.2 rfl) cs_X7_104 rfl ⟨⟨rfl, rfl⟩, Nat.le_of_ble_eq_true rfl, Nat.le_of_ble_eq_true rfl⟩ (zlv_size hl) rfl (Nat.le_of_ble_eq_true rfl) dX7_odds_89 ⟨Nat.le_refl _, Nat.le_refl _⟩) (fun H locs hW => ?_)
                  refine zc_i hW (zrun_s (As := [.int (fX7_has v9 x1)]) (rest := [.int x5]) hC hW (mX7_asNumber (fX7_has v9 x1) s10 hC.2.2.2.2.2.2.2 rfl) cs_X7_108 rfl ⟨⟨rfl, rfl⟩, Nat.le_of_ble_eq_true rfl, Nat.le_of_ble_eq_true rfl⟩ (zlv_size hl) rfl (Nat.le_of_ble_eq_true rfl) dX7_odds_92 ⟨Nat.le_refl _, Nat.le_refl _⟩) (fun H locs hW => ?_)
                  refine lv_iadd hx hb dX7_odds_95 ?_
                  refine zn_i hf (fun v13 hf => ?_)
                  refine lv_istore (lv' := [(5, .int v13), (4, .int v8), (0, .ref (adr 0)), (1, .int x1), (2, .int p2), (3, .ref (adr 2)), (6, .int x6), (7, .int x7)]) hx hb dX7_odds_96 hl (by decide) rfl (fun ls hl => ?_)
                  refine zi_inc (v := (x7 + 1)) (lv' := fun v14 => [(7, .int v14), (5, .int v13), (4, .int v8), (0, .ref (adr 0)), (1, .int x1), (2, .int p2), (3, .ref (adr 2)), (6, .int x6)]) hx hb dX7_odds_98 hl (k := 7) rfl rfl (by decide) (fun _ => rfl) hf (fun v14 ls hf hl => ?_)
                  refine lv_goto (tgt := 47) hx hb dX7_odds_101 (by decide) ?_
                  exact ih47 x1 x6 v8 v13 v14 s10 _ H locs ls hf hW (lv_sub hl [3, 4, 5, 6, 2, 1, 7, 0] rfl) hK47
          refine hL47 zFU x1 x6 x4 x5 0 s3 _ H locs ls hf hW (lv_sub hl [1, 2, 3, 4, 5, 6, 7, 0] rfl) (fun x15 x16 s17 H locs ls hf hW hl => ?_)
          refine zi_inc (v := (x6 + 1)) (lv' := fun v18 => [(6, .int v18), (0, .ref (adr 0)), (1, .int x1), (2, .int p2), (3, .ref (adr 2)), (4, .int x15), (5, .int x16)]) hx hb dX7_odds_104 hl (k := 6) rfl rfl (by decide) (fun _ => rfl) hf (fun v18 ls hf hl => ?_)
          refine lv_goto (tgt := 37) hx hb dX7_odds_107 (by decide) ?_
          exact ih37 x1 x15 x16 v18 s17 _ H locs ls hf hW (lv_sub hl [1, 2, 3, 4, 5, 6, 0] rfl) hK37
    refine hL37 zFU p1 0 0 0 s2 _ H locs ls hf hW (lv_sub hl [4, 5, 6, 3, 2, 1, 0] rfl) (fun x19 x20 s21 H locs ls hf hW hl => ?_)
    refine lv_iload hx hb dX7_odds_110 (lv_at hl 2 rfl) ?_
    refine lv_iload hx hb dX7_odds_112 (lv_at hl 1 rfl) ?_
    refine lv_iload_n hx hb dX7_odds_114 rfl (lv_at hl 0 rfl) ?_
    obtain ⟨v22, hq, hf⟩ := zb1_o hf
    refine zc_l hW (zrun_s (As := [.int x20, .int x19, .int p2]) (rest := []) hC hW (mX7_fraction x20 x19 p2 s21 hC.2.2.2.2.2.2.2 hq) cs_X7_269 rfl ⟨⟨rfl, rfl⟩, Nat.le_of_ble_eq_true rfl, Nat.le_of_ble_eq_true rfl⟩ (zlv_size hl) rfl (Nat.le_of_ble_eq_true rfl) dX7_odds_115 ⟨Nat.le_refl _, Nat.le_refl _⟩) (fun H locs hW => ?_)
    exact zr_l hx hb hr hlk hW (zo1 hf) (zo2 hf) dX7_odds_118
set_option maxHeartbeats 4000000 in
set_option maxRecDepth 100000 in
theorem mX7_mean {l : Launch} {D : va_G} {cI cJ : ClassId} {adr : Nat → Nat} (p1 : Int32) (s0 : zkS) {z : Nat} {ro : Int64} {so : zkS} (hI : zInj 0 adr) (hf : fX7_mean p1 s0 = some (ro, so)) : Met l yX7_mean (Cond.code yX7_mean cX7_mean 4 (some .long) :: zTb) { frames := 4, cells := 0, slots := 0, locals := 91 } (zPre 0 D cI cJ adr s0 z [.ref (adr 0), .int p1]) (zQl 0 D cI cJ adr z ro so) 0 0 (zA 0 adr z) := by
  refine zen (cc := cX7_mean) (own := RX7) (by decide +kernel) rfl hI (Nat.le_of_ble_eq_true rfl) (fun p e s m args below meth c ls hC hr hlk hz hl hW => ?_)
  subst hz
  obtain ⟨hx, hb, -⟩ := id hC
  have hl : lv_has ls 4 [(0, .ref (adr 0)), (1, .int p1)] := hl
  refine zst hW (fun H locs hW => ?_)
  unfold fX7_mean at hf
  refine lv_aload_n hx hb dX7_mean_0 rfl (lv_at hl 0 rfl) ?_
  refine zg_a (o := 41) hC hW fl_X7_42 zck_0_0 zcs_0_0 (show _ = 42 from rfl) dX7_mean_1 ?_
  refine lv_aload_n hx hb dX7_mean_4 rfl (lv_at hl 0 rfl) ?_
  refine zg_a (o := 0) hC hW fl_X7_12 zck_0_0 zcs_0_0 (show _ = 1 from rfl) dX7_mean_5 ?_
  refine zg_a (o := 0) hC hW fl_X7_74 (zE_k zEc_1) (zE_s zEc_1) (show _ = 2 from rfl) dX7_mean_8 ?_
  obtain ⟨s1, hq, hf⟩ := zb1_o hf
  refine zc_v hW (zrun_v (As := [.ref (adr 2)]) (rest := []) hC hW (mX1_readFrom zGc_2 s0 hC.2.2.2.2.2.2.2 hq) cv_X7_219 zck_0_42 zcs_0_42 rfl ⟨⟨rfl, rfl⟩, Nat.le_of_ble_eq_true rfl, Nat.le_of_ble_eq_true rfl⟩ (zlv_size hl) rfl (Nat.le_of_ble_eq_true rfl) dX7_mean_11 ⟨Nat.le_refl _, Nat.le_refl _⟩) (fun H locs hW => ?_)
  refine lv_iconst (v := 0) hx hb dX7_mean_14 (by decide) ?_
  refine lv_istore_n (lv' := [(2, .int 0), (0, .ref (adr 0)), (1, .int p1)]) hx hb dX7_mean_15 rfl hl (by decide) rfl (fun ls hl => ?_)
  refine lv_iconst (v := 0) hx hb dX7_mean_16 (by decide) ?_
  refine lv_istore_n (lv' := [(3, .int 0), (2, .int 0), (0, .ref (adr 0)), (1, .int p1)]) hx hb dX7_mean_17 rfl hl (by decide) rfl (fun ls hl => ?_)
  have hL18 : ∀ (n : Nat) (x2 : Int32) (x3 : Int32) (K18 : Int32 → Option (Int64 × zkS)) (H : Heap) (locs : List Loc) (ls : Array Slot), fX7_mean_L18 n s1 x2 x3 K18 = some (ro, so) → zWo 0 D cI cJ adr s s1 H locs → lv_has ls 4 [(0, .ref (adr 0)), (1, .int p1), (2, .int x2), (3, .int x3)] → (∀ (x2 : Int32) (H : Heap) (locs : List Loc) (ls : Array Slot), K18 x2 = some (ro, so) → zWo 0 D cI cJ adr s s1 H locs → lv_has ls 4 [(0, .ref (adr 0)), (1, .int p1), (2, .int x2)] → W p l e { frames := 4, cells := 0, slots := 0, locals := 91 } s m args below meth c H locs 0 0 (MQ below (zQl 0 D cI cJ adr s.heap.size ro so) args s 0 0 (zA 0 adr s.heap.size)) (F0 m 45 ls [])) → W p l e { frames := 4, cells := 0, slots := 0, locals := 91 } s m args below meth c H locs 0 0 (MQ below (zQl 0 D cI cJ adr s.heap.size ro so) args s 0 0 (zA 0 adr s.heap.size)) (F0 m 18 ls []) := by
    intro n
    induction n with
    | zero =>
      intro x2 x3 K18 H locs ls hf hW hl hK18
      rw [fX7_mean_L18] at hf
      cases hf
    | succ n ih18 =>
      intro x2 x3 K18 H locs ls hf hW hl hK18
      rw [fX7_mean_L18] at hf
      refine lv_iload_n hx hb dX7_mean_18 rfl (lv_at hl 3 rfl) ?_
      refine lv_bipush (v := 24) hx hb dX7_mean_19 (by decide) ?_
      refine zi_icmp_ge (tgt := 45) hx hb dX7_mean_21 (by decide) hf (fun hc hf => ?_) (fun hc hf => ?_)
      · skip
        exact hK18 x2 H locs ls hf hW (lv_sub hl [0, 1, 2] rfl)
      · skip
        refine lv_iload_n hx hb dX7_mean_24 rfl (lv_at hl 2 rfl) ?_
        refine lv_aload_n hx hb dX7_mean_25 rfl (lv_at hl 0 rfl) ?_
        refine zg_a (o := 41) hC hW fl_X7_42 zck_0_0 zcs_0_0 (show _ = 42 from rfl) dX7_mean_26 ?_
        refine lv_iload_n hx hb dX7_mean_29 rfl (lv_at hl 3 rfl) ?_
        obtain ⟨v2, hq, hf⟩ := zb1_o hf
        refine zc_i hW (zrun_v (As := [.int x3]) (rest := [.int x2]) hC hW (mX1_farOf x3 s1 hC.2.2.2.2.2.2.2 hq) cv_X7_273 zck_0_42 zcs_0_42 rfl ⟨⟨rfl, rfl⟩, Nat.le_of_ble_eq_true rfl, Nat.le_of_ble_eq_true rfl⟩ (zlv_size hl) rfl (Nat.le_of_ble_eq_true rfl) dX7_mean_30 ⟨Nat.le_refl _, Nat.le_refl _⟩) (fun H locs hW => ?_)
        refine lv_iconst (v := 0) hx hb dX7_mean_33 (by decide) ?_
        refine va_mmax hx hb (hC.2.2.1.trans (zlv_size hl).symm) hC.2.2.2.1 (hC.2.2.2.2.1 _ wq_711) (hC.2.2.2.2.1 _ wq_603) (hC.2.2.2.2.1 _ wq_50) (hC.2.2.2.2.1 _ wq_604) (Nat.le_of_ble_eq_true rfl) (Nat.le_of_ble_eq_true rfl) (Nat.le_refl _) (Nat.le_refl _) dX7_mean_34 ?_
        refine lv_iadd hx hb dX7_mean_37 ?_
        refine zn_i hf (fun v3 hf => ?_)
        refine lv_istore_n (lv' := [(2, .int v3), (0, .ref (adr 0)), (1, .int p1), (3, .int x3)]) hx hb dX7_mean_38 rfl hl (by decide) rfl (fun ls hl => ?_)
        refine zi_inc (v := (x3 + 1)) (lv' := fun v4 => [(3, .int v4), (2, .int v3), (0, .ref (adr 0)), (1, .int p1)]) hx hb dX7_mean_39 hl (k := 3) rfl rfl (by decide) (fun _ => rfl) hf (fun v4 ls hf hl => ?_)
        refine lv_goto (tgt := 18) hx hb dX7_mean_42 (by decide) ?_
        exact ih18 v3 v4 _ H locs ls hf hW (lv_sub hl [2, 3, 1, 0] rfl) hK18
  refine hL18 zFU 0 0 _ H locs ls hf hW (lv_sub hl [2, 3, 1, 0] rfl) (fun x5 H locs ls hf hW hl => ?_)
  refine lv_iload_n hx hb dX7_mean_45 rfl (lv_at hl 2 rfl) ?_
  refine lv_aload_n hx hb dX7_mean_46 rfl (lv_at hl 0 rfl) ?_
  refine zg_a (o := 41) hC hW fl_X7_42 zck_0_0 zcs_0_0 (show _ = 42 from rfl) dX7_mean_47 ?_
  obtain ⟨v6, hq, hf⟩ := zb1_o hf
  refine zc_i hW (zrun_v (As := []) (rest := [.int x5]) hC hW (mX1_reached s1 hC.2.2.2.2.2.2.2 hq) cv_X7_222 zck_0_42 zcs_0_42 rfl ⟨⟨rfl, rfl⟩, Nat.le_of_ble_eq_true rfl, Nat.le_of_ble_eq_true rfl⟩ (zlv_size hl) rfl (Nat.le_of_ble_eq_true rfl) dX7_mean_50 ⟨Nat.le_refl _, Nat.le_refl _⟩) (fun H locs hW => ?_)
  refine zc_i hW (zrun_s (As := [.int v6]) (rest := [.int x5]) hC hW (mJ6_bitCount_0f7a4 v6 s1 hC.2.2.2.2.2.2.2 rfl) cs_X7_201 rfl ⟨⟨rfl, rfl⟩, Nat.le_of_ble_eq_true rfl, Nat.le_of_ble_eq_true rfl⟩ (zlv_size hl) rfl (Nat.le_of_ble_eq_true rfl) dX7_mean_53 ⟨Nat.le_refl _, Nat.le_refl _⟩) (fun H locs hW => ?_)
  refine lv_iload_n hx hb dX7_mean_56 rfl (lv_at hl 1 rfl) ?_
  obtain ⟨v8, hq, hf⟩ := zb1_o hf
  refine zc_l hW (zrun_s (As := [.int x5, .int (fJ6_bitCount_0f7a4 v6), .int p1]) (rest := []) hC hW (mX7_fraction x5 (fJ6_bitCount_0f7a4 v6) p1 s1 hC.2.2.2.2.2.2.2 hq) cs_X7_269 rfl ⟨⟨rfl, rfl⟩, Nat.le_of_ble_eq_true rfl, Nat.le_of_ble_eq_true rfl⟩ (zlv_size hl) rfl (Nat.le_of_ble_eq_true rfl) dX7_mean_57 ⟨Nat.le_refl _, Nat.le_refl _⟩) (fun H locs hW => ?_)
  exact zr_l hx hb hr hlk hW (zo1 hf) (zo2 hf) dX7_mean_60
set_option maxHeartbeats 4000000 in
set_option maxRecDepth 100000 in
theorem mX7_isPlannable {l : Launch} {D : va_G} {cI cJ : ClassId} {adr : Nat → Nat} (p1 : Int32) (p2 : Int32) (s0 : zkS) {z : Nat} {ro : Int32} (hI : zInj 0 adr) (hf : fX7_isPlannable p1 p2 s0 = some ro) : Met l yX7_isPlannable (Cond.code yX7_isPlannable cX7_isPlannable 3 (some .boolean) :: zTb) { frames := 2, cells := 0, slots := 0, locals := 42 } (zPre 0 D cI cJ adr s0 z [.ref (adr 0), .int p1, .int p2]) (zQi 0 D cI cJ adr z ro s0) 0 0 (zA 0 adr z) := by
  refine zen (cc := cX7_isPlannable) (own := RX7) (by decide +kernel) rfl hI (Nat.le_of_ble_eq_true rfl) (fun p e s m args below meth c ls hC hr hlk hz hl hW => ?_)
  subst hz
  obtain ⟨hx, hb, -⟩ := id hC
  have hl : lv_has ls 3 [(0, .ref (adr 0)), (1, .int p1), (2, .int p2)] := hl
  refine zst hW (fun H locs hW => ?_)
  unfold fX7_isPlannable at hf
  refine lv_iload_n hx hb dX7_isPlannable_0 rfl (lv_at hl 1 rfl) ?_
  refine zi_c hf (fun h0 hf => ?_) (fun h0 hf => ?_)
  · skip
    refine zs_in (off := 27) (tgt := 28) hx hb h0 dX7_isPlannable_1 (by decide) (by decide) (by decide +kernel) (by decide) ?_
    refine lv_iload_n hx hb dX7_isPlannable_28 rfl (lv_at hl 2 rfl) ?_
    refine zi_if_lt (tgt := 57) hx hb dX7_isPlannable_29 (by decide) hf (fun hc hf => ?_) (fun hc hf => ?_)
    · skip
      refine lv_iconst (v := 0) hx hb dX7_isPlannable_57 (by decide) ?_
      exact zr_z hx hb hr hlk hW (by decide) (Option.some.inj hf) rfl dX7_isPlannable_58
    · skip
      refine lv_aload_n hx hb dX7_isPlannable_32 rfl (lv_at hl 0 rfl) ?_
      refine zg_a (o := 0) hC hW fl_X7_12 zck_0_0 zcs_0_0 (show _ = 1 from rfl) dX7_isPlannable_33 ?_
      refine zg_a (o := 0) hC hW fl_X7_74 (zE_k zEc_1) (zE_s zEc_1) (show _ = 2 from rfl) dX7_isPlannable_36 ?_
      refine lv_iload_n hx hb dX7_isPlannable_39 rfl (lv_at hl 2 rfl) ?_
      refine lv_bipush (v := 10) hx hb dX7_isPlannable_40 (by decide) ?_
      refine lv_idiv hx hb dX7_isPlannable_42 (by decide) ?_
      refine lv_iload_n hx hb dX7_isPlannable_43 rfl (lv_at hl 2 rfl) ?_
      refine lv_bipush (v := 10) hx hb dX7_isPlannable_44 (by decide) ?_
      refine lv_irem hx hb dX7_isPlannable_46 (by decide) ?_
      obtain ⟨v1, hq, hf⟩ := zb1_o hf
      refine zc_i hW (zrun_v (As := [.int (p2 / 10), .int (p2 - p2 / 10 * 10)]) (rest := []) hC hW (mX0_isField zGc_2 (p2 / 10) (p2 - p2 / 10 * 10) s0 hC.2.2.2.2.2.2.2 hq) cv_X7_130 (zG_k zGc_2) (zG_s zGc_2) rfl ⟨⟨rfl, rfl⟩, Nat.le_of_ble_eq_true rfl, Nat.le_of_ble_eq_true rfl⟩ (zlv_size hl) rfl (Nat.le_of_ble_eq_true rfl) dX7_isPlannable_47 ⟨Nat.le_refl _, Nat.le_refl _⟩) (fun H locs hW => ?_)
      refine zi_if_eq (tgt := 57) hx hb dX7_isPlannable_50 (by decide) hf (fun hc hf => ?_) (fun hc hf => ?_)
      · skip
        refine lv_iconst (v := 0) hx hb dX7_isPlannable_57 (by decide) ?_
        exact zr_z hx hb hr hlk hW (by decide) (Option.some.inj hf) rfl dX7_isPlannable_58
      · skip
        refine lv_iconst (v := 1) hx hb dX7_isPlannable_53 (by decide) ?_
        refine lv_goto (tgt := 58) hx hb dX7_isPlannable_54 (by decide) ?_
        exact zr_z hx hb hr hlk hW (by decide) (Option.some.inj hf) rfl dX7_isPlannable_58
  · skip
    refine zi_c hf (fun h1 hf => ?_) (fun h1 hf => ?_)
    · skip
      refine zs_in (off := 58) (tgt := 59) hx hb h1 dX7_isPlannable_1 (by decide) (by decide) (by decide +kernel) (by decide) ?_
      refine lv_iload_n hx hb dX7_isPlannable_59 rfl (lv_at hl 2 rfl) ?_
      refine zc_i hW (zrun_s (As := [.int p2]) (rest := []) hC hW (mX7_isRoot p2 s0 hC.2.2.2.2.2.2.2 rfl) cs_X7_156 rfl ⟨⟨rfl, rfl⟩, Nat.le_of_ble_eq_true rfl, Nat.le_of_ble_eq_true rfl⟩ (zlv_size hl) rfl (Nat.le_of_ble_eq_true rfl) dX7_isPlannable_60 ⟨Nat.le_refl _, Nat.le_refl _⟩) (fun H locs hW => ?_)
      exact zr_z hx hb hr hlk hW (z01_X7_isRoot p2) (Option.some.inj hf) rfl dX7_isPlannable_63
    · skip
      refine zi_c hf (fun h2 hf => ?_) (fun h2 hf => ?_)
      · skip
        refine zs_in (off := 63) (tgt := 64) hx hb h2 dX7_isPlannable_1 (by decide) (by decide) (by decide +kernel) (by decide) ?_
        refine lv_aload_n hx hb dX7_isPlannable_64 rfl (lv_at hl 0 rfl) ?_
        refine zg_a (o := 0) hC hW fl_X7_12 zck_0_0 zcs_0_0 (show _ = 1 from rfl) dX7_isPlannable_65 ?_
        refine zg_a (o := 0) hC hW fl_X7_74 (zE_k zEc_1) (zE_s zEc_1) (show _ = 2 from rfl) dX7_isPlannable_68 ?_
        refine lv_iload_n hx hb dX7_isPlannable_71 rfl (lv_at hl 2 rfl) ?_
        refine zc_i hW (zrun_v (As := [.int p2]) (rest := []) hC hW (mX0_isThere zGc_2 p2 s0 hC.2.2.2.2.2.2.2 rfl) cv_X7_88 (zG_k zGc_2) (zG_s zGc_2) rfl ⟨⟨rfl, rfl⟩, Nat.le_of_ble_eq_true rfl, Nat.le_of_ble_eq_true rfl⟩ (zlv_size hl) rfl (Nat.le_of_ble_eq_true rfl) dX7_isPlannable_72 ⟨Nat.le_refl _, Nat.le_refl _⟩) (fun H locs hW => ?_)
        exact zr_z hx hb hr hlk hW (z01_X0_isThere 2 p2 s0) (Option.some.inj hf) rfl dX7_isPlannable_75
      · skip
        refine lv_tableOut (tgt := 76) hx hb dX7_isPlannable_1 (by have n0 := lv_neT h0 (show (0 : Int32).toInt = 0 from rfl); have n1 := lv_neT h1 (show (1 : Int32).toInt = 1 from rfl); have n2 := lv_neT h2 (show (2 : Int32).toInt = 2 from rfl); omega) (by decide) ?_
        refine lv_iconst (v := 0) hx hb dX7_isPlannable_76 (by decide) ?_
        exact zr_z hx hb hr hlk hW (by decide) (Option.some.inj hf) rfl dX7_isPlannable_77
set_option maxHeartbeats 4000000 in
set_option maxRecDepth 100000 in
theorem mX7_plan {l : Launch} {D : va_G} {cI cJ : ClassId} {adr : Nat → Nat} (p1 : Int32) (p2 : Int32) (s0 : zkS) {z : Nat} {ro : Int32} {so : zkS} (hI : zInj 0 adr) (hf : fX7_plan p1 p2 s0 = some (ro, so)) : Met l yX7_plan (Cond.code yX7_plan cX7_plan 3 (some .int) :: zTb) { frames := 3, cells := 0, slots := 0, locals := 64 } (zPre 0 D cI cJ adr s0 z [.ref (adr 0), .int p1, .int p2]) (zQi 0 D cI cJ adr z ro so) 0 0 (zA 0 adr z) := by
  refine zen (cc := cX7_plan) (own := RX7) (by decide +kernel) rfl hI (Nat.le_of_ble_eq_true rfl) (fun p e s m args below meth c ls hC hr hlk hz hl hW => ?_)
  subst hz
  obtain ⟨hx, hb, -⟩ := id hC
  have hl : lv_has ls 3 [(0, .ref (adr 0)), (1, .int p1), (2, .int p2)] := hl
  refine zst hW (fun H locs hW => ?_)
  unfold fX7_plan at hf
  refine lv_iload_n hx hb dX7_plan_0 rfl (lv_at hl 1 rfl) ?_
  refine lv_iconst (v := (-1)) hx hb dX7_plan_1 (by decide) ?_
  refine zi_icmp_ne (tgt := 16) hx hb dX7_plan_2 (by decide) hf (fun hc hf => ?_) (fun hc hf => ?_)
  · skip
    refine lv_aload_n hx hb dX7_plan_5 rfl (lv_at hl 0 rfl) ?_
    refine zg_a (o := 0) hC hW fl_X7_12 zck_0_0 zcs_0_0 (show _ = 1 from rfl) dX7_plan_6 ?_
    refine zg_a (o := 11) hC hW fl_X7_281 (zE_k zEc_1) (zE_s zEc_1) (show _ = 13 from rfl) dX7_plan_9 ?_
    obtain ⟨v1, s2, hq, hf⟩ := zw2_o hf
    refine zc_i hW (zrun_v (As := []) (rest := []) hC hW (mX3_clear zHc_13 s0 hC.2.2.2.2.2.2.2 hq) cv_X7_247 (zH_k zHc_13) (zH_s zHc_13) rfl ⟨⟨rfl, rfl⟩, Nat.le_of_ble_eq_true rfl, Nat.le_of_ble_eq_true rfl⟩ (zlv_size hl) rfl (Nat.le_of_ble_eq_true rfl) dX7_plan_12 ⟨Nat.le_refl _, Nat.le_refl _⟩) (fun H locs hW => ?_)
    exact zr_i hx hb hr hlk hW (zo1 hf) (zo2 hf) dX7_plan_15
  · skip
    refine lv_aload_n hx hb dX7_plan_16 rfl (lv_at hl 0 rfl) ?_
    refine lv_iload_n hx hb dX7_plan_17 rfl (lv_at hl 1 rfl) ?_
    refine lv_iload_n hx hb dX7_plan_18 rfl (lv_at hl 2 rfl) ?_
    obtain ⟨v3, hq, hf⟩ := zb1_o hf
    refine zc_i hW (zrun_v (As := [.int p1, .int p2]) (rest := []) hC hW (mX7_isPlannable p1 p2 s0 hC.2.2.2.2.2.2.2 hq) cv_X7_284 zck_0_0 zcs_0_0 rfl ⟨⟨rfl, rfl⟩, Nat.le_of_ble_eq_true rfl, Nat.le_of_ble_eq_true rfl⟩ (zlv_size hl) rfl (Nat.le_of_ble_eq_true rfl) dX7_plan_19 ⟨Nat.le_refl _, Nat.le_refl _⟩) (fun H locs hW => ?_)
    refine zi_if_ne (tgt := 27) hx hb dX7_plan_22 (by decide) hf (fun hc hf => ?_) (fun hc hf => ?_)
    · skip
      refine lv_iconst (v := (-1)) hx hb dX7_plan_25 (by decide) ?_
      exact zr_i hx hb hr hlk hW (zo1 hf) (zo2 hf) dX7_plan_26
    · skip
      refine lv_aload_n hx hb dX7_plan_27 rfl (lv_at hl 0 rfl) ?_
      refine zg_a (o := 0) hC hW fl_X7_12 zck_0_0 zcs_0_0 (show _ = 1 from rfl) dX7_plan_28 ?_
      refine zg_a (o := 11) hC hW fl_X7_281 (zE_k zEc_1) (zE_s zEc_1) (show _ = 13 from rfl) dX7_plan_31 ?_
      refine zg_i hC hW fl_X7_252 (zH_k zHc_13) (zH_s zHc_13) dX7_plan_34 ?_
      refine lv_bipush (v := 10) hx hb dX7_plan_37 (by decide) ?_
      refine zi_icmp_ge (tgt := 58) hx hb dX7_plan_39 (by decide) hf (fun hc hf => ?_) (fun hc hf => ?_)
      · skip
        refine lv_bipush (v := (-4)) hx hb dX7_plan_58 (by decide) ?_
        exact zr_i hx hb hr hlk hW (zo1 hf) (zo2 hf) dX7_plan_60
      · skip
        refine lv_aload_n hx hb dX7_plan_42 rfl (lv_at hl 0 rfl) ?_
        refine zg_a (o := 0) hC hW fl_X7_12 zck_0_0 zcs_0_0 (show _ = 1 from rfl) dX7_plan_43 ?_
        refine zg_a (o := 11) hC hW fl_X7_281 (zE_k zEc_1) (zE_s zEc_1) (show _ = 13 from rfl) dX7_plan_46 ?_
        refine lv_iload_n hx hb dX7_plan_49 rfl (lv_at hl 1 rfl) ?_
        refine lv_iload_n hx hb dX7_plan_50 rfl (lv_at hl 2 rfl) ?_
        refine lv_iconst (v := 0) hx hb dX7_plan_51 (by decide) ?_
        obtain ⟨v4, s5, hq, hf⟩ := zb2_o hf
        refine zc_i hW (zrun_v (As := [.int p1, .int p2, .int 0]) (rest := []) hC hW (mX3_add zHc_13 p1 p2 0 s0 hC.2.2.2.2.2.2.2 hq) cv_X7_255 (zH_k zHc_13) (zH_s zHc_13) rfl ⟨⟨rfl, rfl⟩, Nat.le_of_ble_eq_true rfl, Nat.le_of_ble_eq_true rfl⟩ (zlv_size hl) rfl (Nat.le_of_ble_eq_true rfl) dX7_plan_52 ⟨Nat.le_refl _, Nat.le_refl _⟩) (fun H locs hW => ?_)
        refine lv_goto (tgt := 60) hx hb dX7_plan_55 (by decide) ?_
        exact zr_i hx hb hr hlk hW (zo1 hf) (zo2 hf) dX7_plan_60
set_option maxHeartbeats 4000000 in
set_option maxRecDepth 100000 in
theorem mX7_ends {l : Launch} {D : va_G} {cI cJ : ClassId} {adr : Nat → Nat} (s0 : zkS) {z : Nat} {ro : Int32} {so : zkS} (hI : zInj 0 adr) (hf : fX7_ends s0 = some (ro, so)) : Met l yX7_ends (Cond.code yX7_ends cX7_ends 3 (some .int) :: zTb) { frames := 4, cells := 0, slots := 0, locals := 91 } (zPre 0 D cI cJ adr s0 z [.ref (adr 0)]) (zQi 0 D cI cJ adr z ro so) 0 0 (zA 0 adr z) := by
  refine zen (cc := cX7_ends) (own := RX7) (by decide +kernel) rfl hI (Nat.le_of_ble_eq_true rfl) (fun p e s m args below meth c ls hC hr hlk hz hl hW => ?_)
  subst hz
  obtain ⟨hx, hb, -⟩ := id hC
  have hl : lv_has ls 3 [(0, .ref (adr 0))] := hl
  refine zst hW (fun H locs hW => ?_)
  unfold fX7_ends at hf
  refine lv_aload_n hx hb dX7_ends_0 rfl (lv_at hl 0 rfl) ?_
  refine zg_a (o := 32) hC hW fl_X7_28 zck_0_0 zcs_0_0 (show _ = 33 from rfl) dX7_ends_1 ?_
  refine lv_aload_n hx hb dX7_ends_4 rfl (lv_at hl 0 rfl) ?_
  refine zg_a (o := 0) hC hW fl_X7_12 zck_0_0 zcs_0_0 (show _ = 1 from rfl) dX7_ends_5 ?_
  refine zg_a (o := 0) hC hW fl_X7_74 (zE_k zEc_1) (zE_s zEc_1) (show _ = 2 from rfl) dX7_ends_8 ?_
  obtain ⟨s1, hq, hf⟩ := zb1_o hf
  refine zc_v hW (zrun_v (As := [.ref (adr 2)]) (rest := []) hC hW (mX0_copyFrom zGc_33 zGc_2 s0 hC.2.2.2.2.2.2.2 hq) cv_X7_177 (zG_k zGc_33) (zG_s zGc_33) rfl ⟨⟨rfl, rfl⟩, Nat.le_of_ble_eq_true rfl, Nat.le_of_ble_eq_true rfl⟩ (zlv_size hl) rfl (Nat.le_of_ble_eq_true rfl) dX7_ends_11 ⟨Nat.le_refl _, Nat.le_refl _⟩) (fun H locs hW => ?_)
  refine lv_iconst (v := 0) hx hb dX7_ends_14 (by decide) ?_
  refine lv_istore_n (lv' := [(1, .int 0), (0, .ref (adr 0))]) hx hb dX7_ends_15 rfl hl (by decide) rfl (fun ls hl => ?_)
  have hL16 : ∀ (n : Nat) (x1 : Int32) (s2 : zkS) (K16 : zkS → Option (Int32 × zkS)) (H : Heap) (locs : List Loc) (ls : Array Slot), fX7_ends_L16 n x1 s2 K16 = some (ro, so) → zWo 0 D cI cJ adr s s2 H locs → lv_has ls 3 [(0, .ref (adr 0)), (1, .int x1)] → (∀ (s2 : zkS) (H : Heap) (locs : List Loc) (ls : Array Slot), K16 s2 = some (ro, so) → zWo 0 D cI cJ adr s s2 H locs → lv_has ls 3 [(0, .ref (adr 0))] → W p l e { frames := 4, cells := 0, slots := 0, locals := 91 } s m args below meth c H locs 0 0 (MQ below (zQi 0 D cI cJ adr s.heap.size ro so) args s 0 0 (zA 0 adr s.heap.size)) (F0 m 128 ls [])) → W p l e { frames := 4, cells := 0, slots := 0, locals := 91 } s m args below meth c H locs 0 0 (MQ below (zQi 0 D cI cJ adr s.heap.size ro so) args s 0 0 (zA 0 adr s.heap.size)) (F0 m 16 ls []) := by
    intro n
    induction n with
    | zero =>
      intro x1 s2 K16 H locs ls hf hW hl hK16
      rw [fX7_ends_L16] at hf
      cases hf
    | succ n ih16 =>
      intro x1 s2 K16 H locs ls hf hW hl hK16
      rw [fX7_ends_L16] at hf
      refine lv_iload_n hx hb dX7_ends_16 rfl (lv_at hl 1 rfl) ?_
      refine lv_aload_n hx hb dX7_ends_17 rfl (lv_at hl 0 rfl) ?_
      refine zg_a (o := 0) hC hW fl_X7_12 zck_0_0 zcs_0_0 (show _ = 1 from rfl) dX7_ends_18 ?_
      refine zg_a (o := 11) hC hW fl_X7_281 (zE_k zEc_1) (zE_s zEc_1) (show _ = 13 from rfl) dX7_ends_21 ?_
      refine zg_i hC hW fl_X7_252 (zH_k zHc_13) (zH_s zHc_13) dX7_ends_24 ?_
      refine zi_icmp_ge (tgt := 128) hx hb dX7_ends_27 (by decide) hf (fun hc hf => ?_) (fun hc hf => ?_)
      · skip
        exact hK16 s2 H locs ls hf hW (lv_sub hl [0] rfl)
      · skip
        refine lv_aload_n hx hb dX7_ends_30 rfl (lv_at hl 0 rfl) ?_
        refine zg_a (o := 0) hC hW fl_X7_12 zck_0_0 zcs_0_0 (show _ = 1 from rfl) dX7_ends_31 ?_
        refine zg_a (o := 11) hC hW fl_X7_281 (zE_k zEc_1) (zE_s zEc_1) (show _ = 13 from rfl) dX7_ends_34 ?_
        refine lv_iload_n hx hb dX7_ends_37 rfl (lv_at hl 1 rfl) ?_
        refine lv_iconst (v := 1) hx hb dX7_ends_38 (by decide) ?_
        obtain ⟨v3, hq, hf⟩ := zb1_o hf
        refine zc_i hW (zrun_v (As := [.int x1, .int 1]) (rest := []) hC hW (mX3_number zHc_13 x1 1 s2 hC.2.2.2.2.2.2.2 hq) cv_X7_287 (zH_k zHc_13) (zH_s zHc_13) rfl ⟨⟨rfl, rfl⟩, Nat.le_of_ble_eq_true rfl, Nat.le_of_ble_eq_true rfl⟩ (zlv_size hl) rfl (Nat.le_of_ble_eq_true rfl) dX7_ends_39 ⟨Nat.le_refl _, Nat.le_refl _⟩) (fun H locs hW => ?_)
        refine lv_istore_n (lv' := [(2, .int v3), (0, .ref (adr 0)), (1, .int x1)]) hx hb dX7_ends_42 rfl hl (by decide) rfl (fun ls hl => ?_)
        refine lv_aload_n hx hb dX7_ends_43 rfl (lv_at hl 1 rfl) ?_
        refine zg_a (o := 0) hC hW fl_X7_12 zck_0_0 zcs_0_0 (show _ = 1 from rfl) dX7_ends_44 ?_
        refine zg_a (o := 11) hC hW fl_X7_281 (zE_k zEc_1) (zE_s zEc_1) (show _ = 13 from rfl) dX7_ends_47 ?_
        refine lv_iload_n hx hb dX7_ends_50 rfl (lv_at hl 2 rfl) ?_
        refine lv_iconst (v := 0) hx hb dX7_ends_51 (by decide) ?_
        obtain ⟨v4, hq, hf⟩ := zb1_o hf
        refine zc_i hW (zrun_v (As := [.int x1, .int 0]) (rest := []) hC hW (mX3_number zHc_13 x1 0 s2 hC.2.2.2.2.2.2.2 hq) cv_X7_287 (zH_k zHc_13) (zH_s zHc_13) rfl ⟨⟨rfl, rfl⟩, Nat.le_of_ble_eq_true rfl, Nat.le_of_ble_eq_true rfl⟩ (zlv_size hl) rfl (Nat.le_of_ble_eq_true rfl) dX7_ends_52 ⟨Nat.le_refl _, Nat.le_refl _⟩) (fun H locs hW => ?_)
        refine zi_c hf (fun h0 hf => ?_) (fun h0 hf => ?_)
        · skip
          refine lv_lookup (off := 25) (tgt := 80) hx hb dX7_ends_55 (by decide +kernel) (by rw [h0]; decide +kernel) (by decide) ?_
          refine lv_aload_n hx hb dX7_ends_80 rfl (lv_at hl 1 rfl) ?_
          refine zg_a (o := 32) hC hW fl_X7_28 zck_0_0 zcs_0_0 (show _ = 33 from rfl) dX7_ends_81 ?_
          refine lv_iload_n hx hb dX7_ends_84 rfl (lv_at hl 0 rfl) ?_
          refine lv_bipush (v := 10) hx hb dX7_ends_85 (by decide) ?_
          refine lv_idiv hx hb dX7_ends_87 (by decide) ?_
          refine lv_iload_n hx hb dX7_ends_88 rfl (lv_at hl 0 rfl) ?_
          refine lv_bipush (v := 10) hx hb dX7_ends_89 (by decide) ?_
          refine lv_irem hx hb dX7_ends_91 (by decide) ?_
          refine lv_bipush (v := (-5)) hx hb dX7_ends_92 (by decide) ?_
          obtain ⟨s5, hq, hf⟩ := zb1_o hf
          refine zc_v hW (zrun_v (As := [.int (v3 / 10), .int (v3 - v3 / 10 * 10), .int (-5)]) (rest := []) hC hW (mX0_putInto zGc_33 (v3 / 10) (v3 - v3 / 10 * 10) (-5) s2 hC.2.2.2.2.2.2.2 hq) cv_X7_148 (zG_k zGc_33) (zG_s zGc_33) rfl ⟨⟨rfl, rfl⟩, Nat.le_of_ble_eq_true rfl, Nat.le_of_ble_eq_true rfl⟩ (zlv_size hl) rfl (Nat.le_of_ble_eq_true rfl) dX7_ends_94 ⟨Nat.le_refl _, Nat.le_refl _⟩) (fun H locs hW => ?_)
          refine lv_goto (tgt := 122) hx hb dX7_ends_97 (by decide) ?_
          refine zi_inc (v := (x1 + 1)) (lv' := fun v6 => [(1, .int v6), (2, .int v3), (0, .ref (adr 0))]) hx hb dX7_ends_122 hl (k := 2) rfl rfl (by decide) (fun _ => rfl) hf (fun v6 ls hf hl => ?_)
          refine lv_goto (tgt := 16) hx hb dX7_ends_125 (by decide) ?_
          exact ih16 v6 s5 _ H locs ls hf hW (lv_sub hl [2, 0] rfl) hK16
        · skip
          refine zi_c hf (fun h1 hf => ?_) (fun h1 hf => ?_)
          · skip
            refine lv_lookup (off := 45) (tgt := 100) hx hb dX7_ends_55 (by decide +kernel) (by rw [h1]; decide +kernel) (by decide) ?_
            refine lv_aload_n hx hb dX7_ends_100 rfl (lv_at hl 1 rfl) ?_
            refine zg_a (o := 32) hC hW fl_X7_28 zck_0_0 zcs_0_0 (show _ = 33 from rfl) dX7_ends_101 ?_
            refine lv_iload_n hx hb dX7_ends_104 rfl (lv_at hl 0 rfl) ?_
            refine lv_bipush (v := (-5)) hx hb dX7_ends_105 (by decide) ?_
            obtain ⟨s7, hq, hf⟩ := zb1_o hf
            refine zc_v hW (zrun_v (As := [.int v3, .int (-5)]) (rest := []) hC hW (mX0_putIntoRoot zGc_33 v3 (-5) s2 hC.2.2.2.2.2.2.2 hq) cv_X7_162 (zG_k zGc_33) (zG_s zGc_33) rfl ⟨⟨rfl, rfl⟩, Nat.le_of_ble_eq_true rfl, Nat.le_of_ble_eq_true rfl⟩ (zlv_size hl) rfl (Nat.le_of_ble_eq_true rfl) dX7_ends_107 ⟨Nat.le_refl _, Nat.le_refl _⟩) (fun H locs hW => ?_)
            refine lv_goto (tgt := 122) hx hb dX7_ends_110 (by decide) ?_
            refine zi_inc (v := (x1 + 1)) (lv' := fun v8 => [(1, .int v8), (2, .int v3), (0, .ref (adr 0))]) hx hb dX7_ends_122 hl (k := 2) rfl rfl (by decide) (fun _ => rfl) hf (fun v8 ls hf hl => ?_)
            refine lv_goto (tgt := 16) hx hb dX7_ends_125 (by decide) ?_
            exact ih16 v8 s7 _ H locs ls hf hW (lv_sub hl [2, 0] rfl) hK16
          · skip
            refine lv_lookup (off := 58) (tgt := 113) hx hb dX7_ends_55 (by decide +kernel) ((lv_osw h0 rfl).trans ((lv_osw h1 rfl).trans rfl)) (by decide) ?_
            refine lv_aload_n hx hb dX7_ends_113 rfl (lv_at hl 1 rfl) ?_
            refine zg_a (o := 32) hC hW fl_X7_28 zck_0_0 zcs_0_0 (show _ = 33 from rfl) dX7_ends_114 ?_
            refine lv_iload_n hx hb dX7_ends_117 rfl (lv_at hl 0 rfl) ?_
            refine lv_iconst (v := 0) hx hb dX7_ends_118 (by decide) ?_
            obtain ⟨s9, hq, hf⟩ := zb1_o hf
            refine zc_v hW (zrun_v (As := [.int v3, .int 0]) (rest := []) hC hW (mX0_retag zGc_33 v3 0 s2 hC.2.2.2.2.2.2.2 hq) cv_X7_152 (zG_k zGc_33) (zG_s zGc_33) rfl ⟨⟨rfl, rfl⟩, Nat.le_of_ble_eq_true rfl, Nat.le_of_ble_eq_true rfl⟩ (zlv_size hl) rfl (Nat.le_of_ble_eq_true rfl) dX7_ends_119 ⟨Nat.le_refl _, Nat.le_refl _⟩) (fun H locs hW => ?_)
            refine zi_inc (v := (x1 + 1)) (lv' := fun v10 => [(1, .int v10), (2, .int v3), (0, .ref (adr 0))]) hx hb dX7_ends_122 hl (k := 2) rfl rfl (by decide) (fun _ => rfl) hf (fun v10 ls hf hl => ?_)
            refine lv_goto (tgt := 16) hx hb dX7_ends_125 (by decide) ?_
            exact ih16 v10 s9 _ H locs ls hf hW (lv_sub hl [2, 0] rfl) hK16
  refine hL16 zFU 0 s1 _ H locs ls hf hW (lv_sub hl [1, 0] rfl) (fun s11 H locs ls hf hW hl => ?_)
  refine lv_aload_n hx hb dX7_ends_128 rfl (lv_at hl 0 rfl) ?_
  refine zg_a (o := 41) hC hW fl_X7_42 zck_0_0 zcs_0_0 (show _ = 42 from rfl) dX7_ends_129 ?_
  refine lv_aload_n hx hb dX7_ends_132 rfl (lv_at hl 0 rfl) ?_
  refine zg_a (o := 32) hC hW fl_X7_28 zck_0_0 zcs_0_0 (show _ = 33 from rfl) dX7_ends_133 ?_
  obtain ⟨s12, hq, hf⟩ := zb1_o hf
  refine zc_v hW (zrun_v (As := [.ref (adr 33)]) (rest := []) hC hW (mX1_readFrom zGc_33 s11 hC.2.2.2.2.2.2.2 hq) cv_X7_219 zck_0_42 zcs_0_42 rfl ⟨⟨rfl, rfl⟩, Nat.le_of_ble_eq_true rfl, Nat.le_of_ble_eq_true rfl⟩ (zlv_size hl) rfl (Nat.le_of_ble_eq_true rfl) dX7_ends_136 ⟨Nat.le_refl _, Nat.le_refl _⟩) (fun H locs hW => ?_)
  refine lv_aload_n hx hb dX7_ends_139 rfl (lv_at hl 0 rfl) ?_
  refine zg_a (o := 41) hC hW fl_X7_42 zck_0_0 zcs_0_0 (show _ = 42 from rfl) dX7_ends_140 ?_
  obtain ⟨v13, hq, hf⟩ := zb1_o hf
  refine zc_i hW (zrun_v (As := []) (rest := []) hC hW (mX1_reached s12 hC.2.2.2.2.2.2.2 hq) cv_X7_222 zck_0_42 zcs_0_42 rfl ⟨⟨rfl, rfl⟩, Nat.le_of_ble_eq_true rfl, Nat.le_of_ble_eq_true rfl⟩ (zlv_size hl) rfl (Nat.le_of_ble_eq_true rfl) dX7_ends_143 ⟨Nat.le_refl _, Nat.le_refl _⟩) (fun H locs hW => ?_)
  exact zr_i hx hb hr hlk hW (zo1 hf) (zo2 hf) dX7_ends_146
set_option maxHeartbeats 4000000 in
set_option maxRecDepth 100000 in
theorem mX7_book {l : Launch} {D : va_G} {cI cJ : ClassId} {adr : Nat → Nat} (p1 : Int32) (p2 : Int32) (p3 : Int32) (s0 : zkS) {z : Nat} {ro : Int32} {so : zkS} (hI : zInj 0 adr) (hf : fX7_book p1 p2 p3 s0 = some (ro, so)) : Met l yX7_book (Cond.code yX7_book cX7_book 4 (some .int) :: zTb) { frames := 3, cells := 0, slots := 0, locals := 63 } (zPre 0 D cI cJ adr s0 z [.ref (adr 0), .int p1, .int p2, .int p3]) (zQi 0 D cI cJ adr z ro so) 0 0 (zA 0 adr z) := by
  refine zen (cc := cX7_book) (own := RX7) (by decide +kernel) rfl hI (Nat.le_of_ble_eq_true rfl) (fun p e s m args below meth c ls hC hr hlk hz hl hW => ?_)
  subst hz
  obtain ⟨hx, hb, -⟩ := id hC
  have hl : lv_has ls 4 [(0, .ref (adr 0)), (1, .int p1), (2, .int p2), (3, .int p3)] := hl
  refine zst hW (fun H locs hW => ?_)
  unfold fX7_book at hf
  refine lv_iload_n hx hb dX7_book_0 rfl (lv_at hl 1 rfl) ?_
  refine lv_iconst (v := (-1)) hx hb dX7_book_1 (by decide) ?_
  refine zi_icmp_ne (tgt := 16) hx hb dX7_book_2 (by decide) hf (fun hc hf => ?_) (fun hc hf => ?_)
  · skip
    refine lv_aload_n hx hb dX7_book_5 rfl (lv_at hl 0 rfl) ?_
    refine zg_a (o := 0) hC hW fl_X7_12 zck_0_0 zcs_0_0 (show _ = 1 from rfl) dX7_book_6 ?_
    refine zg_a (o := 13) hC hW fl_X7_290 (zE_k zEc_1) (zE_s zEc_1) (show _ = 15 from rfl) dX7_book_9 ?_
    obtain ⟨v1, s2, hq, hf⟩ := zw2_o hf
    refine zc_i hW (zrun_v (As := []) (rest := []) hC hW (mX3_clear zHc_15 s0 hC.2.2.2.2.2.2.2 hq) cv_X7_247 (zH_k zHc_15) (zH_s zHc_15) rfl ⟨⟨rfl, rfl⟩, Nat.le_of_ble_eq_true rfl, Nat.le_of_ble_eq_true rfl⟩ (zlv_size hl) rfl (Nat.le_of_ble_eq_true rfl) dX7_book_12 ⟨Nat.le_refl _, Nat.le_refl _⟩) (fun H locs hW => ?_)
    exact zr_i hx hb hr hlk hW (zo1 hf) (zo2 hf) dX7_book_15
  · skip
    refine lv_aload_n hx hb dX7_book_16 rfl (lv_at hl 0 rfl) ?_
    refine zg_a (o := 0) hC hW fl_X7_12 zck_0_0 zcs_0_0 (show _ = 1 from rfl) dX7_book_17 ?_
    refine zg_a (o := 0) hC hW fl_X7_74 (zE_k zEc_1) (zE_s zEc_1) (show _ = 2 from rfl) dX7_book_20 ?_
    refine lv_iload_n hx hb dX7_book_23 rfl (lv_at hl 1 rfl) ?_
    refine lv_iload_n hx hb dX7_book_24 rfl (lv_at hl 2 rfl) ?_
    obtain ⟨v3, hq, hf⟩ := zb1_o hf
    refine zc_i hW (zrun_v (As := [.int p1, .int p2]) (rest := []) hC hW (mX0_isField zGc_2 p1 p2 s0 hC.2.2.2.2.2.2.2 hq) cv_X7_130 (zG_k zGc_2) (zG_s zGc_2) rfl ⟨⟨rfl, rfl⟩, Nat.le_of_ble_eq_true rfl, Nat.le_of_ble_eq_true rfl⟩ (zlv_size hl) rfl (Nat.le_of_ble_eq_true rfl) dX7_book_25 ⟨Nat.le_refl _, Nat.le_refl _⟩) (fun H locs hW => ?_)
    refine zi_if_eq (tgt := 45) hx hb dX7_book_28 (by decide) hf (fun hc hf => ?_) (fun hc hf => ?_)
    · skip
      refine lv_iconst (v := (-1)) hx hb dX7_book_45 (by decide) ?_
      exact zr_i hx hb hr hlk hW (zo1 hf) (zo2 hf) dX7_book_46
    · skip
      refine lv_aload_n hx hb dX7_book_31 rfl (lv_at hl 0 rfl) ?_
      refine zg_a (o := 0) hC hW fl_X7_12 zck_0_0 zcs_0_0 (show _ = 1 from rfl) dX7_book_32 ?_
      refine zg_a (o := 0) hC hW fl_X7_74 (zE_k zEc_1) (zE_s zEc_1) (show _ = 2 from rfl) dX7_book_35 ?_
      refine lv_iload_n hx hb dX7_book_38 rfl (lv_at hl 3 rfl) ?_
      refine zc_i hW (zrun_v (As := [.int p3]) (rest := []) hC hW (mX0_isThereOrNothing zGc_2 p3 s0 hC.2.2.2.2.2.2.2 rfl) cv_X7_142 (zG_k zGc_2) (zG_s zGc_2) rfl ⟨⟨rfl, rfl⟩, Nat.le_of_ble_eq_true rfl, Nat.le_of_ble_eq_true rfl⟩ (zlv_size hl) rfl (Nat.le_of_ble_eq_true rfl) dX7_book_39 ⟨Nat.le_refl _, Nat.le_refl _⟩) (fun H locs hW => ?_)
      refine zi_if_ne (tgt := 47) hx hb dX7_book_42 (by decide) hf (fun hc hf => ?_) (fun hc hf => ?_)
      · skip
        refine lv_iconst (v := (-1)) hx hb dX7_book_45 (by decide) ?_
        exact zr_i hx hb hr hlk hW (zo1 hf) (zo2 hf) dX7_book_46
      · skip
        refine lv_aload_n hx hb dX7_book_47 rfl (lv_at hl 0 rfl) ?_
        refine zg_a (o := 0) hC hW fl_X7_12 zck_0_0 zcs_0_0 (show _ = 1 from rfl) dX7_book_48 ?_
        refine zg_a (o := 13) hC hW fl_X7_290 (zE_k zEc_1) (zE_s zEc_1) (show _ = 15 from rfl) dX7_book_51 ?_
        refine zg_i hC hW fl_X7_252 (zH_k zHc_15) (zH_s zHc_15) dX7_book_54 ?_
        refine lv_bipush (v := 8) hx hb dX7_book_57 (by decide) ?_
        refine zi_icmp_ge (tgt := 81) hx hb dX7_book_59 (by decide) hf (fun hc hf => ?_) (fun hc hf => ?_)
        · skip
          refine lv_bipush (v := (-4)) hx hb dX7_book_81 (by decide) ?_
          exact zr_i hx hb hr hlk hW (zo1 hf) (zo2 hf) dX7_book_83
        · skip
          refine lv_aload_n hx hb dX7_book_62 rfl (lv_at hl 0 rfl) ?_
          refine zg_a (o := 0) hC hW fl_X7_12 zck_0_0 zcs_0_0 (show _ = 1 from rfl) dX7_book_63 ?_
          refine zg_a (o := 13) hC hW fl_X7_290 (zE_k zEc_1) (zE_s zEc_1) (show _ = 15 from rfl) dX7_book_66 ?_
          refine lv_iload_n hx hb dX7_book_69 rfl (lv_at hl 1 rfl) ?_
          refine lv_iload_n hx hb dX7_book_70 rfl (lv_at hl 2 rfl) ?_
          refine lv_iload_n hx hb dX7_book_71 rfl (lv_at hl 3 rfl) ?_
          refine zc_i hW (zrun_s (As := [.int p3]) (rest := [.int p2, .int p1, .ref (adr 15)]) hC hW (mX7_orEmpty p3 s0 hC.2.2.2.2.2.2.2 rfl) cs_X7_145 rfl ⟨⟨rfl, rfl⟩, Nat.le_of_ble_eq_true rfl, Nat.le_of_ble_eq_true rfl⟩ (zlv_size hl) rfl (Nat.le_of_ble_eq_true rfl) dX7_book_72 ⟨Nat.le_refl _, Nat.le_refl _⟩) (fun H locs hW => ?_)
          obtain ⟨v6, s7, hq, hf⟩ := zb2_o hf
          refine zc_i hW (zrun_v (As := [.int p1, .int p2, .int (fX7_orEmpty p3)]) (rest := []) hC hW (mX3_add zHc_15 p1 p2 (fX7_orEmpty p3) s0 hC.2.2.2.2.2.2.2 hq) cv_X7_255 (zH_k zHc_15) (zH_s zHc_15) rfl ⟨⟨rfl, rfl⟩, Nat.le_of_ble_eq_true rfl, Nat.le_of_ble_eq_true rfl⟩ (zlv_size hl) rfl (Nat.le_of_ble_eq_true rfl) dX7_book_75 ⟨Nat.le_refl _, Nat.le_refl _⟩) (fun H locs hW => ?_)
          refine lv_goto (tgt := 83) hx hb dX7_book_78 (by decide) ?_
          exact zr_i hx hb hr hlk hW (zo1 hf) (zo2 hf) dX7_book_83
set_option maxHeartbeats 4000000 in
set_option maxRecDepth 100000 in
theorem mX7_looked {l : Launch} {D : va_G} {cI cJ : ClassId} {adr : Nat → Nat} (s0 : zkS) {z : Nat} {ro : Int32} (hI : zInj 0 adr) (hf : fX7_looked s0 = some ro) : Met l yX7_looked (Cond.code yX7_looked cX7_looked 4 (some .int) :: zTb) { frames := 2, cells := 0, slots := 0, locals := 45 } (zPre 0 D cI cJ adr s0 z [.ref (adr 0)]) (zQi 0 D cI cJ adr z ro s0) 0 0 (zA 0 adr z) := by
  refine zen (cc := cX7_looked) (own := RX7) (by decide +kernel) rfl hI (Nat.le_of_ble_eq_true rfl) (fun p e s m args below meth c ls hC hr hlk hz hl hW => ?_)
  subst hz
  obtain ⟨hx, hb, -⟩ := id hC
  have hl : lv_has ls 4 [(0, .ref (adr 0))] := hl
  refine zst hW (fun H locs hW => ?_)
  unfold fX7_looked at hf
  refine lv_iconst (v := 0) hx hb dX7_looked_0 (by decide) ?_
  refine lv_istore_n (lv' := [(1, .int 0), (0, .ref (adr 0))]) hx hb dX7_looked_1 rfl hl (by decide) rfl (fun ls hl => ?_)
  have hL2 : ∀ (n : Nat) (x1 : Int32) (K2 : Unit → Option (Int32)) (H : Heap) (locs : List Loc) (ls : Array Slot), fX7_looked_L2 n s0 x1 K2 = some ro → zWo 0 D cI cJ adr s s0 H locs → lv_has ls 4 [(0, .ref (adr 0)), (1, .int x1)] → (∀  (H : Heap) (locs : List Loc) (ls : Array Slot), K2 () = some ro → zWo 0 D cI cJ adr s s0 H locs → lv_has ls 4 [] → W p l e { frames := 2, cells := 0, slots := 0, locals := 45 } s m args below meth c H locs 0 0 (MQ below (zQi 0 D cI cJ adr s.heap.size ro s0) args s 0 0 (zA 0 adr s.heap.size)) (F0 m 92 ls [])) → W p l e { frames := 2, cells := 0, slots := 0, locals := 45 } s m args below meth c H locs 0 0 (MQ below (zQi 0 D cI cJ adr s.heap.size ro s0) args s 0 0 (zA 0 adr s.heap.size)) (F0 m 2 ls []) := by
    intro n
    induction n with
    | zero =>
      intro x1 K2 H locs ls hf hW hl hK2
      rw [fX7_looked_L2] at hf
      cases hf
    | succ n ih2 =>
      intro x1 K2 H locs ls hf hW hl hK2
      rw [fX7_looked_L2] at hf
      refine lv_iload_n hx hb dX7_looked_2 rfl (lv_at hl 1 rfl) ?_
      refine lv_aload_n hx hb dX7_looked_3 rfl (lv_at hl 0 rfl) ?_
      refine zg_a (o := 0) hC hW fl_X7_12 zck_0_0 zcs_0_0 (show _ = 1 from rfl) dX7_looked_4 ?_
      refine zg_a (o := 13) hC hW fl_X7_290 (zE_k zEc_1) (zE_s zEc_1) (show _ = 15 from rfl) dX7_looked_7 ?_
      refine zg_i hC hW fl_X7_252 (zH_k zHc_15) (zH_s zHc_15) dX7_looked_10 ?_
      refine zi_icmp_ge (tgt := 92) hx hb dX7_looked_13 (by decide) hf (fun hc hf => ?_) (fun hc hf => ?_)
      · skip
        exact hK2  H locs ls hf hW (lv_sub hl [] rfl)
      · skip
        refine lv_aload_n hx hb dX7_looked_16 rfl (lv_at hl 0 rfl) ?_
        refine zg_a (o := 0) hC hW fl_X7_12 zck_0_0 zcs_0_0 (show _ = 1 from rfl) dX7_looked_17 ?_
        refine zg_a (o := 13) hC hW fl_X7_290 (zE_k zEc_1) (zE_s zEc_1) (show _ = 15 from rfl) dX7_looked_20 ?_
        refine lv_iload_n hx hb dX7_looked_23 rfl (lv_at hl 1 rfl) ?_
        refine lv_iconst (v := 0) hx hb dX7_looked_24 (by decide) ?_
        obtain ⟨v1, hq, hf⟩ := zb1_o hf
        refine zc_i hW (zrun_v (As := [.int x1, .int 0]) (rest := []) hC hW (mX3_number zHc_15 x1 0 s0 hC.2.2.2.2.2.2.2 hq) cv_X7_287 (zH_k zHc_15) (zH_s zHc_15) rfl ⟨⟨rfl, rfl⟩, Nat.le_of_ble_eq_true rfl, Nat.le_of_ble_eq_true rfl⟩ (zlv_size hl) rfl (Nat.le_of_ble_eq_true rfl) dX7_looked_25 ⟨Nat.le_refl _, Nat.le_refl _⟩) (fun H locs hW => ?_)
        refine lv_istore_n (lv' := [(2, .int v1), (0, .ref (adr 0)), (1, .int x1)]) hx hb dX7_looked_28 rfl hl (by decide) rfl (fun ls hl => ?_)
        refine lv_aload_n hx hb dX7_looked_29 rfl (lv_at hl 1 rfl) ?_
        refine zg_a (o := 0) hC hW fl_X7_12 zck_0_0 zcs_0_0 (show _ = 1 from rfl) dX7_looked_30 ?_
        refine zg_a (o := 13) hC hW fl_X7_290 (zE_k zEc_1) (zE_s zEc_1) (show _ = 15 from rfl) dX7_looked_33 ?_
        refine lv_iload_n hx hb dX7_looked_36 rfl (lv_at hl 2 rfl) ?_
        refine lv_iconst (v := 1) hx hb dX7_looked_37 (by decide) ?_
        obtain ⟨v2, hq, hf⟩ := zb1_o hf
        refine zc_i hW (zrun_v (As := [.int x1, .int 1]) (rest := []) hC hW (mX3_number zHc_15 x1 1 s0 hC.2.2.2.2.2.2.2 hq) cv_X7_287 (zH_k zHc_15) (zH_s zHc_15) rfl ⟨⟨rfl, rfl⟩, Nat.le_of_ble_eq_true rfl, Nat.le_of_ble_eq_true rfl⟩ (zlv_size hl) rfl (Nat.le_of_ble_eq_true rfl) dX7_looked_38 ⟨Nat.le_refl _, Nat.le_refl _⟩) (fun H locs hW => ?_)
        refine lv_istore_n (lv' := [(3, .int v2), (2, .int v1), (0, .ref (adr 0)), (1, .int x1)]) hx hb dX7_looked_41 rfl hl (by decide) rfl (fun ls hl => ?_)
        refine lv_aload_n hx hb dX7_looked_42 rfl (lv_at hl 2 rfl) ?_
        refine zg_a (o := 0) hC hW fl_X7_12 zck_0_0 zcs_0_0 (show _ = 1 from rfl) dX7_looked_43 ?_
        refine zg_a (o := 0) hC hW fl_X7_74 (zE_k zEc_1) (zE_s zEc_1) (show _ = 2 from rfl) dX7_looked_46 ?_
        refine lv_iload_n hx hb dX7_looked_49 rfl (lv_at hl 1 rfl) ?_
        refine lv_iload_n hx hb dX7_looked_50 rfl (lv_at hl 0 rfl) ?_
        obtain ⟨v3, hq, hf⟩ := zb1_o hf
        refine zc_i hW (zrun_v (As := [.int v1, .int v2]) (rest := []) hC hW (mX0_isField zGc_2 v1 v2 s0 hC.2.2.2.2.2.2.2 hq) cv_X7_130 (zG_k zGc_2) (zG_s zGc_2) rfl ⟨⟨rfl, rfl⟩, Nat.le_of_ble_eq_true rfl, Nat.le_of_ble_eq_true rfl⟩ (zlv_size hl) rfl (Nat.le_of_ble_eq_true rfl) dX7_looked_51 ⟨Nat.le_refl _, Nat.le_refl _⟩) (fun H locs hW => ?_)
        refine zi_if_eq (tgt := 84) hx hb dX7_looked_54 (by decide) hf (fun hc hf => ?_) (fun hc hf => ?_)
        · skip
          refine lv_iload_n hx hb dX7_looked_84 rfl (lv_at hl 3 rfl) ?_
          exact zr_i hx hb hr hlk hW (Option.some.inj hf) rfl dX7_looked_85
        · skip
          refine lv_aload_n hx hb dX7_looked_57 rfl (lv_at hl 2 rfl) ?_
          refine zg_a (o := 0) hC hW fl_X7_12 zck_0_0 zcs_0_0 (show _ = 1 from rfl) dX7_looked_58 ?_
          refine zg_a (o := 0) hC hW fl_X7_74 (zE_k zEc_1) (zE_s zEc_1) (show _ = 2 from rfl) dX7_looked_61 ?_
          refine lv_iload_n hx hb dX7_looked_64 rfl (lv_at hl 1 rfl) ?_
          refine lv_iload_n hx hb dX7_looked_65 rfl (lv_at hl 0 rfl) ?_
          obtain ⟨v4, hq, hf⟩ := zb1_o hf
          refine zc_i hW (zrun_v (As := [.int v1, .int v2]) (rest := []) hC hW (mX0_heldBy zGc_2 v1 v2 s0 hC.2.2.2.2.2.2.2 hq) cv_X7_133 (zG_k zGc_2) (zG_s zGc_2) rfl ⟨⟨rfl, rfl⟩, Nat.le_of_ble_eq_true rfl, Nat.le_of_ble_eq_true rfl⟩ (zlv_size hl) rfl (Nat.le_of_ble_eq_true rfl) dX7_looked_66 ⟨Nat.le_refl _, Nat.le_refl _⟩) (fun H locs hW => ?_)
          refine lv_aload_n hx hb dX7_looked_69 rfl (lv_at hl 2 rfl) ?_
          refine zg_a (o := 0) hC hW fl_X7_12 zck_0_0 zcs_0_0 (show _ = 1 from rfl) dX7_looked_70 ?_
          refine zg_a (o := 13) hC hW fl_X7_290 (zE_k zEc_1) (zE_s zEc_1) (show _ = 15 from rfl) dX7_looked_73 ?_
          refine lv_iload_n hx hb dX7_looked_76 rfl (lv_at hl 3 rfl) ?_
          refine lv_iconst (v := 2) hx hb dX7_looked_77 (by decide) ?_
          obtain ⟨v5, hq, hf⟩ := zb1_o hf
          refine zc_i hW (zrun_v (As := [.int x1, .int 2]) (rest := [.int v4]) hC hW (mX3_number zHc_15 x1 2 s0 hC.2.2.2.2.2.2.2 hq) cv_X7_287 (zH_k zHc_15) (zH_s zHc_15) rfl ⟨⟨rfl, rfl⟩, Nat.le_of_ble_eq_true rfl, Nat.le_of_ble_eq_true rfl⟩ (zlv_size hl) rfl (Nat.le_of_ble_eq_true rfl) dX7_looked_78 ⟨Nat.le_refl _, Nat.le_refl _⟩) (fun H locs hW => ?_)
          refine zi_icmp_eq (tgt := 86) hx hb dX7_looked_81 (by decide) hf (fun hc hf => ?_) (fun hc hf => ?_)
          · skip
            refine zi_inc (v := (x1 + 1)) (lv' := fun v6 => [(1, .int v6), (3, .int v2), (2, .int v1), (0, .ref (adr 0))]) hx hb dX7_looked_86 hl (k := 3) rfl rfl (by decide) (fun _ => rfl) hf (fun v6 ls hf hl => ?_)
            refine lv_goto (tgt := 2) hx hb dX7_looked_89 (by decide) ?_
            exact ih2 v6 _ H locs ls hf hW (lv_sub hl [3, 0] rfl) hK2
          · skip
            refine lv_iload_n hx hb dX7_looked_84 rfl (lv_at hl 3 rfl) ?_
            exact zr_i hx hb hr hlk hW (Option.some.inj hf) rfl dX7_looked_85
  refine hL2 zFU 0 _ H locs ls hf hW (lv_sub hl [1, 0] rfl) (fun  H locs ls hf hW hl => ?_)
  refine lv_bipush (v := (-5)) hx hb dX7_looked_92 (by decide) ?_
  exact zr_i hx hb hr hlk hW (Option.some.inj hf) rfl dX7_looked_94
set_option maxHeartbeats 4000000 in
set_option maxRecDepth 100000 in
theorem mX7_isTape {l : Launch} {D : va_G} {cI cJ : ClassId} {adr : Nat → Nat} {u : Nat} (p1 : Int32) (s0 : zkS) {z : Nat} {ro : Int32} (hI : zInj u adr) (hf : fX7_isTape p1 = ro) : Met l yX7_isTape (Cond.code yX7_isTape cX7_isTape 1 (some .boolean) :: zTb) { frames := 0, cells := 0, slots := 0, locals := 0 } (zPre u D cI cJ adr s0 z [.int p1]) (zQi u D cI cJ adr z ro s0) 0 0 (zA u adr z) := by
  refine zen (cc := cX7_isTape) (own := RX7) (by decide +kernel) rfl hI (Nat.le_of_ble_eq_true rfl) (fun p e s m args below meth c ls hC hr hlk hz hl hW => ?_)
  subst hz
  obtain ⟨hx, hb, -⟩ := id hC
  have hl : lv_has ls 1 [(0, .int p1)] := hl
  refine zst hW (fun H locs hW => ?_)
  unfold fX7_isTape at hf
  refine lv_iload_n hx hb dX7_isTape_0 rfl (lv_at hl 0 rfl) ?_
  refine zi_if_lt (tgt := 14) hx hb dX7_isTape_1 (by decide) hf (fun hc hf => ?_) (fun hc hf => ?_)
  · skip
    refine lv_iconst (v := 0) hx hb dX7_isTape_14 (by decide) ?_
    exact zr_z hx hb hr hlk hW (by decide) hf rfl dX7_isTape_15
  · skip
    refine lv_iload_n hx hb dX7_isTape_4 rfl (lv_at hl 0 rfl) ?_
    refine lv_bipush (v := 6) hx hb dX7_isTape_5 (by decide) ?_
    refine zi_icmp_ge (tgt := 14) hx hb dX7_isTape_7 (by decide) hf (fun hc hf => ?_) (fun hc hf => ?_)
    · skip
      refine lv_iconst (v := 0) hx hb dX7_isTape_14 (by decide) ?_
      exact zr_z hx hb hr hlk hW (by decide) hf rfl dX7_isTape_15
    · skip
      refine lv_iconst (v := 1) hx hb dX7_isTape_10 (by decide) ?_
      refine lv_goto (tgt := 15) hx hb dX7_isTape_11 (by decide) ?_
      exact zr_z hx hb hr hlk hW (by decide) hf rfl dX7_isTape_15
set_option maxHeartbeats 4000000 in
set_option maxRecDepth 100000 in
theorem mX5_sortOf {l : Launch} {D : va_G} {cI cJ : ClassId} {adr : Nat → Nat} (p1 : Int32) (s0 : zkS) {z : Nat} {ro : Int32} (hI : zInj 0 adr) (hf : fX5_sortOf p1 s0 = some ro) : Met l yX5_sortOf (Cond.code yX5_sortOf cX5_sortOf 2 (some .int) :: zTb) { frames := 1, cells := 0, slots := 0, locals := 20 } (zPre 0 D cI cJ adr s0 z [.ref (adr 49), .int p1]) (zQi 0 D cI cJ adr z ro s0) 0 0 (zA 0 adr z) := by
  refine zen (cc := cX5_sortOf) (own := RX5) (by decide +kernel) rfl hI (Nat.le_of_ble_eq_true rfl) (fun p e s m args below meth c ls hC hr hlk hz hl hW => ?_)
  subst hz
  obtain ⟨hx, hb, -⟩ := id hC
  have hl : lv_has ls 2 [(0, .ref (adr 49)), (1, .int p1)] := hl
  refine zst hW (fun H locs hW => ?_)
  unfold fX5_sortOf at hf
  refine lv_iload_n hx hb dX5_sortOf_0 rfl (lv_at hl 1 rfl) ?_
  refine zc_i hW (zrun_n (As := [.int p1]) (rest := []) hC hW (mX7_isTape p1 s0 hC.2.2.2.2.2.2.2 rfl) cn_X5_28 rfl ⟨⟨rfl, rfl⟩, Nat.le_of_ble_eq_true rfl, Nat.le_of_ble_eq_true rfl⟩ (zlv_size hl) rfl (Nat.le_of_ble_eq_true rfl) dX5_sortOf_1 ⟨Nat.le_refl _, Nat.le_refl _⟩) (fun H locs hW => ?_)
  refine zi_if_eq (tgt := 16) hx hb dX5_sortOf_4 (by decide) hf (fun hc hf => ?_) (fun hc hf => ?_)
  · skip
    refine lv_bipush (v := (-5)) hx hb dX5_sortOf_16 (by decide) ?_
    exact zr_i hx hb hr hlk hW (Option.some.inj hf) rfl dX5_sortOf_18
  · skip
    refine lv_aload_n hx hb dX5_sortOf_7 rfl (lv_at hl 0 rfl) ?_
    refine zg_a (o := 0) hC hW fl_X5_9 zck_0_49 zcs_0_49 (show _ = 50 from rfl) dX5_sortOf_8 ?_
    refine lv_iload_n hx hb dX5_sortOf_11 rfl (lv_at hl 1 rfl) ?_
    refine za_l hC hW hf zar_0_50 dX5_sortOf_12 (fun v2 hf => ?_)
    refine lv_goto (tgt := 18) hx hb dX5_sortOf_13 (by decide) ?_
    exact zr_i hx hb hr hlk hW (Option.some.inj hf) rfl dX5_sortOf_18
set_option maxHeartbeats 4000000 in
set_option maxRecDepth 100000 in
theorem mX5_isPlace {l : Launch} {D : va_G} {cI cJ : ClassId} {adr : Nat → Nat} (p1 : Int32) (p2 : Int32) (s0 : zkS) {z : Nat} {ro : Int32} (hI : zInj 0 adr) (hf : fX5_isPlace p1 p2 s0 = some ro) : Met l yX5_isPlace (Cond.code yX5_isPlace cX5_isPlace 3 (some .boolean) :: zTb) { frames := 1, cells := 0, slots := 0, locals := 20 } (zPre 0 D cI cJ adr s0 z [.ref (adr 49), .int p1, .int p2]) (zQi 0 D cI cJ adr z ro s0) 0 0 (zA 0 adr z) := by
  refine zen (cc := cX5_isPlace) (own := RX5) (by decide +kernel) rfl hI (Nat.le_of_ble_eq_true rfl) (fun p e s m args below meth c ls hC hr hlk hz hl hW => ?_)
  subst hz
  obtain ⟨hx, hb, -⟩ := id hC
  have hl : lv_has ls 3 [(0, .ref (adr 49)), (1, .int p1), (2, .int p2)] := hl
  refine zst hW (fun H locs hW => ?_)
  unfold fX5_isPlace at hf
  refine lv_iload_n hx hb dX5_isPlace_0 rfl (lv_at hl 1 rfl) ?_
  refine zc_i hW (zrun_n (As := [.int p1]) (rest := []) hC hW (mX7_isTape p1 s0 hC.2.2.2.2.2.2.2 rfl) cn_X5_28 rfl ⟨⟨rfl, rfl⟩, Nat.le_of_ble_eq_true rfl, Nat.le_of_ble_eq_true rfl⟩ (zlv_size hl) rfl (Nat.le_of_ble_eq_true rfl) dX5_isPlace_1 ⟨Nat.le_refl _, Nat.le_refl _⟩) (fun H locs hW => ?_)
  refine zi_if_eq (tgt := 25) hx hb dX5_isPlace_4 (by decide) hf (fun hc hf => ?_) (fun hc hf => ?_)
  · skip
    refine lv_iconst (v := 0) hx hb dX5_isPlace_25 (by decide) ?_
    exact zr_z hx hb hr hlk hW (by decide) (Option.some.inj hf) rfl dX5_isPlace_26
  · skip
    refine lv_iload_n hx hb dX5_isPlace_7 rfl (lv_at hl 2 rfl) ?_
    refine zi_if_lt (tgt := 25) hx hb dX5_isPlace_8 (by decide) hf (fun hc hf => ?_) (fun hc hf => ?_)
    · skip
      refine lv_iconst (v := 0) hx hb dX5_isPlace_25 (by decide) ?_
      exact zr_z hx hb hr hlk hW (by decide) (Option.some.inj hf) rfl dX5_isPlace_26
    · skip
      refine lv_iload_n hx hb dX5_isPlace_11 rfl (lv_at hl 2 rfl) ?_
      refine lv_aload_n hx hb dX5_isPlace_12 rfl (lv_at hl 0 rfl) ?_
      refine zg_a (o := 1) hC hW fl_X5_15 zck_0_49 zcs_0_49 (show _ = 51 from rfl) dX5_isPlace_13 ?_
      refine lv_iload_n hx hb dX5_isPlace_16 rfl (lv_at hl 1 rfl) ?_
      refine za_l hC hW hf zar_0_51 dX5_isPlace_17 (fun v2 hf => ?_)
      refine zi_icmp_ge (tgt := 25) hx hb dX5_isPlace_18 (by decide) hf (fun hc hf => ?_) (fun hc hf => ?_)
      · skip
        refine lv_iconst (v := 0) hx hb dX5_isPlace_25 (by decide) ?_
        exact zr_z hx hb hr hlk hW (by decide) (Option.some.inj hf) rfl dX5_isPlace_26
      · skip
        refine lv_iconst (v := 1) hx hb dX5_isPlace_21 (by decide) ?_
        refine lv_goto (tgt := 26) hx hb dX5_isPlace_22 (by decide) ?_
        exact zr_z hx hb hr hlk hW (by decide) (Option.some.inj hf) rfl dX5_isPlace_26
set_option maxHeartbeats 4000000 in
set_option maxRecDepth 100000 in
theorem mX5_itemAt {l : Launch} {D : va_G} {cI cJ : ClassId} {adr : Nat → Nat} (p1 : Int32) (p2 : Int32) (s0 : zkS) {z : Nat} {ro : Int64} (hI : zInj 0 adr) (hf : fX5_itemAt p1 p2 s0 = some ro) : Met l yX5_itemAt (Cond.code yX5_itemAt cX5_itemAt 3 (some .long) :: zTb) { frames := 2, cells := 0, slots := 0, locals := 42 } (zPre 0 D cI cJ adr s0 z [.ref (adr 49), .int p1, .int p2]) (zQl 0 D cI cJ adr z ro s0) 0 0 (zA 0 adr z) := by
  refine zen (cc := cX5_itemAt) (own := RX5) (by decide +kernel) rfl hI (Nat.le_of_ble_eq_true rfl) (fun p e s m args below meth c ls hC hr hlk hz hl hW => ?_)
  subst hz
  obtain ⟨hx, hb, -⟩ := id hC
  have hl : lv_has ls 3 [(0, .ref (adr 49)), (1, .int p1), (2, .int p2)] := hl
  refine zst hW (fun H locs hW => ?_)
  unfold fX5_itemAt at hf
  refine lv_aload_n hx hb dX5_itemAt_0 rfl (lv_at hl 0 rfl) ?_
  refine lv_iload_n hx hb dX5_itemAt_1 rfl (lv_at hl 1 rfl) ?_
  refine lv_iload_n hx hb dX5_itemAt_2 rfl (lv_at hl 2 rfl) ?_
  obtain ⟨v1, hq, hf⟩ := zb1_o hf
  refine zc_i hW (zrun_v (As := [.int p1, .int p2]) (rest := []) hC hW (mX5_isPlace p1 p2 s0 hC.2.2.2.2.2.2.2 hq) cv_X5_35 zck_0_49 zcs_0_49 rfl ⟨⟨rfl, rfl⟩, Nat.le_of_ble_eq_true rfl, Nat.le_of_ble_eq_true rfl⟩ (zlv_size hl) rfl (Nat.le_of_ble_eq_true rfl) dX5_itemAt_3 ⟨Nat.le_refl _, Nat.le_refl _⟩) (fun H locs hW => ?_)
  refine zi_if_eq (tgt := 23) hx hb dX5_itemAt_6 (by decide) hf (fun hc hf => ?_) (fun hc hf => ?_)
  · skip
    refine lv_lconst (v := 0) hx hb dX5_itemAt_23 (by decide) ?_
    exact zr_l hx hb hr hlk hW (Option.some.inj hf) rfl dX5_itemAt_24
  · skip
    refine lv_aload_n hx hb dX5_itemAt_9 rfl (lv_at hl 0 rfl) ?_
    refine zg_a (o := 2) hC hW fl_X5_18 zck_0_49 zcs_0_49 (show _ = 52 from rfl) dX5_itemAt_10 ?_
    refine lv_iload_n hx hb dX5_itemAt_13 rfl (lv_at hl 1 rfl) ?_
    refine lv_bipush (v := 60) hx hb dX5_itemAt_14 (by decide) ?_
    refine lv_imul hx hb dX5_itemAt_16 ?_
    refine lv_iload_n hx hb dX5_itemAt_17 rfl (lv_at hl 2 rfl) ?_
    refine lv_iadd hx hb dX5_itemAt_18 ?_
    refine za_lL hC hW hf zaj_0_52 dX5_itemAt_19 (fun v2 hf => ?_)
    refine lv_goto (tgt := 24) hx hb dX5_itemAt_20 (by decide) ?_
    exact zr_l hx hb hr hlk hW (Option.some.inj hf) rfl dX5_itemAt_24
set_option maxHeartbeats 4000000 in
set_option maxRecDepth 100000 in
theorem mX7_judge {l : Launch} {D : va_G} {cI cJ : ClassId} {adr : Nat → Nat} (p1 : Int32) (p2 : Int32) (s0 : zkS) {z : Nat} {ro : Int32} (hI : zInj 0 adr) (hf : fX7_judge p1 p2 s0 = some ro) : Met l yX7_judge (Cond.code yX7_judge cX7_judge 5 (some .int) :: zTb) { frames := 3, cells := 0, slots := 0, locals := 64 } (zPre 0 D cI cJ adr s0 z [.ref (adr 0), .int p1, .int p2]) (zQi 0 D cI cJ adr z ro s0) 0 0 (zA 0 adr z) := by
  refine zen (cc := cX7_judge) (own := RX7) (by decide +kernel) rfl hI (Nat.le_of_ble_eq_true rfl) (fun p e s m args below meth c ls hC hr hlk hz hl hW => ?_)
  subst hz
  obtain ⟨hx, hb, -⟩ := id hC
  have hl : lv_has ls 5 [(0, .ref (adr 0)), (1, .int p1), (2, .int p2)] := hl
  refine zst hW (fun H locs hW => ?_)
  unfold fX7_judge at hf
  refine lv_iload_n hx hb dX7_judge_0 rfl (lv_at hl 1 rfl) ?_
  refine zc_i hW (zrun_s (As := [.int p1]) (rest := []) hC hW (mX7_isTape p1 s0 hC.2.2.2.2.2.2.2 rfl) cs_X7_293 rfl ⟨⟨rfl, rfl⟩, Nat.le_of_ble_eq_true rfl, Nat.le_of_ble_eq_true rfl⟩ (zlv_size hl) rfl (Nat.le_of_ble_eq_true rfl) dX7_judge_1 ⟨Nat.le_refl _, Nat.le_refl _⟩) (fun H locs hW => ?_)
  refine zi_if_ne (tgt := 9) hx hb dX7_judge_4 (by decide) hf (fun hc hf => ?_) (fun hc hf => ?_)
  · skip
    refine lv_iconst (v := (-1)) hx hb dX7_judge_7 (by decide) ?_
    exact zr_i hx hb hr hlk hW (Option.some.inj hf) rfl dX7_judge_8
  · skip
    refine lv_aload_n hx hb dX7_judge_9 rfl (lv_at hl 0 rfl) ?_
    refine zg_a (o := 48) hC hW fl_X7_56 zck_0_0 zcs_0_0 (show _ = 49 from rfl) dX7_judge_10 ?_
    refine lv_iload_n hx hb dX7_judge_13 rfl (lv_at hl 1 rfl) ?_
    obtain ⟨v2, hq, hf⟩ := zb1_o hf
    refine zc_i hW (zrun_v (As := [.int p1]) (rest := []) hC hW (mX5_sortOf p1 s0 hC.2.2.2.2.2.2.2 hq) cv_X7_296 zck_0_49 zcs_0_49 rfl ⟨⟨rfl, rfl⟩, Nat.le_of_ble_eq_true rfl, Nat.le_of_ble_eq_true rfl⟩ (zlv_size hl) rfl (Nat.le_of_ble_eq_true rfl) dX7_judge_14 ⟨Nat.le_refl _, Nat.le_refl _⟩) (fun H locs hW => ?_)
    refine lv_istore_n (lv' := [(3, .int v2), (0, .ref (adr 0)), (1, .int p1), (2, .int p2)]) hx hb dX7_judge_17 rfl hl (by decide) rfl (fun ls hl => ?_)
    refine lv_iload_n hx hb dX7_judge_18 rfl (lv_at hl 0 rfl) ?_
    refine lv_bipush (v := (-5)) hx hb dX7_judge_19 (by decide) ?_
    refine zjn_e hf (fun J3 => ∀ (u4 : Unit) (H : Heap) (locs : List Loc) (ls : Array Slot), J3 u4 = some ro → zWo 0 D cI cJ adr s s0 H locs → lv_has ls 5 [(0, .ref (adr 0)), (1, .int p1), (2, .int p2)] → W p l e { frames := 3, cells := 0, slots := 0, locals := 64 } s m args below meth c H locs 0 0 (MQ below (zQi 0 D cI cJ adr s.heap.size ro s0) args s 0 0 (zA 0 adr s.heap.size)) (F0 m 32 ls [])) ?_ (fun J3 hJ3 hf => ?_)
    · intro u4 H locs ls hf hW hl
      refine lv_iconst (v := 0) hx hb dX7_judge_32 (by decide) ?_
      refine lv_istore (lv' := [(4, .int 0), (0, .ref (adr 0)), (1, .int p1), (2, .int p2)]) hx hb dX7_judge_33 hl (by decide) rfl (fun ls hl => ?_)
      have hL35 : ∀ (n : Nat) (x1 : Int32) (x2 : Int32) (x4 : Int32) (K35 : Unit → Option (Int32)) (H : Heap) (locs : List Loc) (ls : Array Slot), fX7_judge_L35 n s0 x1 x2 x4 K35 = some ro → zWo 0 D cI cJ adr s s0 H locs → lv_has ls 5 [(0, .ref (adr 0)), (1, .int x1), (2, .int x2), (4, .int x4)] → (∀  (H : Heap) (locs : List Loc) (ls : Array Slot), K35 () = some ro → zWo 0 D cI cJ adr s s0 H locs → lv_has ls 5 [] → W p l e { frames := 3, cells := 0, slots := 0, locals := 64 } s m args below meth c H locs 0 0 (MQ below (zQi 0 D cI cJ adr s.heap.size ro s0) args s 0 0 (zA 0 adr s.heap.size)) (F0 m 115 ls [])) → W p l e { frames := 3, cells := 0, slots := 0, locals := 64 } s m args below meth c H locs 0 0 (MQ below (zQi 0 D cI cJ adr s.heap.size ro s0) args s 0 0 (zA 0 adr s.heap.size)) (F0 m 35 ls []) := by
        intro n
        induction n with
        | zero =>
          intro x1 x2 x4 K35 H locs ls hf hW hl hK35
          rw [fX7_judge_L35] at hf
          cases hf
        | succ n ih35 =>
          intro x1 x2 x4 K35 H locs ls hf hW hl hK35
          rw [fX7_judge_L35] at hf
          refine lv_iload hx hb dX7_judge_35 (lv_at hl 3 rfl) ?_
          refine lv_aload_n hx hb dX7_judge_37 rfl (lv_at hl 0 rfl) ?_
          refine zg_a (o := 0) hC hW fl_X7_12 zck_0_0 zcs_0_0 (show _ = 1 from rfl) dX7_judge_38 ?_
          refine zg_a (o := 0) hC hW fl_X7_74 (zE_k zEc_1) (zE_s zEc_1) (show _ = 2 from rfl) dX7_judge_41 ?_
          refine zg_i hC hW fl_X7_77 (zG_k zGc_2) (zG_s zGc_2) dX7_judge_44 ?_
          refine zi_icmp_ge (tgt := 115) hx hb dX7_judge_47 (by decide) hf (fun hc hf => ?_) (fun hc hf => ?_)
          · skip
            exact hK35  H locs ls hf hW (lv_sub hl [] rfl)
          · skip
            refine lv_aload_n hx hb dX7_judge_50 rfl (lv_at hl 0 rfl) ?_
            refine zg_a (o := 48) hC hW fl_X7_56 zck_0_0 zcs_0_0 (show _ = 49 from rfl) dX7_judge_51 ?_
            refine lv_iload_n hx hb dX7_judge_54 rfl (lv_at hl 1 rfl) ?_
            refine lv_iload_n hx hb dX7_judge_55 rfl (lv_at hl 2 rfl) ?_
            refine lv_iload hx hb dX7_judge_56 (lv_at hl 3 rfl) ?_
            refine lv_iadd hx hb dX7_judge_58 ?_
            obtain ⟨v5, hq, hf⟩ := zb1_o hf
            refine zc_i hW (zrun_v (As := [.int x1, .int (x2 + x4)]) (rest := []) hC hW (mX5_isPlace x1 (x2 + x4) s0 hC.2.2.2.2.2.2.2 hq) cv_X7_299 zck_0_49 zcs_0_49 rfl ⟨⟨rfl, rfl⟩, Nat.le_of_ble_eq_true rfl, Nat.le_of_ble_eq_true rfl⟩ (zlv_size hl) rfl (Nat.le_of_ble_eq_true rfl) dX7_judge_59 ⟨Nat.le_refl _, Nat.le_refl _⟩) (fun H locs hW => ?_)
            refine zi_if_ne (tgt := 71) hx hb dX7_judge_62 (by decide) hf (fun hc hf => ?_) (fun hc hf => ?_)
            · skip
              refine lv_bipush (v := 100) hx hb dX7_judge_65 (by decide) ?_
              refine lv_iload hx hb dX7_judge_67 (lv_at hl 3 rfl) ?_
              refine lv_iadd hx hb dX7_judge_69 ?_
              exact zr_i hx hb hr hlk hW (Option.some.inj hf) rfl dX7_judge_70
            · skip
              refine lv_aload_n hx hb dX7_judge_71 rfl (lv_at hl 0 rfl) ?_
              refine zg_a (o := 48) hC hW fl_X7_56 zck_0_0 zcs_0_0 (show _ = 49 from rfl) dX7_judge_72 ?_
              refine lv_iload_n hx hb dX7_judge_75 rfl (lv_at hl 1 rfl) ?_
              refine lv_iload_n hx hb dX7_judge_76 rfl (lv_at hl 2 rfl) ?_
              refine lv_iload hx hb dX7_judge_77 (lv_at hl 3 rfl) ?_
              refine lv_iadd hx hb dX7_judge_79 ?_
              obtain ⟨v6, hq, hf⟩ := zb1_o hf
              refine zc_l hW (zrun_v (As := [.int x1, .int (x2 + x4)]) (rest := []) hC hW (mX5_itemAt x1 (x2 + x4) s0 hC.2.2.2.2.2.2.2 hq) cv_X7_302 zck_0_49 zcs_0_49 rfl ⟨⟨rfl, rfl⟩, Nat.le_of_ble_eq_true rfl, Nat.le_of_ble_eq_true rfl⟩ (zlv_size hl) rfl (Nat.le_of_ble_eq_true rfl) dX7_judge_80 ⟨Nat.le_refl _, Nat.le_refl _⟩) (fun H locs hW => ?_)
              refine lv_aload_n hx hb dX7_judge_83 rfl (lv_at hl 0 rfl) ?_
              refine zg_a (o := 0) hC hW fl_X7_12 zck_0_0 zcs_0_0 (show _ = 1 from rfl) dX7_judge_84 ?_
              refine zg_a (o := 6) hC hW fl_X7_68 (zE_k zEc_1) (zE_s zEc_1) (show _ = 8 from rfl) dX7_judge_87 ?_
              refine zg_i hC hW fl_X7_101 (zK_k zKc_8) (zK_s zKc_8) dX7_judge_90 ?_
              refine lv_iload hx hb dX7_judge_93 (lv_at hl 3 rfl) ?_
              refine zc_i hW (zrun_s (As := [.int (s0.1 8 2), .int x4]) (rest := [.long v6]) hC hW (mX7_has (s0.1 8 2) x4 s0 hC.2.2.2.2.2.2.2 rfl) cs_X7_104 rfl ⟨⟨rfl, rfl⟩, Nat.le_of_ble_eq_true rfl, Nat.le_of_ble_eq_true rfl⟩ (zlv_size hl) rfl (Nat.le_of_ble_eq_true rfl) dX7_judge_95 ⟨Nat.le_refl _, Nat.le_refl _⟩) (fun H locs hW => ?_)
              refine zc_i hW (zrun_s (As := [.int (fX7_has (s0.1 8 2) x4)]) (rest := [.long v6]) hC hW (mX7_asNumber (fX7_has (s0.1 8 2) x4) s0 hC.2.2.2.2.2.2.2 rfl) cs_X7_108 rfl ⟨⟨rfl, rfl⟩, Nat.le_of_ble_eq_true rfl, Nat.le_of_ble_eq_true rfl⟩ (zlv_size hl) rfl (Nat.le_of_ble_eq_true rfl) dX7_judge_98 ⟨Nat.le_refl _, Nat.le_refl _⟩) (fun H locs hW => ?_)
              refine lv_i2l hx hb dX7_judge_101 rfl ?_
              refine W.lcmp hx hb dX7_judge_102 ?_
              refine zi_if_eq (tgt := 109) hx hb dX7_judge_103 (by decide) hf (fun hc hf => ?_) (fun hc hf => ?_)
              · skip
                refine zi_inc (v := (x4 + 1)) (lv' := fun v9 => [(4, .int v9), (0, .ref (adr 0)), (1, .int x1), (2, .int x2)]) hx hb dX7_judge_109 hl (k := 3) rfl rfl (by decide) (fun _ => rfl) hf (fun v9 ls hf hl => ?_)
                refine lv_goto (tgt := 35) hx hb dX7_judge_112 (by decide) ?_
                exact ih35 x1 x2 v9 _ H locs ls hf hW (lv_sub hl [1, 2, 3, 0] rfl) hK35
              · skip
                refine lv_iload hx hb dX7_judge_106 (lv_at hl 3 rfl) ?_
                exact zr_i hx hb hr hlk hW (Option.some.inj hf) rfl dX7_judge_108
      refine hL35 zFU p1 p2 0 _ H locs ls hf hW (lv_sub hl [1, 2, 3, 0] rfl) (fun  H locs ls hf hW hl => ?_)
      refine lv_bipush (v := (-5)) hx hb dX7_judge_115 (by decide) ?_
      exact zr_i hx hb hr hlk hW (Option.some.inj hf) rfl dX7_judge_117
    refine zi_icmp_eq (tgt := 32) hx hb dX7_judge_21 (by decide) hf (fun hc hf => ?_) (fun hc hf => ?_)
    · skip
      exact hJ3 () H locs ls hf hW (lv_sub hl [1, 2, 3] rfl)
    · skip
      refine lv_iload_n hx hb dX7_judge_24 rfl (lv_at hl 0 rfl) ?_
      refine lv_iconst (v := 4) hx hb dX7_judge_25 (by decide) ?_
      refine zi_icmp_eq (tgt := 32) hx hb dX7_judge_26 (by decide) hf (fun hc hf => ?_) (fun hc hf => ?_)
      · skip
        exact hJ3 () H locs ls hf hW (lv_sub hl [1, 2, 3] rfl)
      · skip
        refine lv_bipush (v := (-12)) hx hb dX7_judge_29 (by decide) ?_
        exact zr_i hx hb hr hlk hW (Option.some.inj hf) rfl dX7_judge_31
set_option maxHeartbeats 4000000 in
set_option maxRecDepth 100000 in
theorem mX3_copyFrom {l : Launch} {D : va_G} {cI cJ : ClassId} {adr : Nat → Nat} {b : Nat} {o1 : Nat} (kb : zH b) (k1 : zH o1) (s0 : zkS) {z : Nat} {so : zkS} (hI : zInj 0 adr) (hf : fX3_copyFrom b o1 s0 = some so) : Met l yX3_copyFrom (Cond.code yX3_copyFrom cX3_copyFrom 2 none :: zTb) { frames := 1, cells := 0, slots := 0, locals := 18 } (zPre 0 D cI cJ adr s0 z [.ref (adr b), .ref (adr o1)]) (zQv 0 D cI cJ adr z so) 0 0 (zA 0 adr z) := by
  refine zen (cc := cX3_copyFrom) (own := RX3) (by decide +kernel) rfl hI (Nat.le_of_ble_eq_true rfl) (fun p e s m args below meth c ls hC hr hlk hz hl hW => ?_)
  subst hz
  obtain ⟨hx, hb, -⟩ := id hC
  have hl : lv_has ls 2 [(0, .ref (adr b)), (1, .ref (adr o1))] := hl
  refine zst hW (fun H locs hW => ?_)
  unfold fX3_copyFrom at hf
  refine lv_aload_n hx hb dX3_copyFrom_0 rfl (lv_at hl 0 rfl) ?_
  refine lv_aload_n hx hb dX3_copyFrom_1 rfl (lv_at hl 1 rfl) ?_
  refine zg_i hC hW fl_X3_9 (zH_k k1) (zH_s k1) dX3_copyFrom_2 ?_
  refine zp_i hC hW hf fp_X3_9 (zH_k kb) (zH_s kb) dX3_copyFrom_5 (fun s1 H locs hf hW => ?_)
  refine lv_aload_n hx hb dX3_copyFrom_8 rfl (lv_at hl 1 rfl) ?_
  refine zg_a (o := 0) hC hW fl_X3_15 (zH_k k1) (zH_s k1) (show _ = (o1 + 1) from rfl) dX3_copyFrom_9 ?_
  refine lv_iconst (v := 0) hx hb dX3_copyFrom_12 (by decide) ?_
  refine lv_aload_n hx hb dX3_copyFrom_13 rfl (lv_at hl 0 rfl) ?_
  refine zg_a (o := 0) hC hW fl_X3_15 (zH_k kb) (zH_s kb) (show _ = (b + 1) from rfl) dX3_copyFrom_14 ?_
  refine lv_iconst (v := 0) hx hb dX3_copyFrom_17 (by decide) ?_
  refine lv_bipush (v := 30) hx hb dX3_copyFrom_18 (by decide) ?_
  refine za_c hC hW hf cy_X3_19 (zH_1 k1) (zH_1 kb) (zlv_size hl) ⟨Nat.le_of_ble_eq_true rfl, Nat.le_of_ble_eq_true rfl⟩ dX3_copyFrom_20 (fun s2 H locs hf hW => ?_)
  exact zr_v hx hb hr hlk hW (Option.some.inj hf) dX3_copyFrom_23
set_option maxHeartbeats 4000000 in
set_option maxRecDepth 100000 in
theorem mX4_copyFrom {l : Launch} {D : va_G} {cI cJ : ClassId} {adr : Nat → Nat} {b : Nat} {o1 : Nat} (kb : zE b) (k1 : zE o1) (s0 : zkS) {z : Nat} {so : zkS} (hI : zInj 0 adr) (hf : fX4_copyFrom b o1 s0 = some so) : Met l yX4_copyFrom (Cond.code yX4_copyFrom cX4_copyFrom 2 none :: zTb) { frames := 2, cells := 0, slots := 0, locals := 39 } (zPre 0 D cI cJ adr s0 z [.ref (adr b), .ref (adr o1)]) (zQv 0 D cI cJ adr z so) 0 0 (zA 0 adr z) := by
  refine zen (cc := cX4_copyFrom) (own := RX4) (by decide +kernel) rfl hI (Nat.le_of_ble_eq_true rfl) (fun p e s m args below meth c ls hC hr hlk hz hl hW => ?_)
  subst hz
  obtain ⟨hx, hb, -⟩ := id hC
  have hl : lv_has ls 2 [(0, .ref (adr b)), (1, .ref (adr o1))] := hl
  refine zst hW (fun H locs hW => ?_)
  unfold fX4_copyFrom at hf
  refine lv_aload_n hx hb dX4_copyFrom_0 rfl (lv_at hl 0 rfl) ?_
  refine zg_a (o := 0) hC hW fl_X4_10 (zE_k kb) (zE_s kb) (show _ = (b + 1) from rfl) dX4_copyFrom_1 ?_
  refine lv_aload_n hx hb dX4_copyFrom_4 rfl (lv_at hl 1 rfl) ?_
  refine zg_a (o := 0) hC hW fl_X4_10 (zE_k k1) (zE_s k1) (show _ = (o1 + 1) from rfl) dX4_copyFrom_5 ?_
  obtain ⟨s1, hq, hf⟩ := zb1_o hf
  refine zc_v hW (zrun_v (As := [.ref (adr (o1 + 1))]) (rest := []) hC hW (mX0_copyFrom (zE_G kb) (zE_G k1) s0 hC.2.2.2.2.2.2.2 hq) cv_X4_36 (zG_k (zE_G kb)) (zG_s (zE_G kb)) rfl ⟨⟨rfl, rfl⟩, Nat.le_of_ble_eq_true rfl, Nat.le_of_ble_eq_true rfl⟩ (zlv_size hl) rfl (Nat.le_of_ble_eq_true rfl) dX4_copyFrom_8 ⟨Nat.le_refl _, Nat.le_refl _⟩) (fun H locs hW => ?_)
  refine lv_aload_n hx hb dX4_copyFrom_11 rfl (lv_at hl 0 rfl) ?_
  refine zg_a (o := 6) hC hW fl_X4_19 (zE_k kb) (zE_s kb) (show _ = (b + 7) from rfl) dX4_copyFrom_12 ?_
  refine lv_aload_n hx hb dX4_copyFrom_15 rfl (lv_at hl 1 rfl) ?_
  refine zg_a (o := 6) hC hW fl_X4_19 (zE_k k1) (zE_s k1) (show _ = (o1 + 7) from rfl) dX4_copyFrom_16 ?_
  obtain ⟨s2, hq, hf⟩ := zb1_o hf
  refine zc_v hW (zrun_v (As := [.ref (adr (o1 + 7))]) (rest := []) hC hW (mX2_copyFrom (zE_K kb) (zE_K k1) s1 hC.2.2.2.2.2.2.2 hq) cv_X4_40 (zK_k (zE_K kb)) (zK_s (zE_K kb)) rfl ⟨⟨rfl, rfl⟩, Nat.le_of_ble_eq_true rfl, Nat.le_of_ble_eq_true rfl⟩ (zlv_size hl) rfl (Nat.le_of_ble_eq_true rfl) dX4_copyFrom_19 ⟨Nat.le_refl _, Nat.le_refl _⟩) (fun H locs hW => ?_)
  refine lv_aload_n hx hb dX4_copyFrom_22 rfl (lv_at hl 0 rfl) ?_
  refine zg_a (o := 9) hC hW fl_X4_26 (zE_k kb) (zE_s kb) (show _ = (b + 10) from rfl) dX4_copyFrom_23 ?_
  refine lv_aload_n hx hb dX4_copyFrom_26 rfl (lv_at hl 1 rfl) ?_
  refine zg_a (o := 9) hC hW fl_X4_26 (zE_k k1) (zE_s k1) (show _ = (o1 + 10) from rfl) dX4_copyFrom_27 ?_
  obtain ⟨s3, hq, hf⟩ := zb1_o hf
  refine zc_v hW (zrun_v (As := [.ref (adr (o1 + 10))]) (rest := []) hC hW (mX3_copyFrom (zE_H1 kb) (zE_H1 k1) s2 hC.2.2.2.2.2.2.2 hq) cv_X4_43 (zH_k (zE_H1 kb)) (zH_s (zE_H1 kb)) rfl ⟨⟨rfl, rfl⟩, Nat.le_of_ble_eq_true rfl, Nat.le_of_ble_eq_true rfl⟩ (zlv_size hl) rfl (Nat.le_of_ble_eq_true rfl) dX4_copyFrom_30 ⟨Nat.le_refl _, Nat.le_refl _⟩) (fun H locs hW => ?_)
  refine lv_aload_n hx hb dX4_copyFrom_33 rfl (lv_at hl 0 rfl) ?_
  refine zg_a (o := 11) hC hW fl_X4_30 (zE_k kb) (zE_s kb) (show _ = (b + 12) from rfl) dX4_copyFrom_34 ?_
  refine lv_aload_n hx hb dX4_copyFrom_37 rfl (lv_at hl 1 rfl) ?_
  refine zg_a (o := 11) hC hW fl_X4_30 (zE_k k1) (zE_s k1) (show _ = (o1 + 12) from rfl) dX4_copyFrom_38 ?_
  obtain ⟨s4, hq, hf⟩ := zb1_o hf
  refine zc_v hW (zrun_v (As := [.ref (adr (o1 + 12))]) (rest := []) hC hW (mX3_copyFrom (zE_H2 kb) (zE_H2 k1) s3 hC.2.2.2.2.2.2.2 hq) cv_X4_43 (zH_k (zE_H2 kb)) (zH_s (zE_H2 kb)) rfl ⟨⟨rfl, rfl⟩, Nat.le_of_ble_eq_true rfl, Nat.le_of_ble_eq_true rfl⟩ (zlv_size hl) rfl (Nat.le_of_ble_eq_true rfl) dX4_copyFrom_41 ⟨Nat.le_refl _, Nat.le_refl _⟩) (fun H locs hW => ?_)
  refine lv_aload_n hx hb dX4_copyFrom_44 rfl (lv_at hl 0 rfl) ?_
  refine zg_a (o := 13) hC hW fl_X4_33 (zE_k kb) (zE_s kb) (show _ = (b + 14) from rfl) dX4_copyFrom_45 ?_
  refine lv_aload_n hx hb dX4_copyFrom_48 rfl (lv_at hl 1 rfl) ?_
  refine zg_a (o := 13) hC hW fl_X4_33 (zE_k k1) (zE_s k1) (show _ = (o1 + 14) from rfl) dX4_copyFrom_49 ?_
  obtain ⟨s5, hq, hf⟩ := zb1_o hf
  refine zc_v hW (zrun_v (As := [.ref (adr (o1 + 14))]) (rest := []) hC hW (mX3_copyFrom (zE_H3 kb) (zE_H3 k1) s4 hC.2.2.2.2.2.2.2 hq) cv_X4_43 (zH_k (zE_H3 kb)) (zH_s (zE_H3 kb)) rfl ⟨⟨rfl, rfl⟩, Nat.le_of_ble_eq_true rfl, Nat.le_of_ble_eq_true rfl⟩ (zlv_size hl) rfl (Nat.le_of_ble_eq_true rfl) dX4_copyFrom_52 ⟨Nat.le_refl _, Nat.le_refl _⟩) (fun H locs hW => ?_)
  exact zr_v hx hb hr hlk hW (Option.some.inj hf) dX4_copyFrom_55
set_option maxHeartbeats 4000000 in
set_option maxRecDepth 100000 in
theorem mX7_image {l : Launch} {D : va_G} {cI cJ : ClassId} {adr : Nat → Nat} (s0 : zkS) {z : Nat} {ro : Int32} {so : zkS} (hI : zInj 0 adr) (hf : fX7_image s0 = some (ro, so)) : Met l yX7_image (Cond.code yX7_image cX7_image 1 (some .int) :: zTb) { frames := 3, cells := 0, slots := 0, locals := 60 } (zPre 0 D cI cJ adr s0 z [.ref (adr 0)]) (zQi 0 D cI cJ adr z ro so) 0 0 (zA 0 adr z) := by
  refine zen (cc := cX7_image) (own := RX7) (by decide +kernel) rfl hI (Nat.le_of_ble_eq_true rfl) (fun p e s m args below meth c ls hC hr hlk hz hl hW => ?_)
  subst hz
  obtain ⟨hx, hb, -⟩ := id hC
  have hl : lv_has ls 1 [(0, .ref (adr 0))] := hl
  refine zst hW (fun H locs hW => ?_)
  unfold fX7_image at hf
  refine lv_aload_n hx hb dX7_image_0 rfl (lv_at hl 0 rfl) ?_
  refine zg_a (o := 16) hC hW fl_X7_18 zck_0_0 zcs_0_0 (show _ = 17 from rfl) dX7_image_1 ?_
  refine lv_aload_n hx hb dX7_image_4 rfl (lv_at hl 0 rfl) ?_
  refine zg_a (o := 0) hC hW fl_X7_12 zck_0_0 zcs_0_0 (show _ = 1 from rfl) dX7_image_5 ?_
  obtain ⟨s1, hq, hf⟩ := zb1_o hf
  refine zc_v hW (zrun_v (As := [.ref (adr 1)]) (rest := []) hC hW (mX4_copyFrom zEc_17 zEc_1 s0 hC.2.2.2.2.2.2.2 hq) cv_X7_306 (zE_k zEc_17) (zE_s zEc_17) rfl ⟨⟨rfl, rfl⟩, Nat.le_of_ble_eq_true rfl, Nat.le_of_ble_eq_true rfl⟩ (zlv_size hl) rfl (Nat.le_of_ble_eq_true rfl) dX7_image_8 ⟨Nat.le_refl _, Nat.le_refl _⟩) (fun H locs hW => ?_)
  refine lv_aload_n hx hb dX7_image_11 rfl (lv_at hl 0 rfl) ?_
  refine lv_iconst (v := 1) hx hb dX7_image_12 (by decide) ?_
  refine zp_y hC hW hf (by decide) fp_X7_21 zck_0_0 zcs_0_0 dX7_image_13 (fun s2 H locs hf hW => ?_)
  refine lv_aload_n hx hb dX7_image_16 rfl (lv_at hl 0 rfl) ?_
  refine zg_a (o := 0) hC hW fl_X7_12 zck_0_0 zcs_0_0 (show _ = 1 from rfl) dX7_image_17 ?_
  refine zg_a (o := 0) hC hW fl_X7_74 (zE_k zEc_1) (zE_s zEc_1) (show _ = 2 from rfl) dX7_image_20 ?_
  refine zg_i hC hW fl_X7_181 (zG_k zGc_2) (zG_s zGc_2) dX7_image_23 ?_
  refine zc_i hW (zrun_s (As := [.int (s2.1 2 1)]) (rest := []) hC hW (mJ6_bitCount_0f7a4 (s2.1 2 1) s2 hC.2.2.2.2.2.2.2 rfl) cs_X7_201 rfl ⟨⟨rfl, rfl⟩, Nat.le_of_ble_eq_true rfl, Nat.le_of_ble_eq_true rfl⟩ (zlv_size hl) rfl (Nat.le_of_ble_eq_true rfl) dX7_image_26 ⟨Nat.le_refl _, Nat.le_refl _⟩) (fun H locs hW => ?_)
  exact zr_i hx hb hr hlk hW (zo1 hf) (zo2 hf) dX7_image_29
set_option maxHeartbeats 4000000 in
set_option maxRecDepth 100000 in
theorem mX7_undo {l : Launch} {D : va_G} {cI cJ : ClassId} {adr : Nat → Nat} (s0 : zkS) {z : Nat} {ro : Int32} {so : zkS} (hI : zInj 0 adr) (hf : fX7_undo s0 = some (ro, so)) : Met l yX7_undo (Cond.code yX7_undo cX7_undo 1 (some .int) :: zTb) { frames := 3, cells := 0, slots := 0, locals := 60 } (zPre 0 D cI cJ adr s0 z [.ref (adr 0)]) (zQi 0 D cI cJ adr z ro so) 0 0 (zA 0 adr z) := by
  refine zen (cc := cX7_undo) (own := RX7) (by decide +kernel) rfl hI (Nat.le_of_ble_eq_true rfl) (fun p e s m args below meth c ls hC hr hlk hz hl hW => ?_)
  subst hz
  obtain ⟨hx, hb, -⟩ := id hC
  have hl : lv_has ls 1 [(0, .ref (adr 0))] := hl
  refine zst hW (fun H locs hW => ?_)
  unfold fX7_undo at hf
  refine lv_aload_n hx hb dX7_undo_0 rfl (lv_at hl 0 rfl) ?_
  refine zg_i hC hW fl_X7_21 zck_0_0 zcs_0_0 dX7_undo_1 ?_
  refine zi_if_ne (tgt := 10) hx hb dX7_undo_4 (by decide) hf (fun hc hf => ?_) (fun hc hf => ?_)
  · skip
    refine lv_bipush (v := (-3)) hx hb dX7_undo_7 (by decide) ?_
    exact zr_i hx hb hr hlk hW (zo1 hf) (zo2 hf) dX7_undo_9
  · skip
    refine lv_aload_n hx hb dX7_undo_10 rfl (lv_at hl 0 rfl) ?_
    refine zg_a (o := 0) hC hW fl_X7_12 zck_0_0 zcs_0_0 (show _ = 1 from rfl) dX7_undo_11 ?_
    refine lv_aload_n hx hb dX7_undo_14 rfl (lv_at hl 0 rfl) ?_
    refine zg_a (o := 16) hC hW fl_X7_18 zck_0_0 zcs_0_0 (show _ = 17 from rfl) dX7_undo_15 ?_
    obtain ⟨s1, hq, hf⟩ := zb1_o hf
    refine zc_v hW (zrun_v (As := [.ref (adr 17)]) (rest := []) hC hW (mX4_copyFrom zEc_1 zEc_17 s0 hC.2.2.2.2.2.2.2 hq) cv_X7_306 (zE_k zEc_1) (zE_s zEc_1) rfl ⟨⟨rfl, rfl⟩, Nat.le_of_ble_eq_true rfl, Nat.le_of_ble_eq_true rfl⟩ (zlv_size hl) rfl (Nat.le_of_ble_eq_true rfl) dX7_undo_18 ⟨Nat.le_refl _, Nat.le_refl _⟩) (fun H locs hW => ?_)
    refine lv_aload_n hx hb dX7_undo_21 rfl (lv_at hl 0 rfl) ?_
    refine zg_a (o := 0) hC hW fl_X7_12 zck_0_0 zcs_0_0 (show _ = 1 from rfl) dX7_undo_22 ?_
    refine zg_a (o := 0) hC hW fl_X7_74 (zE_k zEc_1) (zE_s zEc_1) (show _ = 2 from rfl) dX7_undo_25 ?_
    refine zg_i hC hW fl_X7_181 (zG_k zGc_2) (zG_s zGc_2) dX7_undo_28 ?_
    refine zc_i hW (zrun_s (As := [.int (s1.1 2 1)]) (rest := []) hC hW (mJ6_bitCount_0f7a4 (s1.1 2 1) s1 hC.2.2.2.2.2.2.2 rfl) cs_X7_201 rfl ⟨⟨rfl, rfl⟩, Nat.le_of_ble_eq_true rfl, Nat.le_of_ble_eq_true rfl⟩ (zlv_size hl) rfl (Nat.le_of_ble_eq_true rfl) dX7_undo_31 ⟨Nat.le_refl _, Nat.le_refl _⟩) (fun H locs hW => ?_)
    exact zr_i hx hb hr hlk hW (zo1 hf) (zo2 hf) dX7_undo_34
set_option maxHeartbeats 4000000 in
set_option maxRecDepth 100000 in
theorem mX7_isUnder {l : Launch} {D : va_G} {cI cJ : ClassId} {adr : Nat → Nat} (p1 : Int32) (p2 : Int32) (s0 : zkS) {z : Nat} {ro : Int32} (hI : zInj 0 adr) (hf : fX7_isUnder p1 p2 = some ro) : Met l yX7_isUnder (Cond.code yX7_isUnder cX7_isUnder 4 (some .boolean) :: zTb) { frames := 0, cells := 0, slots := 0, locals := 0 } (zPre 0 D cI cJ adr s0 z [.int p1, .int p2]) (zQi 0 D cI cJ adr z ro s0) 0 0 (zA 0 adr z) := by
  refine zen (cc := cX7_isUnder) (own := RX7) (by decide +kernel) rfl hI (Nat.le_of_ble_eq_true rfl) (fun p e s m args below meth c ls hC hr hlk hz hl hW => ?_)
  subst hz
  obtain ⟨hx, hb, -⟩ := id hC
  have hl : lv_has ls 4 [(0, .int p1), (1, .int p2)] := hl
  refine zst hW (fun H locs hW => ?_)
  obtain ⟨tU, hU⟩ : ∃ tU, zUH 0 adr s tU := hC.2.2.2.2.2.2.1.2 rfl
  unfold fX7_isUnder at hf
  refine lv_iload_n hx hb dX7_isUnder_0 rfl (lv_at hl 0 rfl) ?_
  refine lv_istore_n (lv' := [(2, .int p1), (0, .int p1), (1, .int p2)]) hx hb dX7_isUnder_1 rfl hl (by decide) rfl (fun ls hl => ?_)
  refine lv_iconst (v := 0) hx hb dX7_isUnder_2 (by decide) ?_
  refine lv_istore_n (lv' := [(3, .int 0), (2, .int p1), (0, .int p1), (1, .int p2)]) hx hb dX7_isUnder_3 rfl hl (by decide) rfl (fun ls hl => ?_)
  have hL4 : ∀ (n : Nat) (x1 : Int32) (x2 : Int32) (x3 : Int32) (K4 : Unit → Option (Int32)) (H : Heap) (locs : List Loc) (ls : Array Slot), fX7_isUnder_L4 n x1 x2 x3 K4 = some ro → zWo 0 D cI cJ adr s s0 H locs → lv_has ls 4 [(1, .int x1), (2, .int x2), (3, .int x3)] → (∀  (H : Heap) (locs : List Loc) (ls : Array Slot), K4 () = some ro → zWo 0 D cI cJ adr s s0 H locs → lv_has ls 4 [] → W p l e { frames := 0, cells := 0, slots := 0, locals := 0 } s m args below meth c H locs 0 0 (MQ below (zQi 0 D cI cJ adr s.heap.size ro s0) args s 0 0 (zA 0 adr s.heap.size)) (F0 m 43 ls [])) → W p l e { frames := 0, cells := 0, slots := 0, locals := 0 } s m args below meth c H locs 0 0 (MQ below (zQi 0 D cI cJ adr s.heap.size ro s0) args s 0 0 (zA 0 adr s.heap.size)) (F0 m 4 ls []) := by
    intro n
    induction n with
    | zero =>
      intro x1 x2 x3 K4 H locs ls hf hW hl hK4
      rw [fX7_isUnder_L4] at hf
      cases hf
    | succ n ih4 =>
      intro x1 x2 x3 K4 H locs ls hf hW hl hK4
      rw [fX7_isUnder_L4] at hf
      refine lv_iload_n hx hb dX7_isUnder_4 rfl (lv_at hl 2 rfl) ?_
      refine zu_g hC hU hW wq_779 dX7_isUnder_5 ?_
      refine zu_n hx hb hU hW dX7_isUnder_8 ?_
      refine zi_icmp_ge (tgt := 43) hx hb dX7_isUnder_9 (by decide) hf (fun hc hf => ?_) (fun hc hf => ?_)
      · skip
        exact hK4  H locs ls hf hW (lv_sub hl [] rfl)
      · skip
        refine lv_iload_n hx hb dX7_isUnder_12 rfl (lv_at hl 1 rfl) ?_
        refine zi_if_lt (tgt := 43) hx hb dX7_isUnder_13 (by decide) hf (fun hc hf => ?_) (fun hc hf => ?_)
        · skip
          exact hK4  H locs ls hf hW (lv_sub hl [] rfl)
        · skip
          refine lv_iload_n hx hb dX7_isUnder_16 rfl (lv_at hl 1 rfl) ?_
          refine zu_g hC hU hW wq_779 dX7_isUnder_17 ?_
          refine zu_n hx hb hU hW dX7_isUnder_20 ?_
          refine zi_icmp_ge (tgt := 43) hx hb dX7_isUnder_21 (by decide) hf (fun hc hf => ?_) (fun hc hf => ?_)
          · skip
            exact hK4  H locs ls hf hW (lv_sub hl [] rfl)
          · skip
            refine lv_iload_n hx hb dX7_isUnder_24 rfl (lv_at hl 1 rfl) ?_
            refine lv_iload_n hx hb dX7_isUnder_25 rfl (lv_at hl 0 rfl) ?_
            refine zi_icmp_ne (tgt := 31) hx hb dX7_isUnder_26 (by decide) hf (fun hc hf => ?_) (fun hc hf => ?_)
            · skip
              refine lv_iconst (v := 1) hx hb dX7_isUnder_29 (by decide) ?_
              exact zr_z hx hb hr hlk hW (by decide) (Option.some.inj hf) rfl dX7_isUnder_30
            · skip
              refine zu_g hC hU hW wq_779 dX7_isUnder_31 ?_
              refine lv_iload_n hx hb dX7_isUnder_34 rfl (lv_at hl 1 rfl) ?_
              refine zu_l hx hb hU hW hf dX7_isUnder_35 (fun v1 hf => ?_)
              refine lv_istore_n (lv' := [(2, .int v1), (1, .int x1), (3, .int x3)]) hx hb dX7_isUnder_36 rfl hl (by decide) rfl (fun ls hl => ?_)
              refine zi_inc (v := (x3 + 1)) (lv' := fun v2 => [(3, .int v2), (2, .int v1), (1, .int x1)]) hx hb dX7_isUnder_37 hl (k := 2) rfl rfl (by decide) (fun _ => rfl) hf (fun v2 ls hf hl => ?_)
              refine lv_goto (tgt := 4) hx hb dX7_isUnder_40 (by decide) ?_
              exact ih4 x1 v1 v2 _ H locs ls hf hW (lv_sub hl [2, 1, 0] rfl) hK4
  refine hL4 zFU p2 p1 0 _ H locs ls hf hW (lv_sub hl [3, 1, 0] rfl) (fun  H locs ls hf hW hl => ?_)
  refine lv_iconst (v := 0) hx hb dX7_isUnder_43 (by decide) ?_
  exact zr_z hx hb hr hlk hW (by decide) (Option.some.inj hf) rfl dX7_isUnder_44
set_option maxHeartbeats 4000000 in
set_option maxRecDepth 100000 in
theorem mX7_taken {l : Launch} {D : va_G} {cI cJ : ClassId} {adr : Nat → Nat} (p1 : Int32) (p2 : Int32) (s0 : zkS) {z : Nat} {ro : Int32} (hI : zInj 0 adr) (hf : fX7_taken p1 p2 s0 = some ro) : Met l yX7_taken (Cond.code yX7_taken cX7_taken 3 (some .int) :: zTb) { frames := 3, cells := 0, slots := 0, locals := 63 } (zPre 0 D cI cJ adr s0 z [.ref (adr 0), .int p1, .int p2]) (zQi 0 D cI cJ adr z ro s0) 0 0 (zA 0 adr z) := by
  refine zen (cc := cX7_taken) (own := RX7) (by decide +kernel) rfl hI (Nat.le_of_ble_eq_true rfl) (fun p e s m args below meth c ls hC hr hlk hz hl hW => ?_)
  subst hz
  obtain ⟨hx, hb, -⟩ := id hC
  have hl : lv_has ls 3 [(0, .ref (adr 0)), (1, .int p1), (2, .int p2)] := hl
  refine zst hW (fun H locs hW => ?_)
  unfold fX7_taken at hf
  refine lv_iload_n hx hb dX7_taken_0 rfl (lv_at hl 2 rfl) ?_
  refine zi_if_lt (tgt := 10) hx hb dX7_taken_1 (by decide) hf (fun hc hf => ?_) (fun hc hf => ?_)
  · skip
    refine lv_bipush (v := (-2)) hx hb dX7_taken_10 (by decide) ?_
    exact zr_i hx hb hr hlk hW (Option.some.inj hf) rfl dX7_taken_12
  · skip
    refine lv_iload_n hx hb dX7_taken_4 rfl (lv_at hl 2 rfl) ?_
    refine lv_bipush (v := 6) hx hb dX7_taken_5 (by decide) ?_
    refine zi_icmp_le (tgt := 13) hx hb dX7_taken_7 (by decide) hf (fun hc hf => ?_) (fun hc hf => ?_)
    · skip
      refine lv_aload_n hx hb dX7_taken_13 rfl (lv_at hl 0 rfl) ?_
      refine zg_a (o := 0) hC hW fl_X7_12 zck_0_0 zcs_0_0 (show _ = 1 from rfl) dX7_taken_14 ?_
      refine zg_a (o := 0) hC hW fl_X7_74 (zE_k zEc_1) (zE_s zEc_1) (show _ = 2 from rfl) dX7_taken_17 ?_
      refine lv_iload_n hx hb dX7_taken_20 rfl (lv_at hl 1 rfl) ?_
      refine zc_i hW (zrun_v (As := [.int p1]) (rest := []) hC hW (mX0_isThere zGc_2 p1 s0 hC.2.2.2.2.2.2.2 rfl) cv_X7_88 (zG_k zGc_2) (zG_s zGc_2) rfl ⟨⟨rfl, rfl⟩, Nat.le_of_ble_eq_true rfl, Nat.le_of_ble_eq_true rfl⟩ (zlv_size hl) rfl (Nat.le_of_ble_eq_true rfl) dX7_taken_21 ⟨Nat.le_refl _, Nat.le_refl _⟩) (fun H locs hW => ?_)
      refine zi_if_ne (tgt := 30) hx hb dX7_taken_24 (by decide) hf (fun hc hf => ?_) (fun hc hf => ?_)
      · skip
        refine lv_bipush (v := (-11)) hx hb dX7_taken_27 (by decide) ?_
        exact zr_i hx hb hr hlk hW (Option.some.inj hf) rfl dX7_taken_29
      · skip
        refine lv_aload_n hx hb dX7_taken_30 rfl (lv_at hl 0 rfl) ?_
        refine zg_a (o := 0) hC hW fl_X7_12 zck_0_0 zcs_0_0 (show _ = 1 from rfl) dX7_taken_31 ?_
        refine zg_a (o := 0) hC hW fl_X7_74 (zE_k zEc_1) (zE_s zEc_1) (show _ = 2 from rfl) dX7_taken_34 ?_
        refine lv_iload_n hx hb dX7_taken_37 rfl (lv_at hl 1 rfl) ?_
        obtain ⟨v2, hq, hf⟩ := zb1_o hf
        refine zc_i hW (zrun_v (As := [.int p1]) (rest := []) hC hW (mX0_layoutOf zGc_2 p1 s0 hC.2.2.2.2.2.2.2 hq) cv_X7_91 (zG_k zGc_2) (zG_s zGc_2) rfl ⟨⟨rfl, rfl⟩, Nat.le_of_ble_eq_true rfl, Nat.le_of_ble_eq_true rfl⟩ (zlv_size hl) rfl (Nat.le_of_ble_eq_true rfl) dX7_taken_38 ⟨Nat.le_refl _, Nat.le_refl _⟩) (fun H locs hW => ?_)
        refine lv_iload_n hx hb dX7_taken_41 rfl (lv_at hl 2 rfl) ?_
        obtain ⟨v3, hq, hf⟩ := zb1_o hf
        refine zc_i hW (zrun_s (As := [.int v2, .int p2]) (rest := []) hC hW (mX7_isUnder v2 p2 s0 hC.2.2.2.2.2.2.2 hq) cs_X7_309 rfl ⟨⟨rfl, rfl⟩, Nat.le_of_ble_eq_true rfl, Nat.le_of_ble_eq_true rfl⟩ (zlv_size hl) rfl (Nat.le_of_ble_eq_true rfl) dX7_taken_42 ⟨Nat.le_refl _, Nat.le_refl _⟩) (fun H locs hW => ?_)
        refine zi_if_eq (tgt := 62) hx hb dX7_taken_45 (by decide) hf (fun hc hf => ?_) (fun hc hf => ?_)
        · skip
          refine lv_bipush (v := (-12)) hx hb dX7_taken_62 (by decide) ?_
          exact zr_i hx hb hr hlk hW (Option.some.inj hf) rfl dX7_taken_64
        · skip
          refine lv_aload_n hx hb dX7_taken_48 rfl (lv_at hl 0 rfl) ?_
          refine zg_a (o := 0) hC hW fl_X7_12 zck_0_0 zcs_0_0 (show _ = 1 from rfl) dX7_taken_49 ?_
          refine zg_a (o := 0) hC hW fl_X7_74 (zE_k zEc_1) (zE_s zEc_1) (show _ = 2 from rfl) dX7_taken_52 ?_
          refine lv_iload_n hx hb dX7_taken_55 rfl (lv_at hl 1 rfl) ?_
          obtain ⟨v4, hq, hf⟩ := zb1_o hf
          refine zc_i hW (zrun_v (As := [.int p1]) (rest := []) hC hW (mX0_layoutOf zGc_2 p1 s0 hC.2.2.2.2.2.2.2 hq) cv_X7_91 (zG_k zGc_2) (zG_s zGc_2) rfl ⟨⟨rfl, rfl⟩, Nat.le_of_ble_eq_true rfl, Nat.le_of_ble_eq_true rfl⟩ (zlv_size hl) rfl (Nat.le_of_ble_eq_true rfl) dX7_taken_56 ⟨Nat.le_refl _, Nat.le_refl _⟩) (fun H locs hW => ?_)
          refine lv_goto (tgt := 64) hx hb dX7_taken_59 (by decide) ?_
          exact zr_i hx hb hr hlk hW (Option.some.inj hf) rfl dX7_taken_64
    · skip
      refine lv_bipush (v := (-2)) hx hb dX7_taken_10 (by decide) ?_
      exact zr_i hx hb hr hlk hW (Option.some.inj hf) rfl dX7_taken_12
set_option maxHeartbeats 4000000 in
set_option maxRecDepth 100000 in
theorem mX7_count {l : Launch} {D : va_G} {cI cJ : ClassId} {adr : Nat → Nat} (p1 : Int32) (s0 : zkS) {z : Nat} {ro : Int32} (hI : zInj 0 adr) (hf : fX7_count p1 s0 = ro) : Met l yX7_count (Cond.code yX7_count cX7_count 2 (some .int) :: zTb) { frames := 0, cells := 0, slots := 0, locals := 0 } (zPre 0 D cI cJ adr s0 z [.ref (adr 0), .int p1]) (zQi 0 D cI cJ adr z ro s0) 0 0 (zA 0 adr z) := by
  refine zen (cc := cX7_count) (own := RX7) (by decide +kernel) rfl hI (Nat.le_of_ble_eq_true rfl) (fun p e s m args below meth c ls hC hr hlk hz hl hW => ?_)
  subst hz
  obtain ⟨hx, hb, -⟩ := id hC
  have hl : lv_has ls 2 [(0, .ref (adr 0)), (1, .int p1)] := hl
  refine zst hW (fun H locs hW => ?_)
  unfold fX7_count at hf
  refine lv_iload_n hx hb dX7_count_0 rfl (lv_at hl 1 rfl) ?_
  refine zi_c hf (fun h0 hf => ?_) (fun h0 hf => ?_)
  · skip
    refine zs_in (off := 35) (tgt := 36) hx hb h0 dX7_count_1 (by decide) (by decide) (by decide +kernel) (by decide) ?_
    refine lv_aload_n hx hb dX7_count_36 rfl (lv_at hl 0 rfl) ?_
    refine zg_a (o := 0) hC hW fl_X7_12 zck_0_0 zcs_0_0 (show _ = 1 from rfl) dX7_count_37 ?_
    refine zg_a (o := 0) hC hW fl_X7_74 (zE_k zEc_1) (zE_s zEc_1) (show _ = 2 from rfl) dX7_count_40 ?_
    refine zg_i hC hW fl_X7_77 (zG_k zGc_2) (zG_s zGc_2) dX7_count_43 ?_
    exact zr_i hx hb hr hlk hW hf rfl dX7_count_46
  · skip
    refine zi_c hf (fun h1 hf => ?_) (fun h1 hf => ?_)
    · skip
      refine zs_in (off := 46) (tgt := 47) hx hb h1 dX7_count_1 (by decide) (by decide) (by decide +kernel) (by decide) ?_
      refine lv_aload_n hx hb dX7_count_47 rfl (lv_at hl 0 rfl) ?_
      refine zg_a (o := 0) hC hW fl_X7_12 zck_0_0 zcs_0_0 (show _ = 1 from rfl) dX7_count_48 ?_
      refine zg_a (o := 9) hC hW fl_X7_243 (zE_k zEc_1) (zE_s zEc_1) (show _ = 11 from rfl) dX7_count_51 ?_
      refine zg_i hC hW fl_X7_252 (zH_k zHc_11) (zH_s zHc_11) dX7_count_54 ?_
      exact zr_i hx hb hr hlk hW hf rfl dX7_count_57
    · skip
      refine zi_c hf (fun h2 hf => ?_) (fun h2 hf => ?_)
      · skip
        refine zs_in (off := 57) (tgt := 58) hx hb h2 dX7_count_1 (by decide) (by decide) (by decide +kernel) (by decide) ?_
        refine lv_aload_n hx hb dX7_count_58 rfl (lv_at hl 0 rfl) ?_
        refine zg_a (o := 0) hC hW fl_X7_12 zck_0_0 zcs_0_0 (show _ = 1 from rfl) dX7_count_59 ?_
        refine zg_a (o := 11) hC hW fl_X7_281 (zE_k zEc_1) (zE_s zEc_1) (show _ = 13 from rfl) dX7_count_62 ?_
        refine zg_i hC hW fl_X7_252 (zH_k zHc_13) (zH_s zHc_13) dX7_count_65 ?_
        exact zr_i hx hb hr hlk hW hf rfl dX7_count_68
      · skip
        refine zi_c hf (fun h3 hf => ?_) (fun h3 hf => ?_)
        · skip
          refine zs_in (off := 68) (tgt := 69) hx hb h3 dX7_count_1 (by decide) (by decide) (by decide +kernel) (by decide) ?_
          refine lv_aload_n hx hb dX7_count_69 rfl (lv_at hl 0 rfl) ?_
          refine zg_a (o := 0) hC hW fl_X7_12 zck_0_0 zcs_0_0 (show _ = 1 from rfl) dX7_count_70 ?_
          refine zg_a (o := 13) hC hW fl_X7_290 (zE_k zEc_1) (zE_s zEc_1) (show _ = 15 from rfl) dX7_count_73 ?_
          refine zg_i hC hW fl_X7_252 (zH_k zHc_15) (zH_s zHc_15) dX7_count_76 ?_
          exact zr_i hx hb hr hlk hW hf rfl dX7_count_79
        · skip
          refine zi_c hf (fun h4 hf => ?_) (fun h4 hf => ?_)
          · skip
            refine zs_in (off := 79) (tgt := 80) hx hb h4 dX7_count_1 (by decide) (by decide) (by decide +kernel) (by decide) ?_
            refine lv_aload_n hx hb dX7_count_80 rfl (lv_at hl 0 rfl) ?_
            refine zg_a (o := 43) hC hW fl_X7_49 zck_0_0 zcs_0_0 (show _ = 44 from rfl) dX7_count_81 ?_
            refine zg_i hC hW fl_X7_174 zck_0_44 zcs_0_44 dX7_count_84 ?_
            exact zr_i hx hb hr hlk hW hf rfl dX7_count_87
          · skip
            refine lv_tableOut (tgt := 88) hx hb dX7_count_1 (by have n0 := lv_neT h0 (show (0 : Int32).toInt = 0 from rfl); have n1 := lv_neT h1 (show (1 : Int32).toInt = 1 from rfl); have n2 := lv_neT h2 (show (2 : Int32).toInt = 2 from rfl); have n3 := lv_neT h3 (show (3 : Int32).toInt = 3 from rfl); have n4 := lv_neT h4 (show (4 : Int32).toInt = 4 from rfl); omega) (by decide) ?_
            refine lv_bipush (v := (-2)) hx hb dX7_count_88 (by decide) ?_
            exact zr_i hx hb hr hlk hW hf rfl dX7_count_90
set_option maxHeartbeats 4000000 in
set_option maxRecDepth 100000 in
theorem mJ7_rangeCheck_23922 {l : Launch} {D : va_G} {cI cJ : ClassId} {adr : Nat → Nat} {u : Nat} (p1 : Int32) (p2 : Int32) (p3 : Int32) (s0 : zkS) {z : Nat} (hI : zInj u adr) (hf : fJ7_rangeCheck_23922 p1 p2 p3 = some ()) : Met l yJ7_rangeCheck_23922 (Cond.code yJ7_rangeCheck_23922 cJ7_rangeCheck_23922 3 none :: zTb) { frames := 0, cells := 0, slots := 0, locals := 0 } (zPre u D cI cJ adr s0 z [.int p1, .int p2, .int p3]) (zQv u D cI cJ adr z s0) 0 0 (zA u adr z) := by
  refine zen (cc := cJ7_rangeCheck_23922) (own := RJ7) (by decide +kernel) rfl hI (Nat.le_of_ble_eq_true rfl) (fun p e s m args below meth c ls hC hr hlk hz hl hW => ?_)
  subst hz
  obtain ⟨hx, hb, -⟩ := id hC
  have hl : lv_has ls 3 [(0, .int p1), (1, .int p2), (2, .int p3)] := hl
  refine zst hW (fun H locs hW => ?_)
  unfold fJ7_rangeCheck_23922 at hf
  refine lv_iload_n hx hb dJ7_rangeCheck_23922_0 rfl (lv_at hl 1 rfl) ?_
  refine lv_iload_n hx hb dJ7_rangeCheck_23922_1 rfl (lv_at hl 2 rfl) ?_
  refine zi_icmp_le (tgt := 46) hx hb dJ7_rangeCheck_23922_2 (by decide) hf (fun hc hf => ?_) (fun hc hf => ?_)
  · skip
    refine lv_iload_n hx hb dJ7_rangeCheck_23922_46 rfl (lv_at hl 1 rfl) ?_
    refine zi_if_ge (tgt := 59) hx hb dJ7_rangeCheck_23922_47 (by decide) hf (fun hc hf => ?_) (fun hc hf => ?_)
    · skip
      refine lv_iload_n hx hb dJ7_rangeCheck_23922_59 rfl (lv_at hl 2 rfl) ?_
      refine lv_iload_n hx hb dJ7_rangeCheck_23922_60 rfl (lv_at hl 0 rfl) ?_
      refine zi_icmp_le (tgt := 73) hx hb dJ7_rangeCheck_23922_61 (by decide) hf (fun hc hf => ?_) (fun hc hf => ?_)
      · skip
        exact zr_v hx hb hr hlk hW rfl dJ7_rangeCheck_23922_73
      · skip
        cases hf
    · skip
      cases hf
  · skip
    cases hf
set_option maxHeartbeats 4000000 in
set_option maxRecDepth 100000 in
theorem mJ7_fill_bad5a {l : Launch} {D : va_G} {cI cJ : ClassId} {adr : Nat → Nat} (p2 : Int32) (p3 : Int32) (p4 : Int64) (s0 : zkS) {z : Nat} {so : zkS} (hI : zInj 0 adr) (hf : fJ7_fill_bad5a p2 p3 p4 s0 = some so) : Met l yJ7_fill_bad5a (Cond.code yJ7_fill_bad5a cJ7_fill_bad5a 6 none :: zTb) { frames := 1, cells := 0, slots := 0, locals := 22 } (zPre 0 D cI cJ adr s0 z [.ref (adr 52), .int p2, .int p3, .long p4]) (zQv 0 D cI cJ adr z so) 0 0 (zA 0 adr z) := by
  refine zen (cc := cJ7_fill_bad5a) (own := RJ7) (by decide +kernel) rfl hI (Nat.le_of_ble_eq_true rfl) (fun p e s m args below meth c ls hC hr hlk hz hl hW => ?_)
  subst hz
  obtain ⟨hx, hb, -⟩ := id hC
  have hl : lv_has ls 6 [(0, .ref (adr 52)), (1, .int p2), (2, .int p3), (3, .long p4)] := hl
  refine zst hW (fun H locs hW => ?_)
  unfold fJ7_fill_bad5a at hf
  refine lv_aload_n hx hb dJ7_fill_bad5a_0 rfl (lv_at hl 0 rfl) ?_
  refine za_nL hC hW zaj_0_52 dJ7_fill_bad5a_1 ?_
  refine lv_iload_n hx hb dJ7_fill_bad5a_2 rfl (lv_at hl 1 rfl) ?_
  refine lv_iload_n hx hb dJ7_fill_bad5a_3 rfl (lv_at hl 2 rfl) ?_
  obtain ⟨_, hq, hf⟩ := zb1_o hf
  refine zc_v hW (zrun_s (As := [.int (Int32.ofNat 360), .int p2, .int p3]) (rest := []) hC hW (mJ7_rangeCheck_23922 (Int32.ofNat 360) p2 p3 s0 hC.2.2.2.2.2.2.2 hq) cs_J7_13 rfl ⟨⟨rfl, rfl⟩, Nat.le_of_ble_eq_true rfl, Nat.le_of_ble_eq_true rfl⟩ (zlv_size hl) rfl (Nat.le_of_ble_eq_true rfl) dJ7_fill_bad5a_4 ⟨Nat.le_refl _, Nat.le_refl _⟩) (fun H locs hW => ?_)
  refine lv_iload_n hx hb dJ7_fill_bad5a_7 rfl (lv_at hl 1 rfl) ?_
  refine lv_istore (lv' := [(5, .int p2), (0, .ref (adr 52)), (1, .int p2), (2, .int p3), (3, .long p4)]) hx hb dJ7_fill_bad5a_8 hl (by decide) rfl (fun ls hl => ?_)
  have hL10 : ∀ (n : Nat) (x2 : Int32) (x3 : Int64) (x5 : Int32) (s1 : zkS) (K10 : zkS → Option (zkS)) (H : Heap) (locs : List Loc) (ls : Array Slot), fJ7_fill_bad5a_L10 n x2 x3 x5 s1 K10 = some so → zWo 0 D cI cJ adr s s1 H locs → lv_has ls 6 [(0, .ref (adr 52)), (2, .int x2), (3, .long x3), (5, .int x5)] → (∀ (s1 : zkS) (H : Heap) (locs : List Loc) (ls : Array Slot), K10 s1 = some so → zWo 0 D cI cJ adr s s1 H locs → lv_has ls 6 [] → W p l e { frames := 1, cells := 0, slots := 0, locals := 22 } s m args below meth c H locs 0 0 (MQ below (zQv 0 D cI cJ adr s.heap.size so) args s 0 0 (zA 0 adr s.heap.size)) (F0 m 27 ls [])) → W p l e { frames := 1, cells := 0, slots := 0, locals := 22 } s m args below meth c H locs 0 0 (MQ below (zQv 0 D cI cJ adr s.heap.size so) args s 0 0 (zA 0 adr s.heap.size)) (F0 m 10 ls []) := by
    intro n
    induction n with
    | zero =>
      intro x2 x3 x5 s1 K10 H locs ls hf hW hl hK10
      rw [fJ7_fill_bad5a_L10] at hf
      cases hf
    | succ n ih10 =>
      intro x2 x3 x5 s1 K10 H locs ls hf hW hl hK10
      rw [fJ7_fill_bad5a_L10] at hf
      refine lv_iload hx hb dJ7_fill_bad5a_10 (lv_at hl 3 rfl) ?_
      refine lv_iload_n hx hb dJ7_fill_bad5a_12 rfl (lv_at hl 1 rfl) ?_
      refine zi_icmp_ge (tgt := 27) hx hb dJ7_fill_bad5a_13 (by decide) hf (fun hc hf => ?_) (fun hc hf => ?_)
      · skip
        exact hK10 s1 H locs ls hf hW (lv_sub hl [] rfl)
      · skip
        refine lv_aload_n hx hb dJ7_fill_bad5a_16 rfl (lv_at hl 0 rfl) ?_
        refine lv_iload hx hb dJ7_fill_bad5a_17 (lv_at hl 3 rfl) ?_
        refine lv_lload_n hx hb dJ7_fill_bad5a_19 rfl (lv_at hl 2 rfl) ?_
        refine za_sL hC hW hf zaj_0_52 dJ7_fill_bad5a_20 (fun s2 H locs hf hW => ?_)
        refine zi_inc (v := (x5 + 1)) (lv' := fun v3 => [(5, .int v3), (0, .ref (adr 52)), (2, .int x2), (3, .long x3)]) hx hb dJ7_fill_bad5a_21 hl (k := 3) rfl rfl (by decide) (fun _ => rfl) hf (fun v3 ls hf hl => ?_)
        refine lv_goto (tgt := 10) hx hb dJ7_fill_bad5a_24 (by decide) ?_
        exact ih10 x2 x3 v3 s2 _ H locs ls hf hW (lv_sub hl [1, 2, 3, 0] rfl) hK10
  refine hL10 zFU p3 p4 p2 s0 _ H locs ls hf hW (lv_sub hl [1, 3, 4, 0] rfl) (fun s4 H locs ls hf hW hl => ?_)
  exact zr_v hx hb hr hlk hW (Option.some.inj hf) dJ7_fill_bad5a_27
set_option maxHeartbeats 4000000 in
set_option maxRecDepth 100000 in
theorem mX5_lay {l : Launch} {D : va_G} {cI cJ : ClassId} {adr : Nat → Nat} (p1 : Int32) (p2 : Int32) (p3 : Int32) (s0 : zkS) {z : Nat} {so : zkS} (hI : zInj 0 adr) (hf : fX5_lay p1 p2 p3 s0 = some so) : Met l yX5_lay (Cond.code yX5_lay cX5_lay 4 none :: zTb) { frames := 2, cells := 0, slots := 0, locals := 47 } (zPre 0 D cI cJ adr s0 z [.ref (adr 49), .int p1, .int p2, .int p3]) (zQv 0 D cI cJ adr z so) 0 0 (zA 0 adr z) := by
  refine zen (cc := cX5_lay) (own := RX5) (by decide +kernel) rfl hI (Nat.le_of_ble_eq_true rfl) (fun p e s m args below meth c ls hC hr hlk hz hl hW => ?_)
  subst hz
  obtain ⟨hx, hb, -⟩ := id hC
  have hl : lv_has ls 4 [(0, .ref (adr 49)), (1, .int p1), (2, .int p2), (3, .int p3)] := hl
  refine zst hW (fun H locs hW => ?_)
  unfold fX5_lay at hf
  refine lv_iload_n hx hb dX5_lay_0 rfl (lv_at hl 1 rfl) ?_
  refine zc_i hW (zrun_n (As := [.int p1]) (rest := []) hC hW (mX7_isTape p1 s0 hC.2.2.2.2.2.2.2 rfl) cn_X5_28 rfl ⟨⟨rfl, rfl⟩, Nat.le_of_ble_eq_true rfl, Nat.le_of_ble_eq_true rfl⟩ (zlv_size hl) rfl (Nat.le_of_ble_eq_true rfl) dX5_lay_1 ⟨Nat.le_refl _, Nat.le_refl _⟩) (fun H locs hW => ?_)
  refine zi_if_eq (tgt := 49) hx hb dX5_lay_4 (by decide) hf (fun hc hf => ?_) (fun hc hf => ?_)
  · skip
    exact zr_v hx hb hr hlk hW (Option.some.inj hf) dX5_lay_49
  · skip
    refine lv_iload_n hx hb dX5_lay_7 rfl (lv_at hl 3 rfl) ?_
    refine zi_if_lt (tgt := 49) hx hb dX5_lay_8 (by decide) hf (fun hc hf => ?_) (fun hc hf => ?_)
    · skip
      exact zr_v hx hb hr hlk hW (Option.some.inj hf) dX5_lay_49
    · skip
      refine lv_iload_n hx hb dX5_lay_11 rfl (lv_at hl 3 rfl) ?_
      refine lv_bipush (v := 60) hx hb dX5_lay_12 (by decide) ?_
      refine zi_icmp_gt (tgt := 49) hx hb dX5_lay_14 (by decide) hf (fun hc hf => ?_) (fun hc hf => ?_)
      · skip
        exact zr_v hx hb hr hlk hW (Option.some.inj hf) dX5_lay_49
      · skip
        refine lv_aload_n hx hb dX5_lay_17 rfl (lv_at hl 0 rfl) ?_
        refine zg_a (o := 0) hC hW fl_X5_9 zck_0_49 zcs_0_49 (show _ = 50 from rfl) dX5_lay_18 ?_
        refine lv_iload_n hx hb dX5_lay_21 rfl (lv_at hl 1 rfl) ?_
        refine lv_iload_n hx hb dX5_lay_22 rfl (lv_at hl 2 rfl) ?_
        refine za_s hC hW hf zar_0_50 dX5_lay_23 (fun s2 H locs hf hW => ?_)
        refine lv_aload_n hx hb dX5_lay_24 rfl (lv_at hl 0 rfl) ?_
        refine zg_a (o := 1) hC hW fl_X5_15 zck_0_49 zcs_0_49 (show _ = 51 from rfl) dX5_lay_25 ?_
        refine lv_iload_n hx hb dX5_lay_28 rfl (lv_at hl 1 rfl) ?_
        refine lv_iload_n hx hb dX5_lay_29 rfl (lv_at hl 3 rfl) ?_
        refine za_s hC hW hf zar_0_51 dX5_lay_30 (fun s3 H locs hf hW => ?_)
        refine lv_aload_n hx hb dX5_lay_31 rfl (lv_at hl 0 rfl) ?_
        refine zg_a (o := 2) hC hW fl_X5_18 zck_0_49 zcs_0_49 (show _ = 52 from rfl) dX5_lay_32 ?_
        refine lv_iload_n hx hb dX5_lay_35 rfl (lv_at hl 1 rfl) ?_
        refine lv_bipush (v := 60) hx hb dX5_lay_36 (by decide) ?_
        refine lv_imul hx hb dX5_lay_38 ?_
        refine lv_iload_n hx hb dX5_lay_39 rfl (lv_at hl 1 rfl) ?_
        refine lv_bipush (v := 60) hx hb dX5_lay_40 (by decide) ?_
        refine lv_imul hx hb dX5_lay_42 ?_
        refine lv_iload_n hx hb dX5_lay_43 rfl (lv_at hl 3 rfl) ?_
        refine lv_iadd hx hb dX5_lay_44 ?_
        refine lv_lconst (v := 0) hx hb dX5_lay_45 (by decide) ?_
        obtain ⟨s4, hq, hf⟩ := zb1_o hf
        refine zc_v hW (zrun_s (As := [.ref (adr 52), .int (p1 * 60), .int ((p1 * 60) + p3), .long 0]) (rest := []) hC hW (mJ7_fill_bad5a (p1 * 60) ((p1 * 60) + p3) 0 s3 hC.2.2.2.2.2.2.2 hq) cs_X5_32 rfl ⟨⟨rfl, rfl⟩, Nat.le_of_ble_eq_true rfl, Nat.le_of_ble_eq_true rfl⟩ (zlv_size hl) rfl (Nat.le_of_ble_eq_true rfl) dX5_lay_46 ⟨Nat.le_refl _, Nat.le_refl _⟩) (fun H locs hW => ?_)
        exact zr_v hx hb hr hlk hW (Option.some.inj hf) dX5_lay_49
set_option maxHeartbeats 4000000 in
set_option maxRecDepth 100000 in
theorem mX7_tape {l : Launch} {D : va_G} {cI cJ : ClassId} {adr : Nat → Nat} (p1 : Int32) (p2 : Int32) (p3 : Int32) (s0 : zkS) {z : Nat} {ro : Int32} {so : zkS} (hI : zInj 0 adr) (hf : fX7_tape p1 p2 p3 s0 = some (ro, so)) : Met l yX7_tape (Cond.code yX7_tape cX7_tape 4 (some .int) :: zTb) { frames := 3, cells := 0, slots := 0, locals := 70 } (zPre 0 D cI cJ adr s0 z [.ref (adr 0), .int p1, .int p2, .int p3]) (zQi 0 D cI cJ adr z ro so) 0 0 (zA 0 adr z) := by
  refine zen (cc := cX7_tape) (own := RX7) (by decide +kernel) rfl hI (Nat.le_of_ble_eq_true rfl) (fun p e s m args below meth c ls hC hr hlk hz hl hW => ?_)
  subst hz
  obtain ⟨hx, hb, -⟩ := id hC
  have hl : lv_has ls 4 [(0, .ref (adr 0)), (1, .int p1), (2, .int p2), (3, .int p3)] := hl
  refine zst hW (fun H locs hW => ?_)
  unfold fX7_tape at hf
  refine lv_iload_n hx hb dX7_tape_0 rfl (lv_at hl 1 rfl) ?_
  refine zc_i hW (zrun_s (As := [.int p1]) (rest := []) hC hW (mX7_isTape p1 s0 hC.2.2.2.2.2.2.2 rfl) cs_X7_293 rfl ⟨⟨rfl, rfl⟩, Nat.le_of_ble_eq_true rfl, Nat.le_of_ble_eq_true rfl⟩ (zlv_size hl) rfl (Nat.le_of_ble_eq_true rfl) dX7_tape_1 ⟨Nat.le_refl _, Nat.le_refl _⟩) (fun H locs hW => ?_)
  refine zi_if_ne (tgt := 9) hx hb dX7_tape_4 (by decide) hf (fun hc hf => ?_) (fun hc hf => ?_)
  · skip
    refine lv_iconst (v := (-1)) hx hb dX7_tape_7 (by decide) ?_
    exact zr_i hx hb hr hlk hW (zo1 hf) (zo2 hf) dX7_tape_8
  · skip
    refine lv_iload_n hx hb dX7_tape_9 rfl (lv_at hl 2 rfl) ?_
    refine lv_iconst (v := (-1)) hx hb dX7_tape_10 (by decide) ?_
    refine zi_icmp_ne (tgt := 27) hx hb dX7_tape_11 (by decide) hf (fun hc hf => ?_) (fun hc hf => ?_)
    · skip
      refine lv_aload_n hx hb dX7_tape_14 rfl (lv_at hl 0 rfl) ?_
      refine zg_a (o := 48) hC hW fl_X7_56 zck_0_0 zcs_0_0 (show _ = 49 from rfl) dX7_tape_15 ?_
      refine lv_iload_n hx hb dX7_tape_18 rfl (lv_at hl 1 rfl) ?_
      refine lv_bipush (v := (-5)) hx hb dX7_tape_19 (by decide) ?_
      refine lv_iconst (v := 0) hx hb dX7_tape_21 (by decide) ?_
      obtain ⟨s2, hq, hf⟩ := zb1_o hf
      refine zc_v hW (zrun_v (As := [.int p1, .int (-5), .int 0]) (rest := []) hC hW (mX5_lay p1 (-5) 0 s0 hC.2.2.2.2.2.2.2 hq) cv_X7_312 zck_0_49 zcs_0_49 rfl ⟨⟨rfl, rfl⟩, Nat.le_of_ble_eq_true rfl, Nat.le_of_ble_eq_true rfl⟩ (zlv_size hl) rfl (Nat.le_of_ble_eq_true rfl) dX7_tape_22 ⟨Nat.le_refl _, Nat.le_refl _⟩) (fun H locs hW => ?_)
      refine lv_iconst (v := 1) hx hb dX7_tape_25 (by decide) ?_
      exact zr_i hx hb hr hlk hW (zo1 hf) (zo2 hf) dX7_tape_26
    · skip
      refine lv_iload_n hx hb dX7_tape_27 rfl (lv_at hl 2 rfl) ?_
      refine zi_if_lt (tgt := 42) hx hb dX7_tape_28 (by decide) hf (fun hc hf => ?_) (fun hc hf => ?_)
      · skip
        refine lv_bipush (v := (-2)) hx hb dX7_tape_42 (by decide) ?_
        exact zr_i hx hb hr hlk hW (zo1 hf) (zo2 hf) dX7_tape_44
      · skip
        refine lv_iload_n hx hb dX7_tape_31 rfl (lv_at hl 2 rfl) ?_
        refine lv_iconst (v := 4) hx hb dX7_tape_32 (by decide) ?_
        refine zi_icmp_gt (tgt := 42) hx hb dX7_tape_33 (by decide) hf (fun hc hf => ?_) (fun hc hf => ?_)
        · skip
          refine lv_bipush (v := (-2)) hx hb dX7_tape_42 (by decide) ?_
          exact zr_i hx hb hr hlk hW (zo1 hf) (zo2 hf) dX7_tape_44
        · skip
          refine lv_iload_n hx hb dX7_tape_36 rfl (lv_at hl 3 rfl) ?_
          refine lv_bipush (v := 60) hx hb dX7_tape_37 (by decide) ?_
          refine zi_icmp_le (tgt := 45) hx hb dX7_tape_39 (by decide) hf (fun hc hf => ?_) (fun hc hf => ?_)
          · skip
            refine lv_iload_n hx hb dX7_tape_45 rfl (lv_at hl 3 rfl) ?_
            refine zi_if_ge (tgt := 52) hx hb dX7_tape_46 (by decide) hf (fun hc hf => ?_) (fun hc hf => ?_)
            · skip
              refine lv_aload_n hx hb dX7_tape_52 rfl (lv_at hl 0 rfl) ?_
              refine zg_a (o := 48) hC hW fl_X7_56 zck_0_0 zcs_0_0 (show _ = 49 from rfl) dX7_tape_53 ?_
              refine lv_iload_n hx hb dX7_tape_56 rfl (lv_at hl 1 rfl) ?_
              refine lv_iload_n hx hb dX7_tape_57 rfl (lv_at hl 2 rfl) ?_
              refine lv_iload_n hx hb dX7_tape_58 rfl (lv_at hl 3 rfl) ?_
              obtain ⟨s3, hq, hf⟩ := zb1_o hf
              refine zc_v hW (zrun_v (As := [.int p1, .int p2, .int p3]) (rest := []) hC hW (mX5_lay p1 p2 p3 s0 hC.2.2.2.2.2.2.2 hq) cv_X7_312 zck_0_49 zcs_0_49 rfl ⟨⟨rfl, rfl⟩, Nat.le_of_ble_eq_true rfl, Nat.le_of_ble_eq_true rfl⟩ (zlv_size hl) rfl (Nat.le_of_ble_eq_true rfl) dX7_tape_59 ⟨Nat.le_refl _, Nat.le_refl _⟩) (fun H locs hW => ?_)
              refine lv_iconst (v := 1) hx hb dX7_tape_62 (by decide) ?_
              exact zr_i hx hb hr hlk hW (zo1 hf) (zo2 hf) dX7_tape_63
            · skip
              refine lv_bipush (v := (-14)) hx hb dX7_tape_49 (by decide) ?_
              exact zr_i hx hb hr hlk hW (zo1 hf) (zo2 hf) dX7_tape_51
          · skip
            refine lv_bipush (v := (-2)) hx hb dX7_tape_42 (by decide) ?_
            exact zr_i hx hb hr hlk hW (zo1 hf) (zo2 hf) dX7_tape_44
set_option maxHeartbeats 4000000 in
set_option maxRecDepth 100000 in
theorem mX5_cutDown {l : Launch} {D : va_G} {cI cJ : ClassId} {adr : Nat → Nat} {u : Nat} (p1 : Int32) (p2 : Int64) (s0 : zkS) {z : Nat} {ro : Int64} (hI : zInj u adr) (hf : fX5_cutDown p1 p2 = ro) : Met l yX5_cutDown (Cond.code yX5_cutDown cX5_cutDown 3 (some .long) :: zTb) { frames := 0, cells := 0, slots := 0, locals := 0 } (zPre u D cI cJ adr s0 z [.int p1, .long p2]) (zQl u D cI cJ adr z ro s0) 0 0 (zA u adr z) := by
  refine zen (cc := cX5_cutDown) (own := RX5) (by decide +kernel) rfl hI (Nat.le_of_ble_eq_true rfl) (fun p e s m args below meth c ls hC hr hlk hz hl hW => ?_)
  subst hz
  obtain ⟨hx, hb, -⟩ := id hC
  have hl : lv_has ls 3 [(0, .int p1), (1, .long p2)] := hl
  refine zst hW (fun H locs hW => ?_)
  unfold fX5_cutDown at hf
  refine lv_iload_n hx hb dX5_cutDown_0 rfl (lv_at hl 0 rfl) ?_
  refine zi_c hf (fun h0 hf => ?_) (fun h0 hf => ?_)
  · skip
    refine zs_in (off := 31) (tgt := 32) hx hb h0 dX5_cutDown_1 (by decide) (by decide) (by decide +kernel) (by decide) ?_
    refine lv_lload_n hx hb dX5_cutDown_32 rfl (lv_at hl 1 rfl) ?_
    refine lv_l2i hx hb dX5_cutDown_33 rfl ?_
    refine lv_i2b hx hb dX5_cutDown_34 rfl ?_
    refine lv_i2l hx hb dX5_cutDown_35 rfl ?_
    exact zr_l hx hb hr hlk hW hf rfl dX5_cutDown_36
  · skip
    refine zi_c hf (fun h1 hf => ?_) (fun h1 hf => ?_)
    · skip
      refine zs_in (off := 36) (tgt := 37) hx hb h1 dX5_cutDown_1 (by decide) (by decide) (by decide +kernel) (by decide) ?_
      refine lv_lload_n hx hb dX5_cutDown_37 rfl (lv_at hl 1 rfl) ?_
      refine lv_l2i hx hb dX5_cutDown_38 rfl ?_
      refine lv_i2s hx hb dX5_cutDown_39 rfl ?_
      refine lv_i2l hx hb dX5_cutDown_40 rfl ?_
      exact zr_l hx hb hr hlk hW hf rfl dX5_cutDown_41
    · skip
      refine zi_c hf (fun h2 hf => ?_) (fun h2 hf => ?_)
      · skip
        refine zs_in (off := 41) (tgt := 42) hx hb h2 dX5_cutDown_1 (by decide) (by decide) (by decide +kernel) (by decide) ?_
        refine lv_lload_n hx hb dX5_cutDown_42 rfl (lv_at hl 1 rfl) ?_
        refine lv_l2i hx hb dX5_cutDown_43 rfl ?_
        refine lv_i2l hx hb dX5_cutDown_44 rfl ?_
        exact zr_l hx hb hr hlk hW hf rfl dX5_cutDown_45
      · skip
        refine zi_c hf (fun h3 hf => ?_) (fun h3 hf => ?_)
        · skip
          refine zs_in (off := 45) (tgt := 46) hx hb h3 dX5_cutDown_1 (by decide) (by decide) (by decide +kernel) (by decide) ?_
          refine lv_lload_n hx hb dX5_cutDown_46 rfl (lv_at hl 1 rfl) ?_
          exact zr_l hx hb hr hlk hW hf rfl dX5_cutDown_47
        · skip
          refine lv_tableOut (tgt := 48) hx hb dX5_cutDown_1 (by have n0 := lv_neT h0 (show (0 : Int32).toInt = 0 from rfl); have n1 := lv_neT h1 (show (1 : Int32).toInt = 1 from rfl); have n2 := lv_neT h2 (show (2 : Int32).toInt = 2 from rfl); have n3 := lv_neT h3 (show (3 : Int32).toInt = 3 from rfl); omega) (by decide) ?_
          refine lv_lload_n hx hb dX5_cutDown_48 rfl (lv_at hl 1 rfl) ?_
          refine lv_lconst (v := 0) hx hb dX5_cutDown_49 (by decide) ?_
          refine W.lcmp hx hb dX5_cutDown_50 ?_
          refine zi_if_eq (tgt := 58) hx hb dX5_cutDown_51 (by decide) hf (fun hc hf => ?_) (fun hc hf => ?_)
          · skip
            refine lv_lconst (v := 0) hx hb dX5_cutDown_58 (by decide) ?_
            exact zr_l hx hb hr hlk hW hf rfl dX5_cutDown_59
          · skip
            refine lv_lconst (v := 1) hx hb dX5_cutDown_54 (by decide) ?_
            refine lv_goto (tgt := 59) hx hb dX5_cutDown_55 (by decide) ?_
            exact zr_l hx hb hr hlk hW hf rfl dX5_cutDown_59
set_option maxHeartbeats 4000000 in
set_option maxRecDepth 100000 in
theorem mX5_write {l : Launch} {D : va_G} {cI cJ : ClassId} {adr : Nat → Nat} (p1 : Int32) (p2 : Int32) (p3 : Int64) (s0 : zkS) {z : Nat} {so : zkS} (hI : zInj 0 adr) (hf : fX5_write p1 p2 p3 s0 = some so) : Met l yX5_write (Cond.code yX5_write cX5_write 5 none :: zTb) { frames := 2, cells := 0, slots := 0, locals := 42 } (zPre 0 D cI cJ adr s0 z [.ref (adr 49), .int p1, .int p2, .long p3]) (zQv 0 D cI cJ adr z so) 0 0 (zA 0 adr z) := by
  refine zen (cc := cX5_write) (own := RX5) (by decide +kernel) rfl hI (Nat.le_of_ble_eq_true rfl) (fun p e s m args below meth c ls hC hr hlk hz hl hW => ?_)
  subst hz
  obtain ⟨hx, hb, -⟩ := id hC
  have hl : lv_has ls 5 [(0, .ref (adr 49)), (1, .int p1), (2, .int p2), (3, .long p3)] := hl
  refine zst hW (fun H locs hW => ?_)
  unfold fX5_write at hf
  refine lv_aload_n hx hb dX5_write_0 rfl (lv_at hl 0 rfl) ?_
  refine lv_iload_n hx hb dX5_write_1 rfl (lv_at hl 1 rfl) ?_
  refine lv_iload_n hx hb dX5_write_2 rfl (lv_at hl 2 rfl) ?_
  obtain ⟨v1, hq, hf⟩ := zb1_o hf
  refine zc_i hW (zrun_v (As := [.int p1, .int p2]) (rest := []) hC hW (mX5_isPlace p1 p2 s0 hC.2.2.2.2.2.2.2 hq) cv_X5_35 zck_0_49 zcs_0_49 rfl ⟨⟨rfl, rfl⟩, Nat.le_of_ble_eq_true rfl, Nat.le_of_ble_eq_true rfl⟩ (zlv_size hl) rfl (Nat.le_of_ble_eq_true rfl) dX5_write_3 ⟨Nat.le_refl _, Nat.le_refl _⟩) (fun H locs hW => ?_)
  refine zi_if_eq (tgt := 30) hx hb dX5_write_6 (by decide) hf (fun hc hf => ?_) (fun hc hf => ?_)
  · skip
    exact zr_v hx hb hr hlk hW (Option.some.inj hf) dX5_write_30
  · skip
    refine lv_aload_n hx hb dX5_write_9 rfl (lv_at hl 0 rfl) ?_
    refine zg_a (o := 2) hC hW fl_X5_18 zck_0_49 zcs_0_49 (show _ = 52 from rfl) dX5_write_10 ?_
    refine lv_iload_n hx hb dX5_write_13 rfl (lv_at hl 1 rfl) ?_
    refine lv_bipush (v := 60) hx hb dX5_write_14 (by decide) ?_
    refine lv_imul hx hb dX5_write_16 ?_
    refine lv_iload_n hx hb dX5_write_17 rfl (lv_at hl 2 rfl) ?_
    refine lv_iadd hx hb dX5_write_18 ?_
    refine lv_aload_n hx hb dX5_write_19 rfl (lv_at hl 0 rfl) ?_
    refine zg_a (o := 0) hC hW fl_X5_9 zck_0_49 zcs_0_49 (show _ = 50 from rfl) dX5_write_20 ?_
    refine lv_iload_n hx hb dX5_write_23 rfl (lv_at hl 1 rfl) ?_
    refine za_l hC hW hf zar_0_50 dX5_write_24 (fun v2 hf => ?_)
    refine lv_lload_n hx hb dX5_write_25 rfl (lv_at hl 3 rfl) ?_
    refine zc_l hW (zrun_s (As := [.int v2, .long p3]) (rest := [.int ((p1 * 60) + p2), .ref (adr 52)]) hC hW (mX5_cutDown v2 p3 s0 hC.2.2.2.2.2.2.2 rfl) cs_X5_39 rfl ⟨⟨rfl, rfl⟩, Nat.le_of_ble_eq_true rfl, Nat.le_of_ble_eq_true rfl⟩ (zlv_size hl) rfl (Nat.le_of_ble_eq_true rfl) dX5_write_26 ⟨Nat.le_refl _, Nat.le_refl _⟩) (fun H locs hW => ?_)
    refine za_sL hC hW hf zaj_0_52 dX5_write_29 (fun s4 H locs hf hW => ?_)
    exact zr_v hx hb hr hlk hW (Option.some.inj hf) dX5_write_30
