set_option maxHeartbeats 4000000 in
set_option maxRecDepth 100000 in
theorem mX2_placeOf {l : Launch} {D : va_G} {cI cJ : ClassId} {adr : Nat → Nat} {b : Nat} (kb : zK b) (p1 : Int32) (s0 : zkS) {z : Nat} {ro : Int32} (hI : zInj 0 adr) (hf : fX2_placeOf b p1 s0 = some ro) : Met l yX2_placeOf (Cond.code yX2_placeOf cX2_placeOf 3 (some .int) :: zTb) { frames := 0, cells := 0, slots := 0, locals := 0 } (zPre 0 D cI cJ adr s0 z [.ref (adr b), .int p1]) (zQi 0 D cI cJ adr z ro s0) 0 0 (zA 0 adr z) := by
  refine zen (cc := cX2_placeOf) (own := RX2) (by decide +kernel) rfl hI (Nat.le_of_ble_eq_true rfl) (fun p e s m args below meth c ls hC hr hlk hz hl hW => ?_)
  subst hz
  obtain ⟨hx, hb, -⟩ := id hC
  have hl : lv_has ls 3 [(0, .ref (adr b)), (1, .int p1)] := hl
  refine zst hW (fun H locs hW => ?_)
  unfold fX2_placeOf at hf
  refine lv_iconst (v := 0) hx hb dX2_placeOf_0 (by decide) ?_
  refine lv_istore_n (lv' := [(2, .int 0), (0, .ref (adr b)), (1, .int p1)]) hx hb dX2_placeOf_1 rfl hl (by decide) rfl (fun ls hl => ?_)
  have hL2 : ∀ (n : Nat) (x1 : Int32) (x2 : Int32) (K2 : Unit → Option (Int32)) (H : Heap) (locs : List Loc) (ls : Array Slot), fX2_placeOf_L2 n b s0 x1 x2 K2 = some ro → zWo 0 D cI cJ adr s s0 H locs → lv_has ls 3 [(0, .ref (adr b)), (1, .int x1), (2, .int x2)] → (∀  (H : Heap) (locs : List Loc) (ls : Array Slot), K2 () = some ro → zWo 0 D cI cJ adr s s0 H locs → lv_has ls 3 [] → W p l e { frames := 0, cells := 0, slots := 0, locals := 0 } s m args below meth c H locs 0 0 (MQ below (zQi 0 D cI cJ adr s.heap.size ro s0) args s 0 0 (zA 0 adr s.heap.size)) (F0 m 34 ls [])) → W p l e { frames := 0, cells := 0, slots := 0, locals := 0 } s m args below meth c H locs 0 0 (MQ below (zQi 0 D cI cJ adr s.heap.size ro s0) args s 0 0 (zA 0 adr s.heap.size)) (F0 m 2 ls []) := by
    intro n
    induction n with
    | zero =>
      intro x1 x2 K2 H locs ls hf hW hl hK2
      rw [fX2_placeOf_L2] at hf
      cases hf
    | succ n ih2 =>
      intro x1 x2 K2 H locs ls hf hW hl hK2
      rw [fX2_placeOf_L2] at hf
      refine lv_iload_n hx hb dX2_placeOf_2 rfl (lv_at hl 2 rfl) ?_
      refine lv_aload_n hx hb dX2_placeOf_3 rfl (lv_at hl 0 rfl) ?_
      refine zg_i hC hW fl_X2_28 (zK_k kb) (zK_s kb) dX2_placeOf_4 ?_
      refine zi_icmp_ge (tgt := 34) hx hb dX2_placeOf_7 (by decide) hf (fun hc hf => ?_) (fun hc hf => ?_)
      · skip
        exact hK2  H locs ls hf hW (lv_sub hl [] rfl)
      · skip
        refine lv_iload_n hx hb dX2_placeOf_10 rfl (lv_at hl 2 rfl) ?_
        refine lv_bipush (v := 24) hx hb dX2_placeOf_11 (by decide) ?_
        refine zi_icmp_ge (tgt := 34) hx hb dX2_placeOf_13 (by decide) hf (fun hc hf => ?_) (fun hc hf => ?_)
        · skip
          exact hK2  H locs ls hf hW (lv_sub hl [] rfl)
        · skip
          refine lv_aload_n hx hb dX2_placeOf_16 rfl (lv_at hl 0 rfl) ?_
          refine zg_a (o := 0) hC hW fl_X2_52 (zK_k kb) (zK_s kb) (show _ = (b + 1) from rfl) dX2_placeOf_17 ?_
          refine lv_iload_n hx hb dX2_placeOf_20 rfl (lv_at hl 2 rfl) ?_
          refine za_l hC hW hf (zK_1 kb) dX2_placeOf_21 (fun v1 hf => ?_)
          refine lv_iload_n hx hb dX2_placeOf_22 rfl (lv_at hl 1 rfl) ?_
          refine zi_icmp_ne (tgt := 28) hx hb dX2_placeOf_23 (by decide) hf (fun hc hf => ?_) (fun hc hf => ?_)
          · skip
            refine lv_iload_n hx hb dX2_placeOf_26 rfl (lv_at hl 2 rfl) ?_
            exact zr_i hx hb hr hlk hW (Option.some.inj hf) rfl dX2_placeOf_27
          · skip
            refine zi_inc (v := (x2 + 1)) (lv' := fun v2 => [(2, .int v2), (0, .ref (adr b)), (1, .int x1)]) hx hb dX2_placeOf_28 hl (k := 2) rfl rfl (by decide) (fun _ => rfl) hf (fun v2 ls hf hl => ?_)
            refine lv_goto (tgt := 2) hx hb dX2_placeOf_31 (by decide) ?_
            exact ih2 x1 v2 _ H locs ls hf hW (lv_sub hl [1, 2, 0] rfl) hK2
  refine hL2 zFU p1 0 _ H locs ls hf hW (lv_sub hl [1, 2, 0] rfl) (fun  H locs ls hf hW hl => ?_)
  refine lv_iconst (v := (-1)) hx hb dX2_placeOf_34 (by decide) ?_
  exact zr_i hx hb hr hlk hW (Option.some.inj hf) rfl dX2_placeOf_35
set_option maxHeartbeats 4000000 in
set_option maxRecDepth 100000 in
theorem mX2_turnedAt {l : Launch} {D : va_G} {cI cJ : ClassId} {adr : Nat → Nat} {b : Nat} (kb : zK b) (p1 : Int32) (s0 : zkS) {z : Nat} {ro : Int32} (hI : zInj 0 adr) (hf : fX2_turnedAt b p1 s0 = ro) : Met l yX2_turnedAt (Cond.code yX2_turnedAt cX2_turnedAt 2 (some .boolean) :: zTb) { frames := 0, cells := 0, slots := 0, locals := 0 } (zPre 0 D cI cJ adr s0 z [.ref (adr b), .int p1]) (zQi 0 D cI cJ adr z ro s0) 0 0 (zA 0 adr z) := by
  refine zen (cc := cX2_turnedAt) (own := RX2) (by decide +kernel) rfl hI (Nat.le_of_ble_eq_true rfl) (fun p e s m args below meth c ls hC hr hlk hz hl hW => ?_)
  subst hz
  obtain ⟨hx, hb, -⟩ := id hC
  have hl : lv_has ls 2 [(0, .ref (adr b)), (1, .int p1)] := hl
  refine zst hW (fun H locs hW => ?_)
  unfold fX2_turnedAt at hf
  refine lv_iload_n hx hb dX2_turnedAt_0 rfl (lv_at hl 1 rfl) ?_
  refine zi_if_lt (tgt := 30) hx hb dX2_turnedAt_1 (by decide) hf (fun hc hf => ?_) (fun hc hf => ?_)
  · skip
    refine lv_iconst (v := 0) hx hb dX2_turnedAt_30 (by decide) ?_
    exact zr_z hx hb hr hlk hW (by decide) hf rfl dX2_turnedAt_31
  · skip
    refine lv_iload_n hx hb dX2_turnedAt_4 rfl (lv_at hl 1 rfl) ?_
    refine lv_aload_n hx hb dX2_turnedAt_5 rfl (lv_at hl 0 rfl) ?_
    refine zg_i hC hW fl_X2_34 (zK_k kb) (zK_s kb) dX2_turnedAt_6 ?_
    refine zi_icmp_lt (tgt := 30) hx hb dX2_turnedAt_9 (by decide) hf (fun hc hf => ?_) (fun hc hf => ?_)
    · skip
      refine lv_iconst (v := 0) hx hb dX2_turnedAt_30 (by decide) ?_
      exact zr_z hx hb hr hlk hW (by decide) hf rfl dX2_turnedAt_31
    · skip
      refine lv_iload_n hx hb dX2_turnedAt_12 rfl (lv_at hl 1 rfl) ?_
      refine lv_aload_n hx hb dX2_turnedAt_13 rfl (lv_at hl 0 rfl) ?_
      refine zg_i hC hW fl_X2_28 (zK_k kb) (zK_s kb) dX2_turnedAt_14 ?_
      refine zi_icmp_ge (tgt := 30) hx hb dX2_turnedAt_17 (by decide) hf (fun hc hf => ?_) (fun hc hf => ?_)
      · skip
        refine lv_iconst (v := 0) hx hb dX2_turnedAt_30 (by decide) ?_
        exact zr_z hx hb hr hlk hW (by decide) hf rfl dX2_turnedAt_31
      · skip
        refine lv_iload_n hx hb dX2_turnedAt_20 rfl (lv_at hl 1 rfl) ?_
        refine lv_bipush (v := 24) hx hb dX2_turnedAt_21 (by decide) ?_
        refine zi_icmp_ge (tgt := 30) hx hb dX2_turnedAt_23 (by decide) hf (fun hc hf => ?_) (fun hc hf => ?_)
        · skip
          refine lv_iconst (v := 0) hx hb dX2_turnedAt_30 (by decide) ?_
          exact zr_z hx hb hr hlk hW (by decide) hf rfl dX2_turnedAt_31
        · skip
          refine lv_iconst (v := 1) hx hb dX2_turnedAt_26 (by decide) ?_
          refine lv_goto (tgt := 31) hx hb dX2_turnedAt_27 (by decide) ?_
          exact zr_z hx hb hr hlk hW (by decide) hf rfl dX2_turnedAt_31
set_option maxHeartbeats 4000000 in
set_option maxRecDepth 100000 in
theorem mX2_hasTurned {l : Launch} {D : va_G} {cI cJ : ClassId} {adr : Nat → Nat} {b : Nat} (kb : zK b) (p1 : Int32) (s0 : zkS) {z : Nat} {ro : Int32} (hI : zInj 0 adr) (hf : fX2_hasTurned b p1 s0 = some ro) : Met l yX2_hasTurned (Cond.code yX2_hasTurned cX2_hasTurned 2 (some .boolean) :: zTb) { frames := 1, cells := 0, slots := 0, locals := 22 } (zPre 0 D cI cJ adr s0 z [.ref (adr b), .int p1]) (zQi 0 D cI cJ adr z ro s0) 0 0 (zA 0 adr z) := by
  refine zen (cc := cX2_hasTurned) (own := RX2) (by decide +kernel) rfl hI (Nat.le_of_ble_eq_true rfl) (fun p e s m args below meth c ls hC hr hlk hz hl hW => ?_)
  subst hz
  obtain ⟨hx, hb, -⟩ := id hC
  have hl : lv_has ls 2 [(0, .ref (adr b)), (1, .int p1)] := hl
  refine zst hW (fun H locs hW => ?_)
  unfold fX2_hasTurned at hf
  refine lv_aload_n hx hb dX2_hasTurned_0 rfl (lv_at hl 0 rfl) ?_
  refine lv_aload_n hx hb dX2_hasTurned_1 rfl (lv_at hl 0 rfl) ?_
  refine lv_iload_n hx hb dX2_hasTurned_2 rfl (lv_at hl 1 rfl) ?_
  obtain ⟨v1, hq, hf⟩ := zb1_o hf
  refine zc_i hW (zrun_v (As := [.int p1]) (rest := [.ref (adr b)]) hC hW (mX2_placeOf kb p1 s0 hC.2.2.2.2.2.2.2 hq) cv_X2_124 (zK_k kb) (zK_s kb) rfl ⟨⟨rfl, rfl⟩, Nat.le_of_ble_eq_true rfl, Nat.le_of_ble_eq_true rfl⟩ (zlv_size hl) rfl (Nat.le_of_ble_eq_true rfl) dX2_hasTurned_3 ⟨Nat.le_refl _, Nat.le_refl _⟩) (fun H locs hW => ?_)
  refine zc_i hW (zrun_v (As := [.int v1]) (rest := []) hC hW (mX2_turnedAt kb v1 s0 hC.2.2.2.2.2.2.2 rfl) cv_X2_120 (zK_k kb) (zK_s kb) rfl ⟨⟨rfl, rfl⟩, Nat.le_of_ble_eq_true rfl, Nat.le_of_ble_eq_true rfl⟩ (zlv_size hl) rfl (Nat.le_of_ble_eq_true rfl) dX2_hasTurned_6 ⟨Nat.le_refl _, Nat.le_refl _⟩) (fun H locs hW => ?_)
  exact zr_z hx hb hr hlk hW (z01_X2_turnedAt b v1 s0) (Option.some.inj hf) rfl dX2_hasTurned_9
set_option maxHeartbeats 4000000 in
set_option maxRecDepth 100000 in
theorem mX2_isTurned {l : Launch} {D : va_G} {cI cJ : ClassId} {adr : Nat → Nat} {b : Nat} (kb : zK b) (p1 : Int32) (p2 : Int32) (s0 : zkS) {z : Nat} {ro : Int32} (hI : zInj 0 adr) (hf : fX2_isTurned b p1 p2 s0 = some ro) : Met l yX2_isTurned (Cond.code yX2_isTurned cX2_isTurned 3 (some .boolean) :: zTb) { frames := 2, cells := 0, slots := 0, locals := 43 } (zPre 0 D cI cJ adr s0 z [.ref (adr b), .int p1, .int p2]) (zQi 0 D cI cJ adr z ro s0) 0 0 (zA 0 adr z) := by
  refine zen (cc := cX2_isTurned) (own := RX2) (by decide +kernel) rfl hI (Nat.le_of_ble_eq_true rfl) (fun p e s m args below meth c ls hC hr hlk hz hl hW => ?_)
  subst hz
  obtain ⟨hx, hb, -⟩ := id hC
  have hl : lv_has ls 3 [(0, .ref (adr b)), (1, .int p1), (2, .int p2)] := hl
  refine zst hW (fun H locs hW => ?_)
  unfold fX2_isTurned at hf
  refine lv_aload_n hx hb dX2_isTurned_0 rfl (lv_at hl 0 rfl) ?_
  refine lv_iload_n hx hb dX2_isTurned_1 rfl (lv_at hl 1 rfl) ?_
  obtain ⟨v1, hq, hf⟩ := zb1_o hf
  refine zc_i hW (zrun_v (As := [.int p1]) (rest := []) hC hW (mX2_hasTurned kb p1 s0 hC.2.2.2.2.2.2.2 hq) cv_X2_127 (zK_k kb) (zK_s kb) rfl ⟨⟨rfl, rfl⟩, Nat.le_of_ble_eq_true rfl, Nat.le_of_ble_eq_true rfl⟩ (zlv_size hl) rfl (Nat.le_of_ble_eq_true rfl) dX2_isTurned_2 ⟨Nat.le_refl _, Nat.le_refl _⟩) (fun H locs hW => ?_)
  refine zi_if_eq (tgt := 21) hx hb dX2_isTurned_5 (by decide) hf (fun hc hf => ?_) (fun hc hf => ?_)
  · skip
    refine lv_iconst (v := 0) hx hb dX2_isTurned_21 (by decide) ?_
    exact zr_z hx hb hr hlk hW (by decide) (Option.some.inj hf) rfl dX2_isTurned_22
  · skip
    refine lv_aload_n hx hb dX2_isTurned_8 rfl (lv_at hl 0 rfl) ?_
    refine lv_iload_n hx hb dX2_isTurned_9 rfl (lv_at hl 1 rfl) ?_
    obtain ⟨v2, hq, hf⟩ := zb1_o hf
    refine zc_i hW (zrun_v (As := [.int p1]) (rest := []) hC hW (mX2_countOf kb p1 s0 hC.2.2.2.2.2.2.2 hq) cv_X2_69 (zK_k kb) (zK_s kb) rfl ⟨⟨rfl, rfl⟩, Nat.le_of_ble_eq_true rfl, Nat.le_of_ble_eq_true rfl⟩ (zlv_size hl) rfl (Nat.le_of_ble_eq_true rfl) dX2_isTurned_10 ⟨Nat.le_refl _, Nat.le_refl _⟩) (fun H locs hW => ?_)
    refine lv_iload_n hx hb dX2_isTurned_13 rfl (lv_at hl 2 rfl) ?_
    refine zi_icmp_ne (tgt := 21) hx hb dX2_isTurned_14 (by decide) hf (fun hc hf => ?_) (fun hc hf => ?_)
    · skip
      refine lv_iconst (v := 1) hx hb dX2_isTurned_17 (by decide) ?_
      refine lv_goto (tgt := 22) hx hb dX2_isTurned_18 (by decide) ?_
      exact zr_z hx hb hr hlk hW (by decide) (Option.some.inj hf) rfl dX2_isTurned_22
    · skip
      refine lv_iconst (v := 0) hx hb dX2_isTurned_21 (by decide) ?_
      exact zr_z hx hb hr hlk hW (by decide) (Option.some.inj hf) rfl dX2_isTurned_22
set_option maxHeartbeats 4000000 in
set_option maxRecDepth 100000 in
theorem mX2_backFrom {l : Launch} {D : va_G} {cI cJ : ClassId} {adr : Nat → Nat} {b : Nat} (kb : zK b) (p1 : Int32) (s0 : zkS) {z : Nat} {ro : Int32} (hI : zInj 0 adr) (hf : fX2_backFrom b p1 s0 = some ro) : Met l yX2_backFrom (Cond.code yX2_backFrom cX2_backFrom 3 (some .int) :: zTb) { frames := 1, cells := 0, slots := 0, locals := 22 } (zPre 0 D cI cJ adr s0 z [.ref (adr b), .int p1]) (zQi 0 D cI cJ adr z ro s0) 0 0 (zA 0 adr z) := by
  refine zen (cc := cX2_backFrom) (own := RX2) (by decide +kernel) rfl hI (Nat.le_of_ble_eq_true rfl) (fun p e s m args below meth c ls hC hr hlk hz hl hW => ?_)
  subst hz
  obtain ⟨hx, hb, -⟩ := id hC
  have hl : lv_has ls 3 [(0, .ref (adr b)), (1, .int p1)] := hl
  refine zst hW (fun H locs hW => ?_)
  unfold fX2_backFrom at hf
  refine lv_aload_n hx hb dX2_backFrom_0 rfl (lv_at hl 0 rfl) ?_
  refine lv_iload_n hx hb dX2_backFrom_1 rfl (lv_at hl 1 rfl) ?_
  obtain ⟨v1, hq, hf⟩ := zb1_o hf
  refine zc_i hW (zrun_v (As := [.int p1]) (rest := []) hC hW (mX2_placeOf kb p1 s0 hC.2.2.2.2.2.2.2 hq) cv_X2_124 (zK_k kb) (zK_s kb) rfl ⟨⟨rfl, rfl⟩, Nat.le_of_ble_eq_true rfl, Nat.le_of_ble_eq_true rfl⟩ (zlv_size hl) rfl (Nat.le_of_ble_eq_true rfl) dX2_backFrom_2 ⟨Nat.le_refl _, Nat.le_refl _⟩) (fun H locs hW => ?_)
  refine lv_istore_n (lv' := [(2, .int v1), (0, .ref (adr b)), (1, .int p1)]) hx hb dX2_backFrom_5 rfl hl (by decide) rfl (fun ls hl => ?_)
  refine lv_aload_n hx hb dX2_backFrom_6 rfl (lv_at hl 1 rfl) ?_
  refine lv_iload_n hx hb dX2_backFrom_7 rfl (lv_at hl 0 rfl) ?_
  refine lv_iconst (v := 1) hx hb dX2_backFrom_8 (by decide) ?_
  refine lv_isub hx hb dX2_backFrom_9 ?_
  refine zc_i hW (zrun_v (As := [.int (v1 - 1)]) (rest := []) hC hW (mX2_turnedAt kb (v1 - 1) s0 hC.2.2.2.2.2.2.2 rfl) cv_X2_120 (zK_k kb) (zK_s kb) rfl ⟨⟨rfl, rfl⟩, Nat.le_of_ble_eq_true rfl, Nat.le_of_ble_eq_true rfl⟩ (zlv_size hl) rfl (Nat.le_of_ble_eq_true rfl) dX2_backFrom_10 ⟨Nat.le_refl _, Nat.le_refl _⟩) (fun H locs hW => ?_)
  refine zi_if_eq (tgt := 27) hx hb dX2_backFrom_13 (by decide) hf (fun hc hf => ?_) (fun hc hf => ?_)
  · skip
    refine lv_bipush (v := (-5)) hx hb dX2_backFrom_27 (by decide) ?_
    exact zr_i hx hb hr hlk hW (Option.some.inj hf) rfl dX2_backFrom_29
  · skip
    refine lv_aload_n hx hb dX2_backFrom_16 rfl (lv_at hl 1 rfl) ?_
    refine zg_a (o := 0) hC hW fl_X2_52 (zK_k kb) (zK_s kb) (show _ = (b + 1) from rfl) dX2_backFrom_17 ?_
    refine lv_iload_n hx hb dX2_backFrom_20 rfl (lv_at hl 0 rfl) ?_
    refine lv_iconst (v := 1) hx hb dX2_backFrom_21 (by decide) ?_
    refine lv_isub hx hb dX2_backFrom_22 ?_
    refine za_l hC hW hf (zK_1 kb) dX2_backFrom_23 (fun v3 hf => ?_)
    refine lv_goto (tgt := 29) hx hb dX2_backFrom_24 (by decide) ?_
    exact zr_i hx hb hr hlk hW (Option.some.inj hf) rfl dX2_backFrom_29
set_option maxHeartbeats 4000000 in
set_option maxRecDepth 100000 in
theorem mX7_raw {l : Launch} {D : va_G} {cI cJ : ClassId} {adr : Nat → Nat} (p1 : Int32) (p2 : Int32) (s0 : zkS) {z : Nat} {ro : Int32} (hI : zInj 0 adr) (hf : fX7_raw p1 p2 s0 = some ro) : Met l yX7_raw (Cond.code yX7_raw cX7_raw 3 (some .int) :: zTb) { frames := 3, cells := 0, slots := 0, locals := 65 } (zPre 0 D cI cJ adr s0 z [.ref (adr 0), .int p1, .int p2]) (zQi 0 D cI cJ adr z ro s0) 0 0 (zA 0 adr z) := by
  refine zen (cc := cX7_raw) (own := RX7) (by decide +kernel) rfl hI (Nat.le_of_ble_eq_true rfl) (fun p e s m args below meth c ls hC hr hlk hz hl hW => ?_)
  subst hz
  obtain ⟨hx, hb, -⟩ := id hC
  have hl : lv_has ls 3 [(0, .ref (adr 0)), (1, .int p1), (2, .int p2)] := hl
  refine zst hW (fun H locs hW => ?_)
  unfold fX7_raw at hf
  refine lv_aload_n hx hb dX7_raw_0 rfl (lv_at hl 0 rfl) ?_
  refine zg_a (o := 0) hC hW fl_X7_12 zck_0_0 zcs_0_0 (show _ = 1 from rfl) dX7_raw_1 ?_
  refine zg_a (o := 0) hC hW fl_X7_74 (zE_k zEc_1) (zE_s zEc_1) (show _ = 2 from rfl) dX7_raw_4 ?_
  refine lv_iload_n hx hb dX7_raw_7 rfl (lv_at hl 1 rfl) ?_
  refine lv_iload_n hx hb dX7_raw_8 rfl (lv_at hl 2 rfl) ?_
  obtain ⟨v1, hq, hf⟩ := zb1_o hf
  refine zc_i hW (zrun_v (As := [.int p1, .int p2]) (rest := []) hC hW (mX0_isField zGc_2 p1 p2 s0 hC.2.2.2.2.2.2.2 hq) cv_X7_130 (zG_k zGc_2) (zG_s zGc_2) rfl ⟨⟨rfl, rfl⟩, Nat.le_of_ble_eq_true rfl, Nat.le_of_ble_eq_true rfl⟩ (zlv_size hl) rfl (Nat.le_of_ble_eq_true rfl) dX7_raw_9 ⟨Nat.le_refl _, Nat.le_refl _⟩) (fun H locs hW => ?_)
  refine zi_if_ne (tgt := 17) hx hb dX7_raw_12 (by decide) hf (fun hc hf => ?_) (fun hc hf => ?_)
  · skip
    refine lv_iconst (v := (-1)) hx hb dX7_raw_15 (by decide) ?_
    exact zr_i hx hb hr hlk hW (Option.some.inj hf) rfl dX7_raw_16
  · skip
    refine lv_aload_n hx hb dX7_raw_17 rfl (lv_at hl 0 rfl) ?_
    refine zg_a (o := 0) hC hW fl_X7_12 zck_0_0 zcs_0_0 (show _ = 1 from rfl) dX7_raw_18 ?_
    refine zg_a (o := 6) hC hW fl_X7_68 (zE_k zEc_1) (zE_s zEc_1) (show _ = 8 from rfl) dX7_raw_21 ?_
    refine lv_iload_n hx hb dX7_raw_24 rfl (lv_at hl 1 rfl) ?_
    refine lv_iload_n hx hb dX7_raw_25 rfl (lv_at hl 2 rfl) ?_
    obtain ⟨v2, hq, hf⟩ := zb1_o hf
    refine zc_i hW (zrun_v (As := [.int p1, .int p2]) (rest := []) hC hW (mX2_isTurned zKc_8 p1 p2 s0 hC.2.2.2.2.2.2.2 hq) cv_X7_136 (zK_k zKc_8) (zK_s zKc_8) rfl ⟨⟨rfl, rfl⟩, Nat.le_of_ble_eq_true rfl, Nat.le_of_ble_eq_true rfl⟩ (zlv_size hl) rfl (Nat.le_of_ble_eq_true rfl) dX7_raw_26 ⟨Nat.le_refl _, Nat.le_refl _⟩) (fun H locs hW => ?_)
    refine zi_if_eq (tgt := 46) hx hb dX7_raw_29 (by decide) hf (fun hc hf => ?_) (fun hc hf => ?_)
    · skip
      refine lv_aload_n hx hb dX7_raw_46 rfl (lv_at hl 0 rfl) ?_
      refine zg_a (o := 0) hC hW fl_X7_12 zck_0_0 zcs_0_0 (show _ = 1 from rfl) dX7_raw_47 ?_
      refine zg_a (o := 0) hC hW fl_X7_74 (zE_k zEc_1) (zE_s zEc_1) (show _ = 2 from rfl) dX7_raw_50 ?_
      refine lv_iload_n hx hb dX7_raw_53 rfl (lv_at hl 1 rfl) ?_
      refine lv_iload_n hx hb dX7_raw_54 rfl (lv_at hl 2 rfl) ?_
      obtain ⟨v3, hq, hf⟩ := zb1_o hf
      refine zc_i hW (zrun_v (As := [.int p1, .int p2]) (rest := []) hC hW (mX0_heldBy zGc_2 p1 p2 s0 hC.2.2.2.2.2.2.2 hq) cv_X7_133 (zG_k zGc_2) (zG_s zGc_2) rfl ⟨⟨rfl, rfl⟩, Nat.le_of_ble_eq_true rfl, Nat.le_of_ble_eq_true rfl⟩ (zlv_size hl) rfl (Nat.le_of_ble_eq_true rfl) dX7_raw_55 ⟨Nat.le_refl _, Nat.le_refl _⟩) (fun H locs hW => ?_)
      exact zr_i hx hb hr hlk hW (Option.some.inj hf) rfl dX7_raw_58
    · skip
      refine lv_aload_n hx hb dX7_raw_32 rfl (lv_at hl 0 rfl) ?_
      refine zg_a (o := 0) hC hW fl_X7_12 zck_0_0 zcs_0_0 (show _ = 1 from rfl) dX7_raw_33 ?_
      refine zg_a (o := 6) hC hW fl_X7_68 (zE_k zEc_1) (zE_s zEc_1) (show _ = 8 from rfl) dX7_raw_36 ?_
      refine lv_iload_n hx hb dX7_raw_39 rfl (lv_at hl 1 rfl) ?_
      obtain ⟨v4, hq, hf⟩ := zb1_o hf
      refine zc_i hW (zrun_v (As := [.int p1]) (rest := []) hC hW (mX2_backFrom zKc_8 p1 s0 hC.2.2.2.2.2.2.2 hq) cv_X7_139 (zK_k zKc_8) (zK_s zKc_8) rfl ⟨⟨rfl, rfl⟩, Nat.le_of_ble_eq_true rfl, Nat.le_of_ble_eq_true rfl⟩ (zlv_size hl) rfl (Nat.le_of_ble_eq_true rfl) dX7_raw_40 ⟨Nat.le_refl _, Nat.le_refl _⟩) (fun H locs hW => ?_)
      refine lv_goto (tgt := 58) hx hb dX7_raw_43 (by decide) ?_
      exact zr_i hx hb hr hlk hW (Option.some.inj hf) rfl dX7_raw_58
set_option maxHeartbeats 4000000 in
set_option maxRecDepth 100000 in
theorem mX0_isThereOrNothing {l : Launch} {D : va_G} {cI cJ : ClassId} {adr : Nat → Nat} {b : Nat} (kb : zG b) (p1 : Int32) (s0 : zkS) {z : Nat} {ro : Int32} (hI : zInj 0 adr) (hf : fX0_isThereOrNothing b p1 s0 = ro) : Met l yX0_isThereOrNothing (Cond.code yX0_isThereOrNothing cX0_isThereOrNothing 2 (some .boolean) :: zTb) { frames := 2, cells := 0, slots := 0, locals := 42 } (zPre 0 D cI cJ adr s0 z [.ref (adr b), .int p1]) (zQi 0 D cI cJ adr z ro s0) 0 0 (zA 0 adr z) := by
  refine zen (cc := cX0_isThereOrNothing) (own := RX0) (by decide +kernel) rfl hI (Nat.le_of_ble_eq_true rfl) (fun p e s m args below meth c ls hC hr hlk hz hl hW => ?_)
  subst hz
  obtain ⟨hx, hb, -⟩ := id hC
  have hl : lv_has ls 2 [(0, .ref (adr b)), (1, .int p1)] := hl
  refine zst hW (fun H locs hW => ?_)
  unfold fX0_isThereOrNothing at hf
  refine lv_iload_n hx hb dX0_isThereOrNothing_0 rfl (lv_at hl 1 rfl) ?_
  refine lv_iconst (v := (-1)) hx hb dX0_isThereOrNothing_1 (by decide) ?_
  refine zi_icmp_eq (tgt := 13) hx hb dX0_isThereOrNothing_2 (by decide) hf (fun hc hf => ?_) (fun hc hf => ?_)
  · skip
    refine lv_iconst (v := 1) hx hb dX0_isThereOrNothing_13 (by decide) ?_
    refine lv_goto (tgt := 18) hx hb dX0_isThereOrNothing_14 (by decide) ?_
    exact zr_z hx hb hr hlk hW (by decide) hf rfl dX0_isThereOrNothing_18
  · skip
    refine lv_aload_n hx hb dX0_isThereOrNothing_5 rfl (lv_at hl 0 rfl) ?_
    refine lv_iload_n hx hb dX0_isThereOrNothing_6 rfl (lv_at hl 1 rfl) ?_
    refine zc_i hW (zrun_v (As := [.int p1]) (rest := []) hC hW (mX0_isThere kb p1 s0 hC.2.2.2.2.2.2.2 rfl) cv_X0_61 (zG_k kb) (zG_s kb) rfl ⟨⟨rfl, rfl⟩, Nat.le_of_ble_eq_true rfl, Nat.le_of_ble_eq_true rfl⟩ (zlv_size hl) rfl (Nat.le_of_ble_eq_true rfl) dX0_isThereOrNothing_7 ⟨Nat.le_refl _, Nat.le_refl _⟩) (fun H locs hW => ?_)
    refine zi_if_eq (tgt := 17) hx hb dX0_isThereOrNothing_10 (by decide) hf (fun hc hf => ?_) (fun hc hf => ?_)
    · skip
      refine lv_iconst (v := 0) hx hb dX0_isThereOrNothing_17 (by decide) ?_
      exact zr_z hx hb hr hlk hW (by decide) hf rfl dX0_isThereOrNothing_18
    · skip
      refine lv_iconst (v := 1) hx hb dX0_isThereOrNothing_13 (by decide) ?_
      refine lv_goto (tgt := 18) hx hb dX0_isThereOrNothing_14 (by decide) ?_
      exact zr_z hx hb hr hlk hW (by decide) hf rfl dX0_isThereOrNothing_18
set_option maxHeartbeats 4000000 in
set_option maxRecDepth 100000 in
theorem mX7_orEmpty {l : Launch} {D : va_G} {cI cJ : ClassId} {adr : Nat → Nat} {u : Nat} (p1 : Int32) (s0 : zkS) {z : Nat} {ro : Int32} (hI : zInj u adr) (hf : fX7_orEmpty p1 = ro) : Met l yX7_orEmpty (Cond.code yX7_orEmpty cX7_orEmpty 1 (some .int) :: zTb) { frames := 0, cells := 0, slots := 0, locals := 0 } (zPre u D cI cJ adr s0 z [.int p1]) (zQi u D cI cJ adr z ro s0) 0 0 (zA u adr z) := by
  refine zen (cc := cX7_orEmpty) (own := RX7) (by decide +kernel) rfl hI (Nat.le_of_ble_eq_true rfl) (fun p e s m args below meth c ls hC hr hlk hz hl hW => ?_)
  subst hz
  obtain ⟨hx, hb, -⟩ := id hC
  have hl : lv_has ls 1 [(0, .int p1)] := hl
  refine zst hW (fun H locs hW => ?_)
  unfold fX7_orEmpty at hf
  refine lv_iload_n hx hb dX7_orEmpty_0 rfl (lv_at hl 0 rfl) ?_
  refine lv_iconst (v := (-1)) hx hb dX7_orEmpty_1 (by decide) ?_
  refine zi_icmp_ne (tgt := 10) hx hb dX7_orEmpty_2 (by decide) hf (fun hc hf => ?_) (fun hc hf => ?_)
  · skip
    refine lv_bipush (v := (-5)) hx hb dX7_orEmpty_5 (by decide) ?_
    refine lv_goto (tgt := 11) hx hb dX7_orEmpty_7 (by decide) ?_
    exact zr_i hx hb hr hlk hW hf rfl dX7_orEmpty_11
  · skip
    refine lv_iload_n hx hb dX7_orEmpty_10 rfl (lv_at hl 0 rfl) ?_
    exact zr_i hx hb hr hlk hW hf rfl dX7_orEmpty_11
set_option maxHeartbeats 4000000 in
set_option maxRecDepth 100000 in
theorem mX0_putInto {l : Launch} {D : va_G} {cI cJ : ClassId} {adr : Nat → Nat} {b : Nat} (kb : zG b) (p1 : Int32) (p2 : Int32) (p3 : Int32) (s0 : zkS) {z : Nat} {so : zkS} (hI : zInj 0 adr) (hf : fX0_putInto b p1 p2 p3 s0 = some so) : Met l yX0_putInto (Cond.code yX0_putInto cX0_putInto 4 none :: zTb) { frames := 1, cells := 0, slots := 0, locals := 23 } (zPre 0 D cI cJ adr s0 z [.ref (adr b), .int p1, .int p2, .int p3]) (zQv 0 D cI cJ adr z so) 0 0 (zA 0 adr z) := by
  refine zen (cc := cX0_putInto) (own := RX0) (by decide +kernel) rfl hI (Nat.le_of_ble_eq_true rfl) (fun p e s m args below meth c ls hC hr hlk hz hl hW => ?_)
  subst hz
  obtain ⟨hx, hb, -⟩ := id hC
  have hl : lv_has ls 4 [(0, .ref (adr b)), (1, .int p1), (2, .int p2), (3, .int p3)] := hl
  refine zst hW (fun H locs hW => ?_)
  unfold fX0_putInto at hf
  refine lv_aload_n hx hb dX0_putInto_0 rfl (lv_at hl 0 rfl) ?_
  refine lv_iload_n hx hb dX0_putInto_1 rfl (lv_at hl 1 rfl) ?_
  refine lv_iload_n hx hb dX0_putInto_2 rfl (lv_at hl 2 rfl) ?_
  obtain ⟨v1, hq, hf⟩ := zb1_o hf
  refine zc_i hW (zrun_v (As := [.int p1, .int p2]) (rest := []) hC hW (mX0_isField kb p1 p2 s0 hC.2.2.2.2.2.2.2 hq) cv_X0_65 (zG_k kb) (zG_s kb) rfl ⟨⟨rfl, rfl⟩, Nat.le_of_ble_eq_true rfl, Nat.le_of_ble_eq_true rfl⟩ (zlv_size hl) rfl (Nat.le_of_ble_eq_true rfl) dX0_putInto_3 ⟨Nat.le_refl _, Nat.le_refl _⟩) (fun H locs hW => ?_)
  refine zi_if_eq (tgt := 21) hx hb dX0_putInto_6 (by decide) hf (fun hc hf => ?_) (fun hc hf => ?_)
  · skip
    exact zr_v hx hb hr hlk hW (Option.some.inj hf) dX0_putInto_21
  · skip
    refine lv_aload_n hx hb dX0_putInto_9 rfl (lv_at hl 0 rfl) ?_
    refine zg_a (o := 3) hC hW fl_X0_31 (zG_k kb) (zG_s kb) (show _ = (b + 4) from rfl) dX0_putInto_10 ?_
    refine lv_iload_n hx hb dX0_putInto_13 rfl (lv_at hl 1 rfl) ?_
    refine lv_bipush (v := 6) hx hb dX0_putInto_14 (by decide) ?_
    refine lv_imul hx hb dX0_putInto_16 ?_
    refine lv_iload_n hx hb dX0_putInto_17 rfl (lv_at hl 2 rfl) ?_
    refine lv_iadd hx hb dX0_putInto_18 ?_
    refine lv_iload_n hx hb dX0_putInto_19 rfl (lv_at hl 3 rfl) ?_
    refine za_s hC hW hf (zG_4 kb) dX0_putInto_20 (fun s2 H locs hf hW => ?_)
    exact zr_v hx hb hr hlk hW (Option.some.inj hf) dX0_putInto_21
set_option maxHeartbeats 4000000 in
set_option maxRecDepth 100000 in
theorem mX7_hold {l : Launch} {D : va_G} {cI cJ : ClassId} {adr : Nat → Nat} (p1 : Int32) (p2 : Int32) (p3 : Int32) (s0 : zkS) {z : Nat} {ro : Int32} {so : zkS} (hI : zInj 0 adr) (hf : fX7_hold p1 p2 p3 s0 = some (ro, so)) : Met l yX7_hold (Cond.code yX7_hold cX7_hold 5 (some .int) :: zTb) { frames := 3, cells := 0, slots := 0, locals := 63 } (zPre 0 D cI cJ adr s0 z [.ref (adr 0), .int p1, .int p2, .int p3]) (zQi 0 D cI cJ adr z ro so) 0 0 (zA 0 adr z) := by
  refine zen (cc := cX7_hold) (own := RX7) (by decide +kernel) rfl hI (Nat.le_of_ble_eq_true rfl) (fun p e s m args below meth c ls hC hr hlk hz hl hW => ?_)
  subst hz
  obtain ⟨hx, hb, -⟩ := id hC
  have hl : lv_has ls 5 [(0, .ref (adr 0)), (1, .int p1), (2, .int p2), (3, .int p3)] := hl
  refine zst hW (fun H locs hW => ?_)
  unfold fX7_hold at hf
  refine lv_aload_n hx hb dX7_hold_0 rfl (lv_at hl 0 rfl) ?_
  refine zg_a (o := 0) hC hW fl_X7_12 zck_0_0 zcs_0_0 (show _ = 1 from rfl) dX7_hold_1 ?_
  refine zg_a (o := 0) hC hW fl_X7_74 (zE_k zEc_1) (zE_s zEc_1) (show _ = 2 from rfl) dX7_hold_4 ?_
  refine lv_iload_n hx hb dX7_hold_7 rfl (lv_at hl 1 rfl) ?_
  refine lv_iload_n hx hb dX7_hold_8 rfl (lv_at hl 2 rfl) ?_
  obtain ⟨v1, hq, hf⟩ := zb1_o hf
  refine zc_i hW (zrun_v (As := [.int p1, .int p2]) (rest := []) hC hW (mX0_isField zGc_2 p1 p2 s0 hC.2.2.2.2.2.2.2 hq) cv_X7_130 (zG_k zGc_2) (zG_s zGc_2) rfl ⟨⟨rfl, rfl⟩, Nat.le_of_ble_eq_true rfl, Nat.le_of_ble_eq_true rfl⟩ (zlv_size hl) rfl (Nat.le_of_ble_eq_true rfl) dX7_hold_9 ⟨Nat.le_refl _, Nat.le_refl _⟩) (fun H locs hW => ?_)
  refine zi_if_eq (tgt := 29) hx hb dX7_hold_12 (by decide) hf (fun hc hf => ?_) (fun hc hf => ?_)
  · skip
    refine lv_iconst (v := (-1)) hx hb dX7_hold_29 (by decide) ?_
    exact zr_i hx hb hr hlk hW (zo1 hf) (zo2 hf) dX7_hold_30
  · skip
    refine lv_aload_n hx hb dX7_hold_15 rfl (lv_at hl 0 rfl) ?_
    refine zg_a (o := 0) hC hW fl_X7_12 zck_0_0 zcs_0_0 (show _ = 1 from rfl) dX7_hold_16 ?_
    refine zg_a (o := 0) hC hW fl_X7_74 (zE_k zEc_1) (zE_s zEc_1) (show _ = 2 from rfl) dX7_hold_19 ?_
    refine lv_iload_n hx hb dX7_hold_22 rfl (lv_at hl 3 rfl) ?_
    refine zc_i hW (zrun_v (As := [.int p3]) (rest := []) hC hW (mX0_isThereOrNothing zGc_2 p3 s0 hC.2.2.2.2.2.2.2 rfl) cv_X7_142 (zG_k zGc_2) (zG_s zGc_2) rfl ⟨⟨rfl, rfl⟩, Nat.le_of_ble_eq_true rfl, Nat.le_of_ble_eq_true rfl⟩ (zlv_size hl) rfl (Nat.le_of_ble_eq_true rfl) dX7_hold_23 ⟨Nat.le_refl _, Nat.le_refl _⟩) (fun H locs hW => ?_)
    refine zi_if_ne (tgt := 31) hx hb dX7_hold_26 (by decide) hf (fun hc hf => ?_) (fun hc hf => ?_)
    · skip
      refine lv_iconst (v := (-1)) hx hb dX7_hold_29 (by decide) ?_
      exact zr_i hx hb hr hlk hW (zo1 hf) (zo2 hf) dX7_hold_30
    · skip
      refine lv_aload_n hx hb dX7_hold_31 rfl (lv_at hl 0 rfl) ?_
      refine zg_a (o := 0) hC hW fl_X7_12 zck_0_0 zcs_0_0 (show _ = 1 from rfl) dX7_hold_32 ?_
      refine zg_a (o := 6) hC hW fl_X7_68 (zE_k zEc_1) (zE_s zEc_1) (show _ = 8 from rfl) dX7_hold_35 ?_
      refine zg_i hC hW fl_X7_71 (zK_k zKc_8) (zK_s zKc_8) dX7_hold_38 ?_
      refine zi_if_eq (tgt := 47) hx hb dX7_hold_41 (by decide) hf (fun hc hf => ?_) (fun hc hf => ?_)
      · skip
        refine lv_aload_n hx hb dX7_hold_47 rfl (lv_at hl 0 rfl) ?_
        refine zg_a (o := 0) hC hW fl_X7_12 zck_0_0 zcs_0_0 (show _ = 1 from rfl) dX7_hold_48 ?_
        refine zg_a (o := 0) hC hW fl_X7_74 (zE_k zEc_1) (zE_s zEc_1) (show _ = 2 from rfl) dX7_hold_51 ?_
        refine lv_iload_n hx hb dX7_hold_54 rfl (lv_at hl 1 rfl) ?_
        refine lv_iload_n hx hb dX7_hold_55 rfl (lv_at hl 2 rfl) ?_
        obtain ⟨v3, hq, hf⟩ := zb1_o hf
        refine zc_i hW (zrun_v (As := [.int p1, .int p2]) (rest := []) hC hW (mX0_heldBy zGc_2 p1 p2 s0 hC.2.2.2.2.2.2.2 hq) cv_X7_133 (zG_k zGc_2) (zG_s zGc_2) rfl ⟨⟨rfl, rfl⟩, Nat.le_of_ble_eq_true rfl, Nat.le_of_ble_eq_true rfl⟩ (zlv_size hl) rfl (Nat.le_of_ble_eq_true rfl) dX7_hold_56 ⟨Nat.le_refl _, Nat.le_refl _⟩) (fun H locs hW => ?_)
        refine lv_istore (lv' := [(4, .int v3), (0, .ref (adr 0)), (1, .int p1), (2, .int p2), (3, .int p3)]) hx hb dX7_hold_59 hl (by decide) rfl (fun ls hl => ?_)
        refine lv_aload_n hx hb dX7_hold_61 rfl (lv_at hl 1 rfl) ?_
        refine zg_a (o := 0) hC hW fl_X7_12 zck_0_0 zcs_0_0 (show _ = 1 from rfl) dX7_hold_62 ?_
        refine zg_a (o := 0) hC hW fl_X7_74 (zE_k zEc_1) (zE_s zEc_1) (show _ = 2 from rfl) dX7_hold_65 ?_
        refine lv_iload_n hx hb dX7_hold_68 rfl (lv_at hl 2 rfl) ?_
        refine lv_iload_n hx hb dX7_hold_69 rfl (lv_at hl 3 rfl) ?_
        refine lv_iload_n hx hb dX7_hold_70 rfl (lv_at hl 4 rfl) ?_
        refine zc_i hW (zrun_s (As := [.int p3]) (rest := [.int p2, .int p1, .ref (adr 2)]) hC hW (mX7_orEmpty p3 s0 hC.2.2.2.2.2.2.2 rfl) cs_X7_145 rfl ⟨⟨rfl, rfl⟩, Nat.le_of_ble_eq_true rfl, Nat.le_of_ble_eq_true rfl⟩ (zlv_size hl) rfl (Nat.le_of_ble_eq_true rfl) dX7_hold_71 ⟨Nat.le_refl _, Nat.le_refl _⟩) (fun H locs hW => ?_)
        obtain ⟨s5, hq, hf⟩ := zb1_o hf
        refine zc_v hW (zrun_v (As := [.int p1, .int p2, .int (fX7_orEmpty p3)]) (rest := []) hC hW (mX0_putInto zGc_2 p1 p2 (fX7_orEmpty p3) s0 hC.2.2.2.2.2.2.2 hq) cv_X7_148 (zG_k zGc_2) (zG_s zGc_2) rfl ⟨⟨rfl, rfl⟩, Nat.le_of_ble_eq_true rfl, Nat.le_of_ble_eq_true rfl⟩ (zlv_size hl) rfl (Nat.le_of_ble_eq_true rfl) dX7_hold_74 ⟨Nat.le_refl _, Nat.le_refl _⟩) (fun H locs hW => ?_)
        refine lv_aload_n hx hb dX7_hold_77 rfl (lv_at hl 1 rfl) ?_
        refine zg_a (o := 0) hC hW fl_X7_12 zck_0_0 zcs_0_0 (show _ = 1 from rfl) dX7_hold_78 ?_
        refine zg_a (o := 6) hC hW fl_X7_68 (zE_k zEc_1) (zE_s zEc_1) (show _ = 8 from rfl) dX7_hold_81 ?_
        refine lv_iconst (v := 0) hx hb dX7_hold_84 (by decide) ?_
        refine zp_y hC hW hf (by decide) fp_X7_81 (zK_k zKc_8) (zK_s zKc_8) dX7_hold_85 (fun s6 H locs hf hW => ?_)
        refine lv_iload hx hb dX7_hold_88 (lv_at hl 0 rfl) ?_
        exact zr_i hx hb hr hlk hW (zo1 hf) (zo2 hf) dX7_hold_90
      · skip
        refine lv_bipush (v := (-3)) hx hb dX7_hold_44 (by decide) ?_
        exact zr_i hx hb hr hlk hW (zo1 hf) (zo2 hf) dX7_hold_46
set_option maxHeartbeats 4000000 in
set_option maxRecDepth 100000 in
theorem mX0_retag {l : Launch} {D : va_G} {cI cJ : ClassId} {adr : Nat → Nat} {b : Nat} (kb : zG b) (p1 : Int32) (p2 : Int32) (s0 : zkS) {z : Nat} {so : zkS} (hI : zInj 0 adr) (hf : fX0_retag b p1 p2 s0 = some so) : Met l yX0_retag (Cond.code yX0_retag cX0_retag 3 none :: zTb) { frames := 2, cells := 0, slots := 0, locals := 42 } (zPre 0 D cI cJ adr s0 z [.ref (adr b), .int p1, .int p2]) (zQv 0 D cI cJ adr z so) 0 0 (zA 0 adr z) := by
  refine zen (cc := cX0_retag) (own := RX0) (by decide +kernel) rfl hI (Nat.le_of_ble_eq_true rfl) (fun p e s m args below meth c ls hC hr hlk hz hl hW => ?_)
  subst hz
  obtain ⟨hx, hb, -⟩ := id hC
  have hl : lv_has ls 3 [(0, .ref (adr b)), (1, .int p1), (2, .int p2)] := hl
  refine zst hW (fun H locs hW => ?_)
  unfold fX0_retag at hf
  refine lv_aload_n hx hb dX0_retag_0 rfl (lv_at hl 0 rfl) ?_
  refine lv_iload_n hx hb dX0_retag_1 rfl (lv_at hl 1 rfl) ?_
  refine zc_i hW (zrun_v (As := [.int p1]) (rest := []) hC hW (mX0_isThere kb p1 s0 hC.2.2.2.2.2.2.2 rfl) cv_X0_61 (zG_k kb) (zG_s kb) rfl ⟨⟨rfl, rfl⟩, Nat.le_of_ble_eq_true rfl, Nat.le_of_ble_eq_true rfl⟩ (zlv_size hl) rfl (Nat.le_of_ble_eq_true rfl) dX0_retag_2 ⟨Nat.le_refl _, Nat.le_refl _⟩) (fun H locs hW => ?_)
  refine zi_if_eq (tgt := 15) hx hb dX0_retag_5 (by decide) hf (fun hc hf => ?_) (fun hc hf => ?_)
  · skip
    exact zr_v hx hb hr hlk hW (Option.some.inj hf) dX0_retag_15
  · skip
    refine lv_aload_n hx hb dX0_retag_8 rfl (lv_at hl 0 rfl) ?_
    refine zg_a (o := 1) hC hW fl_X0_25 (zG_k kb) (zG_s kb) (show _ = (b + 2) from rfl) dX0_retag_9 ?_
    refine lv_iload_n hx hb dX0_retag_12 rfl (lv_at hl 1 rfl) ?_
    refine lv_iload_n hx hb dX0_retag_13 rfl (lv_at hl 2 rfl) ?_
    refine za_s hC hW hf (zG_2 kb) dX0_retag_14 (fun s2 H locs hf hW => ?_)
    exact zr_v hx hb hr hlk hW (Option.some.inj hf) dX0_retag_15
set_option maxHeartbeats 4000000 in
set_option maxRecDepth 100000 in
theorem mX7_tag {l : Launch} {D : va_G} {cI cJ : ClassId} {adr : Nat → Nat} (p1 : Int32) (p2 : Int32) (s0 : zkS) {z : Nat} {ro : Int32} {so : zkS} (hI : zInj 0 adr) (hf : fX7_tag p1 p2 s0 = some (ro, so)) : Met l yX7_tag (Cond.code yX7_tag cX7_tag 4 (some .int) :: zTb) { frames := 3, cells := 0, slots := 0, locals := 64 } (zPre 0 D cI cJ adr s0 z [.ref (adr 0), .int p1, .int p2]) (zQi 0 D cI cJ adr z ro so) 0 0 (zA 0 adr z) := by
  refine zen (cc := cX7_tag) (own := RX7) (by decide +kernel) rfl hI (Nat.le_of_ble_eq_true rfl) (fun p e s m args below meth c ls hC hr hlk hz hl hW => ?_)
  subst hz
  obtain ⟨hx, hb, -⟩ := id hC
  have hl : lv_has ls 4 [(0, .ref (adr 0)), (1, .int p1), (2, .int p2)] := hl
  refine zst hW (fun H locs hW => ?_)
  unfold fX7_tag at hf
  refine lv_aload_n hx hb dX7_tag_0 rfl (lv_at hl 0 rfl) ?_
  refine zg_a (o := 0) hC hW fl_X7_12 zck_0_0 zcs_0_0 (show _ = 1 from rfl) dX7_tag_1 ?_
  refine zg_a (o := 0) hC hW fl_X7_74 (zE_k zEc_1) (zE_s zEc_1) (show _ = 2 from rfl) dX7_tag_4 ?_
  refine lv_iload_n hx hb dX7_tag_7 rfl (lv_at hl 1 rfl) ?_
  refine zc_i hW (zrun_v (As := [.int p1]) (rest := []) hC hW (mX0_isThere zGc_2 p1 s0 hC.2.2.2.2.2.2.2 rfl) cv_X7_88 (zG_k zGc_2) (zG_s zGc_2) rfl ⟨⟨rfl, rfl⟩, Nat.le_of_ble_eq_true rfl, Nat.le_of_ble_eq_true rfl⟩ (zlv_size hl) rfl (Nat.le_of_ble_eq_true rfl) dX7_tag_8 ⟨Nat.le_refl _, Nat.le_refl _⟩) (fun H locs hW => ?_)
  refine zi_if_ne (tgt := 16) hx hb dX7_tag_11 (by decide) hf (fun hc hf => ?_) (fun hc hf => ?_)
  · skip
    refine lv_iconst (v := (-1)) hx hb dX7_tag_14 (by decide) ?_
    exact zr_i hx hb hr hlk hW (zo1 hf) (zo2 hf) dX7_tag_15
  · skip
    refine lv_iload_n hx hb dX7_tag_16 rfl (lv_at hl 2 rfl) ?_
    refine zc_i hW (zrun_s (As := [.int p2]) (rest := []) hC hW (mX7_isTag p2 s0 hC.2.2.2.2.2.2.2 rfl) cs_X7_60 rfl ⟨⟨rfl, rfl⟩, Nat.le_of_ble_eq_true rfl, Nat.le_of_ble_eq_true rfl⟩ (zlv_size hl) rfl (Nat.le_of_ble_eq_true rfl) dX7_tag_17 ⟨Nat.le_refl _, Nat.le_refl _⟩) (fun H locs hW => ?_)
    refine zi_if_ne (tgt := 26) hx hb dX7_tag_20 (by decide) hf (fun hc hf => ?_) (fun hc hf => ?_)
    · skip
      refine lv_bipush (v := (-2)) hx hb dX7_tag_23 (by decide) ?_
      exact zr_i hx hb hr hlk hW (zo1 hf) (zo2 hf) dX7_tag_25
    · skip
      refine lv_aload_n hx hb dX7_tag_26 rfl (lv_at hl 0 rfl) ?_
      refine zg_a (o := 0) hC hW fl_X7_12 zck_0_0 zcs_0_0 (show _ = 1 from rfl) dX7_tag_27 ?_
      refine zg_a (o := 6) hC hW fl_X7_68 (zE_k zEc_1) (zE_s zEc_1) (show _ = 8 from rfl) dX7_tag_30 ?_
      refine zg_i hC hW fl_X7_71 (zK_k zKc_8) (zK_s zKc_8) dX7_tag_33 ?_
      refine zi_if_eq (tgt := 42) hx hb dX7_tag_36 (by decide) hf (fun hc hf => ?_) (fun hc hf => ?_)
      · skip
        refine lv_aload_n hx hb dX7_tag_42 rfl (lv_at hl 0 rfl) ?_
        refine zg_a (o := 0) hC hW fl_X7_12 zck_0_0 zcs_0_0 (show _ = 1 from rfl) dX7_tag_43 ?_
        refine zg_a (o := 0) hC hW fl_X7_74 (zE_k zEc_1) (zE_s zEc_1) (show _ = 2 from rfl) dX7_tag_46 ?_
        refine lv_iload_n hx hb dX7_tag_49 rfl (lv_at hl 1 rfl) ?_
        obtain ⟨v3, hq, hf⟩ := zb1_o hf
        refine zc_i hW (zrun_v (As := [.int p1]) (rest := []) hC hW (mX0_tagOf zGc_2 p1 s0 hC.2.2.2.2.2.2.2 hq) cv_X7_95 (zG_k zGc_2) (zG_s zGc_2) rfl ⟨⟨rfl, rfl⟩, Nat.le_of_ble_eq_true rfl, Nat.le_of_ble_eq_true rfl⟩ (zlv_size hl) rfl (Nat.le_of_ble_eq_true rfl) dX7_tag_50 ⟨Nat.le_refl _, Nat.le_refl _⟩) (fun H locs hW => ?_)
        refine lv_istore_n (lv' := [(3, .int v3), (0, .ref (adr 0)), (1, .int p1), (2, .int p2)]) hx hb dX7_tag_53 rfl hl (by decide) rfl (fun ls hl => ?_)
        refine lv_aload_n hx hb dX7_tag_54 rfl (lv_at hl 1 rfl) ?_
        refine zg_a (o := 0) hC hW fl_X7_12 zck_0_0 zcs_0_0 (show _ = 1 from rfl) dX7_tag_55 ?_
        refine zg_a (o := 0) hC hW fl_X7_74 (zE_k zEc_1) (zE_s zEc_1) (show _ = 2 from rfl) dX7_tag_58 ?_
        refine lv_iload_n hx hb dX7_tag_61 rfl (lv_at hl 2 rfl) ?_
        refine lv_iload_n hx hb dX7_tag_62 rfl (lv_at hl 3 rfl) ?_
        obtain ⟨s4, hq, hf⟩ := zb1_o hf
        refine zc_v hW (zrun_v (As := [.int p1, .int p2]) (rest := []) hC hW (mX0_retag zGc_2 p1 p2 s0 hC.2.2.2.2.2.2.2 hq) cv_X7_152 (zG_k zGc_2) (zG_s zGc_2) rfl ⟨⟨rfl, rfl⟩, Nat.le_of_ble_eq_true rfl, Nat.le_of_ble_eq_true rfl⟩ (zlv_size hl) rfl (Nat.le_of_ble_eq_true rfl) dX7_tag_63 ⟨Nat.le_refl _, Nat.le_refl _⟩) (fun H locs hW => ?_)
        refine lv_aload_n hx hb dX7_tag_66 rfl (lv_at hl 1 rfl) ?_
        refine zg_a (o := 0) hC hW fl_X7_12 zck_0_0 zcs_0_0 (show _ = 1 from rfl) dX7_tag_67 ?_
        refine zg_a (o := 6) hC hW fl_X7_68 (zE_k zEc_1) (zE_s zEc_1) (show _ = 8 from rfl) dX7_tag_70 ?_
        refine lv_iconst (v := 0) hx hb dX7_tag_73 (by decide) ?_
        refine zp_y hC hW hf (by decide) fp_X7_81 (zK_k zKc_8) (zK_s zKc_8) dX7_tag_74 (fun s5 H locs hf hW => ?_)
        refine lv_iload_n hx hb dX7_tag_77 rfl (lv_at hl 0 rfl) ?_
        exact zr_i hx hb hr hlk hW (zo1 hf) (zo2 hf) dX7_tag_78
      · skip
        refine lv_bipush (v := (-3)) hx hb dX7_tag_39 (by decide) ?_
        exact zr_i hx hb hr hlk hW (zo1 hf) (zo2 hf) dX7_tag_41
set_option maxHeartbeats 4000000 in
set_option maxRecDepth 100000 in
theorem mX7_isRoot {l : Launch} {D : va_G} {cI cJ : ClassId} {adr : Nat → Nat} {u : Nat} (p1 : Int32) (s0 : zkS) {z : Nat} {ro : Int32} (hI : zInj u adr) (hf : fX7_isRoot p1 = ro) : Met l yX7_isRoot (Cond.code yX7_isRoot cX7_isRoot 1 (some .boolean) :: zTb) { frames := 0, cells := 0, slots := 0, locals := 0 } (zPre u D cI cJ adr s0 z [.int p1]) (zQi u D cI cJ adr z ro s0) 0 0 (zA u adr z) := by
  refine zen (cc := cX7_isRoot) (own := RX7) (by decide +kernel) rfl hI (Nat.le_of_ble_eq_true rfl) (fun p e s m args below meth c ls hC hr hlk hz hl hW => ?_)
  subst hz
  obtain ⟨hx, hb, -⟩ := id hC
  have hl : lv_has ls 1 [(0, .int p1)] := hl
  refine zst hW (fun H locs hW => ?_)
  unfold fX7_isRoot at hf
  refine lv_iload_n hx hb dX7_isRoot_0 rfl (lv_at hl 0 rfl) ?_
  refine zi_if_lt (tgt := 13) hx hb dX7_isRoot_1 (by decide) hf (fun hc hf => ?_) (fun hc hf => ?_)
  · skip
    refine lv_iconst (v := 0) hx hb dX7_isRoot_13 (by decide) ?_
    exact zr_z hx hb hr hlk hW (by decide) hf rfl dX7_isRoot_14
  · skip
    refine lv_iload_n hx hb dX7_isRoot_4 rfl (lv_at hl 0 rfl) ?_
    refine lv_iconst (v := 4) hx hb dX7_isRoot_5 (by decide) ?_
    refine zi_icmp_ge (tgt := 13) hx hb dX7_isRoot_6 (by decide) hf (fun hc hf => ?_) (fun hc hf => ?_)
    · skip
      refine lv_iconst (v := 0) hx hb dX7_isRoot_13 (by decide) ?_
      exact zr_z hx hb hr hlk hW (by decide) hf rfl dX7_isRoot_14
    · skip
      refine lv_iconst (v := 1) hx hb dX7_isRoot_9 (by decide) ?_
      refine lv_goto (tgt := 14) hx hb dX7_isRoot_10 (by decide) ?_
      exact zr_z hx hb hr hlk hW (by decide) hf rfl dX7_isRoot_14
set_option maxHeartbeats 4000000 in
set_option maxRecDepth 100000 in
theorem mX0_heldByRoot {l : Launch} {D : va_G} {cI cJ : ClassId} {adr : Nat → Nat} {b : Nat} (kb : zG b) (p1 : Int32) (s0 : zkS) {z : Nat} {ro : Int32} (hI : zInj 0 adr) (hf : fX0_heldByRoot b p1 s0 = some ro) : Met l yX0_heldByRoot (Cond.code yX0_heldByRoot cX0_heldByRoot 2 (some .int) :: zTb) { frames := 1, cells := 0, slots := 0, locals := 20 } (zPre 0 D cI cJ adr s0 z [.ref (adr b), .int p1]) (zQi 0 D cI cJ adr z ro s0) 0 0 (zA 0 adr z) := by
  refine zen (cc := cX0_heldByRoot) (own := RX0) (by decide +kernel) rfl hI (Nat.le_of_ble_eq_true rfl) (fun p e s m args below meth c ls hC hr hlk hz hl hW => ?_)
  subst hz
  obtain ⟨hx, hb, -⟩ := id hC
  have hl : lv_has ls 2 [(0, .ref (adr b)), (1, .int p1)] := hl
  refine zst hW (fun H locs hW => ?_)
  unfold fX0_heldByRoot at hf
  refine lv_iload_n hx hb dX0_heldByRoot_0 rfl (lv_at hl 1 rfl) ?_
  refine zc_i hW (zrun_n (As := [.int p1]) (rest := []) hC hW (mX7_isRoot p1 s0 hC.2.2.2.2.2.2.2 rfl) cn_X0_68 rfl ⟨⟨rfl, rfl⟩, Nat.le_of_ble_eq_true rfl, Nat.le_of_ble_eq_true rfl⟩ (zlv_size hl) rfl (Nat.le_of_ble_eq_true rfl) dX0_heldByRoot_1 ⟨Nat.le_refl _, Nat.le_refl _⟩) (fun H locs hW => ?_)
  refine zi_if_eq (tgt := 16) hx hb dX0_heldByRoot_4 (by decide) hf (fun hc hf => ?_) (fun hc hf => ?_)
  · skip
    refine lv_bipush (v := (-5)) hx hb dX0_heldByRoot_16 (by decide) ?_
    exact zr_i hx hb hr hlk hW (Option.some.inj hf) rfl dX0_heldByRoot_18
  · skip
    refine lv_aload_n hx hb dX0_heldByRoot_7 rfl (lv_at hl 0 rfl) ?_
    refine zg_a (o := 4) hC hW fl_X0_34 (zG_k kb) (zG_s kb) (show _ = (b + 5) from rfl) dX0_heldByRoot_8 ?_
    refine lv_iload_n hx hb dX0_heldByRoot_11 rfl (lv_at hl 1 rfl) ?_
    refine za_l hC hW hf (zG_5 kb) dX0_heldByRoot_12 (fun v2 hf => ?_)
    refine lv_goto (tgt := 18) hx hb dX0_heldByRoot_13 (by decide) ?_
    exact zr_i hx hb hr hlk hW (Option.some.inj hf) rfl dX0_heldByRoot_18
set_option maxHeartbeats 4000000 in
set_option maxRecDepth 100000 in
theorem mX0_putIntoRoot {l : Launch} {D : va_G} {cI cJ : ClassId} {adr : Nat → Nat} {b : Nat} (kb : zG b) (p1 : Int32) (p2 : Int32) (s0 : zkS) {z : Nat} {so : zkS} (hI : zInj 0 adr) (hf : fX0_putIntoRoot b p1 p2 s0 = some so) : Met l yX0_putIntoRoot (Cond.code yX0_putIntoRoot cX0_putIntoRoot 3 none :: zTb) { frames := 1, cells := 0, slots := 0, locals := 20 } (zPre 0 D cI cJ adr s0 z [.ref (adr b), .int p1, .int p2]) (zQv 0 D cI cJ adr z so) 0 0 (zA 0 adr z) := by
  refine zen (cc := cX0_putIntoRoot) (own := RX0) (by decide +kernel) rfl hI (Nat.le_of_ble_eq_true rfl) (fun p e s m args below meth c ls hC hr hlk hz hl hW => ?_)
  subst hz
  obtain ⟨hx, hb, -⟩ := id hC
  have hl : lv_has ls 3 [(0, .ref (adr b)), (1, .int p1), (2, .int p2)] := hl
  refine zst hW (fun H locs hW => ?_)
  unfold fX0_putIntoRoot at hf
  refine lv_iload_n hx hb dX0_putIntoRoot_0 rfl (lv_at hl 1 rfl) ?_
  refine zc_i hW (zrun_n (As := [.int p1]) (rest := []) hC hW (mX7_isRoot p1 s0 hC.2.2.2.2.2.2.2 rfl) cn_X0_68 rfl ⟨⟨rfl, rfl⟩, Nat.le_of_ble_eq_true rfl, Nat.le_of_ble_eq_true rfl⟩ (zlv_size hl) rfl (Nat.le_of_ble_eq_true rfl) dX0_putIntoRoot_1 ⟨Nat.le_refl _, Nat.le_refl _⟩) (fun H locs hW => ?_)
  refine zi_if_eq (tgt := 14) hx hb dX0_putIntoRoot_4 (by decide) hf (fun hc hf => ?_) (fun hc hf => ?_)
  · skip
    exact zr_v hx hb hr hlk hW (Option.some.inj hf) dX0_putIntoRoot_14
  · skip
    refine lv_aload_n hx hb dX0_putIntoRoot_7 rfl (lv_at hl 0 rfl) ?_
    refine zg_a (o := 4) hC hW fl_X0_34 (zG_k kb) (zG_s kb) (show _ = (b + 5) from rfl) dX0_putIntoRoot_8 ?_
    refine lv_iload_n hx hb dX0_putIntoRoot_11 rfl (lv_at hl 1 rfl) ?_
    refine lv_iload_n hx hb dX0_putIntoRoot_12 rfl (lv_at hl 2 rfl) ?_
    refine za_s hC hW hf (zG_5 kb) dX0_putIntoRoot_13 (fun s2 H locs hf hW => ?_)
    exact zr_v hx hb hr hlk hW (Option.some.inj hf) dX0_putIntoRoot_14
set_option maxHeartbeats 4000000 in
set_option maxRecDepth 100000 in
theorem mX7_root {l : Launch} {D : va_G} {cI cJ : ClassId} {adr : Nat → Nat} (p1 : Int32) (p2 : Int32) (s0 : zkS) {z : Nat} {ro : Int32} {so : zkS} (hI : zInj 0 adr) (hf : fX7_root p1 p2 s0 = some (ro, so)) : Met l yX7_root (Cond.code yX7_root cX7_root 4 (some .int) :: zTb) { frames := 3, cells := 0, slots := 0, locals := 63 } (zPre 0 D cI cJ adr s0 z [.ref (adr 0), .int p1, .int p2]) (zQi 0 D cI cJ adr z ro so) 0 0 (zA 0 adr z) := by
  refine zen (cc := cX7_root) (own := RX7) (by decide +kernel) rfl hI (Nat.le_of_ble_eq_true rfl) (fun p e s m args below meth c ls hC hr hlk hz hl hW => ?_)
  subst hz
  obtain ⟨hx, hb, -⟩ := id hC
  have hl : lv_has ls 4 [(0, .ref (adr 0)), (1, .int p1), (2, .int p2)] := hl
  refine zst hW (fun H locs hW => ?_)
  unfold fX7_root at hf
  refine lv_iload_n hx hb dX7_root_0 rfl (lv_at hl 1 rfl) ?_
  refine zc_i hW (zrun_s (As := [.int p1]) (rest := []) hC hW (mX7_isRoot p1 s0 hC.2.2.2.2.2.2.2 rfl) cs_X7_156 rfl ⟨⟨rfl, rfl⟩, Nat.le_of_ble_eq_true rfl, Nat.le_of_ble_eq_true rfl⟩ (zlv_size hl) rfl (Nat.le_of_ble_eq_true rfl) dX7_root_1 ⟨Nat.le_refl _, Nat.le_refl _⟩) (fun H locs hW => ?_)
  refine zi_if_eq (tgt := 21) hx hb dX7_root_4 (by decide) hf (fun hc hf => ?_) (fun hc hf => ?_)
  · skip
    refine lv_iconst (v := (-1)) hx hb dX7_root_21 (by decide) ?_
    exact zr_i hx hb hr hlk hW (zo1 hf) (zo2 hf) dX7_root_22
  · skip
    refine lv_aload_n hx hb dX7_root_7 rfl (lv_at hl 0 rfl) ?_
    refine zg_a (o := 0) hC hW fl_X7_12 zck_0_0 zcs_0_0 (show _ = 1 from rfl) dX7_root_8 ?_
    refine zg_a (o := 0) hC hW fl_X7_74 (zE_k zEc_1) (zE_s zEc_1) (show _ = 2 from rfl) dX7_root_11 ?_
    refine lv_iload_n hx hb dX7_root_14 rfl (lv_at hl 2 rfl) ?_
    refine zc_i hW (zrun_v (As := [.int p2]) (rest := []) hC hW (mX0_isThereOrNothing zGc_2 p2 s0 hC.2.2.2.2.2.2.2 rfl) cv_X7_142 (zG_k zGc_2) (zG_s zGc_2) rfl ⟨⟨rfl, rfl⟩, Nat.le_of_ble_eq_true rfl, Nat.le_of_ble_eq_true rfl⟩ (zlv_size hl) rfl (Nat.le_of_ble_eq_true rfl) dX7_root_15 ⟨Nat.le_refl _, Nat.le_refl _⟩) (fun H locs hW => ?_)
    refine zi_if_ne (tgt := 23) hx hb dX7_root_18 (by decide) hf (fun hc hf => ?_) (fun hc hf => ?_)
    · skip
      refine lv_iconst (v := (-1)) hx hb dX7_root_21 (by decide) ?_
      exact zr_i hx hb hr hlk hW (zo1 hf) (zo2 hf) dX7_root_22
    · skip
      refine lv_aload_n hx hb dX7_root_23 rfl (lv_at hl 0 rfl) ?_
      refine zg_a (o := 0) hC hW fl_X7_12 zck_0_0 zcs_0_0 (show _ = 1 from rfl) dX7_root_24 ?_
      refine zg_a (o := 6) hC hW fl_X7_68 (zE_k zEc_1) (zE_s zEc_1) (show _ = 8 from rfl) dX7_root_27 ?_
      refine zg_i hC hW fl_X7_71 (zK_k zKc_8) (zK_s zKc_8) dX7_root_30 ?_
      refine zi_if_eq (tgt := 39) hx hb dX7_root_33 (by decide) hf (fun hc hf => ?_) (fun hc hf => ?_)
      · skip
        refine lv_aload_n hx hb dX7_root_39 rfl (lv_at hl 0 rfl) ?_
        refine zg_a (o := 0) hC hW fl_X7_12 zck_0_0 zcs_0_0 (show _ = 1 from rfl) dX7_root_40 ?_
        refine zg_a (o := 0) hC hW fl_X7_74 (zE_k zEc_1) (zE_s zEc_1) (show _ = 2 from rfl) dX7_root_43 ?_
        refine lv_iload_n hx hb dX7_root_46 rfl (lv_at hl 1 rfl) ?_
        obtain ⟨v3, hq, hf⟩ := zb1_o hf
        refine zc_i hW (zrun_v (As := [.int p1]) (rest := []) hC hW (mX0_heldByRoot zGc_2 p1 s0 hC.2.2.2.2.2.2.2 hq) cv_X7_159 (zG_k zGc_2) (zG_s zGc_2) rfl ⟨⟨rfl, rfl⟩, Nat.le_of_ble_eq_true rfl, Nat.le_of_ble_eq_true rfl⟩ (zlv_size hl) rfl (Nat.le_of_ble_eq_true rfl) dX7_root_47 ⟨Nat.le_refl _, Nat.le_refl _⟩) (fun H locs hW => ?_)
        refine lv_istore_n (lv' := [(3, .int v3), (0, .ref (adr 0)), (1, .int p1), (2, .int p2)]) hx hb dX7_root_50 rfl hl (by decide) rfl (fun ls hl => ?_)
        refine lv_aload_n hx hb dX7_root_51 rfl (lv_at hl 1 rfl) ?_
        refine zg_a (o := 0) hC hW fl_X7_12 zck_0_0 zcs_0_0 (show _ = 1 from rfl) dX7_root_52 ?_
        refine zg_a (o := 0) hC hW fl_X7_74 (zE_k zEc_1) (zE_s zEc_1) (show _ = 2 from rfl) dX7_root_55 ?_
        refine lv_iload_n hx hb dX7_root_58 rfl (lv_at hl 2 rfl) ?_
        refine lv_iload_n hx hb dX7_root_59 rfl (lv_at hl 3 rfl) ?_
        refine zc_i hW (zrun_s (As := [.int p2]) (rest := [.int p1, .ref (adr 2)]) hC hW (mX7_orEmpty p2 s0 hC.2.2.2.2.2.2.2 rfl) cs_X7_145 rfl ⟨⟨rfl, rfl⟩, Nat.le_of_ble_eq_true rfl, Nat.le_of_ble_eq_true rfl⟩ (zlv_size hl) rfl (Nat.le_of_ble_eq_true rfl) dX7_root_60 ⟨Nat.le_refl _, Nat.le_refl _⟩) (fun H locs hW => ?_)
        obtain ⟨s5, hq, hf⟩ := zb1_o hf
        refine zc_v hW (zrun_v (As := [.int p1, .int (fX7_orEmpty p2)]) (rest := []) hC hW (mX0_putIntoRoot zGc_2 p1 (fX7_orEmpty p2) s0 hC.2.2.2.2.2.2.2 hq) cv_X7_162 (zG_k zGc_2) (zG_s zGc_2) rfl ⟨⟨rfl, rfl⟩, Nat.le_of_ble_eq_true rfl, Nat.le_of_ble_eq_true rfl⟩ (zlv_size hl) rfl (Nat.le_of_ble_eq_true rfl) dX7_root_63 ⟨Nat.le_refl _, Nat.le_refl _⟩) (fun H locs hW => ?_)
        refine lv_aload_n hx hb dX7_root_66 rfl (lv_at hl 1 rfl) ?_
        refine zg_a (o := 0) hC hW fl_X7_12 zck_0_0 zcs_0_0 (show _ = 1 from rfl) dX7_root_67 ?_
        refine zg_a (o := 6) hC hW fl_X7_68 (zE_k zEc_1) (zE_s zEc_1) (show _ = 8 from rfl) dX7_root_70 ?_
        refine lv_iconst (v := 0) hx hb dX7_root_73 (by decide) ?_
        refine zp_y hC hW hf (by decide) fp_X7_81 (zK_k zKc_8) (zK_s zKc_8) dX7_root_74 (fun s6 H locs hf hW => ?_)
        refine lv_iload_n hx hb dX7_root_77 rfl (lv_at hl 0 rfl) ?_
        exact zr_i hx hb hr hlk hW (zo1 hf) (zo2 hf) dX7_root_78
      · skip
        refine lv_bipush (v := (-3)) hx hb dX7_root_36 (by decide) ?_
        exact zr_i hx hb hr hlk hW (zo1 hf) (zo2 hf) dX7_root_38
set_option maxHeartbeats 4000000 in
set_option maxRecDepth 100000 in
theorem mX7_pin {l : Launch} {D : va_G} {cI cJ : ClassId} {adr : Nat → Nat} (p1 : Int32) (p2 : Int32) (s0 : zkS) {z : Nat} {ro : Int32} {so : zkS} (hI : zInj 0 adr) (hf : fX7_pin p1 p2 s0 = some (ro, so)) : Met l yX7_pin (Cond.code yX7_pin cX7_pin 4 (some .int) :: zTb) { frames := 2, cells := 0, slots := 0, locals := 43 } (zPre 0 D cI cJ adr s0 z [.ref (adr 0), .int p1, .int p2]) (zQi 0 D cI cJ adr z ro so) 0 0 (zA 0 adr z) := by
  refine zen (cc := cX7_pin) (own := RX7) (by decide +kernel) rfl hI (Nat.le_of_ble_eq_true rfl) (fun p e s m args below meth c ls hC hr hlk hz hl hW => ?_)
  subst hz
  obtain ⟨hx, hb, -⟩ := id hC
  have hl : lv_has ls 4 [(0, .ref (adr 0)), (1, .int p1), (2, .int p2)] := hl
  refine zst hW (fun H locs hW => ?_)
  unfold fX7_pin at hf
  refine lv_aload_n hx hb dX7_pin_0 rfl (lv_at hl 0 rfl) ?_
  refine zg_a (o := 0) hC hW fl_X7_12 zck_0_0 zcs_0_0 (show _ = 1 from rfl) dX7_pin_1 ?_
  refine zg_a (o := 0) hC hW fl_X7_74 (zE_k zEc_1) (zE_s zEc_1) (show _ = 2 from rfl) dX7_pin_4 ?_
  refine lv_iload_n hx hb dX7_pin_7 rfl (lv_at hl 1 rfl) ?_
  refine zc_i hW (zrun_v (As := [.int p1]) (rest := []) hC hW (mX0_isThere zGc_2 p1 s0 hC.2.2.2.2.2.2.2 rfl) cv_X7_88 (zG_k zGc_2) (zG_s zGc_2) rfl ⟨⟨rfl, rfl⟩, Nat.le_of_ble_eq_true rfl, Nat.le_of_ble_eq_true rfl⟩ (zlv_size hl) rfl (Nat.le_of_ble_eq_true rfl) dX7_pin_8 ⟨Nat.le_refl _, Nat.le_refl _⟩) (fun H locs hW => ?_)
  refine zi_if_ne (tgt := 16) hx hb dX7_pin_11 (by decide) hf (fun hc hf => ?_) (fun hc hf => ?_)
  · skip
    refine lv_iconst (v := (-1)) hx hb dX7_pin_14 (by decide) ?_
    exact zr_i hx hb hr hlk hW (zo1 hf) (zo2 hf) dX7_pin_15
  · skip
    refine lv_aload_n hx hb dX7_pin_16 rfl (lv_at hl 0 rfl) ?_
    refine zg_a (o := 0) hC hW fl_X7_12 zck_0_0 zcs_0_0 (show _ = 1 from rfl) dX7_pin_17 ?_
    refine zg_a (o := 6) hC hW fl_X7_68 (zE_k zEc_1) (zE_s zEc_1) (show _ = 8 from rfl) dX7_pin_20 ?_
    refine lv_iload_n hx hb dX7_pin_23 rfl (lv_at hl 1 rfl) ?_
    obtain ⟨v2, hq, hf⟩ := zb1_o hf
    refine zc_i hW (zrun_v (As := [.int p1]) (rest := []) hC hW (mX2_hasTurned zKc_8 p1 s0 hC.2.2.2.2.2.2.2 hq) cv_X7_165 (zK_k zKc_8) (zK_s zKc_8) rfl ⟨⟨rfl, rfl⟩, Nat.le_of_ble_eq_true rfl, Nat.le_of_ble_eq_true rfl⟩ (zlv_size hl) rfl (Nat.le_of_ble_eq_true rfl) dX7_pin_24 ⟨Nat.le_refl _, Nat.le_refl _⟩) (fun H locs hW => ?_)
    refine zi_if_eq (tgt := 33) hx hb dX7_pin_27 (by decide) hf (fun hc hf => ?_) (fun hc hf => ?_)
    · skip
      refine lv_aload_n hx hb dX7_pin_33 rfl (lv_at hl 0 rfl) ?_
      refine zg_a (o := 0) hC hW fl_X7_12 zck_0_0 zcs_0_0 (show _ = 1 from rfl) dX7_pin_34 ?_
      refine zg_a (o := 0) hC hW fl_X7_74 (zE_k zEc_1) (zE_s zEc_1) (show _ = 2 from rfl) dX7_pin_37 ?_
      refine zg_i hC hW fl_X7_118 (zG_k zGc_2) (zG_s zGc_2) dX7_pin_40 ?_
      refine lv_iload_n hx hb dX7_pin_43 rfl (lv_at hl 1 rfl) ?_
      refine zc_i hW (zrun_s (As := [.int (s0.1 2 2), .int p1]) (rest := []) hC hW (mX7_has (s0.1 2 2) p1 s0 hC.2.2.2.2.2.2.2 rfl) cs_X7_104 rfl ⟨⟨rfl, rfl⟩, Nat.le_of_ble_eq_true rfl, Nat.le_of_ble_eq_true rfl⟩ (zlv_size hl) rfl (Nat.le_of_ble_eq_true rfl) dX7_pin_44 ⟨Nat.le_refl _, Nat.le_refl _⟩) (fun H locs hW => ?_)
      refine zn_i hf (fun v4 hf => ?_)
      refine lv_istore_n (lv' := [(3, .int v4), (0, .ref (adr 0)), (1, .int p1), (2, .int p2)]) hx hb dX7_pin_47 rfl hl (by decide) rfl (fun ls hl => ?_)
      refine lv_aload_n hx hb dX7_pin_48 rfl (lv_at hl 1 rfl) ?_
      refine zg_a (o := 0) hC hW fl_X7_12 zck_0_0 zcs_0_0 (show _ = 1 from rfl) dX7_pin_49 ?_
      refine zg_a (o := 0) hC hW fl_X7_74 (zE_k zEc_1) (zE_s zEc_1) (show _ = 2 from rfl) dX7_pin_52 ?_
      refine lv_iload_n hx hb dX7_pin_55 rfl (lv_at hl 3 rfl) ?_
      refine zi_if_eq (tgt := 77) hx hb dX7_pin_56 (by decide) hf (fun hc hf => ?_) (fun hc hf => ?_)
      · skip
        refine lv_aload_n hx hb dX7_pin_77 rfl (lv_at hl 1 rfl) ?_
        refine zg_a (o := 0) hC hW fl_X7_12 zck_0_0 zcs_0_0 (show _ = 1 from rfl) dX7_pin_78 ?_
        refine zg_a (o := 0) hC hW fl_X7_74 (zE_k zEc_1) (zE_s zEc_1) (show _ = 2 from rfl) dX7_pin_81 ?_
        refine zg_i hC hW fl_X7_118 (zG_k zGc_2) (zG_s zGc_2) dX7_pin_84 ?_
        refine lv_iload_n hx hb dX7_pin_87 rfl (lv_at hl 2 rfl) ?_
        refine zc_i hW (zrun_s (As := [.int p1]) (rest := [.int (s0.1 2 2), .ref (adr 2)]) hC hW (mX7_bit p1 s0 hC.2.2.2.2.2.2.2 rfl) cs_X7_168 rfl ⟨⟨rfl, rfl⟩, Nat.le_of_ble_eq_true rfl, Nat.le_of_ble_eq_true rfl⟩ (zlv_size hl) rfl (Nat.le_of_ble_eq_true rfl) dX7_pin_88 ⟨Nat.le_refl _, Nat.le_refl _⟩) (fun H locs hW => ?_)
        refine lv_iconst (v := (-1)) hx hb dX7_pin_91 (by decide) ?_
        refine lv_ixor hx hb dX7_pin_92 ?_
        refine lv_iand hx hb dX7_pin_93 ?_
        refine zp_i hC hW hf fp_X7_118 (zG_k zGc_2) (zG_s zGc_2) dX7_pin_94 (fun s6 H locs hf hW => ?_)
        refine lv_iload_n hx hb dX7_pin_97 rfl (lv_at hl 0 rfl) ?_
        refine zc_i hW (zrun_s (As := [.int v4]) (rest := []) hC hW (mX7_asNumber v4 s6 hC.2.2.2.2.2.2.2 rfl) cs_X7_108 rfl ⟨⟨rfl, rfl⟩, Nat.le_of_ble_eq_true rfl, Nat.le_of_ble_eq_true rfl⟩ (zlv_size hl) rfl (Nat.le_of_ble_eq_true rfl) dX7_pin_98 ⟨Nat.le_refl _, Nat.le_refl _⟩) (fun H locs hW => ?_)
        exact zr_i hx hb hr hlk hW (zo1 hf) (zo2 hf) dX7_pin_101
      · skip
        refine lv_aload_n hx hb dX7_pin_59 rfl (lv_at hl 1 rfl) ?_
        refine zg_a (o := 0) hC hW fl_X7_12 zck_0_0 zcs_0_0 (show _ = 1 from rfl) dX7_pin_60 ?_
        refine zg_a (o := 0) hC hW fl_X7_74 (zE_k zEc_1) (zE_s zEc_1) (show _ = 2 from rfl) dX7_pin_63 ?_
        refine zg_i hC hW fl_X7_118 (zG_k zGc_2) (zG_s zGc_2) dX7_pin_66 ?_
        refine lv_iload_n hx hb dX7_pin_69 rfl (lv_at hl 2 rfl) ?_
        refine zc_i hW (zrun_s (As := [.int p1]) (rest := [.int (s0.1 2 2), .ref (adr 2)]) hC hW (mX7_bit p1 s0 hC.2.2.2.2.2.2.2 rfl) cs_X7_168 rfl ⟨⟨rfl, rfl⟩, Nat.le_of_ble_eq_true rfl, Nat.le_of_ble_eq_true rfl⟩ (zlv_size hl) rfl (Nat.le_of_ble_eq_true rfl) dX7_pin_70 ⟨Nat.le_refl _, Nat.le_refl _⟩) (fun H locs hW => ?_)
        refine lv_ior hx hb dX7_pin_73 ?_
        refine lv_goto (tgt := 94) hx hb dX7_pin_74 (by decide) ?_
        refine zp_i hC hW hf fp_X7_118 (zG_k zGc_2) (zG_s zGc_2) dX7_pin_94 (fun s9 H locs hf hW => ?_)
        refine lv_iload_n hx hb dX7_pin_97 rfl (lv_at hl 0 rfl) ?_
        refine zc_i hW (zrun_s (As := [.int v4]) (rest := []) hC hW (mX7_asNumber v4 s9 hC.2.2.2.2.2.2.2 rfl) cs_X7_108 rfl ⟨⟨rfl, rfl⟩, Nat.le_of_ble_eq_true rfl, Nat.le_of_ble_eq_true rfl⟩ (zlv_size hl) rfl (Nat.le_of_ble_eq_true rfl) dX7_pin_98 ⟨Nat.le_refl _, Nat.le_refl _⟩) (fun H locs hW => ?_)
        exact zr_i hx hb hr hlk hW (zo1 hf) (zo2 hf) dX7_pin_101
    · skip
      refine lv_bipush (v := (-3)) hx hb dX7_pin_30 (by decide) ?_
      exact zr_i hx hb hr hlk hW (zo1 hf) (zo2 hf) dX7_pin_32
set_option maxHeartbeats 4000000 in
set_option maxRecDepth 100000 in
theorem mX6_append {l : Launch} {D : va_G} {cI cJ : ClassId} {adr : Nat → Nat} (p1 : Int32) (s0 : zkS) {z : Nat} {ro : Int32} {so : zkS} (hI : zInj 0 adr) (hf : fX6_append p1 s0 = some (ro, so)) : Met l yX6_append (Cond.code yX6_append cX6_append 2 (some .boolean) :: zTb) { frames := 0, cells := 0, slots := 0, locals := 0 } (zPre 0 D cI cJ adr s0 z [.ref (adr 44), .int p1]) (zQi 0 D cI cJ adr z ro so) 0 0 (zA 0 adr z) := by
  refine zen (cc := cX6_append) (own := RX6) (by decide +kernel) rfl hI (Nat.le_of_ble_eq_true rfl) (fun p e s m args below meth c ls hC hr hlk hz hl hW => ?_)
  subst hz
  obtain ⟨hx, hb, -⟩ := id hC
  have hl : lv_has ls 2 [(0, .ref (adr 44)), (1, .int p1)] := hl
  refine zst hW (fun H locs hW => ?_)
  unfold fX6_append at hf
  refine lv_aload_n hx hb dX6_append_0 rfl (lv_at hl 0 rfl) ?_
  refine zg_i hC hW fl_X6_9 zck_0_44 zcs_0_44 dX6_append_1 ?_
  refine zi_if_lt (tgt := 16) hx hb dX6_append_4 (by decide) hf (fun hc hf => ?_) (fun hc hf => ?_)
  · skip
    refine lv_iconst (v := 0) hx hb dX6_append_16 (by decide) ?_
    exact zr_z hx hb hr hlk hW (by decide) (zo1 hf) (zo2 hf) dX6_append_17
  · skip
    refine lv_aload_n hx hb dX6_append_7 rfl (lv_at hl 0 rfl) ?_
    refine zg_i hC hW fl_X6_9 zck_0_44 zcs_0_44 dX6_append_8 ?_
    refine lv_bipush (v := 100) hx hb dX6_append_11 (by decide) ?_
    refine zi_icmp_lt (tgt := 18) hx hb dX6_append_13 (by decide) hf (fun hc hf => ?_) (fun hc hf => ?_)
    · skip
      refine lv_aload_n hx hb dX6_append_18 rfl (lv_at hl 0 rfl) ?_
      refine zg_a (o := 0) hC hW fl_X6_21 zck_0_44 zcs_0_44 (show _ = 45 from rfl) dX6_append_19 ?_
      refine lv_aload_n hx hb dX6_append_22 rfl (lv_at hl 0 rfl) ?_
      refine zg_i hC hW fl_X6_9 zck_0_44 zcs_0_44 dX6_append_23 ?_
      refine lv_iload_n hx hb dX6_append_26 rfl (lv_at hl 1 rfl) ?_
      refine za_s hC hW hf zar_0_45 dX6_append_27 (fun s1 H locs hf hW => ?_)
      refine lv_aload_n hx hb dX6_append_28 rfl (lv_at hl 0 rfl) ?_
      refine lv_dup hx hb dX6_append_29 rfl ?_
      refine zg_i hC hW fl_X6_9 zck_0_44 zcs_0_44 dX6_append_30 ?_
      refine lv_iconst (v := 1) hx hb dX6_append_33 (by decide) ?_
      refine lv_iadd hx hb dX6_append_34 ?_
      refine zp_i hC hW hf fp_X6_9 zck_0_44 zcs_0_44 dX6_append_35 (fun s2 H locs hf hW => ?_)
      refine lv_iconst (v := 1) hx hb dX6_append_38 (by decide) ?_
      exact zr_z hx hb hr hlk hW (by decide) (zo1 hf) (zo2 hf) dX6_append_39
    · skip
      refine lv_iconst (v := 0) hx hb dX6_append_16 (by decide) ?_
      exact zr_z hx hb hr hlk hW (by decide) (zo1 hf) (zo2 hf) dX6_append_17
set_option maxHeartbeats 4000000 in
set_option maxRecDepth 100000 in
theorem mX7_feed {l : Launch} {D : va_G} {cI cJ : ClassId} {adr : Nat → Nat} (p1 : Int32) (s0 : zkS) {z : Nat} {ro : Int32} {so : zkS} (hI : zInj 0 adr) (hf : fX7_feed p1 s0 = some (ro, so)) : Met l yX7_feed (Cond.code yX7_feed cX7_feed 2 (some .int) :: zTb) { frames := 1, cells := 0, slots := 0, locals := 21 } (zPre 0 D cI cJ adr s0 z [.ref (adr 0), .int p1]) (zQi 0 D cI cJ adr z ro so) 0 0 (zA 0 adr z) := by
  refine zen (cc := cX7_feed) (own := RX7) (by decide +kernel) rfl hI (Nat.le_of_ble_eq_true rfl) (fun p e s m args below meth c ls hC hr hlk hz hl hW => ?_)
  subst hz
  obtain ⟨hx, hb, -⟩ := id hC
  have hl : lv_has ls 2 [(0, .ref (adr 0)), (1, .int p1)] := hl
  refine zst hW (fun H locs hW => ?_)
  unfold fX7_feed at hf
  refine lv_iload_n hx hb dX7_feed_0 rfl (lv_at hl 1 rfl) ?_
  refine zi_if_lt (tgt := 10) hx hb dX7_feed_1 (by decide) hf (fun hc hf => ?_) (fun hc hf => ?_)
  · skip
    refine lv_bipush (v := (-2)) hx hb dX7_feed_10 (by decide) ?_
    exact zr_i hx hb hr hlk hW (zo1 hf) (zo2 hf) dX7_feed_12
  · skip
    refine lv_iload_n hx hb dX7_feed_4 rfl (lv_at hl 1 rfl) ?_
    refine lv_bipush (v := 127) hx hb dX7_feed_5 (by decide) ?_
    refine zi_icmp_le (tgt := 13) hx hb dX7_feed_7 (by decide) hf (fun hc hf => ?_) (fun hc hf => ?_)
    · skip
      refine lv_aload_n hx hb dX7_feed_13 rfl (lv_at hl 0 rfl) ?_
      refine zg_a (o := 43) hC hW fl_X7_49 zck_0_0 zcs_0_0 (show _ = 44 from rfl) dX7_feed_14 ?_
      refine lv_iload_n hx hb dX7_feed_17 rfl (lv_at hl 1 rfl) ?_
      obtain ⟨v1, s2, hq, hf⟩ := zb2_o hf
      refine zc_i hW (zrun_v (As := [.int p1]) (rest := []) hC hW (mX6_append p1 s0 hC.2.2.2.2.2.2.2 hq) cv_X7_171 zck_0_44 zcs_0_44 rfl ⟨⟨rfl, rfl⟩, Nat.le_of_ble_eq_true rfl, Nat.le_of_ble_eq_true rfl⟩ (zlv_size hl) rfl (Nat.le_of_ble_eq_true rfl) dX7_feed_18 ⟨Nat.le_refl _, Nat.le_refl _⟩) (fun H locs hW => ?_)
      refine zi_if_eq (tgt := 34) hx hb dX7_feed_21 (by decide) hf (fun hc hf => ?_) (fun hc hf => ?_)
      · skip
        refine lv_bipush (v := (-4)) hx hb dX7_feed_34 (by decide) ?_
        exact zr_i hx hb hr hlk hW (zo1 hf) (zo2 hf) dX7_feed_36
      · skip
        refine lv_aload_n hx hb dX7_feed_24 rfl (lv_at hl 0 rfl) ?_
        refine zg_a (o := 43) hC hW fl_X7_49 zck_0_0 zcs_0_0 (show _ = 44 from rfl) dX7_feed_25 ?_
        refine zg_i hC hW fl_X7_174 zck_0_44 zcs_0_44 dX7_feed_28 ?_
        refine lv_goto (tgt := 36) hx hb dX7_feed_31 (by decide) ?_
        exact zr_i hx hb hr hlk hW (zo1 hf) (zo2 hf) dX7_feed_36
    · skip
      refine lv_bipush (v := (-2)) hx hb dX7_feed_10 (by decide) ?_
      exact zr_i hx hb hr hlk hW (zo1 hf) (zo2 hf) dX7_feed_12
set_option maxHeartbeats 4000000 in
set_option maxRecDepth 100000 in
theorem mX0_copyFrom {l : Launch} {D : va_G} {cI cJ : ClassId} {adr : Nat → Nat} {b : Nat} {o1 : Nat} (kb : zG b) (k1 : zG o1) (s0 : zkS) {z : Nat} {so : zkS} (hI : zInj 0 adr) (hf : fX0_copyFrom b o1 s0 = some so) : Met l yX0_copyFrom (Cond.code yX0_copyFrom cX0_copyFrom 2 none :: zTb) { frames := 1, cells := 0, slots := 0, locals := 18 } (zPre 0 D cI cJ adr s0 z [.ref (adr b), .ref (adr o1)]) (zQv 0 D cI cJ adr z so) 0 0 (zA 0 adr z) := by
  refine zen (cc := cX0_copyFrom) (own := RX0) (by decide +kernel) rfl hI (Nat.le_of_ble_eq_true rfl) (fun p e s m args below meth c ls hC hr hlk hz hl hW => ?_)
  subst hz
  obtain ⟨hx, hb, -⟩ := id hC
  have hl : lv_has ls 2 [(0, .ref (adr b)), (1, .ref (adr o1))] := hl
  refine zst hW (fun H locs hW => ?_)
  unfold fX0_copyFrom at hf
  refine lv_aload_n hx hb dX0_copyFrom_0 rfl (lv_at hl 0 rfl) ?_
  refine lv_aload_n hx hb dX0_copyFrom_1 rfl (lv_at hl 1 rfl) ?_
  refine zg_i hC hW fl_X0_9 (zG_k k1) (zG_s k1) dX0_copyFrom_2 ?_
  refine zp_i hC hW hf fp_X0_9 (zG_k kb) (zG_s kb) dX0_copyFrom_5 (fun s1 H locs hf hW => ?_)
  refine lv_aload_n hx hb dX0_copyFrom_8 rfl (lv_at hl 0 rfl) ?_
  refine lv_aload_n hx hb dX0_copyFrom_9 rfl (lv_at hl 1 rfl) ?_
  refine zg_i hC hW fl_X0_15 (zG_k k1) (zG_s k1) dX0_copyFrom_10 ?_
  refine zp_i hC hW hf fp_X0_15 (zG_k kb) (zG_s kb) dX0_copyFrom_13 (fun s2 H locs hf hW => ?_)
  refine lv_aload_n hx hb dX0_copyFrom_16 rfl (lv_at hl 0 rfl) ?_
  refine lv_aload_n hx hb dX0_copyFrom_17 rfl (lv_at hl 1 rfl) ?_
  refine zg_i hC hW fl_X0_18 (zG_k k1) (zG_s k1) dX0_copyFrom_18 ?_
  refine zp_i hC hW hf fp_X0_18 (zG_k kb) (zG_s kb) dX0_copyFrom_21 (fun s3 H locs hf hW => ?_)
  refine lv_aload_n hx hb dX0_copyFrom_24 rfl (lv_at hl 1 rfl) ?_
  refine zg_a (o := 0) hC hW fl_X0_21 (zG_k k1) (zG_s k1) (show _ = (o1 + 1) from rfl) dX0_copyFrom_25 ?_
  refine lv_iconst (v := 0) hx hb dX0_copyFrom_28 (by decide) ?_
  refine lv_aload_n hx hb dX0_copyFrom_29 rfl (lv_at hl 0 rfl) ?_
  refine zg_a (o := 0) hC hW fl_X0_21 (zG_k kb) (zG_s kb) (show _ = (b + 1) from rfl) dX0_copyFrom_30 ?_
  refine lv_iconst (v := 0) hx hb dX0_copyFrom_33 (by decide) ?_
  refine lv_bipush (v := 24) hx hb dX0_copyFrom_34 (by decide) ?_
  refine za_c hC hW hf cy_X0_43 (zG_1 k1) (zG_1 kb) (zlv_size hl) ⟨Nat.le_of_ble_eq_true rfl, Nat.le_of_ble_eq_true rfl⟩ dX0_copyFrom_36 (fun s4 H locs hf hW => ?_)
  refine lv_aload_n hx hb dX0_copyFrom_39 rfl (lv_at hl 1 rfl) ?_
  refine zg_a (o := 1) hC hW fl_X0_25 (zG_k k1) (zG_s k1) (show _ = (o1 + 2) from rfl) dX0_copyFrom_40 ?_
  refine lv_iconst (v := 0) hx hb dX0_copyFrom_43 (by decide) ?_
  refine lv_aload_n hx hb dX0_copyFrom_44 rfl (lv_at hl 0 rfl) ?_
  refine zg_a (o := 1) hC hW fl_X0_25 (zG_k kb) (zG_s kb) (show _ = (b + 2) from rfl) dX0_copyFrom_45 ?_
  refine lv_iconst (v := 0) hx hb dX0_copyFrom_48 (by decide) ?_
  refine lv_bipush (v := 24) hx hb dX0_copyFrom_49 (by decide) ?_
  refine za_c hC hW hf cy_X0_43 (zG_2 k1) (zG_2 kb) (zlv_size hl) ⟨Nat.le_of_ble_eq_true rfl, Nat.le_of_ble_eq_true rfl⟩ dX0_copyFrom_51 (fun s5 H locs hf hW => ?_)
  refine lv_aload_n hx hb dX0_copyFrom_54 rfl (lv_at hl 1 rfl) ?_
  refine zg_a (o := 2) hC hW fl_X0_28 (zG_k k1) (zG_s k1) (show _ = (o1 + 3) from rfl) dX0_copyFrom_55 ?_
  refine lv_iconst (v := 0) hx hb dX0_copyFrom_58 (by decide) ?_
  refine lv_aload_n hx hb dX0_copyFrom_59 rfl (lv_at hl 0 rfl) ?_
  refine zg_a (o := 2) hC hW fl_X0_28 (zG_k kb) (zG_s kb) (show _ = (b + 3) from rfl) dX0_copyFrom_60 ?_
  refine lv_iconst (v := 0) hx hb dX0_copyFrom_63 (by decide) ?_
  refine lv_bipush (v := 24) hx hb dX0_copyFrom_64 (by decide) ?_
  refine za_c hC hW hf cy_X0_43 (zG_3 k1) (zG_3 kb) (zlv_size hl) ⟨Nat.le_of_ble_eq_true rfl, Nat.le_of_ble_eq_true rfl⟩ dX0_copyFrom_66 (fun s6 H locs hf hW => ?_)
  refine lv_aload_n hx hb dX0_copyFrom_69 rfl (lv_at hl 1 rfl) ?_
  refine zg_a (o := 3) hC hW fl_X0_31 (zG_k k1) (zG_s k1) (show _ = (o1 + 4) from rfl) dX0_copyFrom_70 ?_
  refine lv_iconst (v := 0) hx hb dX0_copyFrom_73 (by decide) ?_
  refine lv_aload_n hx hb dX0_copyFrom_74 rfl (lv_at hl 0 rfl) ?_
  refine zg_a (o := 3) hC hW fl_X0_31 (zG_k kb) (zG_s kb) (show _ = (b + 4) from rfl) dX0_copyFrom_75 ?_
  refine lv_iconst (v := 0) hx hb dX0_copyFrom_78 (by decide) ?_
  refine lv_sipush (v := 144) hx hb dX0_copyFrom_79 (by decide) ?_
  refine za_c hC hW hf cy_X0_43 (zG_4 k1) (zG_4 kb) (zlv_size hl) ⟨Nat.le_of_ble_eq_true rfl, Nat.le_of_ble_eq_true rfl⟩ dX0_copyFrom_82 (fun s7 H locs hf hW => ?_)
  refine lv_aload_n hx hb dX0_copyFrom_85 rfl (lv_at hl 1 rfl) ?_
  refine zg_a (o := 4) hC hW fl_X0_34 (zG_k k1) (zG_s k1) (show _ = (o1 + 5) from rfl) dX0_copyFrom_86 ?_
  refine lv_iconst (v := 0) hx hb dX0_copyFrom_89 (by decide) ?_
  refine lv_aload_n hx hb dX0_copyFrom_90 rfl (lv_at hl 0 rfl) ?_
  refine zg_a (o := 4) hC hW fl_X0_34 (zG_k kb) (zG_s kb) (show _ = (b + 5) from rfl) dX0_copyFrom_91 ?_
  refine lv_iconst (v := 0) hx hb dX0_copyFrom_94 (by decide) ?_
  refine lv_iconst (v := 4) hx hb dX0_copyFrom_95 (by decide) ?_
  refine za_c hC hW hf cy_X0_43 (zG_5 k1) (zG_5 kb) (zlv_size hl) ⟨Nat.le_of_ble_eq_true rfl, Nat.le_of_ble_eq_true rfl⟩ dX0_copyFrom_96 (fun s8 H locs hf hW => ?_)
  exact zr_v hx hb hr hlk hW (Option.some.inj hf) dX0_copyFrom_99
set_option maxHeartbeats 4000000 in
set_option maxRecDepth 100000 in
theorem mX6_wantMore {l : Launch} {D : va_G} {cI cJ : ClassId} {adr : Nat → Nat} (s0 : zkS) {z : Nat} {ro : Int32} {so : zkS} (hI : zInj 0 adr) (hf : fX6_wantMore s0 = (ro, so)) : Met l yX6_wantMore (Cond.code yX6_wantMore cX6_wantMore 1 (some .boolean) :: zTb) { frames := 0, cells := 0, slots := 0, locals := 0 } (zPre 0 D cI cJ adr s0 z [.ref (adr 44)]) (zQi 0 D cI cJ adr z ro so) 0 0 (zA 0 adr z) := by
  refine zen (cc := cX6_wantMore) (own := RX6) (by decide +kernel) rfl hI (Nat.le_of_ble_eq_true rfl) (fun p e s m args below meth c ls hC hr hlk hz hl hW => ?_)
  subst hz
  obtain ⟨hx, hb, -⟩ := id hC
  have hl : lv_has ls 1 [(0, .ref (adr 44))] := hl
  refine zst hW (fun H locs hW => ?_)
  unfold fX6_wantMore at hf
  refine lv_aload_n hx hb dX6_wantMore_0 rfl (lv_at hl 0 rfl) ?_
  refine lv_iconst (v := 1) hx hb dX6_wantMore_1 (by decide) ?_
  refine zp_y hC hW hf (by decide) fp_X6_37 zck_0_44 zcs_0_44 dX6_wantMore_2 (fun s1 H locs hf hW => ?_)
  refine lv_iconst (v := 1) hx hb dX6_wantMore_5 (by decide) ?_
  exact zr_z hx hb hr hlk hW (by decide) (zt1 hf) (zt2 hf) dX6_wantMore_6
set_option maxHeartbeats 4000000 in
set_option maxRecDepth 100000 in
theorem mX6_close {l : Launch} {D : va_G} {cI cJ : ClassId} {adr : Nat → Nat} (s0 : zkS) {z : Nat} {ro : Int32} {so : zkS} (hI : zInj 0 adr) (hf : fX6_close s0 = (ro, so)) : Met l yX6_close (Cond.code yX6_close cX6_close 1 (some .boolean) :: zTb) { frames := 0, cells := 0, slots := 0, locals := 0 } (zPre 0 D cI cJ adr s0 z [.ref (adr 44)]) (zQi 0 D cI cJ adr z ro so) 0 0 (zA 0 adr z) := by
  refine zen (cc := cX6_close) (own := RX6) (by decide +kernel) rfl hI (Nat.le_of_ble_eq_true rfl) (fun p e s m args below meth c ls hC hr hlk hz hl hW => ?_)
  subst hz
  obtain ⟨hx, hb, -⟩ := id hC
  have hl : lv_has ls 1 [(0, .ref (adr 44))] := hl
  refine zst hW (fun H locs hW => ?_)
  unfold fX6_close at hf
  refine lv_aload_n hx hb dX6_close_0 rfl (lv_at hl 0 rfl) ?_
  refine lv_dup hx hb dX6_close_1 rfl ?_
  refine zg_i hC hW fl_X6_34 zck_0_44 zcs_0_44 dX6_close_2 ?_
  refine lv_iconst (v := 1) hx hb dX6_close_5 (by decide) ?_
  refine lv_isub hx hb dX6_close_6 ?_
  refine zp_i hC hW hf fp_X6_34 zck_0_44 zcs_0_44 dX6_close_7 (fun s1 H locs hf hW => ?_)
  refine lv_aload_n hx hb dX6_close_10 rfl (lv_at hl 0 rfl) ?_
  refine lv_iconst (v := 0) hx hb dX6_close_11 (by decide) ?_
  refine zp_y hC hW hf (by decide) fp_X6_37 zck_0_44 zcs_0_44 dX6_close_12 (fun s2 H locs hf hW => ?_)
  refine lv_iconst (v := 1) hx hb dX6_close_15 (by decide) ?_
  exact zr_z hx hb hr hlk hW (by decide) (zt1 hf) (zt2 hf) dX6_close_16
set_option maxHeartbeats 4000000 in
set_option maxRecDepth 100000 in
theorem mX6_goOn {l : Launch} {D : va_G} {cI cJ : ClassId} {adr : Nat → Nat} (p1 : Int32) (s0 : zkS) {z : Nat} {ro : Int32} {so : zkS} (hI : zInj 0 adr) (hf : fX6_goOn p1 s0 = some (ro, so)) : Met l yX6_goOn (Cond.code yX6_goOn cX6_goOn 3 (some .boolean) :: zTb) { frames := 1, cells := 0, slots := 0, locals := 20 } (zPre 0 D cI cJ adr s0 z [.ref (adr 44), .int p1]) (zQi 0 D cI cJ adr z ro so) 0 0 (zA 0 adr z) := by
  refine zen (cc := cX6_goOn) (own := RX6) (by decide +kernel) rfl hI (Nat.le_of_ble_eq_true rfl) (fun p e s m args below meth c ls hC hr hlk hz hl hW => ?_)
  subst hz
  obtain ⟨hx, hb, -⟩ := id hC
  have hl : lv_has ls 3 [(0, .ref (adr 44)), (1, .int p1)] := hl
  refine zst hW (fun H locs hW => ?_)
  unfold fX6_goOn at hf
  refine lv_aload_n hx hb dX6_goOn_0 rfl (lv_at hl 0 rfl) ?_
  refine zg_i hC hW fl_X6_34 zck_0_44 zcs_0_44 dX6_goOn_1 ?_
  refine zi_if_le (tgt := 16) hx hb dX6_goOn_4 (by decide) hf (fun hc hf => ?_) (fun hc hf => ?_)
  · skip
    refine lv_iconst (v := 0) hx hb dX6_goOn_16 (by decide) ?_
    exact zr_z hx hb hr hlk hW (by decide) (zo1 hf) (zo2 hf) dX6_goOn_17
  · skip
    refine lv_aload_n hx hb dX6_goOn_7 rfl (lv_at hl 0 rfl) ?_
    refine zg_i hC hW fl_X6_34 zck_0_44 zcs_0_44 dX6_goOn_8 ?_
    refine lv_bipush (v := 6) hx hb dX6_goOn_11 (by decide) ?_
    refine zi_icmp_le (tgt := 18) hx hb dX6_goOn_13 (by decide) hf (fun hc hf => ?_) (fun hc hf => ?_)
    · skip
      refine lv_aload_n hx hb dX6_goOn_18 rfl (lv_at hl 0 rfl) ?_
      refine zg_i hC hW fl_X6_34 zck_0_44 zcs_0_44 dX6_goOn_19 ?_
      refine lv_iconst (v := 1) hx hb dX6_goOn_22 (by decide) ?_
      refine lv_isub hx hb dX6_goOn_23 ?_
      refine zn_i hf (fun v1 hf => ?_)
      refine lv_istore_n (lv' := [(2, .int v1), (0, .ref (adr 44)), (1, .int p1)]) hx hb dX6_goOn_24 rfl hl (by decide) rfl (fun ls hl => ?_)
      refine lv_aload_n hx hb dX6_goOn_25 rfl (lv_at hl 1 rfl) ?_
      refine zg_a (o := 2) hC hW fl_X6_28 zck_0_44 zcs_0_44 (show _ = 47 from rfl) dX6_goOn_26 ?_
      refine lv_iload_n hx hb dX6_goOn_29 rfl (lv_at hl 0 rfl) ?_
      refine za_l hC hW hf zar_0_47 dX6_goOn_30 (fun v2 hf => ?_)
      refine zi_c hf (fun h0 hf => ?_) (fun h0 hf => ?_)
      · skip
        refine lv_lookup (off := 25) (tgt := 56) hx hb dX6_goOn_31 (by decide +kernel) (by rw [h0]; decide +kernel) (by decide) ?_
        refine lv_aload_n hx hb dX6_goOn_56 rfl (lv_at hl 1 rfl) ?_
        refine zg_a (o := 3) hC hW fl_X6_31 zck_0_44 zcs_0_44 (show _ = 48 from rfl) dX6_goOn_57 ?_
        refine lv_iload_n hx hb dX6_goOn_60 rfl (lv_at hl 0 rfl) ?_
        refine za_l hC hW hf zar_0_48 dX6_goOn_61 (fun v3 hf => ?_)
        refine lv_iconst (v := 2) hx hb dX6_goOn_62 (by decide) ?_
        refine zi_icmp_ge (tgt := 87) hx hb dX6_goOn_63 (by decide) hf (fun hc hf => ?_) (fun hc hf => ?_)
        · skip
          refine lv_iload_n hx hb dX6_goOn_87 rfl (lv_at hl 2 rfl) ?_
          refine lv_bipush (v := 41) hx hb dX6_goOn_88 (by decide) ?_
          refine zi_icmp_ne (tgt := 104) hx hb dX6_goOn_90 (by decide) hf (fun hc hf => ?_) (fun hc hf => ?_)
          · skip
            refine lv_aload_n hx hb dX6_goOn_93 rfl (lv_at hl 1 rfl) ?_
            obtain ⟨v4, s5, hq, hf⟩ := zw2_o hf
            refine zc_i hW (zrun_v (As := []) (rest := []) hC hW (mX6_close s0 hC.2.2.2.2.2.2.2 hq) cv_X6_53 zck_0_44 zcs_0_44 rfl ⟨⟨rfl, rfl⟩, Nat.le_of_ble_eq_true rfl, Nat.le_of_ble_eq_true rfl⟩ (zlv_size hl) rfl (Nat.le_of_ble_eq_true rfl) dX6_goOn_94 ⟨Nat.le_refl _, Nat.le_refl _⟩) (fun H locs hW => ?_)
            refine zi_if_eq (tgt := 104) hx hb dX6_goOn_97 (by decide) hf (fun hc hf => ?_) (fun hc hf => ?_)
            · skip
              refine lv_iconst (v := 0) hx hb dX6_goOn_104 (by decide) ?_
              exact zr_z hx hb hr hlk hW (by decide) (zo1 hf) (zo2 hf) dX6_goOn_105
            · skip
              refine lv_iconst (v := 1) hx hb dX6_goOn_100 (by decide) ?_
              refine lv_goto (tgt := 105) hx hb dX6_goOn_101 (by decide) ?_
              exact zr_z hx hb hr hlk hW (by decide) (zo1 hf) (zo2 hf) dX6_goOn_105
          · skip
            refine lv_iconst (v := 0) hx hb dX6_goOn_104 (by decide) ?_
            exact zr_z hx hb hr hlk hW (by decide) (zo1 hf) (zo2 hf) dX6_goOn_105
        · skip
          refine lv_iload_n hx hb dX6_goOn_66 rfl (lv_at hl 2 rfl) ?_
          refine lv_bipush (v := 46) hx hb dX6_goOn_67 (by decide) ?_
          refine zi_icmp_ne (tgt := 83) hx hb dX6_goOn_69 (by decide) hf (fun hc hf => ?_) (fun hc hf => ?_)
          · skip
            refine lv_aload_n hx hb dX6_goOn_72 rfl (lv_at hl 1 rfl) ?_
            obtain ⟨v6, s7, hq, hf⟩ := zw2_o hf
            refine zc_i hW (zrun_v (As := []) (rest := []) hC hW (mX6_wantMore s0 hC.2.2.2.2.2.2.2 hq) cv_X6_85 zck_0_44 zcs_0_44 rfl ⟨⟨rfl, rfl⟩, Nat.le_of_ble_eq_true rfl, Nat.le_of_ble_eq_true rfl⟩ (zlv_size hl) rfl (Nat.le_of_ble_eq_true rfl) dX6_goOn_73 ⟨Nat.le_refl _, Nat.le_refl _⟩) (fun H locs hW => ?_)
            refine zi_if_eq (tgt := 83) hx hb dX6_goOn_76 (by decide) hf (fun hc hf => ?_) (fun hc hf => ?_)
            · skip
              refine lv_iconst (v := 0) hx hb dX6_goOn_83 (by decide) ?_
              refine lv_goto (tgt := 105) hx hb dX6_goOn_84 (by decide) ?_
              exact zr_z hx hb hr hlk hW (by decide) (zo1 hf) (zo2 hf) dX6_goOn_105
            · skip
              refine lv_iconst (v := 1) hx hb dX6_goOn_79 (by decide) ?_
              refine lv_goto (tgt := 105) hx hb dX6_goOn_80 (by decide) ?_
              exact zr_z hx hb hr hlk hW (by decide) (zo1 hf) (zo2 hf) dX6_goOn_105
          · skip
            refine lv_iconst (v := 0) hx hb dX6_goOn_83 (by decide) ?_
            refine lv_goto (tgt := 105) hx hb dX6_goOn_84 (by decide) ?_
            exact zr_z hx hb hr hlk hW (by decide) (zo1 hf) (zo2 hf) dX6_goOn_105
      · skip
        refine zi_c hf (fun h1 hf => ?_) (fun h1 hf => ?_)
        · skip
          refine lv_lookup (off := 75) (tgt := 106) hx hb dX6_goOn_31 (by decide +kernel) (by rw [h1]; decide +kernel) (by decide) ?_
          refine lv_iload_n hx hb dX6_goOn_106 rfl (lv_at hl 2 rfl) ?_
          refine lv_bipush (v := 93) hx hb dX6_goOn_107 (by decide) ?_
          refine zi_icmp_ne (tgt := 119) hx hb dX6_goOn_109 (by decide) hf (fun hc hf => ?_) (fun hc hf => ?_)
          · skip
            refine lv_aload_n hx hb dX6_goOn_112 rfl (lv_at hl 1 rfl) ?_
            obtain ⟨v8, s9, hq, hf⟩ := zw2_o hf
            refine zc_i hW (zrun_v (As := []) (rest := []) hC hW (mX6_close s0 hC.2.2.2.2.2.2.2 hq) cv_X6_53 zck_0_44 zcs_0_44 rfl ⟨⟨rfl, rfl⟩, Nat.le_of_ble_eq_true rfl, Nat.le_of_ble_eq_true rfl⟩ (zlv_size hl) rfl (Nat.le_of_ble_eq_true rfl) dX6_goOn_113 ⟨Nat.le_refl _, Nat.le_refl _⟩) (fun H locs hW => ?_)
            refine lv_goto (tgt := 148) hx hb dX6_goOn_116 (by decide) ?_
            obtain ⟨h01, hf⟩ := zck_o hf
            exact zr_z hx hb hr hlk hW h01 (zo1 hf) (zo2 hf) dX6_goOn_148
          · skip
            refine lv_iload_n hx hb dX6_goOn_119 rfl (lv_at hl 2 rfl) ?_
            refine lv_bipush (v := 44) hx hb dX6_goOn_120 (by decide) ?_
            refine zi_icmp_ne (tgt := 147) hx hb dX6_goOn_122 (by decide) hf (fun hc hf => ?_) (fun hc hf => ?_)
            · skip
              refine lv_aload_n hx hb dX6_goOn_125 rfl (lv_at hl 1 rfl) ?_
              refine zg_a (o := 3) hC hW fl_X6_31 zck_0_44 zcs_0_44 (show _ = 48 from rfl) dX6_goOn_126 ?_
              refine lv_iload_n hx hb dX6_goOn_129 rfl (lv_at hl 0 rfl) ?_
              refine za_l hC hW hf zar_0_48 dX6_goOn_130 (fun v10 hf => ?_)
              refine lv_bipush (v := 6) hx hb dX6_goOn_131 (by decide) ?_
              refine zi_icmp_ge (tgt := 147) hx hb dX6_goOn_133 (by decide) hf (fun hc hf => ?_) (fun hc hf => ?_)
              · skip
                refine lv_iconst (v := 0) hx hb dX6_goOn_147 (by decide) ?_
                exact zr_z hx hb hr hlk hW (by decide) (zo1 hf) (zo2 hf) dX6_goOn_148
              · skip
                refine lv_aload_n hx hb dX6_goOn_136 rfl (lv_at hl 1 rfl) ?_
                obtain ⟨v11, s12, hq, hf⟩ := zw2_o hf
                refine zc_i hW (zrun_v (As := []) (rest := []) hC hW (mX6_wantMore s0 hC.2.2.2.2.2.2.2 hq) cv_X6_85 zck_0_44 zcs_0_44 rfl ⟨⟨rfl, rfl⟩, Nat.le_of_ble_eq_true rfl, Nat.le_of_ble_eq_true rfl⟩ (zlv_size hl) rfl (Nat.le_of_ble_eq_true rfl) dX6_goOn_137 ⟨Nat.le_refl _, Nat.le_refl _⟩) (fun H locs hW => ?_)
                refine zi_if_eq (tgt := 147) hx hb dX6_goOn_140 (by decide) hf (fun hc hf => ?_) (fun hc hf => ?_)
                · skip
                  refine lv_iconst (v := 0) hx hb dX6_goOn_147 (by decide) ?_
                  exact zr_z hx hb hr hlk hW (by decide) (zo1 hf) (zo2 hf) dX6_goOn_148
                · skip
                  refine lv_iconst (v := 1) hx hb dX6_goOn_143 (by decide) ?_
                  refine lv_goto (tgt := 148) hx hb dX6_goOn_144 (by decide) ?_
                  exact zr_z hx hb hr hlk hW (by decide) (zo1 hf) (zo2 hf) dX6_goOn_148
            · skip
              refine lv_iconst (v := 0) hx hb dX6_goOn_147 (by decide) ?_
              exact zr_z hx hb hr hlk hW (by decide) (zo1 hf) (zo2 hf) dX6_goOn_148
        · skip
          refine lv_lookup (off := 118) (tgt := 149) hx hb dX6_goOn_31 (by decide +kernel) ((lv_osw h0 rfl).trans ((lv_osw h1 rfl).trans rfl)) (by decide) ?_
          refine lv_iload_n hx hb dX6_goOn_149 rfl (lv_at hl 2 rfl) ?_
          refine lv_bipush (v := 62) hx hb dX6_goOn_150 (by decide) ?_
          refine zi_icmp_ne (tgt := 166) hx hb dX6_goOn_152 (by decide) hf (fun hc hf => ?_) (fun hc hf => ?_)
          · skip
            refine lv_aload_n hx hb dX6_goOn_155 rfl (lv_at hl 1 rfl) ?_
            obtain ⟨v13, s14, hq, hf⟩ := zw2_o hf
            refine zc_i hW (zrun_v (As := []) (rest := []) hC hW (mX6_close s0 hC.2.2.2.2.2.2.2 hq) cv_X6_53 zck_0_44 zcs_0_44 rfl ⟨⟨rfl, rfl⟩, Nat.le_of_ble_eq_true rfl, Nat.le_of_ble_eq_true rfl⟩ (zlv_size hl) rfl (Nat.le_of_ble_eq_true rfl) dX6_goOn_156 ⟨Nat.le_refl _, Nat.le_refl _⟩) (fun H locs hW => ?_)
            refine zi_if_eq (tgt := 166) hx hb dX6_goOn_159 (by decide) hf (fun hc hf => ?_) (fun hc hf => ?_)
            · skip
              refine lv_iconst (v := 0) hx hb dX6_goOn_166 (by decide) ?_
              exact zr_z hx hb hr hlk hW (by decide) (zo1 hf) (zo2 hf) dX6_goOn_167
            · skip
              refine lv_iconst (v := 1) hx hb dX6_goOn_162 (by decide) ?_
              refine lv_goto (tgt := 167) hx hb dX6_goOn_163 (by decide) ?_
              exact zr_z hx hb hr hlk hW (by decide) (zo1 hf) (zo2 hf) dX6_goOn_167
          · skip
            refine lv_iconst (v := 0) hx hb dX6_goOn_166 (by decide) ?_
            exact zr_z hx hb hr hlk hW (by decide) (zo1 hf) (zo2 hf) dX6_goOn_167
    · skip
      refine lv_iconst (v := 0) hx hb dX6_goOn_16 (by decide) ?_
      exact zr_z hx hb hr hlk hW (by decide) (zo1 hf) (zo2 hf) dX6_goOn_17
set_option maxHeartbeats 4000000 in
set_option maxRecDepth 100000 in
theorem mX6_isRowJustOpened {l : Launch} {D : va_G} {cI cJ : ClassId} {adr : Nat → Nat} (s0 : zkS) {z : Nat} {ro : Int32} (hI : zInj 0 adr) (hf : fX6_isRowJustOpened s0 = some ro) : Met l yX6_isRowJustOpened (Cond.code yX6_isRowJustOpened cX6_isRowJustOpened 1 (some .boolean) :: zTb) { frames := 0, cells := 0, slots := 0, locals := 0 } (zPre 0 D cI cJ adr s0 z [.ref (adr 44)]) (zQi 0 D cI cJ adr z ro s0) 0 0 (zA 0 adr z) := by
  refine zen (cc := cX6_isRowJustOpened) (own := RX6) (by decide +kernel) rfl hI (Nat.le_of_ble_eq_true rfl) (fun p e s m args below meth c ls hC hr hlk hz hl hW => ?_)
  subst hz
  obtain ⟨hx, hb, -⟩ := id hC
  have hl : lv_has ls 1 [(0, .ref (adr 44))] := hl
  refine zst hW (fun H locs hW => ?_)
  unfold fX6_isRowJustOpened at hf
  refine lv_aload_n hx hb dX6_isRowJustOpened_0 rfl (lv_at hl 0 rfl) ?_
  refine zg_i hC hW fl_X6_34 zck_0_44 zcs_0_44 dX6_isRowJustOpened_1 ?_
  refine zi_if_le (tgt := 49) hx hb dX6_isRowJustOpened_4 (by decide) hf (fun hc hf => ?_) (fun hc hf => ?_)
  · skip
    refine lv_iconst (v := 0) hx hb dX6_isRowJustOpened_49 (by decide) ?_
    exact zr_z hx hb hr hlk hW (by decide) (Option.some.inj hf) rfl dX6_isRowJustOpened_50
  · skip
    refine lv_aload_n hx hb dX6_isRowJustOpened_7 rfl (lv_at hl 0 rfl) ?_
    refine zg_i hC hW fl_X6_34 zck_0_44 zcs_0_44 dX6_isRowJustOpened_8 ?_
    refine lv_bipush (v := 6) hx hb dX6_isRowJustOpened_11 (by decide) ?_
    refine zi_icmp_gt (tgt := 49) hx hb dX6_isRowJustOpened_13 (by decide) hf (fun hc hf => ?_) (fun hc hf => ?_)
    · skip
      refine lv_iconst (v := 0) hx hb dX6_isRowJustOpened_49 (by decide) ?_
      exact zr_z hx hb hr hlk hW (by decide) (Option.some.inj hf) rfl dX6_isRowJustOpened_50
    · skip
      refine lv_aload_n hx hb dX6_isRowJustOpened_16 rfl (lv_at hl 0 rfl) ?_
      refine zg_a (o := 2) hC hW fl_X6_28 zck_0_44 zcs_0_44 (show _ = 47 from rfl) dX6_isRowJustOpened_17 ?_
      refine lv_aload_n hx hb dX6_isRowJustOpened_20 rfl (lv_at hl 0 rfl) ?_
      refine zg_i hC hW fl_X6_34 zck_0_44 zcs_0_44 dX6_isRowJustOpened_21 ?_
      refine lv_iconst (v := 1) hx hb dX6_isRowJustOpened_24 (by decide) ?_
      refine lv_isub hx hb dX6_isRowJustOpened_25 ?_
      refine za_l hC hW hf zar_0_47 dX6_isRowJustOpened_26 (fun v1 hf => ?_)
      refine lv_iconst (v := 2) hx hb dX6_isRowJustOpened_27 (by decide) ?_
      refine zi_icmp_ne (tgt := 49) hx hb dX6_isRowJustOpened_28 (by decide) hf (fun hc hf => ?_) (fun hc hf => ?_)
      · skip
        refine lv_aload_n hx hb dX6_isRowJustOpened_31 rfl (lv_at hl 0 rfl) ?_
        refine zg_a (o := 3) hC hW fl_X6_31 zck_0_44 zcs_0_44 (show _ = 48 from rfl) dX6_isRowJustOpened_32 ?_
        refine lv_aload_n hx hb dX6_isRowJustOpened_35 rfl (lv_at hl 0 rfl) ?_
        refine zg_i hC hW fl_X6_34 zck_0_44 zcs_0_44 dX6_isRowJustOpened_36 ?_
        refine lv_iconst (v := 1) hx hb dX6_isRowJustOpened_39 (by decide) ?_
        refine lv_isub hx hb dX6_isRowJustOpened_40 ?_
        refine za_l hC hW hf zar_0_48 dX6_isRowJustOpened_41 (fun v2 hf => ?_)
        refine zi_if_ne (tgt := 49) hx hb dX6_isRowJustOpened_42 (by decide) hf (fun hc hf => ?_) (fun hc hf => ?_)
        · skip
          refine lv_iconst (v := 1) hx hb dX6_isRowJustOpened_45 (by decide) ?_
          refine lv_goto (tgt := 50) hx hb dX6_isRowJustOpened_46 (by decide) ?_
          exact zr_z hx hb hr hlk hW (by decide) (Option.some.inj hf) rfl dX6_isRowJustOpened_50
        · skip
          refine lv_iconst (v := 0) hx hb dX6_isRowJustOpened_49 (by decide) ?_
          exact zr_z hx hb hr hlk hW (by decide) (Option.some.inj hf) rfl dX6_isRowJustOpened_50
      · skip
        refine lv_iconst (v := 0) hx hb dX6_isRowJustOpened_49 (by decide) ?_
        exact zr_z hx hb hr hlk hW (by decide) (Option.some.inj hf) rfl dX6_isRowJustOpened_50
set_option maxHeartbeats 4000000 in
set_option maxRecDepth 100000 in
theorem mX6_put {l : Launch} {D : va_G} {cI cJ : ClassId} {adr : Nat → Nat} {o2 : Nat} (k2 : zG o2) (p1 : Int32) (s0 : zkS) {z : Nat} {ro : Int32} {so : zkS} (hI : zInj 0 adr) (hf : fX6_put o2 p1 s0 = some (ro, so)) : Met l yX6_put (Cond.code yX6_put cX6_put 4 (some .boolean) :: zTb) { frames := 2, cells := 0, slots := 0, locals := 46 } (zPre 0 D cI cJ adr s0 z [.ref (adr 44), .int p1, .ref (adr o2)]) (zQi 0 D cI cJ adr z ro so) 0 0 (zA 0 adr z) := by
  refine zen (cc := cX6_put) (own := RX6) (by decide +kernel) rfl hI (Nat.le_of_ble_eq_true rfl) (fun p e s m args below meth c ls hC hr hlk hz hl hW => ?_)
  subst hz
  obtain ⟨hx, hb, -⟩ := id hC
  have hl : lv_has ls 4 [(0, .ref (adr 44)), (1, .int p1), (2, .ref (adr o2))] := hl
  refine zst hW (fun H locs hW => ?_)
  unfold fX6_put at hf
  refine lv_aload_n hx hb dX6_put_0 rfl (lv_at hl 0 rfl) ?_
  refine zg_i hC hW fl_X6_34 zck_0_44 zcs_0_44 dX6_put_1 ?_
  refine zi_if_le (tgt := 16) hx hb dX6_put_4 (by decide) hf (fun hc hf => ?_) (fun hc hf => ?_)
  · skip
    refine lv_aload_n hx hb dX6_put_16 rfl (lv_at hl 0 rfl) ?_
    refine lv_iload_n hx hb dX6_put_17 rfl (lv_at hl 1 rfl) ?_
    refine zp_i hC hW hf fp_X6_18 zck_0_44 zcs_0_44 dX6_put_18 (fun s1 H locs hf hW => ?_)
    refine lv_iconst (v := 1) hx hb dX6_put_21 (by decide) ?_
    exact zr_z hx hb hr hlk hW (by decide) (zo1 hf) (zo2 hf) dX6_put_22
  · skip
    refine lv_aload_n hx hb dX6_put_7 rfl (lv_at hl 0 rfl) ?_
    refine zg_i hC hW fl_X6_34 zck_0_44 zcs_0_44 dX6_put_8 ?_
    refine lv_bipush (v := 6) hx hb dX6_put_11 (by decide) ?_
    refine zi_icmp_le (tgt := 23) hx hb dX6_put_13 (by decide) hf (fun hc hf => ?_) (fun hc hf => ?_)
    · skip
      refine lv_aload_n hx hb dX6_put_23 rfl (lv_at hl 0 rfl) ?_
      refine zg_i hC hW fl_X6_34 zck_0_44 zcs_0_44 dX6_put_24 ?_
      refine lv_iconst (v := 1) hx hb dX6_put_27 (by decide) ?_
      refine lv_isub hx hb dX6_put_28 ?_
      refine zn_i hf (fun v2 hf => ?_)
      refine lv_istore_n (lv' := [(3, .int v2), (0, .ref (adr 44)), (1, .int p1), (2, .ref (adr o2))]) hx hb dX6_put_29 rfl hl (by decide) rfl (fun ls hl => ?_)
      refine lv_aload_n hx hb dX6_put_30 rfl (lv_at hl 1 rfl) ?_
      refine zg_a (o := 2) hC hW fl_X6_28 zck_0_44 zcs_0_44 (show _ = 47 from rfl) dX6_put_31 ?_
      refine lv_iload_n hx hb dX6_put_34 rfl (lv_at hl 0 rfl) ?_
      refine za_l hC hW hf zar_0_47 dX6_put_35 (fun v3 hf => ?_)
      refine lv_iconst (v := 2) hx hb dX6_put_36 (by decide) ?_
      refine zjn_e hf (fun J4 => ∀ (s5 : zkS) (H : Heap) (locs : List Loc) (ls : Array Slot), J4 s5 = some (ro, so) → zWo 0 D cI cJ adr s s5 H locs → lv_has ls 4 [(0, .ref (adr 44)), (1, .int p1), (2, .ref (adr o2)), (3, .int v2)] → W p l e { frames := 2, cells := 0, slots := 0, locals := 46 } s m args below meth c H locs 0 0 (MQ below (zQi 0 D cI cJ adr s.heap.size ro so) args s 0 0 (zA 0 adr s.heap.size)) (F0 m 50 ls [])) ?_ (fun J4 hJ4 hf => ?_)
      · intro s5 H locs ls hf hW hl
        refine lv_aload_n hx hb dX6_put_50 rfl (lv_at hl 2 rfl) ?_
        refine lv_aload_n hx hb dX6_put_51 rfl (lv_at hl 0 rfl) ?_
        refine zg_a (o := 1) hC hW fl_X6_25 zck_0_44 zcs_0_44 (show _ = 46 from rfl) dX6_put_52 ?_
        refine lv_iload_n hx hb dX6_put_55 rfl (lv_at hl 3 rfl) ?_
        refine za_l hC hW hf zar_0_46 dX6_put_56 (fun v6 hf => ?_)
        refine lv_aload_n hx hb dX6_put_57 rfl (lv_at hl 0 rfl) ?_
        refine zg_a (o := 3) hC hW fl_X6_31 zck_0_44 zcs_0_44 (show _ = 48 from rfl) dX6_put_58 ?_
        refine lv_iload_n hx hb dX6_put_61 rfl (lv_at hl 3 rfl) ?_
        refine za_l hC hW hf zar_0_48 dX6_put_62 (fun v7 hf => ?_)
        refine lv_iload_n hx hb dX6_put_63 rfl (lv_at hl 1 rfl) ?_
        obtain ⟨s8, hq, hf⟩ := zb1_o hf
        refine zc_v hW (zrun_v (As := [.int v6, .int v7, .int p1]) (rest := []) hC hW (mX0_putInto k2 v6 v7 p1 s5 hC.2.2.2.2.2.2.2 hq) cv_X6_81 (zG_k k2) (zG_s k2) rfl ⟨⟨rfl, rfl⟩, Nat.le_of_ble_eq_true rfl, Nat.le_of_ble_eq_true rfl⟩ (zlv_size hl) rfl (Nat.le_of_ble_eq_true rfl) dX6_put_64 ⟨Nat.le_refl _, Nat.le_refl _⟩) (fun H locs hW => ?_)
        refine lv_aload_n hx hb dX6_put_67 rfl (lv_at hl 0 rfl) ?_
        refine zg_a (o := 3) hC hW fl_X6_31 zck_0_44 zcs_0_44 (show _ = 48 from rfl) dX6_put_68 ?_
        refine lv_iload_n hx hb dX6_put_71 rfl (lv_at hl 3 rfl) ?_
        refine lv_dup2_11 hx hb dX6_put_72 rfl rfl ?_
        refine za_l hC hW hf zar_0_48 dX6_put_73 (fun v9 hf => ?_)
        refine lv_iconst (v := 1) hx hb dX6_put_74 (by decide) ?_
        refine lv_iadd hx hb dX6_put_75 ?_
        refine za_s hC hW hf zar_0_48 dX6_put_76 (fun s10 H locs hf hW => ?_)
        refine lv_iconst (v := 1) hx hb dX6_put_77 (by decide) ?_
        exact zr_z hx hb hr hlk hW (by decide) (zo1 hf) (zo2 hf) dX6_put_78
      refine zi_icmp_ne (tgt := 50) hx hb dX6_put_37 (by decide) hf (fun hc hf => ?_) (fun hc hf => ?_)
      · skip
        refine lv_aload_n hx hb dX6_put_40 rfl (lv_at hl 3 rfl) ?_
        refine lv_aload_n hx hb dX6_put_41 rfl (lv_at hl 1 rfl) ?_
        refine zg_a (o := 1) hC hW fl_X6_25 zck_0_44 zcs_0_44 (show _ = 46 from rfl) dX6_put_42 ?_
        refine lv_iload_n hx hb dX6_put_45 rfl (lv_at hl 0 rfl) ?_
        refine za_l hC hW hf zar_0_46 dX6_put_46 (fun v11 hf => ?_)
        obtain ⟨s12, hq, hf⟩ := zb1_o hf
        refine zc_v hW (zrun_v (As := [.int v11]) (rest := []) hC hW (mX0_widen k2 v11 s0 hC.2.2.2.2.2.2.2 hq) cv_X6_77 (zG_k k2) (zG_s k2) rfl ⟨⟨rfl, rfl⟩, Nat.le_of_ble_eq_true rfl, Nat.le_of_ble_eq_true rfl⟩ (zlv_size hl) rfl (Nat.le_of_ble_eq_true rfl) dX6_put_47 ⟨Nat.le_refl _, Nat.le_refl _⟩) (fun H locs hW => ?_)
        exact hJ4 s12 H locs ls hf hW (lv_sub hl [1, 2, 3, 0] rfl)
      · skip
        exact hJ4 s0 H locs ls hf hW (lv_sub hl [1, 2, 3, 0] rfl)
    · skip
      refine lv_aload_n hx hb dX6_put_16 rfl (lv_at hl 0 rfl) ?_
      refine lv_iload_n hx hb dX6_put_17 rfl (lv_at hl 1 rfl) ?_
      refine zp_i hC hW hf fp_X6_18 zck_0_44 zcs_0_44 dX6_put_18 (fun s13 H locs hf hW => ?_)
      refine lv_iconst (v := 1) hx hb dX6_put_21 (by decide) ?_
      exact zr_z hx hb hr hlk hW (by decide) (zo1 hf) (zo2 hf) dX6_put_22
set_option maxHeartbeats 4000000 in
set_option maxRecDepth 100000 in
theorem mX6_open {l : Launch} {D : va_G} {cI cJ : ClassId} {adr : Nat → Nat} {o2 : Nat} (k2 : zG o2) (p1 : Int32) (s0 : zkS) {z : Nat} {ro : Int32} {so : zkS} (hI : zInj 0 adr) (hf : fX6_open o2 p1 s0 = some (ro, so)) : Met l yX6_open (Cond.code yX6_open cX6_open 5 (some .boolean) :: zTb) { frames := 3, cells := 0, slots := 0, locals := 69 } (zPre 0 D cI cJ adr s0 z [.ref (adr 44), .int p1, .ref (adr o2)]) (zQi 0 D cI cJ adr z ro so) 0 0 (zA 0 adr z) := by
  refine zen (cc := cX6_open) (own := RX6) (by decide +kernel) rfl hI (Nat.le_of_ble_eq_true rfl) (fun p e s m args below meth c ls hC hr hlk hz hl hW => ?_)
  subst hz
  obtain ⟨hx, hb, -⟩ := id hC
  have hl : lv_has ls 5 [(0, .ref (adr 44)), (1, .int p1), (2, .ref (adr o2))] := hl
  refine zst hW (fun H locs hW => ?_)
  unfold fX6_open at hf
  refine lv_aload_n hx hb dX6_open_0 rfl (lv_at hl 0 rfl) ?_
  refine zg_i hC hW fl_X6_34 zck_0_44 zcs_0_44 dX6_open_1 ?_
  refine zi_if_lt (tgt := 16) hx hb dX6_open_4 (by decide) hf (fun hc hf => ?_) (fun hc hf => ?_)
  · skip
    refine lv_iconst (v := 0) hx hb dX6_open_16 (by decide) ?_
    exact zr_z hx hb hr hlk hW (by decide) (zo1 hf) (zo2 hf) dX6_open_17
  · skip
    refine lv_aload_n hx hb dX6_open_7 rfl (lv_at hl 0 rfl) ?_
    refine zg_i hC hW fl_X6_34 zck_0_44 zcs_0_44 dX6_open_8 ?_
    refine lv_bipush (v := 6) hx hb dX6_open_11 (by decide) ?_
    refine zi_icmp_lt (tgt := 18) hx hb dX6_open_13 (by decide) hf (fun hc hf => ?_) (fun hc hf => ?_)
    · skip
      refine lv_iload_n hx hb dX6_open_18 rfl (lv_at hl 1 rfl) ?_
      refine lv_bipush (v := 40) hx hb dX6_open_19 (by decide) ?_
      refine zjn_e hf (fun J1 => ∀ (v2 : Int32) (H : Heap) (locs : List Loc) (ls : Array Slot), J1 v2 = some (ro, so) → zWo 0 D cI cJ adr s s0 H locs → lv_has ls 5 [(0, .ref (adr 44)), (2, .ref (adr o2))] → W p l e { frames := 3, cells := 0, slots := 0, locals := 69 } s m args below meth c H locs 0 0 (MQ below (zQi 0 D cI cJ adr s.heap.size ro so) args s 0 0 (zA 0 adr s.heap.size)) (F0 m 39 ls [.int v2])) ?_ (fun J1 hJ1 hf => ?_)
      · intro v2 H locs ls hf hW hl
        refine lv_istore_n (lv' := [(3, .int v2), (0, .ref (adr 44)), (2, .ref (adr o2))]) hx hb dX6_open_39 rfl hl (by decide) rfl (fun ls hl => ?_)
        refine lv_aload_n hx hb dX6_open_40 rfl (lv_at hl 2 rfl) ?_
        refine lv_iload_n hx hb dX6_open_41 rfl (lv_at hl 0 rfl) ?_
        refine lv_iconst (v := 0) hx hb dX6_open_42 (by decide) ?_
        refine lv_iload_n hx hb dX6_open_43 rfl (lv_at hl 0 rfl) ?_
        refine lv_iconst (v := 0) hx hb dX6_open_44 (by decide) ?_
        refine zc_i hW (zrun_n (As := [.int v2, .int 0]) (rest := [.int 0, .int v2, .ref (adr o2)]) hC hW (mX7_fieldsOf v2 0 s0 hC.2.2.2.2.2.2.2 rfl) cn_X6_73 rfl ⟨⟨rfl, rfl⟩, Nat.le_of_ble_eq_true rfl, Nat.le_of_ble_eq_true rfl⟩ (zlv_size hl) rfl (Nat.le_of_ble_eq_true rfl) dX6_open_45 ⟨Nat.le_refl _, Nat.le_refl _⟩) (fun H locs hW => ?_)
        obtain ⟨v4, s5, hq, hf⟩ := zb2_o hf
        refine zc_i hW (zrun_v (As := [.int v2, .int 0, .int (fX7_fieldsOf v2 0)]) (rest := []) hC hW (mX0_add k2 v2 0 (fX7_fieldsOf v2 0) s0 hC.2.2.2.2.2.2.2 hq) cv_X6_63 (zG_k k2) (zG_s k2) rfl ⟨⟨rfl, rfl⟩, Nat.le_of_ble_eq_true rfl, Nat.le_of_ble_eq_true rfl⟩ (zlv_size hl) rfl (Nat.le_of_ble_eq_true rfl) dX6_open_48 ⟨Nat.le_refl _, Nat.le_refl _⟩) (fun H locs hW => ?_)
        refine lv_istore (lv' := [(4, .int v4), (3, .int v2), (0, .ref (adr 44)), (2, .ref (adr o2))]) hx hb dX6_open_51 hl (by decide) rfl (fun ls hl => ?_)
        refine lv_aload_n hx hb dX6_open_53 rfl (lv_at hl 2 rfl) ?_
        refine lv_dup hx hb dX6_open_54 rfl ?_
        refine zg_i hC hW fl_X6_15 zck_0_44 zcs_0_44 dX6_open_55 ?_
        refine lv_iconst (v := 1) hx hb dX6_open_58 (by decide) ?_
        refine lv_iadd hx hb dX6_open_59 ?_
        refine zp_i hC hW hf fp_X6_15 zck_0_44 zcs_0_44 dX6_open_60 (fun s6 H locs hf hW => ?_)
        refine lv_aload_n hx hb dX6_open_63 rfl (lv_at hl 2 rfl) ?_
        refine lv_iload hx hb dX6_open_64 (lv_at hl 0 rfl) ?_
        refine lv_aload_n hx hb dX6_open_66 rfl (lv_at hl 3 rfl) ?_
        obtain ⟨v7, s8, hq, hf⟩ := zb2_o hf
        refine zc_i hW (zrun_v (As := [.int v4, .ref (adr o2)]) (rest := []) hC hW (mX6_put k2 v4 s6 hC.2.2.2.2.2.2.2 hq) cv_X6_60 zck_0_44 zcs_0_44 rfl ⟨⟨rfl, rfl⟩, Nat.le_of_ble_eq_true rfl, Nat.le_of_ble_eq_true rfl⟩ (zlv_size hl) rfl (Nat.le_of_ble_eq_true rfl) dX6_open_67 ⟨Nat.le_refl _, Nat.le_refl _⟩) (fun H locs hW => ?_)
        refine lv_pop hx hb dX6_open_70 rfl ?_
        refine lv_aload_n hx hb dX6_open_71 rfl (lv_at hl 2 rfl) ?_
        refine zg_a (o := 1) hC hW fl_X6_25 zck_0_44 zcs_0_44 (show _ = 46 from rfl) dX6_open_72 ?_
        refine lv_aload_n hx hb dX6_open_75 rfl (lv_at hl 2 rfl) ?_
        refine zg_i hC hW fl_X6_34 zck_0_44 zcs_0_44 dX6_open_76 ?_
        refine lv_iload hx hb dX6_open_79 (lv_at hl 0 rfl) ?_
        refine za_s hC hW hf zar_0_46 dX6_open_81 (fun s9 H locs hf hW => ?_)
        refine lv_aload_n hx hb dX6_open_82 rfl (lv_at hl 2 rfl) ?_
        refine zg_a (o := 2) hC hW fl_X6_28 zck_0_44 zcs_0_44 (show _ = 47 from rfl) dX6_open_83 ?_
        refine lv_aload_n hx hb dX6_open_86 rfl (lv_at hl 2 rfl) ?_
        refine zg_i hC hW fl_X6_34 zck_0_44 zcs_0_44 dX6_open_87 ?_
        refine lv_iload_n hx hb dX6_open_90 rfl (lv_at hl 1 rfl) ?_
        refine za_s hC hW hf zar_0_47 dX6_open_91 (fun s10 H locs hf hW => ?_)
        refine lv_aload_n hx hb dX6_open_92 rfl (lv_at hl 2 rfl) ?_
        refine zg_a (o := 3) hC hW fl_X6_31 zck_0_44 zcs_0_44 (show _ = 48 from rfl) dX6_open_93 ?_
        refine lv_aload_n hx hb dX6_open_96 rfl (lv_at hl 2 rfl) ?_
        refine zg_i hC hW fl_X6_34 zck_0_44 zcs_0_44 dX6_open_97 ?_
        refine lv_iconst (v := 0) hx hb dX6_open_100 (by decide) ?_
        refine za_s hC hW hf zar_0_48 dX6_open_101 (fun s11 H locs hf hW => ?_)
        refine lv_aload_n hx hb dX6_open_102 rfl (lv_at hl 2 rfl) ?_
        refine lv_dup hx hb dX6_open_103 rfl ?_
        refine zg_i hC hW fl_X6_34 zck_0_44 zcs_0_44 dX6_open_104 ?_
        refine lv_iconst (v := 1) hx hb dX6_open_107 (by decide) ?_
        refine lv_iadd hx hb dX6_open_108 ?_
        refine zp_i hC hW hf fp_X6_34 zck_0_44 zcs_0_44 dX6_open_109 (fun s12 H locs hf hW => ?_)
        refine lv_iconst (v := 1) hx hb dX6_open_112 (by decide) ?_
        exact zr_z hx hb hr hlk hW (by decide) (zo1 hf) (zo2 hf) dX6_open_113
      refine zi_icmp_ne (tgt := 28) hx hb dX6_open_21 (by decide) hf (fun hc hf => ?_) (fun hc hf => ?_)
      · skip
        refine lv_iconst (v := 1) hx hb dX6_open_24 (by decide) ?_
        refine lv_goto (tgt := 39) hx hb dX6_open_25 (by decide) ?_
        exact hJ1 1 H locs ls hf hW (lv_sub hl [0, 2] rfl)
      · skip
        refine lv_iload_n hx hb dX6_open_28 rfl (lv_at hl 1 rfl) ?_
        refine lv_bipush (v := 91) hx hb dX6_open_29 (by decide) ?_
        refine zi_icmp_ne (tgt := 38) hx hb dX6_open_31 (by decide) hf (fun hc hf => ?_) (fun hc hf => ?_)
        · skip
          refine lv_iconst (v := 2) hx hb dX6_open_34 (by decide) ?_
          refine lv_goto (tgt := 39) hx hb dX6_open_35 (by decide) ?_
          exact hJ1 2 H locs ls hf hW (lv_sub hl [0, 2] rfl)
        · skip
          refine lv_iconst (v := 3) hx hb dX6_open_38 (by decide) ?_
          exact hJ1 3 H locs ls hf hW (lv_sub hl [0, 2] rfl)
    · skip
      refine lv_iconst (v := 0) hx hb dX6_open_16 (by decide) ?_
      exact zr_z hx hb hr hlk hW (by decide) (zo1 hf) (zo2 hf) dX6_open_17
set_option maxHeartbeats 4000000 in
set_option maxRecDepth 100000 in
theorem mX6_take {l : Launch} {D : va_G} {cI cJ : ClassId} {adr : Nat → Nat} {o2 : Nat} (k2 : zG o2) (p1 : Int32) (p3 : Int32) (s0 : zkS) {z : Nat} {ro : Int32} {so : zkS} (hI : zInj 0 adr) (hf : fX6_take o2 p1 p3 s0 = some (ro, so)) : Met l yX6_take (Cond.code yX6_take cX6_take 5 (some .boolean) :: zTb) { frames := 4, cells := 0, slots := 0, locals := 93 } (zPre 0 D cI cJ adr s0 z [.ref (adr 44), .int p1, .ref (adr o2), .int p3]) (zQi 0 D cI cJ adr z ro so) 0 0 (zA 0 adr z) := by
  refine zen (cc := cX6_take) (own := RX6) (by decide +kernel) rfl hI (Nat.le_of_ble_eq_true rfl) (fun p e s m args below meth c ls hC hr hlk hz hl hW => ?_)
  subst hz
  obtain ⟨hx, hb, -⟩ := id hC
  have hl : lv_has ls 5 [(0, .ref (adr 44)), (1, .int p1), (2, .ref (adr o2)), (3, .int p3)] := hl
  refine zst hW (fun H locs hW => ?_)
  unfold fX6_take at hf
  refine lv_aload_n hx hb dX6_take_0 rfl (lv_at hl 0 rfl) ?_
  refine zg_i hC hW fl_X6_37 zck_0_44 zcs_0_44 dX6_take_1 ?_
  refine zi_if_ne (tgt := 13) hx hb dX6_take_4 (by decide) hf (fun hc hf => ?_) (fun hc hf => ?_)
  · skip
    refine lv_aload_n hx hb dX6_take_7 rfl (lv_at hl 0 rfl) ?_
    refine lv_iload_n hx hb dX6_take_8 rfl (lv_at hl 1 rfl) ?_
    obtain ⟨v1, s2, hq, hf⟩ := zb2_o hf
    refine zc_i hW (zrun_v (As := [.int p1]) (rest := []) hC hW (mX6_goOn p1 s0 hC.2.2.2.2.2.2.2 hq) cv_X6_45 zck_0_44 zcs_0_44 rfl ⟨⟨rfl, rfl⟩, Nat.le_of_ble_eq_true rfl, Nat.le_of_ble_eq_true rfl⟩ (zlv_size hl) rfl (Nat.le_of_ble_eq_true rfl) dX6_take_9 ⟨Nat.le_refl _, Nat.le_refl _⟩) (fun H locs hW => ?_)
    obtain ⟨h01, hf⟩ := zck_o hf
    exact zr_z hx hb hr hlk hW h01 (zo1 hf) (zo2 hf) dX6_take_12
  · skip
    refine lv_iload_n hx hb dX6_take_13 rfl (lv_at hl 1 rfl) ?_
    refine lv_bipush (v := 93) hx hb dX6_take_14 (by decide) ?_
    refine zjn_e hf (fun J3 => ∀ (u4 : Unit) (H : Heap) (locs : List Loc) (ls : Array Slot), J3 u4 = some (ro, so) → zWo 0 D cI cJ adr s s0 H locs → lv_has ls 5 [(0, .ref (adr 44)), (1, .int p1), (2, .ref (adr o2)), (3, .int p3)] → W p l e { frames := 4, cells := 0, slots := 0, locals := 93 } s m args below meth c H locs 0 0 (MQ below (zQi 0 D cI cJ adr s.heap.size ro so) args s 0 0 (zA 0 adr s.heap.size)) (F0 m 31 ls [])) ?_ (fun J3 hJ3 hf => ?_)
    · intro u4 H locs ls hf hW hl
      refine lv_iload_n hx hb dX6_take_31 rfl (lv_at hl 1 rfl) ?_
      refine lv_bipush (v := 40) hx hb dX6_take_32 (by decide) ?_
      refine zi_icmp_eq (tgt := 49) hx hb dX6_take_34 (by decide) hf (fun hc hf => ?_) (fun hc hf => ?_)
      · skip
        refine lv_aload_n hx hb dX6_take_49 rfl (lv_at hl 0 rfl) ?_
        refine lv_iload_n hx hb dX6_take_50 rfl (lv_at hl 1 rfl) ?_
        refine lv_aload_n hx hb dX6_take_51 rfl (lv_at hl 2 rfl) ?_
        obtain ⟨v5, s6, hq, hf⟩ := zb2_o hf
        refine zc_i hW (zrun_v (As := [.int p1, .ref (adr o2)]) (rest := []) hC hW (mX6_open k2 p1 s0 hC.2.2.2.2.2.2.2 hq) cv_X6_56 zck_0_44 zcs_0_44 rfl ⟨⟨rfl, rfl⟩, Nat.le_of_ble_eq_true rfl, Nat.le_of_ble_eq_true rfl⟩ (zlv_size hl) rfl (Nat.le_of_ble_eq_true rfl) dX6_take_52 ⟨Nat.le_refl _, Nat.le_refl _⟩) (fun H locs hW => ?_)
        obtain ⟨h01, hf⟩ := zck_o hf
        exact zr_z hx hb hr hlk hW h01 (zo1 hf) (zo2 hf) dX6_take_55
      · skip
        refine lv_iload_n hx hb dX6_take_37 rfl (lv_at hl 1 rfl) ?_
        refine lv_bipush (v := 91) hx hb dX6_take_38 (by decide) ?_
        refine zi_icmp_eq (tgt := 49) hx hb dX6_take_40 (by decide) hf (fun hc hf => ?_) (fun hc hf => ?_)
        · skip
          refine lv_aload_n hx hb dX6_take_49 rfl (lv_at hl 0 rfl) ?_
          refine lv_iload_n hx hb dX6_take_50 rfl (lv_at hl 1 rfl) ?_
          refine lv_aload_n hx hb dX6_take_51 rfl (lv_at hl 2 rfl) ?_
          obtain ⟨v7, s8, hq, hf⟩ := zb2_o hf
          refine zc_i hW (zrun_v (As := [.int p1, .ref (adr o2)]) (rest := []) hC hW (mX6_open k2 p1 s0 hC.2.2.2.2.2.2.2 hq) cv_X6_56 zck_0_44 zcs_0_44 rfl ⟨⟨rfl, rfl⟩, Nat.le_of_ble_eq_true rfl, Nat.le_of_ble_eq_true rfl⟩ (zlv_size hl) rfl (Nat.le_of_ble_eq_true rfl) dX6_take_52 ⟨Nat.le_refl _, Nat.le_refl _⟩) (fun H locs hW => ?_)
          obtain ⟨h01, hf⟩ := zck_o hf
          exact zr_z hx hb hr hlk hW h01 (zo1 hf) (zo2 hf) dX6_take_55
        · skip
          refine lv_iload_n hx hb dX6_take_43 rfl (lv_at hl 1 rfl) ?_
          refine lv_bipush (v := 60) hx hb dX6_take_44 (by decide) ?_
          refine zi_icmp_ne (tgt := 56) hx hb dX6_take_46 (by decide) hf (fun hc hf => ?_) (fun hc hf => ?_)
          · skip
            refine lv_aload_n hx hb dX6_take_49 rfl (lv_at hl 0 rfl) ?_
            refine lv_iload_n hx hb dX6_take_50 rfl (lv_at hl 1 rfl) ?_
            refine lv_aload_n hx hb dX6_take_51 rfl (lv_at hl 2 rfl) ?_
            obtain ⟨v9, s10, hq, hf⟩ := zb2_o hf
            refine zc_i hW (zrun_v (As := [.int p1, .ref (adr o2)]) (rest := []) hC hW (mX6_open k2 p1 s0 hC.2.2.2.2.2.2.2 hq) cv_X6_56 zck_0_44 zcs_0_44 rfl ⟨⟨rfl, rfl⟩, Nat.le_of_ble_eq_true rfl, Nat.le_of_ble_eq_true rfl⟩ (zlv_size hl) rfl (Nat.le_of_ble_eq_true rfl) dX6_take_52 ⟨Nat.le_refl _, Nat.le_refl _⟩) (fun H locs hW => ?_)
            obtain ⟨h01, hf⟩ := zck_o hf
            exact zr_z hx hb hr hlk hW h01 (zo1 hf) (zo2 hf) dX6_take_55
          · skip
            refine lv_aload_n hx hb dX6_take_56 rfl (lv_at hl 0 rfl) ?_
            refine lv_iconst (v := 0) hx hb dX6_take_57 (by decide) ?_
            refine zp_y hC hW hf (by decide) fp_X6_37 zck_0_44 zcs_0_44 dX6_take_58 (fun s11 H locs hf hW => ?_)
            refine lv_iload_n hx hb dX6_take_61 rfl (lv_at hl 1 rfl) ?_
            refine lv_bipush (v := 126) hx hb dX6_take_62 (by decide) ?_
            refine zi_icmp_ne (tgt := 75) hx hb dX6_take_64 (by decide) hf (fun hc hf => ?_) (fun hc hf => ?_)
            · skip
              refine lv_aload_n hx hb dX6_take_67 rfl (lv_at hl 0 rfl) ?_
              refine lv_bipush (v := (-5)) hx hb dX6_take_68 (by decide) ?_
              refine lv_aload_n hx hb dX6_take_70 rfl (lv_at hl 2 rfl) ?_
              obtain ⟨v12, s13, hq, hf⟩ := zb2_o hf
              refine zc_i hW (zrun_v (As := [.int (-5), .ref (adr o2)]) (rest := []) hC hW (mX6_put k2 (-5) s11 hC.2.2.2.2.2.2.2 hq) cv_X6_60 zck_0_44 zcs_0_44 rfl ⟨⟨rfl, rfl⟩, Nat.le_of_ble_eq_true rfl, Nat.le_of_ble_eq_true rfl⟩ (zlv_size hl) rfl (Nat.le_of_ble_eq_true rfl) dX6_take_71 ⟨Nat.le_refl _, Nat.le_refl _⟩) (fun H locs hW => ?_)
              obtain ⟨h01, hf⟩ := zck_o hf
              exact zr_z hx hb hr hlk hW h01 (zo1 hf) (zo2 hf) dX6_take_74
            · skip
              refine lv_iload_n hx hb dX6_take_75 rfl (lv_at hl 1 rfl) ?_
              refine lv_bipush (v := 48) hx hb dX6_take_76 (by decide) ?_
              refine zjn_e hf (fun J14 => ∀ (u15 : Unit) (H : Heap) (locs : List Loc) (ls : Array Slot), J14 u15 = some (ro, so) → zWo 0 D cI cJ adr s s11 H locs → lv_has ls 5 [(0, .ref (adr 44)), (1, .int p1), (2, .ref (adr o2)), (3, .int p3)] → W p l e { frames := 4, cells := 0, slots := 0, locals := 93 } s m args below meth c H locs 0 0 (MQ below (zQi 0 D cI cJ adr s.heap.size ro so) args s 0 0 (zA 0 adr s.heap.size)) (F0 m 113 ls [])) ?_ (fun J14 hJ14 hf => ?_)
              · intro u15 H locs ls hf hW hl
                refine lv_iload_n hx hb dX6_take_113 rfl (lv_at hl 1 rfl) ?_
                refine lv_bipush (v := 97) hx hb dX6_take_114 (by decide) ?_
                refine zjn_e hf (fun J16 => ∀ (u17 : Unit) (H : Heap) (locs : List Loc) (ls : Array Slot), J16 u17 = some (ro, so) → zWo 0 D cI cJ adr s s11 H locs → lv_has ls 5 [(0, .ref (adr 44)), (1, .int p1), (2, .ref (adr o2))] → W p l e { frames := 4, cells := 0, slots := 0, locals := 93 } s m args below meth c H locs 0 0 (MQ below (zQi 0 D cI cJ adr s.heap.size ro so) args s 0 0 (zA 0 adr s.heap.size)) (F0 m 154 ls [])) ?_ (fun J16 hJ16 hf => ?_)
                · intro u17 H locs ls hf hW hl
                  refine lv_aload_n hx hb dX6_take_154 rfl (lv_at hl 0 rfl) ?_
                  refine zg_i hC hW fl_X6_34 zck_0_44 zcs_0_44 dX6_take_155 ?_
                  refine lv_iconst (v := 1) hx hb dX6_take_158 (by decide) ?_
                  refine lv_isub hx hb dX6_take_159 ?_
                  refine lv_iload_n hx hb dX6_take_160 rfl (lv_at hl 1 rfl) ?_
                  refine lv_bipush (v := 65) hx hb dX6_take_161 (by decide) ?_
                  refine lv_isub hx hb dX6_take_163 ?_
                  refine lv_isub hx hb dX6_take_164 ?_
                  refine zn_i hf (fun v18 hf => ?_)
                  refine lv_istore (lv' := [(4, .int v18), (0, .ref (adr 44)), (1, .int p1), (2, .ref (adr o2))]) hx hb dX6_take_165 hl (by decide) rfl (fun ls hl => ?_)
                  refine lv_iload_n hx hb dX6_take_167 rfl (lv_at hl 2 rfl) ?_
                  refine lv_bipush (v := 65) hx hb dX6_take_168 (by decide) ?_
                  refine zi_icmp_lt (tgt := 210) hx hb dX6_take_170 (by decide) hf (fun hc hf => ?_) (fun hc hf => ?_)
                  · skip
                    refine lv_iconst (v := 0) hx hb dX6_take_210 (by decide) ?_
                    exact zr_z hx hb hr hlk hW (by decide) (zo1 hf) (zo2 hf) dX6_take_211
                  · skip
                    refine lv_iload_n hx hb dX6_take_173 rfl (lv_at hl 2 rfl) ?_
                    refine lv_bipush (v := 70) hx hb dX6_take_174 (by decide) ?_
                    refine zi_icmp_gt (tgt := 210) hx hb dX6_take_176 (by decide) hf (fun hc hf => ?_) (fun hc hf => ?_)
                    · skip
                      refine lv_iconst (v := 0) hx hb dX6_take_210 (by decide) ?_
                      exact zr_z hx hb hr hlk hW (by decide) (zo1 hf) (zo2 hf) dX6_take_211
                    · skip
                      refine lv_iload hx hb dX6_take_179 (lv_at hl 0 rfl) ?_
                      refine zi_if_lt (tgt := 210) hx hb dX6_take_181 (by decide) hf (fun hc hf => ?_) (fun hc hf => ?_)
                      · skip
                        refine lv_iconst (v := 0) hx hb dX6_take_210 (by decide) ?_
                        exact zr_z hx hb hr hlk hW (by decide) (zo1 hf) (zo2 hf) dX6_take_211
                      · skip
                        refine lv_iload hx hb dX6_take_184 (lv_at hl 0 rfl) ?_
                        refine lv_bipush (v := 6) hx hb dX6_take_186 (by decide) ?_
                        refine zi_icmp_ge (tgt := 210) hx hb dX6_take_188 (by decide) hf (fun hc hf => ?_) (fun hc hf => ?_)
                        · skip
                          refine lv_iconst (v := 0) hx hb dX6_take_210 (by decide) ?_
                          exact zr_z hx hb hr hlk hW (by decide) (zo1 hf) (zo2 hf) dX6_take_211
                        · skip
                          refine lv_aload_n hx hb dX6_take_191 rfl (lv_at hl 1 rfl) ?_
                          refine lv_aload_n hx hb dX6_take_192 rfl (lv_at hl 1 rfl) ?_
                          refine zg_a (o := 1) hC hW fl_X6_25 zck_0_44 zcs_0_44 (show _ = 46 from rfl) dX6_take_193 ?_
                          refine lv_iload hx hb dX6_take_196 (lv_at hl 0 rfl) ?_
                          refine za_l hC hW hf zar_0_46 dX6_take_198 (fun v19 hf => ?_)
                          refine lv_aload_n hx hb dX6_take_199 rfl (lv_at hl 3 rfl) ?_
                          obtain ⟨v20, s21, hq, hf⟩ := zb2_o hf
                          refine zc_i hW (zrun_v (As := [.int v19, .ref (adr o2)]) (rest := []) hC hW (mX6_put k2 v19 s11 hC.2.2.2.2.2.2.2 hq) cv_X6_60 zck_0_44 zcs_0_44 rfl ⟨⟨rfl, rfl⟩, Nat.le_of_ble_eq_true rfl, Nat.le_of_ble_eq_true rfl⟩ (zlv_size hl) rfl (Nat.le_of_ble_eq_true rfl) dX6_take_200 ⟨Nat.le_refl _, Nat.le_refl _⟩) (fun H locs hW => ?_)
                          refine zi_if_eq (tgt := 210) hx hb dX6_take_203 (by decide) hf (fun hc hf => ?_) (fun hc hf => ?_)
                          · skip
                            refine lv_iconst (v := 0) hx hb dX6_take_210 (by decide) ?_
                            exact zr_z hx hb hr hlk hW (by decide) (zo1 hf) (zo2 hf) dX6_take_211
                          · skip
                            refine lv_iconst (v := 1) hx hb dX6_take_206 (by decide) ?_
                            refine lv_goto (tgt := 211) hx hb dX6_take_207 (by decide) ?_
                            exact zr_z hx hb hr hlk hW (by decide) (zo1 hf) (zo2 hf) dX6_take_211
                refine zi_icmp_lt (tgt := 154) hx hb dX6_take_116 (by decide) hf (fun hc hf => ?_) (fun hc hf => ?_)
                · skip
                  exact hJ16 () H locs ls hf hW (lv_sub hl [0, 1, 2] rfl)
                · skip
                  refine lv_iload_n hx hb dX6_take_119 rfl (lv_at hl 1 rfl) ?_
                  refine lv_bipush (v := 120) hx hb dX6_take_120 (by decide) ?_
                  refine zi_icmp_gt (tgt := 154) hx hb dX6_take_122 (by decide) hf (fun hc hf => ?_) (fun hc hf => ?_)
                  · skip
                    exact hJ16 () H locs ls hf hW (lv_sub hl [0, 1, 2] rfl)
                  · skip
                    refine lv_iload_n hx hb dX6_take_125 rfl (lv_at hl 3 rfl) ?_
                    refine lv_iload_n hx hb dX6_take_126 rfl (lv_at hl 1 rfl) ?_
                    refine lv_bipush (v := 97) hx hb dX6_take_127 (by decide) ?_
                    refine lv_isub hx hb dX6_take_129 ?_
                    refine zc_i hW (zrun_n (As := [.int p3, .int (p1 - 97)]) (rest := []) hC hW (mX7_has p3 (p1 - 97) s11 hC.2.2.2.2.2.2.2 rfl) cn_X6_69 rfl ⟨⟨rfl, rfl⟩, Nat.le_of_ble_eq_true rfl, Nat.le_of_ble_eq_true rfl⟩ (zlv_size hl) rfl (Nat.le_of_ble_eq_true rfl) dX6_take_130 ⟨Nat.le_refl _, Nat.le_refl _⟩) (fun H locs hW => ?_)
                    refine zi_if_eq (tgt := 152) hx hb dX6_take_133 (by decide) hf (fun hc hf => ?_) (fun hc hf => ?_)
                    · skip
                      refine lv_iconst (v := 0) hx hb dX6_take_152 (by decide) ?_
                      exact zr_z hx hb hr hlk hW (by decide) (zo1 hf) (zo2 hf) dX6_take_153
                    · skip
                      refine lv_aload_n hx hb dX6_take_136 rfl (lv_at hl 0 rfl) ?_
                      refine lv_iload_n hx hb dX6_take_137 rfl (lv_at hl 1 rfl) ?_
                      refine lv_bipush (v := 97) hx hb dX6_take_138 (by decide) ?_
                      refine lv_isub hx hb dX6_take_140 ?_
                      refine lv_aload_n hx hb dX6_take_141 rfl (lv_at hl 2 rfl) ?_
                      obtain ⟨v23, s24, hq, hf⟩ := zb2_o hf
                      refine zc_i hW (zrun_v (As := [.int (p1 - 97), .ref (adr o2)]) (rest := []) hC hW (mX6_put k2 (p1 - 97) s11 hC.2.2.2.2.2.2.2 hq) cv_X6_60 zck_0_44 zcs_0_44 rfl ⟨⟨rfl, rfl⟩, Nat.le_of_ble_eq_true rfl, Nat.le_of_ble_eq_true rfl⟩ (zlv_size hl) rfl (Nat.le_of_ble_eq_true rfl) dX6_take_142 ⟨Nat.le_refl _, Nat.le_refl _⟩) (fun H locs hW => ?_)
                      refine zi_if_eq (tgt := 152) hx hb dX6_take_145 (by decide) hf (fun hc hf => ?_) (fun hc hf => ?_)
                      · skip
                        refine lv_iconst (v := 0) hx hb dX6_take_152 (by decide) ?_
                        exact zr_z hx hb hr hlk hW (by decide) (zo1 hf) (zo2 hf) dX6_take_153
                      · skip
                        refine lv_iconst (v := 1) hx hb dX6_take_148 (by decide) ?_
                        refine lv_goto (tgt := 153) hx hb dX6_take_149 (by decide) ?_
                        exact zr_z hx hb hr hlk hW (by decide) (zo1 hf) (zo2 hf) dX6_take_153
              refine zi_icmp_lt (tgt := 113) hx hb dX6_take_78 (by decide) hf (fun hc hf => ?_) (fun hc hf => ?_)
              · skip
                exact hJ14 () H locs ls hf hW (lv_sub hl [0, 1, 2, 3] rfl)
              · skip
                refine lv_iload_n hx hb dX6_take_81 rfl (lv_at hl 1 rfl) ?_
                refine lv_bipush (v := 57) hx hb dX6_take_82 (by decide) ?_
                refine zi_icmp_gt (tgt := 113) hx hb dX6_take_84 (by decide) hf (fun hc hf => ?_) (fun hc hf => ?_)
                · skip
                  exact hJ14 () H locs ls hf hW (lv_sub hl [0, 1, 2, 3] rfl)
                · skip
                  refine lv_aload_n hx hb dX6_take_87 rfl (lv_at hl 0 rfl) ?_
                  refine lv_dup hx hb dX6_take_88 rfl ?_
                  refine zg_i hC hW fl_X6_15 zck_0_44 zcs_0_44 dX6_take_89 ?_
                  refine lv_iconst (v := 1) hx hb dX6_take_92 (by decide) ?_
                  refine lv_iadd hx hb dX6_take_93 ?_
                  refine zp_i hC hW hf fp_X6_15 zck_0_44 zcs_0_44 dX6_take_94 (fun s25 H locs hf hW => ?_)
                  refine lv_aload_n hx hb dX6_take_97 rfl (lv_at hl 0 rfl) ?_
                  refine lv_aload_n hx hb dX6_take_98 rfl (lv_at hl 2 rfl) ?_
                  refine lv_iconst (v := 0) hx hb dX6_take_99 (by decide) ?_
                  refine lv_iload_n hx hb dX6_take_100 rfl (lv_at hl 1 rfl) ?_
                  refine lv_bipush (v := 48) hx hb dX6_take_101 (by decide) ?_
                  refine lv_isub hx hb dX6_take_103 ?_
                  refine lv_iconst (v := 0) hx hb dX6_take_104 (by decide) ?_
                  obtain ⟨v26, s27, hq, hf⟩ := zb2_o hf
                  refine zc_i hW (zrun_v (As := [.int 0, .int (p1 - 48), .int 0]) (rest := [.ref (adr 44)]) hC hW (mX0_add k2 0 (p1 - 48) 0 s25 hC.2.2.2.2.2.2.2 hq) cv_X6_63 (zG_k k2) (zG_s k2) rfl ⟨⟨rfl, rfl⟩, Nat.le_of_ble_eq_true rfl, Nat.le_of_ble_eq_true rfl⟩ (zlv_size hl) rfl (Nat.le_of_ble_eq_true rfl) dX6_take_105 ⟨Nat.le_refl _, Nat.le_refl _⟩) (fun H locs hW => ?_)
                  refine lv_aload_n hx hb dX6_take_108 rfl (lv_at hl 2 rfl) ?_
                  obtain ⟨v28, s29, hq, hf⟩ := zb2_o hf
                  refine zc_i hW (zrun_v (As := [.int v26, .ref (adr o2)]) (rest := []) hC hW (mX6_put k2 v26 s27 hC.2.2.2.2.2.2.2 hq) cv_X6_60 zck_0_44 zcs_0_44 rfl ⟨⟨rfl, rfl⟩, Nat.le_of_ble_eq_true rfl, Nat.le_of_ble_eq_true rfl⟩ (zlv_size hl) rfl (Nat.le_of_ble_eq_true rfl) dX6_take_109 ⟨Nat.le_refl _, Nat.le_refl _⟩) (fun H locs hW => ?_)
                  obtain ⟨h01, hf⟩ := zck_o hf
                  exact zr_z hx hb hr hlk hW h01 (zo1 hf) (zo2 hf) dX6_take_112
    refine zi_icmp_ne (tgt := 31) hx hb dX6_take_16 (by decide) hf (fun hc hf => ?_) (fun hc hf => ?_)
    · skip
      refine lv_aload_n hx hb dX6_take_19 rfl (lv_at hl 0 rfl) ?_
      obtain ⟨v30, hq, hf⟩ := zb1_o hf
      refine zc_i hW (zrun_v (As := []) (rest := []) hC hW (mX6_isRowJustOpened s0 hC.2.2.2.2.2.2.2 hq) cv_X6_49 zck_0_44 zcs_0_44 rfl ⟨⟨rfl, rfl⟩, Nat.le_of_ble_eq_true rfl, Nat.le_of_ble_eq_true rfl⟩ (zlv_size hl) rfl (Nat.le_of_ble_eq_true rfl) dX6_take_20 ⟨Nat.le_refl _, Nat.le_refl _⟩) (fun H locs hW => ?_)
      refine zi_if_eq (tgt := 31) hx hb dX6_take_23 (by decide) hf (fun hc hf => ?_) (fun hc hf => ?_)
      · skip
        exact hJ3 () H locs ls hf hW (lv_sub hl [0, 1, 2, 3] rfl)
      · skip
        refine lv_aload_n hx hb dX6_take_26 rfl (lv_at hl 0 rfl) ?_
        obtain ⟨v31, s32, hq, hf⟩ := zw2_o hf
        refine zc_i hW (zrun_v (As := []) (rest := []) hC hW (mX6_close s0 hC.2.2.2.2.2.2.2 hq) cv_X6_53 zck_0_44 zcs_0_44 rfl ⟨⟨rfl, rfl⟩, Nat.le_of_ble_eq_true rfl, Nat.le_of_ble_eq_true rfl⟩ (zlv_size hl) rfl (Nat.le_of_ble_eq_true rfl) dX6_take_27 ⟨Nat.le_refl _, Nat.le_refl _⟩) (fun H locs hW => ?_)
        obtain ⟨h01, hf⟩ := zck_o hf
        exact zr_z hx hb hr hlk hW h01 (zo1 hf) (zo2 hf) dX6_take_30
    · skip
      exact hJ3 () H locs ls hf hW (lv_sub hl [0, 1, 2, 3] rfl)
set_option maxHeartbeats 4000000 in
set_option maxRecDepth 100000 in
theorem mX6_readInto {l : Launch} {D : va_G} {cI cJ : ClassId} {adr : Nat → Nat} {o1 : Nat} (k1 : zG o1) (p2 : Int32) (s0 : zkS) {z : Nat} {ro : Int32} {so : zkS} (hI : zInj 0 adr) (hf : fX6_readInto o1 p2 s0 = some (ro, so)) : Met l yX6_readInto (Cond.code yX6_readInto cX6_readInto 4 (some .int) :: zTb) { frames := 5, cells := 0, slots := 0, locals := 117 } (zPre 0 D cI cJ adr s0 z [.ref (adr 44), .ref (adr o1), .int p2]) (zQi 0 D cI cJ adr z ro so) 0 0 (zA 0 adr z) := by
  refine zen (cc := cX6_readInto) (own := RX6) (by decide +kernel) rfl hI (Nat.le_of_ble_eq_true rfl) (fun p e s m args below meth c ls hC hr hlk hz hl hW => ?_)
  subst hz
  obtain ⟨hx, hb, -⟩ := id hC
  have hl : lv_has ls 4 [(0, .ref (adr 44)), (1, .ref (adr o1)), (2, .int p2)] := hl
  refine zst hW (fun H locs hW => ?_)
  unfold fX6_readInto at hf
  refine lv_aload_n hx hb dX6_readInto_0 rfl (lv_at hl 0 rfl) ?_
  refine lv_iconst (v := 0) hx hb dX6_readInto_1 (by decide) ?_
  refine zp_i hC hW hf fp_X6_15 zck_0_44 zcs_0_44 dX6_readInto_2 (fun s1 H locs hf hW => ?_)
  refine lv_aload_n hx hb dX6_readInto_5 rfl (lv_at hl 0 rfl) ?_
  refine lv_iconst (v := 0) hx hb dX6_readInto_6 (by decide) ?_
  refine zp_i hC hW hf fp_X6_34 zck_0_44 zcs_0_44 dX6_readInto_7 (fun s2 H locs hf hW => ?_)
  refine lv_aload_n hx hb dX6_readInto_10 rfl (lv_at hl 0 rfl) ?_
  refine lv_iconst (v := 1) hx hb dX6_readInto_11 (by decide) ?_
  refine zp_y hC hW hf (by decide) fp_X6_37 zck_0_44 zcs_0_44 dX6_readInto_12 (fun s3 H locs hf hW => ?_)
  refine lv_iconst (v := 0) hx hb dX6_readInto_15 (by decide) ?_
  refine lv_istore_n (lv' := [(3, .int 0), (0, .ref (adr 44)), (1, .ref (adr o1)), (2, .int p2)]) hx hb dX6_readInto_16 rfl hl (by decide) rfl (fun ls hl => ?_)
  have hL17 : ∀ (n : Nat) (x2 : Int32) (x3 : Int32) (s4 : zkS) (K17 : zkS → Option (Int32 × zkS)) (H : Heap) (locs : List Loc) (ls : Array Slot), fX6_readInto_L17 n o1 x2 x3 s4 K17 = some (ro, so) → zWo 0 D cI cJ adr s s4 H locs → lv_has ls 4 [(0, .ref (adr 44)), (1, .ref (adr o1)), (2, .int x2), (3, .int x3)] → (∀ (s4 : zkS) (H : Heap) (locs : List Loc) (ls : Array Slot), K17 s4 = some (ro, so) → zWo 0 D cI cJ adr s s4 H locs → lv_has ls 4 [(0, .ref (adr 44))] → W p l e { frames := 5, cells := 0, slots := 0, locals := 117 } s m args below meth c H locs 0 0 (MQ below (zQi 0 D cI cJ adr s.heap.size ro so) args s 0 0 (zA 0 adr s.heap.size)) (F0 m 54 ls [])) → W p l e { frames := 5, cells := 0, slots := 0, locals := 117 } s m args below meth c H locs 0 0 (MQ below (zQi 0 D cI cJ adr s.heap.size ro so) args s 0 0 (zA 0 adr s.heap.size)) (F0 m 17 ls []) := by
    intro n
    induction n with
    | zero =>
      intro x2 x3 s4 K17 H locs ls hf hW hl hK17
      rw [fX6_readInto_L17] at hf
      cases hf
    | succ n ih17 =>
      intro x2 x3 s4 K17 H locs ls hf hW hl hK17
      rw [fX6_readInto_L17] at hf
      refine lv_iload_n hx hb dX6_readInto_17 rfl (lv_at hl 3 rfl) ?_
      refine lv_aload_n hx hb dX6_readInto_18 rfl (lv_at hl 0 rfl) ?_
      refine zg_i hC hW fl_X6_9 zck_0_44 zcs_0_44 dX6_readInto_19 ?_
      refine zi_icmp_ge (tgt := 54) hx hb dX6_readInto_22 (by decide) hf (fun hc hf => ?_) (fun hc hf => ?_)
      · skip
        exact hK17 s4 H locs ls hf hW (lv_sub hl [0] rfl)
      · skip
        refine lv_iload_n hx hb dX6_readInto_25 rfl (lv_at hl 3 rfl) ?_
        refine lv_bipush (v := 100) hx hb dX6_readInto_26 (by decide) ?_
        refine zi_icmp_ge (tgt := 54) hx hb dX6_readInto_28 (by decide) hf (fun hc hf => ?_) (fun hc hf => ?_)
        · skip
          exact hK17 s4 H locs ls hf hW (lv_sub hl [0] rfl)
        · skip
          refine lv_aload_n hx hb dX6_readInto_31 rfl (lv_at hl 0 rfl) ?_
          refine lv_aload_n hx hb dX6_readInto_32 rfl (lv_at hl 0 rfl) ?_
          refine zg_a (o := 0) hC hW fl_X6_21 zck_0_44 zcs_0_44 (show _ = 45 from rfl) dX6_readInto_33 ?_
          refine lv_iload_n hx hb dX6_readInto_36 rfl (lv_at hl 3 rfl) ?_
          refine za_l hC hW hf zar_0_45 dX6_readInto_37 (fun v5 hf => ?_)
          refine lv_aload_n hx hb dX6_readInto_38 rfl (lv_at hl 1 rfl) ?_
          refine lv_iload_n hx hb dX6_readInto_39 rfl (lv_at hl 2 rfl) ?_
          obtain ⟨v6, s7, hq, hf⟩ := zb2_o hf
          refine zc_i hW (zrun_v (As := [.int v5, .ref (adr o1), .int x2]) (rest := []) hC hW (mX6_take k1 v5 x2 s4 hC.2.2.2.2.2.2.2 hq) cv_X6_41 zck_0_44 zcs_0_44 rfl ⟨⟨rfl, rfl⟩, Nat.le_of_ble_eq_true rfl, Nat.le_of_ble_eq_true rfl⟩ (zlv_size hl) rfl (Nat.le_of_ble_eq_true rfl) dX6_readInto_40 ⟨Nat.le_refl _, Nat.le_refl _⟩) (fun H locs hW => ?_)
          refine zi_if_ne (tgt := 48) hx hb dX6_readInto_43 (by decide) hf (fun hc hf => ?_) (fun hc hf => ?_)
          · skip
            refine lv_iload_n hx hb dX6_readInto_46 rfl (lv_at hl 3 rfl) ?_
            exact zr_i hx hb hr hlk hW (zo1 hf) (zo2 hf) dX6_readInto_47
          · skip
            refine zi_inc (v := (x3 + 1)) (lv' := fun v8 => [(3, .int v8), (0, .ref (adr 44)), (1, .ref (adr o1)), (2, .int x2)]) hx hb dX6_readInto_48 hl (k := 3) rfl rfl (by decide) (fun _ => rfl) hf (fun v8 ls hf hl => ?_)
            refine lv_goto (tgt := 17) hx hb dX6_readInto_51 (by decide) ?_
            exact ih17 x2 v8 s7 _ H locs ls hf hW (lv_sub hl [1, 2, 3, 0] rfl) hK17
  refine hL17 zFU p2 0 s3 _ H locs ls hf hW (lv_sub hl [1, 2, 3, 0] rfl) (fun s9 H locs ls hf hW hl => ?_)
  refine lv_aload_n hx hb dX6_readInto_54 rfl (lv_at hl 0 rfl) ?_
  refine zg_i hC hW fl_X6_34 zck_0_44 zcs_0_44 dX6_readInto_55 ?_
  refine zi_if_ne (tgt := 72) hx hb dX6_readInto_58 (by decide) hf (fun hc hf => ?_) (fun hc hf => ?_)
  · skip
    refine lv_aload_n hx hb dX6_readInto_61 rfl (lv_at hl 0 rfl) ?_
    refine zg_i hC hW fl_X6_37 zck_0_44 zcs_0_44 dX6_readInto_62 ?_
    refine zi_if_ne (tgt := 72) hx hb dX6_readInto_65 (by decide) hf (fun hc hf => ?_) (fun hc hf => ?_)
    · skip
      refine lv_iconst (v := (-1)) hx hb dX6_readInto_68 (by decide) ?_
      refine lv_goto (tgt := 76) hx hb dX6_readInto_69 (by decide) ?_
      exact zr_i hx hb hr hlk hW (zo1 hf) (zo2 hf) dX6_readInto_76
    · skip
      refine lv_aload_n hx hb dX6_readInto_72 rfl (lv_at hl 0 rfl) ?_
      refine zg_i hC hW fl_X6_9 zck_0_44 zcs_0_44 dX6_readInto_73 ?_
      exact zr_i hx hb hr hlk hW (zo1 hf) (zo2 hf) dX6_readInto_76
  · skip
    refine lv_aload_n hx hb dX6_readInto_72 rfl (lv_at hl 0 rfl) ?_
    refine zg_i hC hW fl_X6_9 zck_0_44 zcs_0_44 dX6_readInto_73 ?_
    exact zr_i hx hb hr hlk hW (zo1 hf) (zo2 hf) dX6_readInto_76
set_option maxHeartbeats 4000000 in
set_option maxRecDepth 100000 in
theorem mX7_build {l : Launch} {D : va_G} {cI cJ : ClassId} {adr : Nat → Nat} (p1 : Int32) (s0 : zkS) {z : Nat} {ro : Int32} {so : zkS} (hI : zInj 0 adr) (hf : fX7_build p1 s0 = some (ro, so)) : Met l yX7_build (Cond.code yX7_build cX7_build 3 (some .int) :: zTb) { frames := 6, cells := 0, slots := 0, locals := 140 } (zPre 0 D cI cJ adr s0 z [.ref (adr 0), .int p1]) (zQi 0 D cI cJ adr z ro so) 0 0 (zA 0 adr z) := by
  refine zen (cc := cX7_build) (own := RX7) (by decide +kernel) rfl hI (Nat.le_of_ble_eq_true rfl) (fun p e s m args below meth c ls hC hr hlk hz hl hW => ?_)
  subst hz
  obtain ⟨hx, hb, -⟩ := id hC
  have hl : lv_has ls 3 [(0, .ref (adr 0)), (1, .int p1)] := hl
  refine zst hW (fun H locs hW => ?_)
  unfold fX7_build at hf
  refine lv_iload_n hx hb dX7_build_0 rfl (lv_at hl 1 rfl) ?_
  refine zc_i hW (zrun_s (As := [.int p1]) (rest := []) hC hW (mX7_isRoot p1 s0 hC.2.2.2.2.2.2.2 rfl) cs_X7_156 rfl ⟨⟨rfl, rfl⟩, Nat.le_of_ble_eq_true rfl, Nat.le_of_ble_eq_true rfl⟩ (zlv_size hl) rfl (Nat.le_of_ble_eq_true rfl) dX7_build_1 ⟨Nat.le_refl _, Nat.le_refl _⟩) (fun H locs hW => ?_)
  refine zi_if_ne (tgt := 9) hx hb dX7_build_4 (by decide) hf (fun hc hf => ?_) (fun hc hf => ?_)
  · skip
    refine lv_iconst (v := (-1)) hx hb dX7_build_7 (by decide) ?_
    exact zr_i hx hb hr hlk hW (zo1 hf) (zo2 hf) dX7_build_8
  · skip
    refine lv_aload_n hx hb dX7_build_9 rfl (lv_at hl 0 rfl) ?_
    refine zg_a (o := 0) hC hW fl_X7_12 zck_0_0 zcs_0_0 (show _ = 1 from rfl) dX7_build_10 ?_
    refine zg_a (o := 6) hC hW fl_X7_68 (zE_k zEc_1) (zE_s zEc_1) (show _ = 8 from rfl) dX7_build_13 ?_
    refine zg_i hC hW fl_X7_71 (zK_k zKc_8) (zK_s zKc_8) dX7_build_16 ?_
    refine zi_if_eq (tgt := 25) hx hb dX7_build_19 (by decide) hf (fun hc hf => ?_) (fun hc hf => ?_)
    · skip
      refine lv_aload_n hx hb dX7_build_25 rfl (lv_at hl 0 rfl) ?_
      refine zg_a (o := 32) hC hW fl_X7_28 zck_0_0 zcs_0_0 (show _ = 33 from rfl) dX7_build_26 ?_
      refine lv_aload_n hx hb dX7_build_29 rfl (lv_at hl 0 rfl) ?_
      refine zg_a (o := 0) hC hW fl_X7_12 zck_0_0 zcs_0_0 (show _ = 1 from rfl) dX7_build_30 ?_
      refine zg_a (o := 0) hC hW fl_X7_74 (zE_k zEc_1) (zE_s zEc_1) (show _ = 2 from rfl) dX7_build_33 ?_
      obtain ⟨s2, hq, hf⟩ := zb1_o hf
      refine zc_v hW (zrun_v (As := [.ref (adr 2)]) (rest := []) hC hW (mX0_copyFrom zGc_33 zGc_2 s0 hC.2.2.2.2.2.2.2 hq) cv_X7_177 (zG_k zGc_33) (zG_s zGc_33) rfl ⟨⟨rfl, rfl⟩, Nat.le_of_ble_eq_true rfl, Nat.le_of_ble_eq_true rfl⟩ (zlv_size hl) rfl (Nat.le_of_ble_eq_true rfl) dX7_build_36 ⟨Nat.le_refl _, Nat.le_refl _⟩) (fun H locs hW => ?_)
      refine lv_aload_n hx hb dX7_build_39 rfl (lv_at hl 0 rfl) ?_
      refine zg_a (o := 43) hC hW fl_X7_49 zck_0_0 zcs_0_0 (show _ = 44 from rfl) dX7_build_40 ?_
      refine lv_aload_n hx hb dX7_build_43 rfl (lv_at hl 0 rfl) ?_
      refine zg_a (o := 32) hC hW fl_X7_28 zck_0_0 zcs_0_0 (show _ = 33 from rfl) dX7_build_44 ?_
      refine lv_aload_n hx hb dX7_build_47 rfl (lv_at hl 0 rfl) ?_
      refine zg_a (o := 0) hC hW fl_X7_12 zck_0_0 zcs_0_0 (show _ = 1 from rfl) dX7_build_48 ?_
      refine zg_a (o := 0) hC hW fl_X7_74 (zE_k zEc_1) (zE_s zEc_1) (show _ = 2 from rfl) dX7_build_51 ?_
      refine zg_i hC hW fl_X7_181 (zG_k zGc_2) (zG_s zGc_2) dX7_build_54 ?_
      obtain ⟨v3, s4, hq, hf⟩ := zb2_o hf
      refine zc_i hW (zrun_v (As := [.ref (adr 33), .int (s2.1 2 1)]) (rest := []) hC hW (mX6_readInto zGc_33 (s2.1 2 1) s2 hC.2.2.2.2.2.2.2 hq) cv_X7_184 zck_0_44 zcs_0_44 rfl ⟨⟨rfl, rfl⟩, Nat.le_of_ble_eq_true rfl, Nat.le_of_ble_eq_true rfl⟩ (zlv_size hl) rfl (Nat.le_of_ble_eq_true rfl) dX7_build_57 ⟨Nat.le_refl _, Nat.le_refl _⟩) (fun H locs hW => ?_)
      refine lv_istore_n (lv' := [(2, .int v3), (0, .ref (adr 0)), (1, .int p1)]) hx hb dX7_build_60 rfl hl (by decide) rfl (fun ls hl => ?_)
      refine lv_aload_n hx hb dX7_build_61 rfl (lv_at hl 1 rfl) ?_
      refine zg_a (o := 43) hC hW fl_X7_49 zck_0_0 zcs_0_0 (show _ = 44 from rfl) dX7_build_62 ?_
      refine lv_iconst (v := 0) hx hb dX7_build_65 (by decide) ?_
      refine zp_i hC hW hf fp_X7_174 zck_0_44 zcs_0_44 dX7_build_66 (fun s5 H locs hf hW => ?_)
      refine lv_iload_n hx hb dX7_build_69 rfl (lv_at hl 0 rfl) ?_
      refine zi_if_lt (tgt := 78) hx hb dX7_build_70 (by decide) hf (fun hc hf => ?_) (fun hc hf => ?_)
      · skip
        refine lv_aload_n hx hb dX7_build_78 rfl (lv_at hl 1 rfl) ?_
        refine zg_a (o := 0) hC hW fl_X7_12 zck_0_0 zcs_0_0 (show _ = 1 from rfl) dX7_build_79 ?_
        refine zg_a (o := 0) hC hW fl_X7_74 (zE_k zEc_1) (zE_s zEc_1) (show _ = 2 from rfl) dX7_build_82 ?_
        refine zg_i hC hW fl_X7_77 (zG_k zGc_2) (zG_s zGc_2) dX7_build_85 ?_
        refine lv_aload_n hx hb dX7_build_88 rfl (lv_at hl 1 rfl) ?_
        refine zg_a (o := 43) hC hW fl_X7_49 zck_0_0 zcs_0_0 (show _ = 44 from rfl) dX7_build_89 ?_
        refine zg_i hC hW fl_X7_188 zck_0_44 zcs_0_44 dX7_build_92 ?_
        refine lv_iadd hx hb dX7_build_95 ?_
        refine lv_bipush (v := 24) hx hb dX7_build_96 (by decide) ?_
        refine zi_icmp_le (tgt := 104) hx hb dX7_build_98 (by decide) hf (fun hc hf => ?_) (fun hc hf => ?_)
        · skip
          refine lv_aload_n hx hb dX7_build_104 rfl (lv_at hl 1 rfl) ?_
          refine zg_a (o := 32) hC hW fl_X7_28 zck_0_0 zcs_0_0 (show _ = 33 from rfl) dX7_build_105 ?_
          refine lv_iload_n hx hb dX7_build_108 rfl (lv_at hl 2 rfl) ?_
          refine lv_aload_n hx hb dX7_build_109 rfl (lv_at hl 1 rfl) ?_
          refine zg_a (o := 43) hC hW fl_X7_49 zck_0_0 zcs_0_0 (show _ = 44 from rfl) dX7_build_110 ?_
          refine zg_i hC hW fl_X7_191 zck_0_44 zcs_0_44 dX7_build_113 ?_
          obtain ⟨s6, hq, hf⟩ := zb1_o hf
          refine zc_v hW (zrun_v (As := [.int p1, .int (s5.1 44 2)]) (rest := []) hC hW (mX0_putIntoRoot zGc_33 p1 (s5.1 44 2) s5 hC.2.2.2.2.2.2.2 hq) cv_X7_162 (zG_k zGc_33) (zG_s zGc_33) rfl ⟨⟨rfl, rfl⟩, Nat.le_of_ble_eq_true rfl, Nat.le_of_ble_eq_true rfl⟩ (zlv_size hl) rfl (Nat.le_of_ble_eq_true rfl) dX7_build_116 ⟨Nat.le_refl _, Nat.le_refl _⟩) (fun H locs hW => ?_)
          refine lv_aload_n hx hb dX7_build_119 rfl (lv_at hl 1 rfl) ?_
          refine zg_a (o := 0) hC hW fl_X7_12 zck_0_0 zcs_0_0 (show _ = 1 from rfl) dX7_build_120 ?_
          refine zg_a (o := 0) hC hW fl_X7_74 (zE_k zEc_1) (zE_s zEc_1) (show _ = 2 from rfl) dX7_build_123 ?_
          refine lv_aload_n hx hb dX7_build_126 rfl (lv_at hl 1 rfl) ?_
          refine zg_a (o := 32) hC hW fl_X7_28 zck_0_0 zcs_0_0 (show _ = 33 from rfl) dX7_build_127 ?_
          obtain ⟨s7, hq, hf⟩ := zb1_o hf
          refine zc_v hW (zrun_v (As := [.ref (adr 33)]) (rest := []) hC hW (mX0_copyFrom zGc_2 zGc_33 s6 hC.2.2.2.2.2.2.2 hq) cv_X7_177 (zG_k zGc_2) (zG_s zGc_2) rfl ⟨⟨rfl, rfl⟩, Nat.le_of_ble_eq_true rfl, Nat.le_of_ble_eq_true rfl⟩ (zlv_size hl) rfl (Nat.le_of_ble_eq_true rfl) dX7_build_130 ⟨Nat.le_refl _, Nat.le_refl _⟩) (fun H locs hW => ?_)
          refine lv_aload_n hx hb dX7_build_133 rfl (lv_at hl 1 rfl) ?_
          refine zg_a (o := 0) hC hW fl_X7_12 zck_0_0 zcs_0_0 (show _ = 1 from rfl) dX7_build_134 ?_
          refine zg_a (o := 6) hC hW fl_X7_68 (zE_k zEc_1) (zE_s zEc_1) (show _ = 8 from rfl) dX7_build_137 ?_
          refine lv_iconst (v := 0) hx hb dX7_build_140 (by decide) ?_
          refine zp_y hC hW hf (by decide) fp_X7_81 (zK_k zKc_8) (zK_s zKc_8) dX7_build_141 (fun s8 H locs hf hW => ?_)
          refine lv_aload_n hx hb dX7_build_144 rfl (lv_at hl 1 rfl) ?_
          refine zg_a (o := 43) hC hW fl_X7_49 zck_0_0 zcs_0_0 (show _ = 44 from rfl) dX7_build_145 ?_
          refine zg_i hC hW fl_X7_188 zck_0_44 zcs_0_44 dX7_build_148 ?_
          exact zr_i hx hb hr hlk hW (zo1 hf) (zo2 hf) dX7_build_151
        · skip
          refine lv_bipush (v := (-4)) hx hb dX7_build_101 (by decide) ?_
          exact zr_i hx hb hr hlk hW (zo1 hf) (zo2 hf) dX7_build_103
      · skip
        refine lv_bipush (v := (-10)) hx hb dX7_build_73 (by decide) ?_
        refine lv_iload_n hx hb dX7_build_75 rfl (lv_at hl 0 rfl) ?_
        refine lv_isub hx hb dX7_build_76 ?_
        exact zr_i hx hb hr hlk hW (zo1 hf) (zo2 hf) dX7_build_77
    · skip
      refine lv_bipush (v := (-3)) hx hb dX7_build_22 (by decide) ?_
      exact zr_i hx hb hr hlk hW (zo1 hf) (zo2 hf) dX7_build_24
set_option maxHeartbeats 4000000 in
set_option maxRecDepth 100000 in
theorem mX7_isLimit {l : Launch} {D : va_G} {cI cJ : ClassId} {adr : Nat → Nat} {u : Nat} (p1 : Int32) (s0 : zkS) {z : Nat} {ro : Int32} (hI : zInj u adr) (hf : fX7_isLimit p1 = ro) : Met l yX7_isLimit (Cond.code yX7_isLimit cX7_isLimit 1 (some .boolean) :: zTb) { frames := 0, cells := 0, slots := 0, locals := 0 } (zPre u D cI cJ adr s0 z [.int p1]) (zQi u D cI cJ adr z ro s0) 0 0 (zA u adr z) := by
  refine zen (cc := cX7_isLimit) (own := RX7) (by decide +kernel) rfl hI (Nat.le_of_ble_eq_true rfl) (fun p e s m args below meth c ls hC hr hlk hz hl hW => ?_)
  subst hz
  obtain ⟨hx, hb, -⟩ := id hC
  have hl : lv_has ls 1 [(0, .int p1)] := hl
  refine zst hW (fun H locs hW => ?_)
  unfold fX7_isLimit at hf
  refine lv_iload_n hx hb dX7_isLimit_0 rfl (lv_at hl 0 rfl) ?_
  refine zi_if_lt (tgt := 14) hx hb dX7_isLimit_1 (by decide) hf (fun hc hf => ?_) (fun hc hf => ?_)
  · skip
    refine lv_iconst (v := 0) hx hb dX7_isLimit_14 (by decide) ?_
    exact zr_z hx hb hr hlk hW (by decide) hf rfl dX7_isLimit_15
  · skip
    refine lv_iload_n hx hb dX7_isLimit_4 rfl (lv_at hl 0 rfl) ?_
    refine lv_bipush (v := 8) hx hb dX7_isLimit_5 (by decide) ?_
    refine zi_icmp_gt (tgt := 14) hx hb dX7_isLimit_7 (by decide) hf (fun hc hf => ?_) (fun hc hf => ?_)
    · skip
      refine lv_iconst (v := 0) hx hb dX7_isLimit_14 (by decide) ?_
      exact zr_z hx hb hr hlk hW (by decide) hf rfl dX7_isLimit_15
    · skip
      refine lv_iconst (v := 1) hx hb dX7_isLimit_10 (by decide) ?_
      refine lv_goto (tgt := 15) hx hb dX7_isLimit_11 (by decide) ?_
      exact zr_z hx hb hr hlk hW (by decide) hf rfl dX7_isLimit_15
set_option maxHeartbeats 4000000 in
set_option maxRecDepth 100000 in
theorem mX2_start {l : Launch} {D : va_G} {cI cJ : ClassId} {adr : Nat → Nat} {b : Nat} (kb : zK b) (p1 : Int32) (s0 : zkS) {z : Nat} {so : zkS} (hI : zInj 0 adr) (hf : fX2_start b p1 s0 = so) : Met l yX2_start (Cond.code yX2_start cX2_start 2 none :: zTb) { frames := 0, cells := 0, slots := 0, locals := 0 } (zPre 0 D cI cJ adr s0 z [.ref (adr b), .int p1]) (zQv 0 D cI cJ adr z so) 0 0 (zA 0 adr z) := by
  refine zen (cc := cX2_start) (own := RX2) (by decide +kernel) rfl hI (Nat.le_of_ble_eq_true rfl) (fun p e s m args below meth c ls hC hr hlk hz hl hW => ?_)
  subst hz
  obtain ⟨hx, hb, -⟩ := id hC
  have hl : lv_has ls 2 [(0, .ref (adr b)), (1, .int p1)] := hl
  refine zst hW (fun H locs hW => ?_)
  unfold fX2_start at hf
  refine lv_aload_n hx hb dX2_start_0 rfl (lv_at hl 0 rfl) ?_
  refine lv_iconst (v := 1) hx hb dX2_start_1 (by decide) ?_
  refine zp_y hC hW hf (by decide) fp_X2_9 (zK_k kb) (zK_s kb) dX2_start_2 (fun s1 H locs hf hW => ?_)
  refine lv_aload_n hx hb dX2_start_5 rfl (lv_at hl 0 rfl) ?_
  refine lv_iconst (v := 0) hx hb dX2_start_6 (by decide) ?_
  refine zp_y hC hW hf (by decide) fp_X2_15 (zK_k kb) (zK_s kb) dX2_start_7 (fun s2 H locs hf hW => ?_)
  refine lv_aload_n hx hb dX2_start_10 rfl (lv_at hl 0 rfl) ?_
  refine lv_iconst (v := 0) hx hb dX2_start_11 (by decide) ?_
  refine zp_i hC hW hf fp_X2_18 (zK_k kb) (zK_s kb) dX2_start_12 (fun s3 H locs hf hW => ?_)
  refine lv_aload_n hx hb dX2_start_15 rfl (lv_at hl 0 rfl) ?_
  refine lv_iconst (v := 0) hx hb dX2_start_16 (by decide) ?_
  refine zp_i hC hW hf fp_X2_22 (zK_k kb) (zK_s kb) dX2_start_17 (fun s4 H locs hf hW => ?_)
  refine lv_aload_n hx hb dX2_start_20 rfl (lv_at hl 0 rfl) ?_
  refine lv_bipush (v := (-5)) hx hb dX2_start_21 (by decide) ?_
  refine zp_i hC hW hf fp_X2_25 (zK_k kb) (zK_s kb) dX2_start_23 (fun s5 H locs hf hW => ?_)
  refine lv_aload_n hx hb dX2_start_26 rfl (lv_at hl 0 rfl) ?_
  refine lv_iconst (v := 0) hx hb dX2_start_27 (by decide) ?_
  refine zp_i hC hW hf fp_X2_28 (zK_k kb) (zK_s kb) dX2_start_28 (fun s6 H locs hf hW => ?_)
  refine lv_aload_n hx hb dX2_start_31 rfl (lv_at hl 0 rfl) ?_
  refine lv_iconst (v := 0) hx hb dX2_start_32 (by decide) ?_
  refine zp_i hC hW hf fp_X2_31 (zK_k kb) (zK_s kb) dX2_start_33 (fun s7 H locs hf hW => ?_)
  refine lv_aload_n hx hb dX2_start_36 rfl (lv_at hl 0 rfl) ?_
  refine lv_iload_n hx hb dX2_start_37 rfl (lv_at hl 1 rfl) ?_
  refine zp_i hC hW hf fp_X2_34 (zK_k kb) (zK_s kb) dX2_start_38 (fun s8 H locs hf hW => ?_)
  refine lv_aload_n hx hb dX2_start_41 rfl (lv_at hl 0 rfl) ?_
  refine lv_iconst (v := 0) hx hb dX2_start_42 (by decide) ?_
  refine zp_i hC hW hf fp_X2_37 (zK_k kb) (zK_s kb) dX2_start_43 (fun s9 H locs hf hW => ?_)
  refine lv_aload_n hx hb dX2_start_46 rfl (lv_at hl 0 rfl) ?_
  refine lv_iconst (v := 0) hx hb dX2_start_47 (by decide) ?_
  refine zp_i hC hW hf fp_X2_40 (zK_k kb) (zK_s kb) dX2_start_48 (fun s10 H locs hf hW => ?_)
  refine lv_aload_n hx hb dX2_start_51 rfl (lv_at hl 0 rfl) ?_
  refine lv_iconst (v := 0) hx hb dX2_start_52 (by decide) ?_
  refine zp_i hC hW hf fp_X2_43 (zK_k kb) (zK_s kb) dX2_start_53 (fun s11 H locs hf hW => ?_)
  refine lv_aload_n hx hb dX2_start_56 rfl (lv_at hl 0 rfl) ?_
  refine lv_iconst (v := 0) hx hb dX2_start_57 (by decide) ?_
  refine zp_i hC hW hf fp_X2_46 (zK_k kb) (zK_s kb) dX2_start_58 (fun s12 H locs hf hW => ?_)
  refine lv_aload_n hx hb dX2_start_61 rfl (lv_at hl 0 rfl) ?_
  refine lv_iconst (v := 0) hx hb dX2_start_62 (by decide) ?_
  refine zp_i hC hW hf fp_X2_49 (zK_k kb) (zK_s kb) dX2_start_63 (fun s13 H locs hf hW => ?_)
  exact zr_v hx hb hr hlk hW hf dX2_start_66
set_option maxHeartbeats 4000000 in
set_option maxRecDepth 100000 in
theorem mX7_begin {l : Launch} {D : va_G} {cI cJ : ClassId} {adr : Nat → Nat} (p1 : Int32) (s0 : zkS) {z : Nat} {ro : Int32} {so : zkS} (hI : zInj 0 adr) (hf : fX7_begin p1 s0 = (ro, so)) : Met l yX7_begin (Cond.code yX7_begin cX7_begin 2 (some .int) :: zTb) { frames := 1, cells := 0, slots := 0, locals := 21 } (zPre 0 D cI cJ adr s0 z [.ref (adr 0), .int p1]) (zQi 0 D cI cJ adr z ro so) 0 0 (zA 0 adr z) := by
  refine zen (cc := cX7_begin) (own := RX7) (by decide +kernel) rfl hI (Nat.le_of_ble_eq_true rfl) (fun p e s m args below meth c ls hC hr hlk hz hl hW => ?_)
  subst hz
  obtain ⟨hx, hb, -⟩ := id hC
  have hl : lv_has ls 2 [(0, .ref (adr 0)), (1, .int p1)] := hl
  refine zst hW (fun H locs hW => ?_)
  unfold fX7_begin at hf
  refine lv_iload_n hx hb dX7_begin_0 rfl (lv_at hl 1 rfl) ?_
  refine zc_i hW (zrun_s (As := [.int p1]) (rest := []) hC hW (mX7_isLimit p1 s0 hC.2.2.2.2.2.2.2 rfl) cs_X7_194 rfl ⟨⟨rfl, rfl⟩, Nat.le_of_ble_eq_true rfl, Nat.le_of_ble_eq_true rfl⟩ (zlv_size hl) rfl (Nat.le_of_ble_eq_true rfl) dX7_begin_1 ⟨Nat.le_refl _, Nat.le_refl _⟩) (fun H locs hW => ?_)
  refine zi_if_ne (tgt := 10) hx hb dX7_begin_4 (by decide) hf (fun hc hf => ?_) (fun hc hf => ?_)
  · skip
    refine lv_bipush (v := (-2)) hx hb dX7_begin_7 (by decide) ?_
    exact zr_i hx hb hr hlk hW (zt1 hf) (zt2 hf) dX7_begin_9
  · skip
    refine lv_aload_n hx hb dX7_begin_10 rfl (lv_at hl 0 rfl) ?_
    refine zg_a (o := 0) hC hW fl_X7_12 zck_0_0 zcs_0_0 (show _ = 1 from rfl) dX7_begin_11 ?_
    refine zg_a (o := 6) hC hW fl_X7_68 (zE_k zEc_1) (zE_s zEc_1) (show _ = 8 from rfl) dX7_begin_14 ?_
    refine zg_i hC hW fl_X7_71 (zK_k zKc_8) (zK_s zKc_8) dX7_begin_17 ?_
    refine zi_if_eq (tgt := 26) hx hb dX7_begin_20 (by decide) hf (fun hc hf => ?_) (fun hc hf => ?_)
    · skip
      refine lv_aload_n hx hb dX7_begin_26 rfl (lv_at hl 0 rfl) ?_
      refine zg_a (o := 0) hC hW fl_X7_12 zck_0_0 zcs_0_0 (show _ = 1 from rfl) dX7_begin_27 ?_
      refine zg_a (o := 6) hC hW fl_X7_68 (zE_k zEc_1) (zE_s zEc_1) (show _ = 8 from rfl) dX7_begin_30 ?_
      refine lv_iload_n hx hb dX7_begin_33 rfl (lv_at hl 1 rfl) ?_
      obtain ⟨s2, hq, hf⟩ := zlt_o hf
      refine zc_v hW (zrun_v (As := [.int p1]) (rest := []) hC hW (mX2_start zKc_8 p1 s0 hC.2.2.2.2.2.2.2 hq) cv_X7_197 (zK_k zKc_8) (zK_s zKc_8) rfl ⟨⟨rfl, rfl⟩, Nat.le_of_ble_eq_true rfl, Nat.le_of_ble_eq_true rfl⟩ (zlv_size hl) rfl (Nat.le_of_ble_eq_true rfl) dX7_begin_34 ⟨Nat.le_refl _, Nat.le_refl _⟩) (fun H locs hW => ?_)
      refine lv_aload_n hx hb dX7_begin_37 rfl (lv_at hl 0 rfl) ?_
      refine zg_a (o := 0) hC hW fl_X7_12 zck_0_0 zcs_0_0 (show _ = 1 from rfl) dX7_begin_38 ?_
      refine zg_a (o := 0) hC hW fl_X7_74 (zE_k zEc_1) (zE_s zEc_1) (show _ = 2 from rfl) dX7_begin_41 ?_
      refine zg_i hC hW fl_X7_181 (zG_k zGc_2) (zG_s zGc_2) dX7_begin_44 ?_
      refine zc_i hW (zrun_s (As := [.int (s2.1 2 1)]) (rest := []) hC hW (mJ6_bitCount_0f7a4 (s2.1 2 1) s2 hC.2.2.2.2.2.2.2 rfl) cs_X7_201 rfl ⟨⟨rfl, rfl⟩, Nat.le_of_ble_eq_true rfl, Nat.le_of_ble_eq_true rfl⟩ (zlv_size hl) rfl (Nat.le_of_ble_eq_true rfl) dX7_begin_47 ⟨Nat.le_refl _, Nat.le_refl _⟩) (fun H locs hW => ?_)
      exact zr_i hx hb hr hlk hW (zt1 hf) (zt2 hf) dX7_begin_50
    · skip
      refine lv_bipush (v := (-3)) hx hb dX7_begin_23 (by decide) ?_
      exact zr_i hx hb hr hlk hW (zt1 hf) (zt2 hf) dX7_begin_25
set_option maxHeartbeats 4000000 in
set_option maxRecDepth 100000 in
theorem mX2_putCount {l : Launch} {D : va_G} {cI cJ : ClassId} {adr : Nat → Nat} {b : Nat} (kb : zK b) (p1 : Int32) (p2 : Int32) (s0 : zkS) {z : Nat} {so : zkS} (hI : zInj 0 adr) (hf : fX2_putCount b p1 p2 s0 = some so) : Met l yX2_putCount (Cond.code yX2_putCount cX2_putCount 3 none :: zTb) { frames := 1, cells := 0, slots := 0, locals := 20 } (zPre 0 D cI cJ adr s0 z [.ref (adr b), .int p1, .int p2]) (zQv 0 D cI cJ adr z so) 0 0 (zA 0 adr z) := by
  refine zen (cc := cX2_putCount) (own := RX2) (by decide +kernel) rfl hI (Nat.le_of_ble_eq_true rfl) (fun p e s m args below meth c ls hC hr hlk hz hl hW => ?_)
  subst hz
  obtain ⟨hx, hb, -⟩ := id hC
  have hl : lv_has ls 3 [(0, .ref (adr b)), (1, .int p1), (2, .int p2)] := hl
  refine zst hW (fun H locs hW => ?_)
  unfold fX2_putCount at hf
  refine lv_iload_n hx hb dX2_putCount_0 rfl (lv_at hl 1 rfl) ?_
  refine zc_i hW (zrun_n (As := [.int p1]) (rest := []) hC hW (mX7_bit p1 s0 hC.2.2.2.2.2.2.2 rfl) cn_X2_98 rfl ⟨⟨rfl, rfl⟩, Nat.le_of_ble_eq_true rfl, Nat.le_of_ble_eq_true rfl⟩ (zlv_size hl) rfl (Nat.le_of_ble_eq_true rfl) dX2_putCount_1 ⟨Nat.le_refl _, Nat.le_refl _⟩) (fun H locs hW => ?_)
  refine zi_if_eq (tgt := 14) hx hb dX2_putCount_4 (by decide) hf (fun hc hf => ?_) (fun hc hf => ?_)
  · skip
    exact zr_v hx hb hr hlk hW (Option.some.inj hf) dX2_putCount_14
  · skip
    refine lv_aload_n hx hb dX2_putCount_7 rfl (lv_at hl 0 rfl) ?_
    refine zg_a (o := 1) hC hW fl_X2_56 (zK_k kb) (zK_s kb) (show _ = (b + 2) from rfl) dX2_putCount_8 ?_
    refine lv_iload_n hx hb dX2_putCount_11 rfl (lv_at hl 1 rfl) ?_
    refine lv_iload_n hx hb dX2_putCount_12 rfl (lv_at hl 2 rfl) ?_
    refine za_s hC hW hf (zK_2 kb) dX2_putCount_13 (fun s2 H locs hf hW => ?_)
    exact zr_v hx hb hr hlk hW (Option.some.inj hf) dX2_putCount_14
set_option maxHeartbeats 4000000 in
set_option maxRecDepth 100000 in
theorem mX2_mark {l : Launch} {D : va_G} {cI cJ : ClassId} {adr : Nat → Nat} {b : Nat} (kb : zK b) (p1 : Int32) (s0 : zkS) {z : Nat} {so : zkS} (hI : zInj 0 adr) (hf : fX2_mark b p1 s0 = some so) : Met l yX2_mark (Cond.code yX2_mark cX2_mark 2 none :: zTb) { frames := 2, cells := 0, slots := 0, locals := 42 } (zPre 0 D cI cJ adr s0 z [.ref (adr b), .int p1]) (zQv 0 D cI cJ adr z so) 0 0 (zA 0 adr z) := by
  refine zen (cc := cX2_mark) (own := RX2) (by decide +kernel) rfl hI (Nat.le_of_ble_eq_true rfl) (fun p e s m args below meth c ls hC hr hlk hz hl hW => ?_)
  subst hz
  obtain ⟨hx, hb, -⟩ := id hC
  have hl : lv_has ls 2 [(0, .ref (adr b)), (1, .int p1)] := hl
  refine zst hW (fun H locs hW => ?_)
  unfold fX2_mark at hf
  refine lv_aload_n hx hb dX2_mark_0 rfl (lv_at hl 0 rfl) ?_
  refine lv_dup hx hb dX2_mark_1 rfl ?_
  refine zg_i hC hW fl_X2_18 (zK_k kb) (zK_s kb) dX2_mark_2 ?_
  refine lv_iload_n hx hb dX2_mark_5 rfl (lv_at hl 1 rfl) ?_
  refine zc_i hW (zrun_n (As := [.int p1]) (rest := [.int (s0.1 b 2), .ref (adr b)]) hC hW (mX7_bit p1 s0 hC.2.2.2.2.2.2.2 rfl) cn_X2_98 rfl ⟨⟨rfl, rfl⟩, Nat.le_of_ble_eq_true rfl, Nat.le_of_ble_eq_true rfl⟩ (zlv_size hl) rfl (Nat.le_of_ble_eq_true rfl) dX2_mark_6 ⟨Nat.le_refl _, Nat.le_refl _⟩) (fun H locs hW => ?_)
  refine lv_ior hx hb dX2_mark_9 ?_
  refine zp_i hC hW hf fp_X2_18 (zK_k kb) (zK_s kb) dX2_mark_10 (fun s2 H locs hf hW => ?_)
  refine lv_aload_n hx hb dX2_mark_13 rfl (lv_at hl 0 rfl) ?_
  refine lv_iload_n hx hb dX2_mark_14 rfl (lv_at hl 1 rfl) ?_
  refine lv_iconst (v := 0) hx hb dX2_mark_15 (by decide) ?_
  obtain ⟨s3, hq, hf⟩ := zb1_o hf
  refine zc_v hW (zrun_v (As := [.int p1, .int 0]) (rest := []) hC hW (mX2_putCount kb p1 0 s2 hC.2.2.2.2.2.2.2 hq) cv_X2_101 (zK_k kb) (zK_s kb) rfl ⟨⟨rfl, rfl⟩, Nat.le_of_ble_eq_true rfl, Nat.le_of_ble_eq_true rfl⟩ (zlv_size hl) rfl (Nat.le_of_ble_eq_true rfl) dX2_mark_16 ⟨Nat.le_refl _, Nat.le_refl _⟩) (fun H locs hW => ?_)
  exact zr_v hx hb hr hlk hW (Option.some.inj hf) dX2_mark_19
