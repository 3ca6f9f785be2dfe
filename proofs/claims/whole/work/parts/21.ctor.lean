theorem wq_70 : Cond.methodLink RX0 3 objectInit ∈ zTb := zmem 70 (by decide +kernel) rfl
theorem wq_57 : Cond.instanceMethod objectInit ∈ zTb := zmem 57 (by decide +kernel) rfl
theorem wq_58 : Cond.code objectInit ⟨#[0xb1]⟩ 1 none ∈ zTb := zmem 58 (by decide +kernel) rfl
theorem wq_103 : Cond.arrayClass .int ∈ zTb := zmem 103 (by decide +kernel) rfl
theorem ff_X0_21 : zFf RX0 21 0 3 (.array .int) := ⟨RX0, TX0, RX0, tyX0, rfl, iX0, wq_81, rfl, by decide, tyX0_ok, nmX0, rfl, rfl, by decide +kernel⟩
theorem ff_X0_25 : zFf RX0 25 0 4 (.array .int) := ⟨RX0, TX0, RX0, tyX0, rfl, iX0, wq_82, rfl, by decide, tyX0_ok, nmX0, rfl, rfl, by decide +kernel⟩
theorem ff_X0_28 : zFf RX0 28 0 5 (.array .int) := ⟨RX0, TX0, RX0, tyX0, rfl, iX0, wq_83, rfl, by decide, tyX0_ok, nmX0, rfl, rfl, by decide +kernel⟩
theorem ff_X0_31 : zFf RX0 31 0 6 (.array .int) := ⟨RX0, TX0, RX0, tyX0, rfl, iX0, wq_84, rfl, by decide, tyX0_ok, nmX0, rfl, rfl, by decide +kernel⟩
theorem ff_X0_34 : zFf RX0 34 0 7 (.array .int) := ⟨RX0, TX0, RX0, tyX0, rfl, iX0, wq_85, rfl, by decide, tyX0_ok, nmX0, rfl, rfl, by decide +kernel⟩
theorem wq_73 : Cond.code yJ7_fill_53178 cJ7_fill_53178 4 none ∈ zTb := zmem 73 (by decide +kernel) rfl
theorem wq_71 : Cond.methodLink RX0 37 yJ7_fill_53178 ∈ zTb := zmem 71 (by decide +kernel) rfl
theorem wq_72 : Cond.static yJ7_fill_53178 ∈ zTb := zmem 72 (by decide +kernel) rfl
theorem wi_J7 : Cond.initialized RJ7 ∈ zTb := zmem 41 (by decide +kernel) rfl
theorem wq_109 : Cond.methodLink RX2 3 objectInit ∈ zTb := zmem 109 (by decide +kernel) rfl
theorem ff_X2_52 : zFf RX2 52 2 13 (.array .int) := ⟨RX2, TX2, RX2, tyX2, rfl, iX2, wq_130, rfl, by decide, tyX2_ok, nmX2, rfl, rfl, by decide +kernel⟩
theorem ff_X2_56 : zFf RX2 56 2 14 (.array .int) := ⟨RX2, TX2, RX2, tyX2, rfl, iX2, wq_131, rfl, by decide, tyX2_ok, nmX2, rfl, rfl, by decide +kernel⟩
theorem wq_168 : Cond.methodLink RX3 3 objectInit ∈ zTb := zmem 168 (by decide +kernel) rfl
theorem ff_X3_15 : zFf RX3 15 3 1 (.array .int) := ⟨RX3, TX3, RX3, tyX3, rfl, iX3, wq_171, rfl, by decide, tyX3_ok, nmX3, rfl, rfl, by decide +kernel⟩
theorem wq_207 : Cond.methodLink RX1 3 objectInit ∈ zTb := zmem 207 (by decide +kernel) rfl
theorem ff_X1_9 : zFf RX1 9 1 0 (.array .int) := ⟨RX1, TX1, RX1, tyX1, rfl, iX1, wq_208, rfl, by decide, tyX1_ok, nmX1, rfl, rfl, by decide +kernel⟩
theorem wq_220 : Cond.methodLink RX6 3 objectInit ∈ zTb := zmem 220 (by decide +kernel) rfl
theorem ff_X6_21 : zFf RX6 21 6 3 (.array .int) := ⟨RX6, TX6, RX6, tyX6, rfl, iX6, wq_227, rfl, by decide, tyX6_ok, nmX6, rfl, rfl, by decide +kernel⟩
theorem ff_X6_25 : zFf RX6 25 6 4 (.array .int) := ⟨RX6, TX6, RX6, tyX6, rfl, iX6, wq_228, rfl, by decide, tyX6_ok, nmX6, rfl, rfl, by decide +kernel⟩
theorem ff_X6_28 : zFf RX6 28 6 5 (.array .int) := ⟨RX6, TX6, RX6, tyX6, rfl, iX6, wq_229, rfl, by decide, tyX6_ok, nmX6, rfl, rfl, by decide +kernel⟩
theorem ff_X6_31 : zFf RX6 31 6 6 (.array .int) := ⟨RX6, TX6, RX6, tyX6, rfl, iX6, wq_230, rfl, by decide, tyX6_ok, nmX6, rfl, rfl, by decide +kernel⟩
theorem wq_257 : Cond.methodLink RX5 3 objectInit ∈ zTb := zmem 257 (by decide +kernel) rfl
theorem ff_X5_9 : zFf RX5 9 5 0 (.array .int) := ⟨RX5, TX5, RX5, tyX5, rfl, iX5, wq_259, rfl, by decide, tyX5_ok, nmX5, rfl, rfl, by decide +kernel⟩
theorem ff_X5_15 : zFf RX5 15 5 1 (.array .int) := ⟨RX5, TX5, RX5, tyX5, rfl, iX5, wq_260, rfl, by decide, tyX5_ok, nmX5, rfl, rfl, by decide +kernel⟩
theorem wq_269 : Cond.arrayClass .long ∈ zTb := zmem 269 (by decide +kernel) rfl
theorem ff_X5_18 : zFf RX5 18 5 2 (.array .long) := ⟨RX5, TX5, RX5, tyX5, rfl, iX5, wq_261, rfl, by decide, tyX5_ok, nmX5, rfl, rfl, by decide +kernel⟩
theorem wq_258 : Cond.methodLink RX5 22 yJ7_fill_53178 ∈ zTb := zmem 258 (by decide +kernel) rfl
theorem wq_64 : Cond.methodLink RX4 1 objectInit ∈ zTb := zmem 64 (by decide +kernel) rfl
theorem wq_65 : Cond.classLink RX4 7 RX0 ∈ zTb := zmem 65 (by decide +kernel) rfl
theorem wq_66 : Cond.instantiable RX0 (znf 0) ∈ zTb := zmem 66 (by decide +kernel) rfl
theorem wi_0 : Cond.initialized RX0 ∈ zTb := zmem 40 (by decide +kernel) rfl
theorem nw_X4_7 : zNw RX4 7 0 := ⟨RX0, TX0, tyX0, rfl, iX0, wq_65, wq_66, wi_0, tyX0_ok, by decide +kernel⟩
theorem wq_69 : Cond.code yX0_init cX0_init 1 none ∈ zTb := zmem 69 (by decide +kernel) rfl
theorem wq_68 : Cond.instanceMethod yX0_init ∈ zTb := zmem 68 (by decide +kernel) rfl
theorem is_X4_9 : zIs RX4 9 yX0_init cX0_init 1 := ⟨zwsN wq_69, wq_40, wq_68, rfl, by decide +kernel, by decide +kernel, by decide +kernel⟩
theorem wq_67 : Cond.methodLink RX4 9 yX0_init ∈ zTb := zmem 67 (by decide +kernel) rfl
theorem ff_X4_10 : zFf RX4 10 4 0 (.object "ReversedLinks$Graph") := ⟨RX4, TX4, RX4, tyX4, rfl, iX4, wq_177, rfl, by decide, tyX4_ok, nmX4, rfl, rfl, by decide +kernel⟩
theorem wq_104 : Cond.classLink RX4 16 RX2 ∈ zTb := zmem 104 (by decide +kernel) rfl
theorem wq_105 : Cond.instantiable RX2 (znf 2) ∈ zTb := zmem 105 (by decide +kernel) rfl
theorem wi_2 : Cond.initialized RX2 ∈ zTb := zmem 42 (by decide +kernel) rfl
theorem nw_X4_16 : zNw RX4 16 2 := ⟨RX2, TX2, tyX2, rfl, iX2, wq_104, wq_105, wi_2, tyX2_ok, by decide +kernel⟩
theorem wq_108 : Cond.code yX2_init cX2_init 1 none ∈ zTb := zmem 108 (by decide +kernel) rfl
theorem wq_107 : Cond.instanceMethod yX2_init ∈ zTb := zmem 107 (by decide +kernel) rfl
theorem is_X4_18 : zIs RX4 18 yX2_init cX2_init 1 := ⟨zwsN wq_108, wq_42, wq_107, rfl, by decide +kernel, by decide +kernel, by decide +kernel⟩
theorem ff_X4_19 : zFf RX4 19 4 1 (.object "ReversedLinks$Marking") := ⟨RX4, TX4, RX4, tyX4, rfl, iX4, wq_179, rfl, by decide, tyX4_ok, nmX4, rfl, rfl, by decide +kernel⟩
theorem wq_163 : Cond.classLink RX4 23 RX3 ∈ zTb := zmem 163 (by decide +kernel) rfl
theorem wq_164 : Cond.instantiable RX3 (znf 3) ∈ zTb := zmem 164 (by decide +kernel) rfl
theorem wi_3 : Cond.initialized RX3 ∈ zTb := zmem 43 (by decide +kernel) rfl
theorem nw_X4_23 : zNw RX4 23 3 := ⟨RX3, TX3, tyX3, rfl, iX3, wq_163, wq_164, wi_3, tyX3_ok, by decide +kernel⟩
theorem wq_167 : Cond.code yX3_init cX3_init 1 none ∈ zTb := zmem 167 (by decide +kernel) rfl
theorem wq_166 : Cond.instanceMethod yX3_init ∈ zTb := zmem 166 (by decide +kernel) rfl
theorem is_X4_25 : zIs RX4 25 yX3_init cX3_init 1 := ⟨zwsN wq_167, wq_43, wq_166, rfl, by decide +kernel, by decide +kernel, by decide +kernel⟩
theorem ff_X4_26 : zFf RX4 26 4 2 (.object "ReversedLinks$Sheet") := ⟨RX4, TX4, RX4, tyX4, rfl, iX4, wq_181, rfl, by decide, tyX4_ok, nmX4, rfl, rfl, by decide +kernel⟩
theorem ff_X4_30 : zFf RX4 30 4 3 (.object "ReversedLinks$Sheet") := ⟨RX4, TX4, RX4, tyX4, rfl, iX4, wq_183, rfl, by decide, tyX4_ok, nmX4, rfl, rfl, by decide +kernel⟩
theorem ff_X4_33 : zFf RX4 33 4 4 (.object "ReversedLinks$Sheet") := ⟨RX4, TX4, RX4, tyX4, rfl, iX4, wq_185, rfl, by decide, tyX4_ok, nmX4, rfl, rfl, by decide +kernel⟩
theorem wq_56 : Cond.methodLink RX7 3 objectInit ∈ zTb := zmem 56 (by decide +kernel) rfl
theorem wq_59 : Cond.classLink RX7 9 RX4 ∈ zTb := zmem 59 (by decide +kernel) rfl
theorem wq_60 : Cond.instantiable RX4 (znf 4) ∈ zTb := zmem 60 (by decide +kernel) rfl
theorem wi_4 : Cond.initialized RX4 ∈ zTb := zmem 39 (by decide +kernel) rfl
theorem nw_X7_9 : zNw RX7 9 4 := ⟨RX4, TX4, tyX4, rfl, iX4, wq_59, wq_60, wi_4, tyX4_ok, by decide +kernel⟩
theorem wq_63 : Cond.code yX4_init cX4_init 1 none ∈ zTb := zmem 63 (by decide +kernel) rfl
theorem wq_62 : Cond.instanceMethod yX4_init ∈ zTb := zmem 62 (by decide +kernel) rfl
theorem is_X7_11 : zIs RX7 11 yX4_init cX4_init 1 := ⟨zwsN wq_63, wq_39, wq_62, rfl, by decide +kernel, by decide +kernel, by decide +kernel⟩
theorem ff_X7_12 : zFf RX7 12 7 0 (.object "ReversedLinks$State") := ⟨RX7, TX7, RX7, tyX7, rfl, iX7, wq_270, rfl, by decide, tyX7_ok, nmX7, rfl, rfl, by decide +kernel⟩
theorem ff_X7_18 : zFf RX7 18 7 1 (.object "ReversedLinks$State") := ⟨RX7, TX7, RX7, tyX7, rfl, iX7, wq_271, rfl, by decide, tyX7_ok, nmX7, rfl, rfl, by decide +kernel⟩
theorem wq_198 : Cond.classLink RX7 25 RX0 ∈ zTb := zmem 198 (by decide +kernel) rfl
theorem nw_X7_25 : zNw RX7 25 0 := ⟨RX0, TX0, tyX0, rfl, iX0, wq_198, wq_66, wi_0, tyX0_ok, by decide +kernel⟩
theorem is_X7_27 : zIs RX7 27 yX0_init cX0_init 1 := ⟨zwsN wq_69, wq_40, wq_68, rfl, by decide +kernel, by decide +kernel, by decide +kernel⟩
theorem wq_199 : Cond.methodLink RX7 27 yX0_init ∈ zTb := zmem 199 (by decide +kernel) rfl
theorem ff_X7_28 : zFf RX7 28 7 3 (.object "ReversedLinks$Graph") := ⟨RX7, TX7, RX7, tyX7, rfl, iX7, wq_273, rfl, by decide, tyX7_ok, nmX7, rfl, rfl, by decide +kernel⟩
theorem wq_200 : Cond.classLink RX7 32 RX2 ∈ zTb := zmem 200 (by decide +kernel) rfl
theorem nw_X7_32 : zNw RX7 32 2 := ⟨RX2, TX2, tyX2, rfl, iX2, wq_200, wq_105, wi_2, tyX2_ok, by decide +kernel⟩
theorem is_X7_34 : zIs RX7 34 yX2_init cX2_init 1 := ⟨zwsN wq_108, wq_42, wq_107, rfl, by decide +kernel, by decide +kernel, by decide +kernel⟩
theorem ff_X7_35 : zFf RX7 35 7 4 (.object "ReversedLinks$Marking") := ⟨RX7, TX7, RX7, tyX7, rfl, iX7, wq_274, rfl, by decide, tyX7_ok, nmX7, rfl, rfl, by decide +kernel⟩
theorem wq_202 : Cond.classLink RX7 39 RX1 ∈ zTb := zmem 202 (by decide +kernel) rfl
theorem wq_203 : Cond.instantiable RX1 (znf 1) ∈ zTb := zmem 203 (by decide +kernel) rfl
theorem wi_1 : Cond.initialized RX1 ∈ zTb := zmem 44 (by decide +kernel) rfl
theorem nw_X7_39 : zNw RX7 39 1 := ⟨RX1, TX1, tyX1, rfl, iX1, wq_202, wq_203, wi_1, tyX1_ok, by decide +kernel⟩
theorem wq_206 : Cond.code yX1_init cX1_init 1 none ∈ zTb := zmem 206 (by decide +kernel) rfl
theorem wq_205 : Cond.instanceMethod yX1_init ∈ zTb := zmem 205 (by decide +kernel) rfl
theorem is_X7_41 : zIs RX7 41 yX1_init cX1_init 1 := ⟨zwsN wq_206, wq_44, wq_205, rfl, by decide +kernel, by decide +kernel, by decide +kernel⟩
theorem ff_X7_42 : zFf RX7 42 7 5 (.object "ReversedLinks$Links") := ⟨RX7, TX7, RX7, tyX7, rfl, iX7, wq_275, rfl, by decide, tyX7_ok, nmX7, rfl, rfl, by decide +kernel⟩
theorem wq_215 : Cond.classLink RX7 46 RX6 ∈ zTb := zmem 215 (by decide +kernel) rfl
theorem wq_216 : Cond.instantiable RX6 (znf 6) ∈ zTb := zmem 216 (by decide +kernel) rfl
theorem wi_6 : Cond.initialized RX6 ∈ zTb := zmem 45 (by decide +kernel) rfl
theorem nw_X7_46 : zNw RX7 46 6 := ⟨RX6, TX6, tyX6, rfl, iX6, wq_215, wq_216, wi_6, tyX6_ok, by decide +kernel⟩
theorem wq_219 : Cond.code yX6_init cX6_init 1 none ∈ zTb := zmem 219 (by decide +kernel) rfl
theorem wq_218 : Cond.instanceMethod yX6_init ∈ zTb := zmem 218 (by decide +kernel) rfl
theorem is_X7_48 : zIs RX7 48 yX6_init cX6_init 1 := ⟨zwsN wq_219, wq_45, wq_218, rfl, by decide +kernel, by decide +kernel, by decide +kernel⟩
theorem ff_X7_49 : zFf RX7 49 7 6 (.object "ReversedLinks$Text") := ⟨RX7, TX7, RX7, tyX7, rfl, iX7, wq_276, rfl, by decide, tyX7_ok, nmX7, rfl, rfl, by decide +kernel⟩
theorem wq_252 : Cond.classLink RX7 53 RX5 ∈ zTb := zmem 252 (by decide +kernel) rfl
theorem wq_253 : Cond.instantiable RX5 (znf 5) ∈ zTb := zmem 253 (by decide +kernel) rfl
theorem wi_5 : Cond.initialized RX5 ∈ zTb := zmem 46 (by decide +kernel) rfl
theorem nw_X7_53 : zNw RX7 53 5 := ⟨RX5, TX5, tyX5, rfl, iX5, wq_252, wq_253, wi_5, tyX5_ok, by decide +kernel⟩
theorem wq_256 : Cond.code yX5_init cX5_init 1 none ∈ zTb := zmem 256 (by decide +kernel) rfl
theorem wq_255 : Cond.instanceMethod yX5_init ∈ zTb := zmem 255 (by decide +kernel) rfl
theorem is_X7_55 : zIs RX7 55 yX5_init cX5_init 1 := ⟨zwsN wq_256, wq_46, wq_255, rfl, by decide +kernel, by decide +kernel, by decide +kernel⟩
theorem wq_254 : Cond.methodLink RX7 55 yX5_init ∈ zTb := zmem 254 (by decide +kernel) rfl
theorem ff_X7_56 : zFf RX7 56 7 7 (.object "ReversedLinks$Tapes") := ⟨RX7, TX7, RX7, tyX7, rfl, iX7, wq_277, rfl, by decide, tyX7_ok, nmX7, rfl, rfl, by decide +kernel⟩
theorem wq_833 : Cond.methodLink RX8 5 objectInit ∈ zTb := zmem 833 (by decide +kernel) rfl
theorem ff_X8_11 : zFf RX8 11 8 0 (.array .int) := ⟨RX8, TX8, RX8, tyX8, rfl, iX8, wq_834, rfl, by decide, tyX8_ok, nmX8, rfl, rfl, by decide +kernel⟩
theorem ff_X8_15 : zFf RX8 15 8 1 (.array .int) := ⟨RX8, TX8, RX8, tyX8, rfl, iX8, wq_835, rfl, by decide, tyX8_ok, nmX8, rfl, rfl, by decide +kernel⟩
theorem ff_X8_18 : zFf RX8 18 8 2 (.array .int) := ⟨RX8, TX8, RX8, tyX8, rfl, iX8, wq_836, rfl, by decide, tyX8_ok, nmX8, rfl, rfl, by decide +kernel⟩
theorem ff_X8_21 : zFf RX8 21 8 4 (.array .int) := ⟨RX8, TX8, RX8, tyX8, rfl, iX8, wq_838, rfl, by decide, tyX8_ok, nmX8, rfl, rfl, by decide +kernel⟩
theorem ff_X8_24 : zFf RX8 24 8 6 (.array .int) := ⟨RX8, TX8, RX8, tyX8, rfl, iX8, wq_840, rfl, by decide, tyX8_ok, nmX8, rfl, rfl, by decide +kernel⟩
theorem ff_X8_27 : zFf RX8 27 8 7 (.array .int) := ⟨RX8, TX8, RX8, tyX8, rfl, iX8, wq_841, rfl, by decide, tyX8_ok, nmX8, rfl, rfl, by decide +kernel⟩
theorem ff_X8_30 : zFf RX8 30 8 8 (.array .int) := ⟨RX8, TX8, RX8, tyX8, rfl, iX8, wq_842, rfl, by decide, tyX8_ok, nmX8, rfl, rfl, by decide +kernel⟩
theorem ff_X8_33 : zFf RX8 33 8 9 (.array .int) := ⟨RX8, TX8, RX8, tyX8, rfl, iX8, wq_843, rfl, by decide, tyX8_ok, nmX8, rfl, rfl, by decide +kernel⟩
theorem ff_X8_36 : zFf RX8 36 8 10 (.array .int) := ⟨RX8, TX8, RX8, tyX8, rfl, iX8, wq_844, rfl, by decide, tyX8_ok, nmX8, rfl, rfl, by decide +kernel⟩
theorem ff_X8_39 : zFf RX8 39 8 11 (.array .int) := ⟨RX8, TX8, RX8, tyX8, rfl, iX8, wq_845, rfl, by decide, tyX8_ok, nmX8, rfl, rfl, by decide +kernel⟩
theorem ff_X8_42 : zFf RX8 42 8 12 (.array .int) := ⟨RX8, TX8, RX8, tyX8, rfl, iX8, wq_846, rfl, by decide, tyX8_ok, nmX8, rfl, rfl, by decide +kernel⟩
theorem ff_X8_45 : zFf RX8 45 8 17 (.array .int) := ⟨RX8, TX8, RX8, tyX8, rfl, iX8, wq_851, rfl, by decide, tyX8_ok, nmX8, rfl, rfl, by decide +kernel⟩
theorem ff_X8_48 : zFf RX8 48 8 18 (.array .int) := ⟨RX8, TX8, RX8, tyX8, rfl, iX8, wq_852, rfl, by decide, tyX8_ok, nmX8, rfl, rfl, by decide +kernel⟩
theorem ff_X8_51 : zFf RX8 51 8 19 (.array .long) := ⟨RX8, TX8, RX8, tyX8, rfl, iX8, wq_853, rfl, by decide, tyX8_ok, nmX8, rfl, rfl, by decide +kernel⟩
def zTmG (cI cJ : ClassId) (h : Nat) (w : va_W) : Prop := ∃ (q1 q2 q3 q4 q5 : Nat), w = ((h, .inr (0, [.int 0, .int 0, .int 0, .ref q1, .ref q2, .ref q3, .ref q4, .ref q5])) :: (((((([] : va_W) ++ [(q1, .inl (cI, 24, .inl (fun _ => 0)))]) ++ [(q2, .inl (cI, 24, .inl (fun _ => 0)))]) ++ [(q3, .inl (cI, 24, .inl (fun _ => 0)))]) ++ [(q4, .inl (cI, 144, .inl (fun _ => 0)))]) ++ [(q5, .inl (cI, 4, .inl (fun k => if k < 4 then (-5) else ((fun _ => 0) : Nat → Int32) k)))]))
set_option maxHeartbeats 4000000 in
set_option maxRecDepth 100000 in
theorem mX0_init {l : Launch} {D : va_G} {cI cJ : ClassId} : zCt l D cI cJ yX0_init cX0_init 1 { frames := 1, cells := 5, slots := 220, locals := 23 } 5 220 0 (zTmG cI cJ) := by
  refine zk_entry (own := RX0) (by decide +kernel) rfl (by decide) (fun h p e s m args below meth c ls hC hr hlk hin hl hV => ?_)
  have hx := hC.1
  have hb := hC.2.1
  have hin : meth.name = "<init>" := hin
  refine zk_st hV (fun H locs hV => ?_)
  have hV : zVo D (zB h s.heap.size) s ((h, .inr (0, [.int 0, .int 0, .int 0, .null, .null, .null, .null, .null])) :: ([] : va_W)) H locs := hV
  refine lv_aload_n hx hb dX0_init_0 rfl (lv_at hl 0 rfl) ?_
  refine zk_obj hC hl.1 wq_70 wq_57 wq_58 dX0_init_1 ⟨Nat.le_of_ble_eq_true rfl, Nat.le_of_ble_eq_true rfl⟩ ?_
  refine lv_aload_n hx hb dX0_init_4 rfl (lv_at hl 0 rfl) ?_
  refine lv_iconst (v := 0) hx hb dX0_init_5 (by decide) ?_
  refine zk_put (v := 0) hC hV fp_X0_9 rfl rfl (Nat.le_of_ble_eq_true rfl) dX0_init_6 (fun H locs hV => ?_)
  have hV : zVo D (zB h s.heap.size) s ((h, .inr (0, [.int 0, .int 0, .int 0, .null, .null, .null, .null, .null])) :: ([] : va_W)) H locs := hV
  refine lv_aload_n hx hb dX0_init_9 rfl (lv_at hl 0 rfl) ?_
  refine lv_iconst (v := 0) hx hb dX0_init_10 (by decide) ?_
  refine zk_put (v := 0) hC hV fp_X0_15 rfl rfl (Nat.le_of_ble_eq_true rfl) dX0_init_11 (fun H locs hV => ?_)
  have hV : zVo D (zB h s.heap.size) s ((h, .inr (0, [.int 0, .int 0, .int 0, .null, .null, .null, .null, .null])) :: ([] : va_W)) H locs := hV
  refine lv_aload_n hx hb dX0_init_14 rfl (lv_at hl 0 rfl) ?_
  refine lv_iconst (v := 0) hx hb dX0_init_15 (by decide) ?_
  refine zk_put (v := 0) hC hV fp_X0_18 rfl rfl (Nat.le_of_ble_eq_true rfl) dX0_init_16 (fun H locs hV => ?_)
  have hV : zVo D (zB h s.heap.size) s ((h, .inr (0, [.int 0, .int 0, .int 0, .null, .null, .null, .null, .null])) :: ([] : va_W)) H locs := hV
  refine lv_aload_n hx hb dX0_init_19 rfl (lv_at hl 0 rfl) ?_
  refine lv_bipush (v := 24) hx hb dX0_init_20 (by decide) ?_
  refine zk_arr (N := 24) hC hV wq_103 (by decide +kernel) (by decide +kernel) (Nat.le_of_ble_eq_true rfl) ⟨Nat.le_of_ble_eq_true rfl, Nat.le_of_ble_eq_true rfl⟩ dX0_init_22 (fun q1 H hV => ?_)
  have hV : zVo D (zB h s.heap.size) s ((h, .inr (0, [.int 0, .int 0, .int 0, .null, .null, .null, .null, .null])) :: (([] : va_W) ++ [(q1, .inl (cI, 24, .inl (fun _ => 0)))])) H locs := hV
  refine zk_putF hC hin hV ff_X0_21 rfl rfl (Nat.le_of_ble_eq_true rfl) dX0_init_24 (fun H locs hV => ?_)
  have hV : zVo D (zB h s.heap.size) s ((h, .inr (0, [.int 0, .int 0, .int 0, .ref q1, .null, .null, .null, .null])) :: (([] : va_W) ++ [(q1, .inl (cI, 24, .inl (fun _ => 0)))])) H locs := hV
  refine lv_aload_n hx hb dX0_init_27 rfl (lv_at hl 0 rfl) ?_
  refine lv_bipush (v := 24) hx hb dX0_init_28 (by decide) ?_
  refine zk_arr (N := 24) hC hV wq_103 (by decide +kernel) (by decide +kernel) (Nat.le_of_ble_eq_true rfl) ⟨Nat.le_of_ble_eq_true rfl, Nat.le_of_ble_eq_true rfl⟩ dX0_init_30 (fun q2 H hV => ?_)
  have hV : zVo D (zB h s.heap.size) s ((h, .inr (0, [.int 0, .int 0, .int 0, .ref q1, .null, .null, .null, .null])) :: ((([] : va_W) ++ [(q1, .inl (cI, 24, .inl (fun _ => 0)))]) ++ [(q2, .inl (cI, 24, .inl (fun _ => 0)))])) H locs := hV
  refine zk_putF hC hin hV ff_X0_25 rfl rfl (Nat.le_of_ble_eq_true rfl) dX0_init_32 (fun H locs hV => ?_)
  have hV : zVo D (zB h s.heap.size) s ((h, .inr (0, [.int 0, .int 0, .int 0, .ref q1, .ref q2, .null, .null, .null])) :: ((([] : va_W) ++ [(q1, .inl (cI, 24, .inl (fun _ => 0)))]) ++ [(q2, .inl (cI, 24, .inl (fun _ => 0)))])) H locs := hV
  refine lv_aload_n hx hb dX0_init_35 rfl (lv_at hl 0 rfl) ?_
  refine lv_bipush (v := 24) hx hb dX0_init_36 (by decide) ?_
  refine zk_arr (N := 24) hC hV wq_103 (by decide +kernel) (by decide +kernel) (Nat.le_of_ble_eq_true rfl) ⟨Nat.le_of_ble_eq_true rfl, Nat.le_of_ble_eq_true rfl⟩ dX0_init_38 (fun q3 H hV => ?_)
  have hV : zVo D (zB h s.heap.size) s ((h, .inr (0, [.int 0, .int 0, .int 0, .ref q1, .ref q2, .null, .null, .null])) :: (((([] : va_W) ++ [(q1, .inl (cI, 24, .inl (fun _ => 0)))]) ++ [(q2, .inl (cI, 24, .inl (fun _ => 0)))]) ++ [(q3, .inl (cI, 24, .inl (fun _ => 0)))])) H locs := hV
  refine zk_putF hC hin hV ff_X0_28 rfl rfl (Nat.le_of_ble_eq_true rfl) dX0_init_40 (fun H locs hV => ?_)
  have hV : zVo D (zB h s.heap.size) s ((h, .inr (0, [.int 0, .int 0, .int 0, .ref q1, .ref q2, .ref q3, .null, .null])) :: (((([] : va_W) ++ [(q1, .inl (cI, 24, .inl (fun _ => 0)))]) ++ [(q2, .inl (cI, 24, .inl (fun _ => 0)))]) ++ [(q3, .inl (cI, 24, .inl (fun _ => 0)))])) H locs := hV
  refine lv_aload_n hx hb dX0_init_43 rfl (lv_at hl 0 rfl) ?_
  refine lv_sipush (v := 144) hx hb dX0_init_44 (by decide) ?_
  refine zk_arr (N := 144) hC hV wq_103 (by decide +kernel) (by decide +kernel) (Nat.le_of_ble_eq_true rfl) ⟨Nat.le_of_ble_eq_true rfl, Nat.le_of_ble_eq_true rfl⟩ dX0_init_47 (fun q4 H hV => ?_)
  have hV : zVo D (zB h s.heap.size) s ((h, .inr (0, [.int 0, .int 0, .int 0, .ref q1, .ref q2, .ref q3, .null, .null])) :: ((((([] : va_W) ++ [(q1, .inl (cI, 24, .inl (fun _ => 0)))]) ++ [(q2, .inl (cI, 24, .inl (fun _ => 0)))]) ++ [(q3, .inl (cI, 24, .inl (fun _ => 0)))]) ++ [(q4, .inl (cI, 144, .inl (fun _ => 0)))])) H locs := hV
  refine zk_putF hC hin hV ff_X0_31 rfl rfl (Nat.le_of_ble_eq_true rfl) dX0_init_49 (fun H locs hV => ?_)
  have hV : zVo D (zB h s.heap.size) s ((h, .inr (0, [.int 0, .int 0, .int 0, .ref q1, .ref q2, .ref q3, .ref q4, .null])) :: ((((([] : va_W) ++ [(q1, .inl (cI, 24, .inl (fun _ => 0)))]) ++ [(q2, .inl (cI, 24, .inl (fun _ => 0)))]) ++ [(q3, .inl (cI, 24, .inl (fun _ => 0)))]) ++ [(q4, .inl (cI, 144, .inl (fun _ => 0)))])) H locs := hV
  refine lv_aload_n hx hb dX0_init_52 rfl (lv_at hl 0 rfl) ?_
  refine lv_iconst (v := 4) hx hb dX0_init_53 (by decide) ?_
  refine zk_arr (N := 4) hC hV wq_103 (by decide +kernel) (by decide +kernel) (Nat.le_of_ble_eq_true rfl) ⟨Nat.le_of_ble_eq_true rfl, Nat.le_of_ble_eq_true rfl⟩ dX0_init_54 (fun q5 H hV => ?_)
  have hV : zVo D (zB h s.heap.size) s ((h, .inr (0, [.int 0, .int 0, .int 0, .ref q1, .ref q2, .ref q3, .ref q4, .null])) :: (((((([] : va_W) ++ [(q1, .inl (cI, 24, .inl (fun _ => 0)))]) ++ [(q2, .inl (cI, 24, .inl (fun _ => 0)))]) ++ [(q3, .inl (cI, 24, .inl (fun _ => 0)))]) ++ [(q4, .inl (cI, 144, .inl (fun _ => 0)))]) ++ [(q5, .inl (cI, 4, .inl (fun _ => 0)))])) H locs := hV
  refine zk_putF hC hin hV ff_X0_34 rfl rfl (Nat.le_of_ble_eq_true rfl) dX0_init_56 (fun H locs hV => ?_)
  have hV : zVo D (zB h s.heap.size) s ((h, .inr (0, [.int 0, .int 0, .int 0, .ref q1, .ref q2, .ref q3, .ref q4, .ref q5])) :: (((((([] : va_W) ++ [(q1, .inl (cI, 24, .inl (fun _ => 0)))]) ++ [(q2, .inl (cI, 24, .inl (fun _ => 0)))]) ++ [(q3, .inl (cI, 24, .inl (fun _ => 0)))]) ++ [(q4, .inl (cI, 144, .inl (fun _ => 0)))]) ++ [(q5, .inl (cI, 4, .inl (fun _ => 0)))])) H locs := hV
  refine lv_aload_n hx hb dX0_init_59 rfl (lv_at hl 0 rfl) ?_
  refine zk_get hC hV fl_X0_34 rfl dX0_init_60 ?_
  refine lv_bipush (v := (-5)) hx hb dX0_init_63 (by decide) ?_
  refine zk_fill (a := q5) (n := 4) (f := fun _ => 0) (wr := [(h, .inr (0, [.int 0, .int 0, .int 0, .ref q1, .ref q2, .ref q3, .ref q4, .ref q5])), (q1, .inl (cI, 24, .inl (fun _ => 0))), (q2, .inl (cI, 24, .inl (fun _ => 0))), (q3, .inl (cI, 24, .inl (fun _ => 0))), (q4, .inl (cI, 144, .inl (fun _ => 0)))]) hC hV 5 [0, 1, 2, 3, 4] rfl rfl (by decide) (by decide) wq_71 wq_72 wi_J7 wq_73 (Nat.le_of_ble_eq_true rfl) ⟨Nat.le_of_ble_eq_true rfl, Nat.le_of_ble_eq_true rfl⟩ (zlv_size hl) (Nat.le_of_ble_eq_true rfl) dX0_init_65 ⟨Nat.le_refl _, Nat.le_refl _⟩ (fun H locs hP hD hS => ?_)
  have hV : zVo D (zB h s.heap.size) s ((h, .inr (0, [.int 0, .int 0, .int 0, .ref q1, .ref q2, .ref q3, .ref q4, .ref q5])) :: (((((([] : va_W) ++ [(q1, .inl (cI, 24, .inl (fun _ => 0)))]) ++ [(q2, .inl (cI, 24, .inl (fun _ => 0)))]) ++ [(q3, .inl (cI, 24, .inl (fun _ => 0)))]) ++ [(q4, .inl (cI, 144, .inl (fun _ => 0)))]) ++ [(q5, .inl (cI, 4, .inl (fun k => if k < 4 then (-5) else ((fun _ => 0) : Nat → Int32) k)))])) H locs := ⟨hP.sub [0, 1, 2, 3, 4, 5] rfl, hD.sub [0, 1, 2, 3, 4, 5] (by decide) rfl, hS, hV.2.2.2⟩
  exact zk_end hC hr hlk hV ⟨q1, q2, q3, q4, q5, rfl⟩ dX0_init_68
def zTmK (cI cJ : ClassId) (h : Nat) (w : va_W) : Prop := ∃ (q1 q2 : Nat), w = ((h, .inr (2, [.int 0, .int 0, .int 0, .int 0, .int (-5), .int 0, .int 0, .int 0, .int 0, .int 0, .int 0, .int 0, .int 0, .ref q1, .ref q2])) :: ((([] : va_W) ++ [(q1, .inl (cI, 24, .inl (fun _ => 0)))]) ++ [(q2, .inl (cI, 24, .inl (fun _ => 0)))]))
set_option maxHeartbeats 4000000 in
set_option maxRecDepth 100000 in
theorem mX2_init {l : Launch} {D : va_G} {cI cJ : ClassId} : zCt l D cI cJ yX2_init cX2_init 1 { frames := 1, cells := 2, slots := 48, locals := 12 } 2 48 2 (zTmK cI cJ) := by
  refine zk_entry (own := RX2) (by decide +kernel) rfl (by decide) (fun h p e s m args below meth c ls hC hr hlk hin hl hV => ?_)
  have hx := hC.1
  have hb := hC.2.1
  have hin : meth.name = "<init>" := hin
  refine zk_st hV (fun H locs hV => ?_)
  have hV : zVo D (zB h s.heap.size) s ((h, .inr (2, [.int 0, .int 0, .int 0, .int 0, .int 0, .int 0, .int 0, .int 0, .int 0, .int 0, .int 0, .int 0, .int 0, .null, .null])) :: ([] : va_W)) H locs := hV
  refine lv_aload_n hx hb dX2_init_0 rfl (lv_at hl 0 rfl) ?_
  refine zk_obj hC hl.1 wq_109 wq_57 wq_58 dX2_init_1 ⟨Nat.le_of_ble_eq_true rfl, Nat.le_of_ble_eq_true rfl⟩ ?_
  refine lv_aload_n hx hb dX2_init_4 rfl (lv_at hl 0 rfl) ?_
  refine lv_iconst (v := 0) hx hb dX2_init_5 (by decide) ?_
  refine zk_put (v := 0) hC hV fp_X2_9 (z01 (v := 0) (by decide)).1 (z01 (v := 0) (by decide)).2 (Nat.le_of_ble_eq_true rfl) dX2_init_6 (fun H locs hV => ?_)
  have hV : zVo D (zB h s.heap.size) s ((h, .inr (2, [.int 0, .int 0, .int 0, .int 0, .int 0, .int 0, .int 0, .int 0, .int 0, .int 0, .int 0, .int 0, .int 0, .null, .null])) :: ([] : va_W)) H locs := hV
  refine lv_aload_n hx hb dX2_init_9 rfl (lv_at hl 0 rfl) ?_
  refine lv_iconst (v := 0) hx hb dX2_init_10 (by decide) ?_
  refine zk_put (v := 0) hC hV fp_X2_15 (z01 (v := 0) (by decide)).1 (z01 (v := 0) (by decide)).2 (Nat.le_of_ble_eq_true rfl) dX2_init_11 (fun H locs hV => ?_)
  have hV : zVo D (zB h s.heap.size) s ((h, .inr (2, [.int 0, .int 0, .int 0, .int 0, .int 0, .int 0, .int 0, .int 0, .int 0, .int 0, .int 0, .int 0, .int 0, .null, .null])) :: ([] : va_W)) H locs := hV
  refine lv_aload_n hx hb dX2_init_14 rfl (lv_at hl 0 rfl) ?_
  refine lv_iconst (v := 0) hx hb dX2_init_15 (by decide) ?_
  refine zk_put (v := 0) hC hV fp_X2_18 rfl rfl (Nat.le_of_ble_eq_true rfl) dX2_init_16 (fun H locs hV => ?_)
  have hV : zVo D (zB h s.heap.size) s ((h, .inr (2, [.int 0, .int 0, .int 0, .int 0, .int 0, .int 0, .int 0, .int 0, .int 0, .int 0, .int 0, .int 0, .int 0, .null, .null])) :: ([] : va_W)) H locs := hV
  refine lv_aload_n hx hb dX2_init_19 rfl (lv_at hl 0 rfl) ?_
  refine lv_iconst (v := 0) hx hb dX2_init_20 (by decide) ?_
  refine zk_put (v := 0) hC hV fp_X2_22 rfl rfl (Nat.le_of_ble_eq_true rfl) dX2_init_21 (fun H locs hV => ?_)
  have hV : zVo D (zB h s.heap.size) s ((h, .inr (2, [.int 0, .int 0, .int 0, .int 0, .int 0, .int 0, .int 0, .int 0, .int 0, .int 0, .int 0, .int 0, .int 0, .null, .null])) :: ([] : va_W)) H locs := hV
  refine lv_aload_n hx hb dX2_init_24 rfl (lv_at hl 0 rfl) ?_
  refine lv_bipush (v := (-5)) hx hb dX2_init_25 (by decide) ?_
  refine zk_put (v := (-5)) hC hV fp_X2_25 rfl rfl (Nat.le_of_ble_eq_true rfl) dX2_init_27 (fun H locs hV => ?_)
  have hV : zVo D (zB h s.heap.size) s ((h, .inr (2, [.int 0, .int 0, .int 0, .int 0, .int (-5), .int 0, .int 0, .int 0, .int 0, .int 0, .int 0, .int 0, .int 0, .null, .null])) :: ([] : va_W)) H locs := hV
  refine lv_aload_n hx hb dX2_init_30 rfl (lv_at hl 0 rfl) ?_
  refine lv_iconst (v := 0) hx hb dX2_init_31 (by decide) ?_
  refine zk_put (v := 0) hC hV fp_X2_28 rfl rfl (Nat.le_of_ble_eq_true rfl) dX2_init_32 (fun H locs hV => ?_)
  have hV : zVo D (zB h s.heap.size) s ((h, .inr (2, [.int 0, .int 0, .int 0, .int 0, .int (-5), .int 0, .int 0, .int 0, .int 0, .int 0, .int 0, .int 0, .int 0, .null, .null])) :: ([] : va_W)) H locs := hV
  refine lv_aload_n hx hb dX2_init_35 rfl (lv_at hl 0 rfl) ?_
  refine lv_iconst (v := 0) hx hb dX2_init_36 (by decide) ?_
  refine zk_put (v := 0) hC hV fp_X2_31 rfl rfl (Nat.le_of_ble_eq_true rfl) dX2_init_37 (fun H locs hV => ?_)
  have hV : zVo D (zB h s.heap.size) s ((h, .inr (2, [.int 0, .int 0, .int 0, .int 0, .int (-5), .int 0, .int 0, .int 0, .int 0, .int 0, .int 0, .int 0, .int 0, .null, .null])) :: ([] : va_W)) H locs := hV
  refine lv_aload_n hx hb dX2_init_40 rfl (lv_at hl 0 rfl) ?_
  refine lv_iconst (v := 0) hx hb dX2_init_41 (by decide) ?_
  refine zk_put (v := 0) hC hV fp_X2_34 rfl rfl (Nat.le_of_ble_eq_true rfl) dX2_init_42 (fun H locs hV => ?_)
  have hV : zVo D (zB h s.heap.size) s ((h, .inr (2, [.int 0, .int 0, .int 0, .int 0, .int (-5), .int 0, .int 0, .int 0, .int 0, .int 0, .int 0, .int 0, .int 0, .null, .null])) :: ([] : va_W)) H locs := hV
  refine lv_aload_n hx hb dX2_init_45 rfl (lv_at hl 0 rfl) ?_
  refine lv_iconst (v := 0) hx hb dX2_init_46 (by decide) ?_
  refine zk_put (v := 0) hC hV fp_X2_37 rfl rfl (Nat.le_of_ble_eq_true rfl) dX2_init_47 (fun H locs hV => ?_)
  have hV : zVo D (zB h s.heap.size) s ((h, .inr (2, [.int 0, .int 0, .int 0, .int 0, .int (-5), .int 0, .int 0, .int 0, .int 0, .int 0, .int 0, .int 0, .int 0, .null, .null])) :: ([] : va_W)) H locs := hV
  refine lv_aload_n hx hb dX2_init_50 rfl (lv_at hl 0 rfl) ?_
  refine lv_iconst (v := 0) hx hb dX2_init_51 (by decide) ?_
  refine zk_put (v := 0) hC hV fp_X2_40 rfl rfl (Nat.le_of_ble_eq_true rfl) dX2_init_52 (fun H locs hV => ?_)
  have hV : zVo D (zB h s.heap.size) s ((h, .inr (2, [.int 0, .int 0, .int 0, .int 0, .int (-5), .int 0, .int 0, .int 0, .int 0, .int 0, .int 0, .int 0, .int 0, .null, .null])) :: ([] : va_W)) H locs := hV
  refine lv_aload_n hx hb dX2_init_55 rfl (lv_at hl 0 rfl) ?_
  refine lv_iconst (v := 0) hx hb dX2_init_56 (by decide) ?_
  refine zk_put (v := 0) hC hV fp_X2_43 rfl rfl (Nat.le_of_ble_eq_true rfl) dX2_init_57 (fun H locs hV => ?_)
  have hV : zVo D (zB h s.heap.size) s ((h, .inr (2, [.int 0, .int 0, .int 0, .int 0, .int (-5), .int 0, .int 0, .int 0, .int 0, .int 0, .int 0, .int 0, .int 0, .null, .null])) :: ([] : va_W)) H locs := hV
  refine lv_aload_n hx hb dX2_init_60 rfl (lv_at hl 0 rfl) ?_
  refine lv_iconst (v := 0) hx hb dX2_init_61 (by decide) ?_
  refine zk_put (v := 0) hC hV fp_X2_46 rfl rfl (Nat.le_of_ble_eq_true rfl) dX2_init_62 (fun H locs hV => ?_)
  have hV : zVo D (zB h s.heap.size) s ((h, .inr (2, [.int 0, .int 0, .int 0, .int 0, .int (-5), .int 0, .int 0, .int 0, .int 0, .int 0, .int 0, .int 0, .int 0, .null, .null])) :: ([] : va_W)) H locs := hV
  refine lv_aload_n hx hb dX2_init_65 rfl (lv_at hl 0 rfl) ?_
  refine lv_iconst (v := 0) hx hb dX2_init_66 (by decide) ?_
  refine zk_put (v := 0) hC hV fp_X2_49 rfl rfl (Nat.le_of_ble_eq_true rfl) dX2_init_67 (fun H locs hV => ?_)
  have hV : zVo D (zB h s.heap.size) s ((h, .inr (2, [.int 0, .int 0, .int 0, .int 0, .int (-5), .int 0, .int 0, .int 0, .int 0, .int 0, .int 0, .int 0, .int 0, .null, .null])) :: ([] : va_W)) H locs := hV
  refine lv_aload_n hx hb dX2_init_70 rfl (lv_at hl 0 rfl) ?_
  refine lv_bipush (v := 24) hx hb dX2_init_71 (by decide) ?_
  refine zk_arr (N := 24) hC hV wq_103 (by decide +kernel) (by decide +kernel) (Nat.le_of_ble_eq_true rfl) ⟨Nat.le_of_ble_eq_true rfl, Nat.le_of_ble_eq_true rfl⟩ dX2_init_73 (fun q1 H hV => ?_)
  have hV : zVo D (zB h s.heap.size) s ((h, .inr (2, [.int 0, .int 0, .int 0, .int 0, .int (-5), .int 0, .int 0, .int 0, .int 0, .int 0, .int 0, .int 0, .int 0, .null, .null])) :: (([] : va_W) ++ [(q1, .inl (cI, 24, .inl (fun _ => 0)))])) H locs := hV
  refine zk_putF hC hin hV ff_X2_52 rfl rfl (Nat.le_of_ble_eq_true rfl) dX2_init_75 (fun H locs hV => ?_)
  have hV : zVo D (zB h s.heap.size) s ((h, .inr (2, [.int 0, .int 0, .int 0, .int 0, .int (-5), .int 0, .int 0, .int 0, .int 0, .int 0, .int 0, .int 0, .int 0, .ref q1, .null])) :: (([] : va_W) ++ [(q1, .inl (cI, 24, .inl (fun _ => 0)))])) H locs := hV
  refine lv_aload_n hx hb dX2_init_78 rfl (lv_at hl 0 rfl) ?_
  refine lv_bipush (v := 24) hx hb dX2_init_79 (by decide) ?_
  refine zk_arr (N := 24) hC hV wq_103 (by decide +kernel) (by decide +kernel) (Nat.le_of_ble_eq_true rfl) ⟨Nat.le_of_ble_eq_true rfl, Nat.le_of_ble_eq_true rfl⟩ dX2_init_81 (fun q2 H hV => ?_)
  have hV : zVo D (zB h s.heap.size) s ((h, .inr (2, [.int 0, .int 0, .int 0, .int 0, .int (-5), .int 0, .int 0, .int 0, .int 0, .int 0, .int 0, .int 0, .int 0, .ref q1, .null])) :: ((([] : va_W) ++ [(q1, .inl (cI, 24, .inl (fun _ => 0)))]) ++ [(q2, .inl (cI, 24, .inl (fun _ => 0)))])) H locs := hV
  refine zk_putF hC hin hV ff_X2_56 rfl rfl (Nat.le_of_ble_eq_true rfl) dX2_init_83 (fun H locs hV => ?_)
  have hV : zVo D (zB h s.heap.size) s ((h, .inr (2, [.int 0, .int 0, .int 0, .int 0, .int (-5), .int 0, .int 0, .int 0, .int 0, .int 0, .int 0, .int 0, .int 0, .ref q1, .ref q2])) :: ((([] : va_W) ++ [(q1, .inl (cI, 24, .inl (fun _ => 0)))]) ++ [(q2, .inl (cI, 24, .inl (fun _ => 0)))])) H locs := hV
  exact zk_end hC hr hlk hV ⟨q1, q2, rfl⟩ dX2_init_86
def zTmH (cI cJ : ClassId) (h : Nat) (w : va_W) : Prop := ∃ (q1 : Nat), w = ((h, .inr (3, [.int 0, .ref q1])) :: (([] : va_W) ++ [(q1, .inl (cI, 30, .inl (fun _ => 0)))]))
set_option maxHeartbeats 4000000 in
set_option maxRecDepth 100000 in
theorem mX3_init {l : Launch} {D : va_G} {cI cJ : ClassId} : zCt l D cI cJ yX3_init cX3_init 1 { frames := 1, cells := 1, slots := 30, locals := 12 } 1 30 3 (zTmH cI cJ) := by
  refine zk_entry (own := RX3) (by decide +kernel) rfl (by decide) (fun h p e s m args below meth c ls hC hr hlk hin hl hV => ?_)
  have hx := hC.1
  have hb := hC.2.1
  have hin : meth.name = "<init>" := hin
  refine zk_st hV (fun H locs hV => ?_)
  have hV : zVo D (zB h s.heap.size) s ((h, .inr (3, [.int 0, .null])) :: ([] : va_W)) H locs := hV
  refine lv_aload_n hx hb dX3_init_0 rfl (lv_at hl 0 rfl) ?_
  refine zk_obj hC hl.1 wq_168 wq_57 wq_58 dX3_init_1 ⟨Nat.le_of_ble_eq_true rfl, Nat.le_of_ble_eq_true rfl⟩ ?_
  refine lv_aload_n hx hb dX3_init_4 rfl (lv_at hl 0 rfl) ?_
  refine lv_iconst (v := 0) hx hb dX3_init_5 (by decide) ?_
  refine zk_put (v := 0) hC hV fp_X3_9 rfl rfl (Nat.le_of_ble_eq_true rfl) dX3_init_6 (fun H locs hV => ?_)
  have hV : zVo D (zB h s.heap.size) s ((h, .inr (3, [.int 0, .null])) :: ([] : va_W)) H locs := hV
  refine lv_aload_n hx hb dX3_init_9 rfl (lv_at hl 0 rfl) ?_
  refine lv_bipush (v := 30) hx hb dX3_init_10 (by decide) ?_
  refine zk_arr (N := 30) hC hV wq_103 (by decide +kernel) (by decide +kernel) (Nat.le_of_ble_eq_true rfl) ⟨Nat.le_of_ble_eq_true rfl, Nat.le_of_ble_eq_true rfl⟩ dX3_init_12 (fun q1 H hV => ?_)
  have hV : zVo D (zB h s.heap.size) s ((h, .inr (3, [.int 0, .null])) :: (([] : va_W) ++ [(q1, .inl (cI, 30, .inl (fun _ => 0)))])) H locs := hV
  refine zk_putF hC hin hV ff_X3_15 rfl rfl (Nat.le_of_ble_eq_true rfl) dX3_init_14 (fun H locs hV => ?_)
  have hV : zVo D (zB h s.heap.size) s ((h, .inr (3, [.int 0, .ref q1])) :: (([] : va_W) ++ [(q1, .inl (cI, 30, .inl (fun _ => 0)))])) H locs := hV
  exact zk_end hC hr hlk hV ⟨q1, rfl⟩ dX3_init_17
def zTmL (cI cJ : ClassId) (h : Nat) (w : va_W) : Prop := ∃ (q1 : Nat), w = ((h, .inr (1, [.ref q1, .int 0])) :: (([] : va_W) ++ [(q1, .inl (cI, 24, .inl (fun _ => 0)))]))
set_option maxHeartbeats 4000000 in
set_option maxRecDepth 100000 in
theorem mX1_init {l : Launch} {D : va_G} {cI cJ : ClassId} : zCt l D cI cJ yX1_init cX1_init 1 { frames := 1, cells := 1, slots := 24, locals := 12 } 1 24 1 (zTmL cI cJ) := by
  refine zk_entry (own := RX1) (by decide +kernel) rfl (by decide) (fun h p e s m args below meth c ls hC hr hlk hin hl hV => ?_)
  have hx := hC.1
  have hb := hC.2.1
  have hin : meth.name = "<init>" := hin
  refine zk_st hV (fun H locs hV => ?_)
  have hV : zVo D (zB h s.heap.size) s ((h, .inr (1, [.null, .int 0])) :: ([] : va_W)) H locs := hV
  refine lv_aload_n hx hb dX1_init_0 rfl (lv_at hl 0 rfl) ?_
  refine zk_obj hC hl.1 wq_207 wq_57 wq_58 dX1_init_1 ⟨Nat.le_of_ble_eq_true rfl, Nat.le_of_ble_eq_true rfl⟩ ?_
  refine lv_aload_n hx hb dX1_init_4 rfl (lv_at hl 0 rfl) ?_
  refine lv_bipush (v := 24) hx hb dX1_init_5 (by decide) ?_
  refine zk_arr (N := 24) hC hV wq_103 (by decide +kernel) (by decide +kernel) (Nat.le_of_ble_eq_true rfl) ⟨Nat.le_of_ble_eq_true rfl, Nat.le_of_ble_eq_true rfl⟩ dX1_init_7 (fun q1 H hV => ?_)
  have hV : zVo D (zB h s.heap.size) s ((h, .inr (1, [.null, .int 0])) :: (([] : va_W) ++ [(q1, .inl (cI, 24, .inl (fun _ => 0)))])) H locs := hV
  refine zk_putF hC hin hV ff_X1_9 rfl rfl (Nat.le_of_ble_eq_true rfl) dX1_init_9 (fun H locs hV => ?_)
  have hV : zVo D (zB h s.heap.size) s ((h, .inr (1, [.ref q1, .int 0])) :: (([] : va_W) ++ [(q1, .inl (cI, 24, .inl (fun _ => 0)))])) H locs := hV
  refine lv_aload_n hx hb dX1_init_12 rfl (lv_at hl 0 rfl) ?_
  refine lv_iconst (v := 0) hx hb dX1_init_13 (by decide) ?_
  refine zk_put (v := 0) hC hV fp_X1_15 rfl rfl (Nat.le_of_ble_eq_true rfl) dX1_init_14 (fun H locs hV => ?_)
  have hV : zVo D (zB h s.heap.size) s ((h, .inr (1, [.ref q1, .int 0])) :: (([] : va_W) ++ [(q1, .inl (cI, 24, .inl (fun _ => 0)))])) H locs := hV
  exact zk_end hC hr hlk hV ⟨q1, rfl⟩ dX1_init_17
def zTmX (cI cJ : ClassId) (h : Nat) (w : va_W) : Prop := ∃ (q1 q2 q3 q4 : Nat), w = ((h, .inr (6, [.int 0, .int 0, .int (-5), .ref q1, .ref q2, .ref q3, .ref q4, .int 0, .int 1])) :: ((((([] : va_W) ++ [(q1, .inl (cI, 100, .inl (fun _ => 0)))]) ++ [(q2, .inl (cI, 6, .inl (fun _ => 0)))]) ++ [(q3, .inl (cI, 6, .inl (fun _ => 0)))]) ++ [(q4, .inl (cI, 6, .inl (fun _ => 0)))]))
set_option maxHeartbeats 4000000 in
set_option maxRecDepth 100000 in
theorem mX6_init {l : Launch} {D : va_G} {cI cJ : ClassId} : zCt l D cI cJ yX6_init cX6_init 1 { frames := 1, cells := 4, slots := 118, locals := 12 } 4 118 6 (zTmX cI cJ) := by
  refine zk_entry (own := RX6) (by decide +kernel) rfl (by decide) (fun h p e s m args below meth c ls hC hr hlk hin hl hV => ?_)
  have hx := hC.1
  have hb := hC.2.1
  have hin : meth.name = "<init>" := hin
  refine zk_st hV (fun H locs hV => ?_)
  have hV : zVo D (zB h s.heap.size) s ((h, .inr (6, [.int 0, .int 0, .int 0, .null, .null, .null, .null, .int 0, .int 0])) :: ([] : va_W)) H locs := hV
  refine lv_aload_n hx hb dX6_init_0 rfl (lv_at hl 0 rfl) ?_
  refine zk_obj hC hl.1 wq_220 wq_57 wq_58 dX6_init_1 ⟨Nat.le_of_ble_eq_true rfl, Nat.le_of_ble_eq_true rfl⟩ ?_
  refine lv_aload_n hx hb dX6_init_4 rfl (lv_at hl 0 rfl) ?_
  refine lv_iconst (v := 0) hx hb dX6_init_5 (by decide) ?_
  refine zk_put (v := 0) hC hV fp_X6_9 rfl rfl (Nat.le_of_ble_eq_true rfl) dX6_init_6 (fun H locs hV => ?_)
  have hV : zVo D (zB h s.heap.size) s ((h, .inr (6, [.int 0, .int 0, .int 0, .null, .null, .null, .null, .int 0, .int 0])) :: ([] : va_W)) H locs := hV
  refine lv_aload_n hx hb dX6_init_9 rfl (lv_at hl 0 rfl) ?_
  refine lv_iconst (v := 0) hx hb dX6_init_10 (by decide) ?_
  refine zk_put (v := 0) hC hV fp_X6_15 rfl rfl (Nat.le_of_ble_eq_true rfl) dX6_init_11 (fun H locs hV => ?_)
  have hV : zVo D (zB h s.heap.size) s ((h, .inr (6, [.int 0, .int 0, .int 0, .null, .null, .null, .null, .int 0, .int 0])) :: ([] : va_W)) H locs := hV
  refine lv_aload_n hx hb dX6_init_14 rfl (lv_at hl 0 rfl) ?_
  refine lv_bipush (v := (-5)) hx hb dX6_init_15 (by decide) ?_
  refine zk_put (v := (-5)) hC hV fp_X6_18 rfl rfl (Nat.le_of_ble_eq_true rfl) dX6_init_17 (fun H locs hV => ?_)
  have hV : zVo D (zB h s.heap.size) s ((h, .inr (6, [.int 0, .int 0, .int (-5), .null, .null, .null, .null, .int 0, .int 0])) :: ([] : va_W)) H locs := hV
  refine lv_aload_n hx hb dX6_init_20 rfl (lv_at hl 0 rfl) ?_
  refine lv_bipush (v := 100) hx hb dX6_init_21 (by decide) ?_
  refine zk_arr (N := 100) hC hV wq_103 (by decide +kernel) (by decide +kernel) (Nat.le_of_ble_eq_true rfl) ⟨Nat.le_of_ble_eq_true rfl, Nat.le_of_ble_eq_true rfl⟩ dX6_init_23 (fun q1 H hV => ?_)
  have hV : zVo D (zB h s.heap.size) s ((h, .inr (6, [.int 0, .int 0, .int (-5), .null, .null, .null, .null, .int 0, .int 0])) :: (([] : va_W) ++ [(q1, .inl (cI, 100, .inl (fun _ => 0)))])) H locs := hV
  refine zk_putF hC hin hV ff_X6_21 rfl rfl (Nat.le_of_ble_eq_true rfl) dX6_init_25 (fun H locs hV => ?_)
  have hV : zVo D (zB h s.heap.size) s ((h, .inr (6, [.int 0, .int 0, .int (-5), .ref q1, .null, .null, .null, .int 0, .int 0])) :: (([] : va_W) ++ [(q1, .inl (cI, 100, .inl (fun _ => 0)))])) H locs := hV
  refine lv_aload_n hx hb dX6_init_28 rfl (lv_at hl 0 rfl) ?_
  refine lv_bipush (v := 6) hx hb dX6_init_29 (by decide) ?_
  refine zk_arr (N := 6) hC hV wq_103 (by decide +kernel) (by decide +kernel) (Nat.le_of_ble_eq_true rfl) ⟨Nat.le_of_ble_eq_true rfl, Nat.le_of_ble_eq_true rfl⟩ dX6_init_31 (fun q2 H hV => ?_)
  have hV : zVo D (zB h s.heap.size) s ((h, .inr (6, [.int 0, .int 0, .int (-5), .ref q1, .null, .null, .null, .int 0, .int 0])) :: ((([] : va_W) ++ [(q1, .inl (cI, 100, .inl (fun _ => 0)))]) ++ [(q2, .inl (cI, 6, .inl (fun _ => 0)))])) H locs := hV
  refine zk_putF hC hin hV ff_X6_25 rfl rfl (Nat.le_of_ble_eq_true rfl) dX6_init_33 (fun H locs hV => ?_)
  have hV : zVo D (zB h s.heap.size) s ((h, .inr (6, [.int 0, .int 0, .int (-5), .ref q1, .ref q2, .null, .null, .int 0, .int 0])) :: ((([] : va_W) ++ [(q1, .inl (cI, 100, .inl (fun _ => 0)))]) ++ [(q2, .inl (cI, 6, .inl (fun _ => 0)))])) H locs := hV
  refine lv_aload_n hx hb dX6_init_36 rfl (lv_at hl 0 rfl) ?_
  refine lv_bipush (v := 6) hx hb dX6_init_37 (by decide) ?_
  refine zk_arr (N := 6) hC hV wq_103 (by decide +kernel) (by decide +kernel) (Nat.le_of_ble_eq_true rfl) ⟨Nat.le_of_ble_eq_true rfl, Nat.le_of_ble_eq_true rfl⟩ dX6_init_39 (fun q3 H hV => ?_)
  have hV : zVo D (zB h s.heap.size) s ((h, .inr (6, [.int 0, .int 0, .int (-5), .ref q1, .ref q2, .null, .null, .int 0, .int 0])) :: (((([] : va_W) ++ [(q1, .inl (cI, 100, .inl (fun _ => 0)))]) ++ [(q2, .inl (cI, 6, .inl (fun _ => 0)))]) ++ [(q3, .inl (cI, 6, .inl (fun _ => 0)))])) H locs := hV
  refine zk_putF hC hin hV ff_X6_28 rfl rfl (Nat.le_of_ble_eq_true rfl) dX6_init_41 (fun H locs hV => ?_)
  have hV : zVo D (zB h s.heap.size) s ((h, .inr (6, [.int 0, .int 0, .int (-5), .ref q1, .ref q2, .ref q3, .null, .int 0, .int 0])) :: (((([] : va_W) ++ [(q1, .inl (cI, 100, .inl (fun _ => 0)))]) ++ [(q2, .inl (cI, 6, .inl (fun _ => 0)))]) ++ [(q3, .inl (cI, 6, .inl (fun _ => 0)))])) H locs := hV
  refine lv_aload_n hx hb dX6_init_44 rfl (lv_at hl 0 rfl) ?_
  refine lv_bipush (v := 6) hx hb dX6_init_45 (by decide) ?_
  refine zk_arr (N := 6) hC hV wq_103 (by decide +kernel) (by decide +kernel) (Nat.le_of_ble_eq_true rfl) ⟨Nat.le_of_ble_eq_true rfl, Nat.le_of_ble_eq_true rfl⟩ dX6_init_47 (fun q4 H hV => ?_)
  have hV : zVo D (zB h s.heap.size) s ((h, .inr (6, [.int 0, .int 0, .int (-5), .ref q1, .ref q2, .ref q3, .null, .int 0, .int 0])) :: ((((([] : va_W) ++ [(q1, .inl (cI, 100, .inl (fun _ => 0)))]) ++ [(q2, .inl (cI, 6, .inl (fun _ => 0)))]) ++ [(q3, .inl (cI, 6, .inl (fun _ => 0)))]) ++ [(q4, .inl (cI, 6, .inl (fun _ => 0)))])) H locs := hV
  refine zk_putF hC hin hV ff_X6_31 rfl rfl (Nat.le_of_ble_eq_true rfl) dX6_init_49 (fun H locs hV => ?_)
  have hV : zVo D (zB h s.heap.size) s ((h, .inr (6, [.int 0, .int 0, .int (-5), .ref q1, .ref q2, .ref q3, .ref q4, .int 0, .int 0])) :: ((((([] : va_W) ++ [(q1, .inl (cI, 100, .inl (fun _ => 0)))]) ++ [(q2, .inl (cI, 6, .inl (fun _ => 0)))]) ++ [(q3, .inl (cI, 6, .inl (fun _ => 0)))]) ++ [(q4, .inl (cI, 6, .inl (fun _ => 0)))])) H locs := hV
  refine lv_aload_n hx hb dX6_init_52 rfl (lv_at hl 0 rfl) ?_
  refine lv_iconst (v := 0) hx hb dX6_init_53 (by decide) ?_
  refine zk_put (v := 0) hC hV fp_X6_34 rfl rfl (Nat.le_of_ble_eq_true rfl) dX6_init_54 (fun H locs hV => ?_)
  have hV : zVo D (zB h s.heap.size) s ((h, .inr (6, [.int 0, .int 0, .int (-5), .ref q1, .ref q2, .ref q3, .ref q4, .int 0, .int 0])) :: ((((([] : va_W) ++ [(q1, .inl (cI, 100, .inl (fun _ => 0)))]) ++ [(q2, .inl (cI, 6, .inl (fun _ => 0)))]) ++ [(q3, .inl (cI, 6, .inl (fun _ => 0)))]) ++ [(q4, .inl (cI, 6, .inl (fun _ => 0)))])) H locs := hV
  refine lv_aload_n hx hb dX6_init_57 rfl (lv_at hl 0 rfl) ?_
  refine lv_iconst (v := 1) hx hb dX6_init_58 (by decide) ?_
  refine zk_put (v := 1) hC hV fp_X6_37 (z01 (v := 1) (by decide)).1 (z01 (v := 1) (by decide)).2 (Nat.le_of_ble_eq_true rfl) dX6_init_59 (fun H locs hV => ?_)
  have hV : zVo D (zB h s.heap.size) s ((h, .inr (6, [.int 0, .int 0, .int (-5), .ref q1, .ref q2, .ref q3, .ref q4, .int 0, .int 1])) :: ((((([] : va_W) ++ [(q1, .inl (cI, 100, .inl (fun _ => 0)))]) ++ [(q2, .inl (cI, 6, .inl (fun _ => 0)))]) ++ [(q3, .inl (cI, 6, .inl (fun _ => 0)))]) ++ [(q4, .inl (cI, 6, .inl (fun _ => 0)))])) H locs := hV
  exact zk_end hC hr hlk hV ⟨q1, q2, q3, q4, rfl⟩ dX6_init_62
def zTmT (cI cJ : ClassId) (h : Nat) (w : va_W) : Prop := ∃ (q1 q2 q3 : Nat), w = ((h, .inr (5, [.ref q1, .ref q2, .ref q3])) :: (((([] : va_W) ++ [(q1, .inl (cI, 6, .inl (fun k => if k < 6 then (-5) else ((fun _ => 0) : Nat → Int32) k)))]) ++ [(q2, .inl (cI, 6, .inl (fun _ => 0)))]) ++ [(q3, .inl (cJ, 360, .inr (.inl (fun _ => 0))))]))
set_option maxHeartbeats 4000000 in
set_option maxRecDepth 100000 in
theorem mX5_init {l : Launch} {D : va_G} {cI cJ : ClassId} : zCt l D cI cJ yX5_init cX5_init 1 { frames := 1, cells := 3, slots := 372, locals := 23 } 3 372 5 (zTmT cI cJ) := by
  refine zk_entry (own := RX5) (by decide +kernel) rfl (by decide) (fun h p e s m args below meth c ls hC hr hlk hin hl hV => ?_)
  have hx := hC.1
  have hb := hC.2.1
  have hin : meth.name = "<init>" := hin
  refine zk_st hV (fun H locs hV => ?_)
  have hV : zVo D (zB h s.heap.size) s ((h, .inr (5, [.null, .null, .null])) :: ([] : va_W)) H locs := hV
  refine lv_aload_n hx hb dX5_init_0 rfl (lv_at hl 0 rfl) ?_
  refine zk_obj hC hl.1 wq_257 wq_57 wq_58 dX5_init_1 ⟨Nat.le_of_ble_eq_true rfl, Nat.le_of_ble_eq_true rfl⟩ ?_
  refine lv_aload_n hx hb dX5_init_4 rfl (lv_at hl 0 rfl) ?_
  refine lv_bipush (v := 6) hx hb dX5_init_5 (by decide) ?_
  refine zk_arr (N := 6) hC hV wq_103 (by decide +kernel) (by decide +kernel) (Nat.le_of_ble_eq_true rfl) ⟨Nat.le_of_ble_eq_true rfl, Nat.le_of_ble_eq_true rfl⟩ dX5_init_7 (fun q1 H hV => ?_)
  have hV : zVo D (zB h s.heap.size) s ((h, .inr (5, [.null, .null, .null])) :: (([] : va_W) ++ [(q1, .inl (cI, 6, .inl (fun _ => 0)))])) H locs := hV
  refine zk_putF hC hin hV ff_X5_9 rfl rfl (Nat.le_of_ble_eq_true rfl) dX5_init_9 (fun H locs hV => ?_)
  have hV : zVo D (zB h s.heap.size) s ((h, .inr (5, [.ref q1, .null, .null])) :: (([] : va_W) ++ [(q1, .inl (cI, 6, .inl (fun _ => 0)))])) H locs := hV
  refine lv_aload_n hx hb dX5_init_12 rfl (lv_at hl 0 rfl) ?_
  refine lv_bipush (v := 6) hx hb dX5_init_13 (by decide) ?_
  refine zk_arr (N := 6) hC hV wq_103 (by decide +kernel) (by decide +kernel) (Nat.le_of_ble_eq_true rfl) ⟨Nat.le_of_ble_eq_true rfl, Nat.le_of_ble_eq_true rfl⟩ dX5_init_15 (fun q2 H hV => ?_)
  have hV : zVo D (zB h s.heap.size) s ((h, .inr (5, [.ref q1, .null, .null])) :: ((([] : va_W) ++ [(q1, .inl (cI, 6, .inl (fun _ => 0)))]) ++ [(q2, .inl (cI, 6, .inl (fun _ => 0)))])) H locs := hV
  refine zk_putF hC hin hV ff_X5_15 rfl rfl (Nat.le_of_ble_eq_true rfl) dX5_init_17 (fun H locs hV => ?_)
  have hV : zVo D (zB h s.heap.size) s ((h, .inr (5, [.ref q1, .ref q2, .null])) :: ((([] : va_W) ++ [(q1, .inl (cI, 6, .inl (fun _ => 0)))]) ++ [(q2, .inl (cI, 6, .inl (fun _ => 0)))])) H locs := hV
  refine lv_aload_n hx hb dX5_init_20 rfl (lv_at hl 0 rfl) ?_
  refine lv_sipush (v := 360) hx hb dX5_init_21 (by decide) ?_
  refine zk_arrL (N := 360) hC hV wq_269 (by decide +kernel) (by decide +kernel) (Nat.le_of_ble_eq_true rfl) ⟨Nat.le_of_ble_eq_true rfl, Nat.le_of_ble_eq_true rfl⟩ dX5_init_24 (fun q3 H hV => ?_)
  have hV : zVo D (zB h s.heap.size) s ((h, .inr (5, [.ref q1, .ref q2, .null])) :: (((([] : va_W) ++ [(q1, .inl (cI, 6, .inl (fun _ => 0)))]) ++ [(q2, .inl (cI, 6, .inl (fun _ => 0)))]) ++ [(q3, .inl (cJ, 360, .inr (.inl (fun _ => 0))))])) H locs := hV
  refine zk_putF hC hin hV ff_X5_18 rfl rfl (Nat.le_of_ble_eq_true rfl) dX5_init_26 (fun H locs hV => ?_)
  have hV : zVo D (zB h s.heap.size) s ((h, .inr (5, [.ref q1, .ref q2, .ref q3])) :: (((([] : va_W) ++ [(q1, .inl (cI, 6, .inl (fun _ => 0)))]) ++ [(q2, .inl (cI, 6, .inl (fun _ => 0)))]) ++ [(q3, .inl (cJ, 360, .inr (.inl (fun _ => 0))))])) H locs := hV
  refine lv_aload_n hx hb dX5_init_29 rfl (lv_at hl 0 rfl) ?_
  refine zk_get hC hV fl_X5_9 rfl dX5_init_30 ?_
  refine lv_bipush (v := (-5)) hx hb dX5_init_33 (by decide) ?_
  refine zk_fill (a := q1) (n := 6) (f := fun _ => 0) (wr := [(h, .inr (5, [.ref q1, .ref q2, .ref q3])), (q2, .inl (cI, 6, .inl (fun _ => 0))), (q3, .inl (cJ, 360, .inr (.inl (fun _ => 0))))]) hC hV 1 [0, 2, 3] rfl rfl (by decide) (by decide) wq_258 wq_72 wi_J7 wq_73 (Nat.le_of_ble_eq_true rfl) ⟨Nat.le_of_ble_eq_true rfl, Nat.le_of_ble_eq_true rfl⟩ (zlv_size hl) (Nat.le_of_ble_eq_true rfl) dX5_init_35 ⟨Nat.le_refl _, Nat.le_refl _⟩ (fun H locs hP hD hS => ?_)
  have hV : zVo D (zB h s.heap.size) s ((h, .inr (5, [.ref q1, .ref q2, .ref q3])) :: (((([] : va_W) ++ [(q1, .inl (cI, 6, .inl (fun k => if k < 6 then (-5) else ((fun _ => 0) : Nat → Int32) k)))]) ++ [(q2, .inl (cI, 6, .inl (fun _ => 0)))]) ++ [(q3, .inl (cJ, 360, .inr (.inl (fun _ => 0))))])) H locs := ⟨hP.sub [0, 3, 1, 2] rfl, hD.sub [0, 3, 1, 2] (by decide) rfl, hS, hV.2.2.2⟩
  exact zk_end hC hr hlk hV ⟨q1, q2, q3, rfl⟩ dX5_init_38
def zTmE (cI cJ : ClassId) (h : Nat) (w : va_W) : Prop := ∃ (q1 q2 q3 q4 q5 : Nat) (w1 w2 w3 w4 w5 : va_W), zTmG cI cJ q1 w1 ∧ zTmK cI cJ q2 w2 ∧ zTmH cI cJ q3 w3 ∧ zTmH cI cJ q4 w4 ∧ zTmH cI cJ q5 w5 ∧ w = ((h, .inr (4, [.ref q1, .ref q2, .ref q3, .ref q4, .ref q5])) :: (((((([] : va_W) ++ w1) ++ w2) ++ w3) ++ w4) ++ w5))
set_option maxHeartbeats 4000000 in
set_option maxRecDepth 100000 in
theorem mX4_init {l : Launch} {D : va_G} {cI cJ : ClassId} : zCt l D cI cJ yX4_init cX4_init 1 { frames := 2, cells := 15, slots := 387, locals := 43 } 15 387 4 (zTmE cI cJ) := by
  refine zk_entry (own := RX4) (by decide +kernel) rfl (by decide) (fun h p e s m args below meth c ls hC hr hlk hin hl hV => ?_)
  have hx := hC.1
  have hb := hC.2.1
  have hin : meth.name = "<init>" := hin
  refine zk_st hV (fun H locs hV => ?_)
  have hV : zVo D (zB h s.heap.size) s ((h, .inr (4, [.null, .null, .null, .null, .null])) :: ([] : va_W)) H locs := hV
  refine lv_aload_n hx hb dX4_init_0 rfl (lv_at hl 0 rfl) ?_
  refine zk_obj hC hl.1 wq_64 wq_57 wq_58 dX4_init_1 ⟨Nat.le_of_ble_eq_true rfl, Nat.le_of_ble_eq_true rfl⟩ ?_
  refine lv_aload_n hx hb dX4_init_4 rfl (lv_at hl 0 rfl) ?_
  refine zk_new hC hV nw_X4_7 ⟨Nat.le_of_ble_eq_true rfl, Nat.le_of_ble_eq_true rfl⟩ dX4_init_5 (fun q1 H hV => ?_)
  refine lv_dup hx hb dX4_init_8 rfl ?_
  refine zk_init (wr := ((h, .inr (4, [.null, .null, .null, .null, .null])) :: ([] : va_W))) hC hV (mX0_init (l := l) (D := D) (cI := cI) (cJ := cJ)) is_X4_9 (Or.inl wq_67) ⟨⟨rfl, rfl⟩, Nat.le_of_ble_eq_true rfl, Nat.le_of_ble_eq_true rfl⟩ (zlv_size hl) (Nat.le_of_ble_eq_true rfl) dX4_init_9 ⟨Nat.le_of_ble_eq_true rfl, Nat.le_of_ble_eq_true rfl⟩ (fun w1 H locs hw1 hV => ?_)
  have hV : zVo D (zB h s.heap.size) s ((h, .inr (4, [.null, .null, .null, .null, .null])) :: (([] : va_W) ++ w1)) H locs := hV
  refine zk_putF hC hin hV ff_X4_10 rfl rfl (Nat.le_of_ble_eq_true rfl) dX4_init_12 (fun H locs hV => ?_)
  have hV : zVo D (zB h s.heap.size) s ((h, .inr (4, [.ref q1, .null, .null, .null, .null])) :: (([] : va_W) ++ w1)) H locs := hV
  refine lv_aload_n hx hb dX4_init_15 rfl (lv_at hl 0 rfl) ?_
  refine zk_new hC hV nw_X4_16 ⟨Nat.le_of_ble_eq_true rfl, Nat.le_of_ble_eq_true rfl⟩ dX4_init_16 (fun q2 H hV => ?_)
  refine lv_dup hx hb dX4_init_19 rfl ?_
  refine zk_init (wr := ((h, .inr (4, [.ref q1, .null, .null, .null, .null])) :: (([] : va_W) ++ w1))) hC hV (mX2_init (l := l) (D := D) (cI := cI) (cJ := cJ)) is_X4_18 (Or.inr ⟨"ReversedLinks", by decide +kernel⟩) ⟨⟨rfl, rfl⟩, Nat.le_of_ble_eq_true rfl, Nat.le_of_ble_eq_true rfl⟩ (zlv_size hl) (Nat.le_of_ble_eq_true rfl) dX4_init_20 ⟨Nat.le_of_ble_eq_true rfl, Nat.le_of_ble_eq_true rfl⟩ (fun w2 H locs hw2 hV => ?_)
  have hV : zVo D (zB h s.heap.size) s ((h, .inr (4, [.ref q1, .null, .null, .null, .null])) :: ((([] : va_W) ++ w1) ++ w2)) H locs := hV
  refine zk_putF hC hin hV ff_X4_19 rfl rfl (Nat.le_of_ble_eq_true rfl) dX4_init_23 (fun H locs hV => ?_)
  have hV : zVo D (zB h s.heap.size) s ((h, .inr (4, [.ref q1, .ref q2, .null, .null, .null])) :: ((([] : va_W) ++ w1) ++ w2)) H locs := hV
  refine lv_aload_n hx hb dX4_init_26 rfl (lv_at hl 0 rfl) ?_
  refine zk_new hC hV nw_X4_23 ⟨Nat.le_of_ble_eq_true rfl, Nat.le_of_ble_eq_true rfl⟩ dX4_init_27 (fun q3 H hV => ?_)
  refine lv_dup hx hb dX4_init_30 rfl ?_
  refine zk_init (wr := ((h, .inr (4, [.ref q1, .ref q2, .null, .null, .null])) :: ((([] : va_W) ++ w1) ++ w2))) hC hV (mX3_init (l := l) (D := D) (cI := cI) (cJ := cJ)) is_X4_25 (Or.inr ⟨"ReversedLinks", by decide +kernel⟩) ⟨⟨rfl, rfl⟩, Nat.le_of_ble_eq_true rfl, Nat.le_of_ble_eq_true rfl⟩ (zlv_size hl) (Nat.le_of_ble_eq_true rfl) dX4_init_31 ⟨Nat.le_of_ble_eq_true rfl, Nat.le_of_ble_eq_true rfl⟩ (fun w3 H locs hw3 hV => ?_)
  have hV : zVo D (zB h s.heap.size) s ((h, .inr (4, [.ref q1, .ref q2, .null, .null, .null])) :: (((([] : va_W) ++ w1) ++ w2) ++ w3)) H locs := hV
  refine zk_putF hC hin hV ff_X4_26 rfl rfl (Nat.le_of_ble_eq_true rfl) dX4_init_34 (fun H locs hV => ?_)
  have hV : zVo D (zB h s.heap.size) s ((h, .inr (4, [.ref q1, .ref q2, .ref q3, .null, .null])) :: (((([] : va_W) ++ w1) ++ w2) ++ w3)) H locs := hV
  refine lv_aload_n hx hb dX4_init_37 rfl (lv_at hl 0 rfl) ?_
  refine zk_new hC hV nw_X4_23 ⟨Nat.le_of_ble_eq_true rfl, Nat.le_of_ble_eq_true rfl⟩ dX4_init_38 (fun q4 H hV => ?_)
  refine lv_dup hx hb dX4_init_41 rfl ?_
  refine zk_init (wr := ((h, .inr (4, [.ref q1, .ref q2, .ref q3, .null, .null])) :: (((([] : va_W) ++ w1) ++ w2) ++ w3))) hC hV (mX3_init (l := l) (D := D) (cI := cI) (cJ := cJ)) is_X4_25 (Or.inr ⟨"ReversedLinks", by decide +kernel⟩) ⟨⟨rfl, rfl⟩, Nat.le_of_ble_eq_true rfl, Nat.le_of_ble_eq_true rfl⟩ (zlv_size hl) (Nat.le_of_ble_eq_true rfl) dX4_init_42 ⟨Nat.le_of_ble_eq_true rfl, Nat.le_of_ble_eq_true rfl⟩ (fun w4 H locs hw4 hV => ?_)
  have hV : zVo D (zB h s.heap.size) s ((h, .inr (4, [.ref q1, .ref q2, .ref q3, .null, .null])) :: ((((([] : va_W) ++ w1) ++ w2) ++ w3) ++ w4)) H locs := hV
  refine zk_putF hC hin hV ff_X4_30 rfl rfl (Nat.le_of_ble_eq_true rfl) dX4_init_45 (fun H locs hV => ?_)
  have hV : zVo D (zB h s.heap.size) s ((h, .inr (4, [.ref q1, .ref q2, .ref q3, .ref q4, .null])) :: ((((([] : va_W) ++ w1) ++ w2) ++ w3) ++ w4)) H locs := hV
  refine lv_aload_n hx hb dX4_init_48 rfl (lv_at hl 0 rfl) ?_
  refine zk_new hC hV nw_X4_23 ⟨Nat.le_of_ble_eq_true rfl, Nat.le_of_ble_eq_true rfl⟩ dX4_init_49 (fun q5 H hV => ?_)
  refine lv_dup hx hb dX4_init_52 rfl ?_
  refine zk_init (wr := ((h, .inr (4, [.ref q1, .ref q2, .ref q3, .ref q4, .null])) :: ((((([] : va_W) ++ w1) ++ w2) ++ w3) ++ w4))) hC hV (mX3_init (l := l) (D := D) (cI := cI) (cJ := cJ)) is_X4_25 (Or.inr ⟨"ReversedLinks", by decide +kernel⟩) ⟨⟨rfl, rfl⟩, Nat.le_of_ble_eq_true rfl, Nat.le_of_ble_eq_true rfl⟩ (zlv_size hl) (Nat.le_of_ble_eq_true rfl) dX4_init_53 ⟨Nat.le_of_ble_eq_true rfl, Nat.le_of_ble_eq_true rfl⟩ (fun w5 H locs hw5 hV => ?_)
  have hV : zVo D (zB h s.heap.size) s ((h, .inr (4, [.ref q1, .ref q2, .ref q3, .ref q4, .null])) :: (((((([] : va_W) ++ w1) ++ w2) ++ w3) ++ w4) ++ w5)) H locs := hV
  refine zk_putF hC hin hV ff_X4_33 rfl rfl (Nat.le_of_ble_eq_true rfl) dX4_init_56 (fun H locs hV => ?_)
  have hV : zVo D (zB h s.heap.size) s ((h, .inr (4, [.ref q1, .ref q2, .ref q3, .ref q4, .ref q5])) :: (((((([] : va_W) ++ w1) ++ w2) ++ w3) ++ w4) ++ w5)) H locs := hV
  exact zk_end hC hr hlk hV ⟨q1, q2, q3, q4, q5, w1, w2, w3, w4, w5, hw1, hw2, hw3, hw4, hw5, rfl⟩ dX4_init_59
def zTmR (cI cJ : ClassId) (h : Nat) (w : va_W) : Prop := ∃ (q1 q2 q3 q4 q5 q6 q7 : Nat) (w1 w2 w3 w4 w5 w6 w7 : va_W), zTmE cI cJ q1 w1 ∧ zTmE cI cJ q2 w2 ∧ zTmG cI cJ q3 w3 ∧ zTmK cI cJ q4 w4 ∧ zTmL cI cJ q5 w5 ∧ zTmX cI cJ q6 w6 ∧ zTmT cI cJ q7 w7 ∧ w = ((h, .inr (7, [.ref q1, .ref q2, .int 0, .ref q3, .ref q4, .ref q5, .ref q6, .ref q7])) :: (((((((([] : va_W) ++ w1) ++ w2) ++ w3) ++ w4) ++ w5) ++ w6) ++ w7))
set_option maxHeartbeats 4000000 in
set_option maxRecDepth 100000 in
theorem mX7_init {l : Launch} {D : va_G} {cI cJ : ClassId} : zCt l D cI cJ yX7_init cX7_init 1 { frames := 3, cells := 52, slots := 1603, locals := 63 } 52 1603 7 (zTmR cI cJ) := by
  refine zk_entry (own := RX7) (by decide +kernel) rfl (by decide) (fun h p e s m args below meth c ls hC hr hlk hin hl hV => ?_)
  have hx := hC.1
  have hb := hC.2.1
  have hin : meth.name = "<init>" := hin
  refine zk_st hV (fun H locs hV => ?_)
  have hV : zVo D (zB h s.heap.size) s ((h, .inr (7, [.null, .null, .int 0, .null, .null, .null, .null, .null])) :: ([] : va_W)) H locs := hV
  refine lv_aload_n hx hb dX7_init_0 rfl (lv_at hl 0 rfl) ?_
  refine zk_obj hC hl.1 wq_56 wq_57 wq_58 dX7_init_1 ⟨Nat.le_of_ble_eq_true rfl, Nat.le_of_ble_eq_true rfl⟩ ?_
  refine lv_aload_n hx hb dX7_init_4 rfl (lv_at hl 0 rfl) ?_
  refine zk_new hC hV nw_X7_9 ⟨Nat.le_of_ble_eq_true rfl, Nat.le_of_ble_eq_true rfl⟩ dX7_init_5 (fun q1 H hV => ?_)
  refine lv_dup hx hb dX7_init_8 rfl ?_
  refine zk_init (wr := ((h, .inr (7, [.null, .null, .int 0, .null, .null, .null, .null, .null])) :: ([] : va_W))) hC hV (mX4_init (l := l) (D := D) (cI := cI) (cJ := cJ)) is_X7_11 (Or.inr ⟨"ReversedLinks", by decide +kernel⟩) ⟨⟨rfl, rfl⟩, Nat.le_of_ble_eq_true rfl, Nat.le_of_ble_eq_true rfl⟩ (zlv_size hl) (Nat.le_of_ble_eq_true rfl) dX7_init_9 ⟨Nat.le_of_ble_eq_true rfl, Nat.le_of_ble_eq_true rfl⟩ (fun w1 H locs hw1 hV => ?_)
  have hV : zVo D (zB h s.heap.size) s ((h, .inr (7, [.null, .null, .int 0, .null, .null, .null, .null, .null])) :: (([] : va_W) ++ w1)) H locs := hV
  refine zk_putF hC hin hV ff_X7_12 rfl rfl (Nat.le_of_ble_eq_true rfl) dX7_init_12 (fun H locs hV => ?_)
  have hV : zVo D (zB h s.heap.size) s ((h, .inr (7, [.ref q1, .null, .int 0, .null, .null, .null, .null, .null])) :: (([] : va_W) ++ w1)) H locs := hV
  refine lv_aload_n hx hb dX7_init_15 rfl (lv_at hl 0 rfl) ?_
  refine zk_new hC hV nw_X7_9 ⟨Nat.le_of_ble_eq_true rfl, Nat.le_of_ble_eq_true rfl⟩ dX7_init_16 (fun q2 H hV => ?_)
  refine lv_dup hx hb dX7_init_19 rfl ?_
  refine zk_init (wr := ((h, .inr (7, [.ref q1, .null, .int 0, .null, .null, .null, .null, .null])) :: (([] : va_W) ++ w1))) hC hV (mX4_init (l := l) (D := D) (cI := cI) (cJ := cJ)) is_X7_11 (Or.inr ⟨"ReversedLinks", by decide +kernel⟩) ⟨⟨rfl, rfl⟩, Nat.le_of_ble_eq_true rfl, Nat.le_of_ble_eq_true rfl⟩ (zlv_size hl) (Nat.le_of_ble_eq_true rfl) dX7_init_20 ⟨Nat.le_of_ble_eq_true rfl, Nat.le_of_ble_eq_true rfl⟩ (fun w2 H locs hw2 hV => ?_)
  have hV : zVo D (zB h s.heap.size) s ((h, .inr (7, [.ref q1, .null, .int 0, .null, .null, .null, .null, .null])) :: ((([] : va_W) ++ w1) ++ w2)) H locs := hV
  refine zk_putF hC hin hV ff_X7_18 rfl rfl (Nat.le_of_ble_eq_true rfl) dX7_init_23 (fun H locs hV => ?_)
  have hV : zVo D (zB h s.heap.size) s ((h, .inr (7, [.ref q1, .ref q2, .int 0, .null, .null, .null, .null, .null])) :: ((([] : va_W) ++ w1) ++ w2)) H locs := hV
  refine lv_aload_n hx hb dX7_init_26 rfl (lv_at hl 0 rfl) ?_
  refine lv_iconst (v := 0) hx hb dX7_init_27 (by decide) ?_
  refine zk_put (v := 0) hC hV fp_X7_21 (z01 (v := 0) (by decide)).1 (z01 (v := 0) (by decide)).2 (Nat.le_of_ble_eq_true rfl) dX7_init_28 (fun H locs hV => ?_)
  have hV : zVo D (zB h s.heap.size) s ((h, .inr (7, [.ref q1, .ref q2, .int 0, .null, .null, .null, .null, .null])) :: ((([] : va_W) ++ w1) ++ w2)) H locs := hV
  refine lv_aload_n hx hb dX7_init_31 rfl (lv_at hl 0 rfl) ?_
  refine zk_new hC hV nw_X7_25 ⟨Nat.le_of_ble_eq_true rfl, Nat.le_of_ble_eq_true rfl⟩ dX7_init_32 (fun q3 H hV => ?_)
  refine lv_dup hx hb dX7_init_35 rfl ?_
  refine zk_init (wr := ((h, .inr (7, [.ref q1, .ref q2, .int 0, .null, .null, .null, .null, .null])) :: ((([] : va_W) ++ w1) ++ w2))) hC hV (mX0_init (l := l) (D := D) (cI := cI) (cJ := cJ)) is_X7_27 (Or.inl wq_199) ⟨⟨rfl, rfl⟩, Nat.le_of_ble_eq_true rfl, Nat.le_of_ble_eq_true rfl⟩ (zlv_size hl) (Nat.le_of_ble_eq_true rfl) dX7_init_36 ⟨Nat.le_of_ble_eq_true rfl, Nat.le_of_ble_eq_true rfl⟩ (fun w3 H locs hw3 hV => ?_)
  have hV : zVo D (zB h s.heap.size) s ((h, .inr (7, [.ref q1, .ref q2, .int 0, .null, .null, .null, .null, .null])) :: (((([] : va_W) ++ w1) ++ w2) ++ w3)) H locs := hV
  refine zk_putF hC hin hV ff_X7_28 rfl rfl (Nat.le_of_ble_eq_true rfl) dX7_init_39 (fun H locs hV => ?_)
  have hV : zVo D (zB h s.heap.size) s ((h, .inr (7, [.ref q1, .ref q2, .int 0, .ref q3, .null, .null, .null, .null])) :: (((([] : va_W) ++ w1) ++ w2) ++ w3)) H locs := hV
  refine lv_aload_n hx hb dX7_init_42 rfl (lv_at hl 0 rfl) ?_
  refine zk_new hC hV nw_X7_32 ⟨Nat.le_of_ble_eq_true rfl, Nat.le_of_ble_eq_true rfl⟩ dX7_init_43 (fun q4 H hV => ?_)
  refine lv_dup hx hb dX7_init_46 rfl ?_
  refine zk_init (wr := ((h, .inr (7, [.ref q1, .ref q2, .int 0, .ref q3, .null, .null, .null, .null])) :: (((([] : va_W) ++ w1) ++ w2) ++ w3))) hC hV (mX2_init (l := l) (D := D) (cI := cI) (cJ := cJ)) is_X7_34 (Or.inr ⟨"ReversedLinks", by decide +kernel⟩) ⟨⟨rfl, rfl⟩, Nat.le_of_ble_eq_true rfl, Nat.le_of_ble_eq_true rfl⟩ (zlv_size hl) (Nat.le_of_ble_eq_true rfl) dX7_init_47 ⟨Nat.le_of_ble_eq_true rfl, Nat.le_of_ble_eq_true rfl⟩ (fun w4 H locs hw4 hV => ?_)
  have hV : zVo D (zB h s.heap.size) s ((h, .inr (7, [.ref q1, .ref q2, .int 0, .ref q3, .null, .null, .null, .null])) :: ((((([] : va_W) ++ w1) ++ w2) ++ w3) ++ w4)) H locs := hV
  refine zk_putF hC hin hV ff_X7_35 rfl rfl (Nat.le_of_ble_eq_true rfl) dX7_init_50 (fun H locs hV => ?_)
  have hV : zVo D (zB h s.heap.size) s ((h, .inr (7, [.ref q1, .ref q2, .int 0, .ref q3, .ref q4, .null, .null, .null])) :: ((((([] : va_W) ++ w1) ++ w2) ++ w3) ++ w4)) H locs := hV
  refine lv_aload_n hx hb dX7_init_53 rfl (lv_at hl 0 rfl) ?_
  refine zk_new hC hV nw_X7_39 ⟨Nat.le_of_ble_eq_true rfl, Nat.le_of_ble_eq_true rfl⟩ dX7_init_54 (fun q5 H hV => ?_)
  refine lv_dup hx hb dX7_init_57 rfl ?_
  refine zk_init (wr := ((h, .inr (7, [.ref q1, .ref q2, .int 0, .ref q3, .ref q4, .null, .null, .null])) :: ((((([] : va_W) ++ w1) ++ w2) ++ w3) ++ w4))) hC hV (mX1_init (l := l) (D := D) (cI := cI) (cJ := cJ)) is_X7_41 (Or.inr ⟨"ReversedLinks", by decide +kernel⟩) ⟨⟨rfl, rfl⟩, Nat.le_of_ble_eq_true rfl, Nat.le_of_ble_eq_true rfl⟩ (zlv_size hl) (Nat.le_of_ble_eq_true rfl) dX7_init_58 ⟨Nat.le_of_ble_eq_true rfl, Nat.le_of_ble_eq_true rfl⟩ (fun w5 H locs hw5 hV => ?_)
  have hV : zVo D (zB h s.heap.size) s ((h, .inr (7, [.ref q1, .ref q2, .int 0, .ref q3, .ref q4, .null, .null, .null])) :: (((((([] : va_W) ++ w1) ++ w2) ++ w3) ++ w4) ++ w5)) H locs := hV
  refine zk_putF hC hin hV ff_X7_42 rfl rfl (Nat.le_of_ble_eq_true rfl) dX7_init_61 (fun H locs hV => ?_)
  have hV : zVo D (zB h s.heap.size) s ((h, .inr (7, [.ref q1, .ref q2, .int 0, .ref q3, .ref q4, .ref q5, .null, .null])) :: (((((([] : va_W) ++ w1) ++ w2) ++ w3) ++ w4) ++ w5)) H locs := hV
  refine lv_aload_n hx hb dX7_init_64 rfl (lv_at hl 0 rfl) ?_
  refine zk_new hC hV nw_X7_46 ⟨Nat.le_of_ble_eq_true rfl, Nat.le_of_ble_eq_true rfl⟩ dX7_init_65 (fun q6 H hV => ?_)
  refine lv_dup hx hb dX7_init_68 rfl ?_
  refine zk_init (wr := ((h, .inr (7, [.ref q1, .ref q2, .int 0, .ref q3, .ref q4, .ref q5, .null, .null])) :: (((((([] : va_W) ++ w1) ++ w2) ++ w3) ++ w4) ++ w5))) hC hV (mX6_init (l := l) (D := D) (cI := cI) (cJ := cJ)) is_X7_48 (Or.inr ⟨"ReversedLinks", by decide +kernel⟩) ⟨⟨rfl, rfl⟩, Nat.le_of_ble_eq_true rfl, Nat.le_of_ble_eq_true rfl⟩ (zlv_size hl) (Nat.le_of_ble_eq_true rfl) dX7_init_69 ⟨Nat.le_of_ble_eq_true rfl, Nat.le_of_ble_eq_true rfl⟩ (fun w6 H locs hw6 hV => ?_)
  have hV : zVo D (zB h s.heap.size) s ((h, .inr (7, [.ref q1, .ref q2, .int 0, .ref q3, .ref q4, .ref q5, .null, .null])) :: ((((((([] : va_W) ++ w1) ++ w2) ++ w3) ++ w4) ++ w5) ++ w6)) H locs := hV
  refine zk_putF hC hin hV ff_X7_49 rfl rfl (Nat.le_of_ble_eq_true rfl) dX7_init_72 (fun H locs hV => ?_)
  have hV : zVo D (zB h s.heap.size) s ((h, .inr (7, [.ref q1, .ref q2, .int 0, .ref q3, .ref q4, .ref q5, .ref q6, .null])) :: ((((((([] : va_W) ++ w1) ++ w2) ++ w3) ++ w4) ++ w5) ++ w6)) H locs := hV
  refine lv_aload_n hx hb dX7_init_75 rfl (lv_at hl 0 rfl) ?_
  refine zk_new hC hV nw_X7_53 ⟨Nat.le_of_ble_eq_true rfl, Nat.le_of_ble_eq_true rfl⟩ dX7_init_76 (fun q7 H hV => ?_)
  refine lv_dup hx hb dX7_init_79 rfl ?_
  refine zk_init (wr := ((h, .inr (7, [.ref q1, .ref q2, .int 0, .ref q3, .ref q4, .ref q5, .ref q6, .null])) :: ((((((([] : va_W) ++ w1) ++ w2) ++ w3) ++ w4) ++ w5) ++ w6))) hC hV (mX5_init (l := l) (D := D) (cI := cI) (cJ := cJ)) is_X7_55 (Or.inl wq_254) ⟨⟨rfl, rfl⟩, Nat.le_of_ble_eq_true rfl, Nat.le_of_ble_eq_true rfl⟩ (zlv_size hl) (Nat.le_of_ble_eq_true rfl) dX7_init_80 ⟨Nat.le_of_ble_eq_true rfl, Nat.le_of_ble_eq_true rfl⟩ (fun w7 H locs hw7 hV => ?_)
  have hV : zVo D (zB h s.heap.size) s ((h, .inr (7, [.ref q1, .ref q2, .int 0, .ref q3, .ref q4, .ref q5, .ref q6, .null])) :: (((((((([] : va_W) ++ w1) ++ w2) ++ w3) ++ w4) ++ w5) ++ w6) ++ w7)) H locs := hV
  refine zk_putF hC hin hV ff_X7_56 rfl rfl (Nat.le_of_ble_eq_true rfl) dX7_init_83 (fun H locs hV => ?_)
  have hV : zVo D (zB h s.heap.size) s ((h, .inr (7, [.ref q1, .ref q2, .int 0, .ref q3, .ref q4, .ref q5, .ref q6, .ref q7])) :: (((((((([] : va_W) ++ w1) ++ w2) ++ w3) ++ w4) ++ w5) ++ w6) ++ w7)) H locs := hV
  exact zk_end hC hr hlk hV ⟨q1, q2, q3, q4, q5, q6, q7, w1, w2, w3, w4, w5, w6, w7, hw1, hw2, hw3, hw4, hw5, hw6, hw7, rfl⟩ dX7_init_86
def zTmM (cI cJ : ClassId) (h : Nat) (w : va_W) : Prop := ∃ (q1 q2 q3 q4 q5 q6 q7 q8 q9 q10 q11 q12 q13 q14 : Nat), w = ((h, .inr (8, [.ref q1, .ref q2, .ref q3, .int 0, .ref q4, .int 0, .ref q5, .ref q6, .ref q7, .ref q8, .ref q9, .ref q10, .ref q11, .int 0, .int 0, .int 0, .int 0, .ref q12, .ref q13, .ref q14])) :: ((((((((((((((([] : va_W) ++ [(q1, .inl (cI, 346, .inl (upd (upd (upd (upd (upd (fun _ => 0) 16 ((-5))) 17 ((-5))) 18 ((-5))) 19 ((-5))) 4 ((-5)))))]) ++ [(q2, .inl (cI, 346, .inl (fun _ => 0)))]) ++ [(q3, .inl (cI, 346, .inl (fun _ => 0)))]) ++ [(q4, .inl (cI, 100, .inl (fun _ => 0)))]) ++ [(q5, .inl (cI, 8, .inl (fun _ => 0)))]) ++ [(q6, .inl (cI, 8, .inl (fun _ => 0)))]) ++ [(q7, .inl (cI, 8, .inl (fun _ => 0)))]) ++ [(q8, .inl (cI, 101, .inl (fun _ => 0)))]) ++ [(q9, .inl (cI, 101, .inl (fun _ => 0)))]) ++ [(q10, .inl (cI, 101, .inl (fun _ => 0)))]) ++ [(q11, .inl (cI, 606, .inl (fun _ => 0)))]) ++ [(q12, .inl (cI, 6, .inl (upd (upd (upd (upd (upd (upd (fun _ => 0) 0 ((-1))) 1 ((-1))) 2 ((-1))) 3 ((-1))) 4 ((-1))) 5 ((-1)))))]) ++ [(q13, .inl (cI, 6, .inl (fun _ => 0)))]) ++ [(q14, .inl (cJ, 360, .inr (.inl (fun _ => 0))))]))
set_option maxHeartbeats 4000000 in
set_option maxRecDepth 100000 in
theorem mX8_init {l : Launch} {D : va_G} {cI cJ : ClassId} : zCt l D cI cJ yX8_init cX8_init 2 { frames := 1, cells := 14, slots := 2443, locals := 12 } 14 2443 8 (zTmM cI cJ) := by
  refine zk_entry (own := RX8) (by decide +kernel) rfl (by decide) (fun h p e s m args below meth c ls hC hr hlk hin hl hV => ?_)
  have hx := hC.1
  have hb := hC.2.1
  have hin : meth.name = "<init>" := hin
  refine zk_st hV (fun H locs hV => ?_)
  have hV : zVo D (zB h s.heap.size) s ((h, .inr (8, [.null, .null, .null, .int 0, .null, .int 0, .null, .null, .null, .null, .null, .null, .null, .int 0, .int 0, .int 0, .int 0, .null, .null, .null])) :: ([] : va_W)) H locs := hV
  refine lv_aload_n hx hb dX8_init_0 rfl (lv_at hl 0 rfl) ?_
  refine zk_obj hC hl.1 wq_833 wq_57 wq_58 dX8_init_1 ⟨Nat.le_of_ble_eq_true rfl, Nat.le_of_ble_eq_true rfl⟩ ?_
  refine lv_aload_n hx hb dX8_init_4 rfl (lv_at hl 0 rfl) ?_
  refine lv_sipush (v := 346) hx hb dX8_init_5 (by decide) ?_
  refine zk_arr (N := 346) hC hV wq_103 (by decide +kernel) (by decide +kernel) (Nat.le_of_ble_eq_true rfl) ⟨Nat.le_of_ble_eq_true rfl, Nat.le_of_ble_eq_true rfl⟩ dX8_init_8 (fun q1 H hV => ?_)
  have hV : zVo D (zB h s.heap.size) s ((h, .inr (8, [.null, .null, .null, .int 0, .null, .int 0, .null, .null, .null, .null, .null, .null, .null, .int 0, .int 0, .int 0, .int 0, .null, .null, .null])) :: (([] : va_W) ++ [(q1, .inl (cI, 346, .inl (fun _ => 0)))])) H locs := hV
  refine zk_putF hC hin hV ff_X8_11 rfl rfl (Nat.le_of_ble_eq_true rfl) dX8_init_10 (fun H locs hV => ?_)
  have hV : zVo D (zB h s.heap.size) s ((h, .inr (8, [.ref q1, .null, .null, .int 0, .null, .int 0, .null, .null, .null, .null, .null, .null, .null, .int 0, .int 0, .int 0, .int 0, .null, .null, .null])) :: (([] : va_W) ++ [(q1, .inl (cI, 346, .inl (fun _ => 0)))])) H locs := hV
  refine lv_aload_n hx hb dX8_init_13 rfl (lv_at hl 0 rfl) ?_
  refine lv_sipush (v := 346) hx hb dX8_init_14 (by decide) ?_
  refine zk_arr (N := 346) hC hV wq_103 (by decide +kernel) (by decide +kernel) (Nat.le_of_ble_eq_true rfl) ⟨Nat.le_of_ble_eq_true rfl, Nat.le_of_ble_eq_true rfl⟩ dX8_init_17 (fun q2 H hV => ?_)
  have hV : zVo D (zB h s.heap.size) s ((h, .inr (8, [.ref q1, .null, .null, .int 0, .null, .int 0, .null, .null, .null, .null, .null, .null, .null, .int 0, .int 0, .int 0, .int 0, .null, .null, .null])) :: ((([] : va_W) ++ [(q1, .inl (cI, 346, .inl (fun _ => 0)))]) ++ [(q2, .inl (cI, 346, .inl (fun _ => 0)))])) H locs := hV
  refine zk_putF hC hin hV ff_X8_15 rfl rfl (Nat.le_of_ble_eq_true rfl) dX8_init_19 (fun H locs hV => ?_)
  have hV : zVo D (zB h s.heap.size) s ((h, .inr (8, [.ref q1, .ref q2, .null, .int 0, .null, .int 0, .null, .null, .null, .null, .null, .null, .null, .int 0, .int 0, .int 0, .int 0, .null, .null, .null])) :: ((([] : va_W) ++ [(q1, .inl (cI, 346, .inl (fun _ => 0)))]) ++ [(q2, .inl (cI, 346, .inl (fun _ => 0)))])) H locs := hV
  refine lv_aload_n hx hb dX8_init_22 rfl (lv_at hl 0 rfl) ?_
  refine lv_sipush (v := 346) hx hb dX8_init_23 (by decide) ?_
  refine zk_arr (N := 346) hC hV wq_103 (by decide +kernel) (by decide +kernel) (Nat.le_of_ble_eq_true rfl) ⟨Nat.le_of_ble_eq_true rfl, Nat.le_of_ble_eq_true rfl⟩ dX8_init_26 (fun q3 H hV => ?_)
  have hV : zVo D (zB h s.heap.size) s ((h, .inr (8, [.ref q1, .ref q2, .null, .int 0, .null, .int 0, .null, .null, .null, .null, .null, .null, .null, .int 0, .int 0, .int 0, .int 0, .null, .null, .null])) :: (((([] : va_W) ++ [(q1, .inl (cI, 346, .inl (fun _ => 0)))]) ++ [(q2, .inl (cI, 346, .inl (fun _ => 0)))]) ++ [(q3, .inl (cI, 346, .inl (fun _ => 0)))])) H locs := hV
  refine zk_putF hC hin hV ff_X8_18 rfl rfl (Nat.le_of_ble_eq_true rfl) dX8_init_28 (fun H locs hV => ?_)
  have hV : zVo D (zB h s.heap.size) s ((h, .inr (8, [.ref q1, .ref q2, .ref q3, .int 0, .null, .int 0, .null, .null, .null, .null, .null, .null, .null, .int 0, .int 0, .int 0, .int 0, .null, .null, .null])) :: (((([] : va_W) ++ [(q1, .inl (cI, 346, .inl (fun _ => 0)))]) ++ [(q2, .inl (cI, 346, .inl (fun _ => 0)))]) ++ [(q3, .inl (cI, 346, .inl (fun _ => 0)))])) H locs := hV
  refine lv_aload_n hx hb dX8_init_31 rfl (lv_at hl 0 rfl) ?_
  refine lv_bipush (v := 100) hx hb dX8_init_32 (by decide) ?_
  refine zk_arr (N := 100) hC hV wq_103 (by decide +kernel) (by decide +kernel) (Nat.le_of_ble_eq_true rfl) ⟨Nat.le_of_ble_eq_true rfl, Nat.le_of_ble_eq_true rfl⟩ dX8_init_34 (fun q4 H hV => ?_)
  have hV : zVo D (zB h s.heap.size) s ((h, .inr (8, [.ref q1, .ref q2, .ref q3, .int 0, .null, .int 0, .null, .null, .null, .null, .null, .null, .null, .int 0, .int 0, .int 0, .int 0, .null, .null, .null])) :: ((((([] : va_W) ++ [(q1, .inl (cI, 346, .inl (fun _ => 0)))]) ++ [(q2, .inl (cI, 346, .inl (fun _ => 0)))]) ++ [(q3, .inl (cI, 346, .inl (fun _ => 0)))]) ++ [(q4, .inl (cI, 100, .inl (fun _ => 0)))])) H locs := hV
  refine zk_putF hC hin hV ff_X8_21 rfl rfl (Nat.le_of_ble_eq_true rfl) dX8_init_36 (fun H locs hV => ?_)
  have hV : zVo D (zB h s.heap.size) s ((h, .inr (8, [.ref q1, .ref q2, .ref q3, .int 0, .ref q4, .int 0, .null, .null, .null, .null, .null, .null, .null, .int 0, .int 0, .int 0, .int 0, .null, .null, .null])) :: ((((([] : va_W) ++ [(q1, .inl (cI, 346, .inl (fun _ => 0)))]) ++ [(q2, .inl (cI, 346, .inl (fun _ => 0)))]) ++ [(q3, .inl (cI, 346, .inl (fun _ => 0)))]) ++ [(q4, .inl (cI, 100, .inl (fun _ => 0)))])) H locs := hV
  refine lv_aload_n hx hb dX8_init_39 rfl (lv_at hl 0 rfl) ?_
  refine lv_bipush (v := 8) hx hb dX8_init_40 (by decide) ?_
  refine zk_arr (N := 8) hC hV wq_103 (by decide +kernel) (by decide +kernel) (Nat.le_of_ble_eq_true rfl) ⟨Nat.le_of_ble_eq_true rfl, Nat.le_of_ble_eq_true rfl⟩ dX8_init_42 (fun q5 H hV => ?_)
  have hV : zVo D (zB h s.heap.size) s ((h, .inr (8, [.ref q1, .ref q2, .ref q3, .int 0, .ref q4, .int 0, .null, .null, .null, .null, .null, .null, .null, .int 0, .int 0, .int 0, .int 0, .null, .null, .null])) :: (((((([] : va_W) ++ [(q1, .inl (cI, 346, .inl (fun _ => 0)))]) ++ [(q2, .inl (cI, 346, .inl (fun _ => 0)))]) ++ [(q3, .inl (cI, 346, .inl (fun _ => 0)))]) ++ [(q4, .inl (cI, 100, .inl (fun _ => 0)))]) ++ [(q5, .inl (cI, 8, .inl (fun _ => 0)))])) H locs := hV
  refine zk_putF hC hin hV ff_X8_24 rfl rfl (Nat.le_of_ble_eq_true rfl) dX8_init_44 (fun H locs hV => ?_)
  have hV : zVo D (zB h s.heap.size) s ((h, .inr (8, [.ref q1, .ref q2, .ref q3, .int 0, .ref q4, .int 0, .ref q5, .null, .null, .null, .null, .null, .null, .int 0, .int 0, .int 0, .int 0, .null, .null, .null])) :: (((((([] : va_W) ++ [(q1, .inl (cI, 346, .inl (fun _ => 0)))]) ++ [(q2, .inl (cI, 346, .inl (fun _ => 0)))]) ++ [(q3, .inl (cI, 346, .inl (fun _ => 0)))]) ++ [(q4, .inl (cI, 100, .inl (fun _ => 0)))]) ++ [(q5, .inl (cI, 8, .inl (fun _ => 0)))])) H locs := hV
  refine lv_aload_n hx hb dX8_init_47 rfl (lv_at hl 0 rfl) ?_
  refine lv_bipush (v := 8) hx hb dX8_init_48 (by decide) ?_
  refine zk_arr (N := 8) hC hV wq_103 (by decide +kernel) (by decide +kernel) (Nat.le_of_ble_eq_true rfl) ⟨Nat.le_of_ble_eq_true rfl, Nat.le_of_ble_eq_true rfl⟩ dX8_init_50 (fun q6 H hV => ?_)
  have hV : zVo D (zB h s.heap.size) s ((h, .inr (8, [.ref q1, .ref q2, .ref q3, .int 0, .ref q4, .int 0, .ref q5, .null, .null, .null, .null, .null, .null, .int 0, .int 0, .int 0, .int 0, .null, .null, .null])) :: ((((((([] : va_W) ++ [(q1, .inl (cI, 346, .inl (fun _ => 0)))]) ++ [(q2, .inl (cI, 346, .inl (fun _ => 0)))]) ++ [(q3, .inl (cI, 346, .inl (fun _ => 0)))]) ++ [(q4, .inl (cI, 100, .inl (fun _ => 0)))]) ++ [(q5, .inl (cI, 8, .inl (fun _ => 0)))]) ++ [(q6, .inl (cI, 8, .inl (fun _ => 0)))])) H locs := hV
  refine zk_putF hC hin hV ff_X8_27 rfl rfl (Nat.le_of_ble_eq_true rfl) dX8_init_52 (fun H locs hV => ?_)
  have hV : zVo D (zB h s.heap.size) s ((h, .inr (8, [.ref q1, .ref q2, .ref q3, .int 0, .ref q4, .int 0, .ref q5, .ref q6, .null, .null, .null, .null, .null, .int 0, .int 0, .int 0, .int 0, .null, .null, .null])) :: ((((((([] : va_W) ++ [(q1, .inl (cI, 346, .inl (fun _ => 0)))]) ++ [(q2, .inl (cI, 346, .inl (fun _ => 0)))]) ++ [(q3, .inl (cI, 346, .inl (fun _ => 0)))]) ++ [(q4, .inl (cI, 100, .inl (fun _ => 0)))]) ++ [(q5, .inl (cI, 8, .inl (fun _ => 0)))]) ++ [(q6, .inl (cI, 8, .inl (fun _ => 0)))])) H locs := hV
  refine lv_aload_n hx hb dX8_init_55 rfl (lv_at hl 0 rfl) ?_
  refine lv_bipush (v := 8) hx hb dX8_init_56 (by decide) ?_
  refine zk_arr (N := 8) hC hV wq_103 (by decide +kernel) (by decide +kernel) (Nat.le_of_ble_eq_true rfl) ⟨Nat.le_of_ble_eq_true rfl, Nat.le_of_ble_eq_true rfl⟩ dX8_init_58 (fun q7 H hV => ?_)
  have hV : zVo D (zB h s.heap.size) s ((h, .inr (8, [.ref q1, .ref q2, .ref q3, .int 0, .ref q4, .int 0, .ref q5, .ref q6, .null, .null, .null, .null, .null, .int 0, .int 0, .int 0, .int 0, .null, .null, .null])) :: (((((((([] : va_W) ++ [(q1, .inl (cI, 346, .inl (fun _ => 0)))]) ++ [(q2, .inl (cI, 346, .inl (fun _ => 0)))]) ++ [(q3, .inl (cI, 346, .inl (fun _ => 0)))]) ++ [(q4, .inl (cI, 100, .inl (fun _ => 0)))]) ++ [(q5, .inl (cI, 8, .inl (fun _ => 0)))]) ++ [(q6, .inl (cI, 8, .inl (fun _ => 0)))]) ++ [(q7, .inl (cI, 8, .inl (fun _ => 0)))])) H locs := hV
  refine zk_putF hC hin hV ff_X8_30 rfl rfl (Nat.le_of_ble_eq_true rfl) dX8_init_60 (fun H locs hV => ?_)
  have hV : zVo D (zB h s.heap.size) s ((h, .inr (8, [.ref q1, .ref q2, .ref q3, .int 0, .ref q4, .int 0, .ref q5, .ref q6, .ref q7, .null, .null, .null, .null, .int 0, .int 0, .int 0, .int 0, .null, .null, .null])) :: (((((((([] : va_W) ++ [(q1, .inl (cI, 346, .inl (fun _ => 0)))]) ++ [(q2, .inl (cI, 346, .inl (fun _ => 0)))]) ++ [(q3, .inl (cI, 346, .inl (fun _ => 0)))]) ++ [(q4, .inl (cI, 100, .inl (fun _ => 0)))]) ++ [(q5, .inl (cI, 8, .inl (fun _ => 0)))]) ++ [(q6, .inl (cI, 8, .inl (fun _ => 0)))]) ++ [(q7, .inl (cI, 8, .inl (fun _ => 0)))])) H locs := hV
  refine lv_aload_n hx hb dX8_init_63 rfl (lv_at hl 0 rfl) ?_
  refine lv_bipush (v := 101) hx hb dX8_init_64 (by decide) ?_
  refine zk_arr (N := 101) hC hV wq_103 (by decide +kernel) (by decide +kernel) (Nat.le_of_ble_eq_true rfl) ⟨Nat.le_of_ble_eq_true rfl, Nat.le_of_ble_eq_true rfl⟩ dX8_init_66 (fun q8 H hV => ?_)
  have hV : zVo D (zB h s.heap.size) s ((h, .inr (8, [.ref q1, .ref q2, .ref q3, .int 0, .ref q4, .int 0, .ref q5, .ref q6, .ref q7, .null, .null, .null, .null, .int 0, .int 0, .int 0, .int 0, .null, .null, .null])) :: ((((((((([] : va_W) ++ [(q1, .inl (cI, 346, .inl (fun _ => 0)))]) ++ [(q2, .inl (cI, 346, .inl (fun _ => 0)))]) ++ [(q3, .inl (cI, 346, .inl (fun _ => 0)))]) ++ [(q4, .inl (cI, 100, .inl (fun _ => 0)))]) ++ [(q5, .inl (cI, 8, .inl (fun _ => 0)))]) ++ [(q6, .inl (cI, 8, .inl (fun _ => 0)))]) ++ [(q7, .inl (cI, 8, .inl (fun _ => 0)))]) ++ [(q8, .inl (cI, 101, .inl (fun _ => 0)))])) H locs := hV
  refine zk_putF hC hin hV ff_X8_33 rfl rfl (Nat.le_of_ble_eq_true rfl) dX8_init_68 (fun H locs hV => ?_)
  have hV : zVo D (zB h s.heap.size) s ((h, .inr (8, [.ref q1, .ref q2, .ref q3, .int 0, .ref q4, .int 0, .ref q5, .ref q6, .ref q7, .ref q8, .null, .null, .null, .int 0, .int 0, .int 0, .int 0, .null, .null, .null])) :: ((((((((([] : va_W) ++ [(q1, .inl (cI, 346, .inl (fun _ => 0)))]) ++ [(q2, .inl (cI, 346, .inl (fun _ => 0)))]) ++ [(q3, .inl (cI, 346, .inl (fun _ => 0)))]) ++ [(q4, .inl (cI, 100, .inl (fun _ => 0)))]) ++ [(q5, .inl (cI, 8, .inl (fun _ => 0)))]) ++ [(q6, .inl (cI, 8, .inl (fun _ => 0)))]) ++ [(q7, .inl (cI, 8, .inl (fun _ => 0)))]) ++ [(q8, .inl (cI, 101, .inl (fun _ => 0)))])) H locs := hV
  refine lv_aload_n hx hb dX8_init_71 rfl (lv_at hl 0 rfl) ?_
  refine lv_bipush (v := 101) hx hb dX8_init_72 (by decide) ?_
  refine zk_arr (N := 101) hC hV wq_103 (by decide +kernel) (by decide +kernel) (Nat.le_of_ble_eq_true rfl) ⟨Nat.le_of_ble_eq_true rfl, Nat.le_of_ble_eq_true rfl⟩ dX8_init_74 (fun q9 H hV => ?_)
  have hV : zVo D (zB h s.heap.size) s ((h, .inr (8, [.ref q1, .ref q2, .ref q3, .int 0, .ref q4, .int 0, .ref q5, .ref q6, .ref q7, .ref q8, .null, .null, .null, .int 0, .int 0, .int 0, .int 0, .null, .null, .null])) :: (((((((((([] : va_W) ++ [(q1, .inl (cI, 346, .inl (fun _ => 0)))]) ++ [(q2, .inl (cI, 346, .inl (fun _ => 0)))]) ++ [(q3, .inl (cI, 346, .inl (fun _ => 0)))]) ++ [(q4, .inl (cI, 100, .inl (fun _ => 0)))]) ++ [(q5, .inl (cI, 8, .inl (fun _ => 0)))]) ++ [(q6, .inl (cI, 8, .inl (fun _ => 0)))]) ++ [(q7, .inl (cI, 8, .inl (fun _ => 0)))]) ++ [(q8, .inl (cI, 101, .inl (fun _ => 0)))]) ++ [(q9, .inl (cI, 101, .inl (fun _ => 0)))])) H locs := hV
  refine zk_putF hC hin hV ff_X8_36 rfl rfl (Nat.le_of_ble_eq_true rfl) dX8_init_76 (fun H locs hV => ?_)
  have hV : zVo D (zB h s.heap.size) s ((h, .inr (8, [.ref q1, .ref q2, .ref q3, .int 0, .ref q4, .int 0, .ref q5, .ref q6, .ref q7, .ref q8, .ref q9, .null, .null, .int 0, .int 0, .int 0, .int 0, .null, .null, .null])) :: (((((((((([] : va_W) ++ [(q1, .inl (cI, 346, .inl (fun _ => 0)))]) ++ [(q2, .inl (cI, 346, .inl (fun _ => 0)))]) ++ [(q3, .inl (cI, 346, .inl (fun _ => 0)))]) ++ [(q4, .inl (cI, 100, .inl (fun _ => 0)))]) ++ [(q5, .inl (cI, 8, .inl (fun _ => 0)))]) ++ [(q6, .inl (cI, 8, .inl (fun _ => 0)))]) ++ [(q7, .inl (cI, 8, .inl (fun _ => 0)))]) ++ [(q8, .inl (cI, 101, .inl (fun _ => 0)))]) ++ [(q9, .inl (cI, 101, .inl (fun _ => 0)))])) H locs := hV
  refine lv_aload_n hx hb dX8_init_79 rfl (lv_at hl 0 rfl) ?_
  refine lv_bipush (v := 101) hx hb dX8_init_80 (by decide) ?_
  refine zk_arr (N := 101) hC hV wq_103 (by decide +kernel) (by decide +kernel) (Nat.le_of_ble_eq_true rfl) ⟨Nat.le_of_ble_eq_true rfl, Nat.le_of_ble_eq_true rfl⟩ dX8_init_82 (fun q10 H hV => ?_)
  have hV : zVo D (zB h s.heap.size) s ((h, .inr (8, [.ref q1, .ref q2, .ref q3, .int 0, .ref q4, .int 0, .ref q5, .ref q6, .ref q7, .ref q8, .ref q9, .null, .null, .int 0, .int 0, .int 0, .int 0, .null, .null, .null])) :: ((((((((((([] : va_W) ++ [(q1, .inl (cI, 346, .inl (fun _ => 0)))]) ++ [(q2, .inl (cI, 346, .inl (fun _ => 0)))]) ++ [(q3, .inl (cI, 346, .inl (fun _ => 0)))]) ++ [(q4, .inl (cI, 100, .inl (fun _ => 0)))]) ++ [(q5, .inl (cI, 8, .inl (fun _ => 0)))]) ++ [(q6, .inl (cI, 8, .inl (fun _ => 0)))]) ++ [(q7, .inl (cI, 8, .inl (fun _ => 0)))]) ++ [(q8, .inl (cI, 101, .inl (fun _ => 0)))]) ++ [(q9, .inl (cI, 101, .inl (fun _ => 0)))]) ++ [(q10, .inl (cI, 101, .inl (fun _ => 0)))])) H locs := hV
  refine zk_putF hC hin hV ff_X8_39 rfl rfl (Nat.le_of_ble_eq_true rfl) dX8_init_84 (fun H locs hV => ?_)
  have hV : zVo D (zB h s.heap.size) s ((h, .inr (8, [.ref q1, .ref q2, .ref q3, .int 0, .ref q4, .int 0, .ref q5, .ref q6, .ref q7, .ref q8, .ref q9, .ref q10, .null, .int 0, .int 0, .int 0, .int 0, .null, .null, .null])) :: ((((((((((([] : va_W) ++ [(q1, .inl (cI, 346, .inl (fun _ => 0)))]) ++ [(q2, .inl (cI, 346, .inl (fun _ => 0)))]) ++ [(q3, .inl (cI, 346, .inl (fun _ => 0)))]) ++ [(q4, .inl (cI, 100, .inl (fun _ => 0)))]) ++ [(q5, .inl (cI, 8, .inl (fun _ => 0)))]) ++ [(q6, .inl (cI, 8, .inl (fun _ => 0)))]) ++ [(q7, .inl (cI, 8, .inl (fun _ => 0)))]) ++ [(q8, .inl (cI, 101, .inl (fun _ => 0)))]) ++ [(q9, .inl (cI, 101, .inl (fun _ => 0)))]) ++ [(q10, .inl (cI, 101, .inl (fun _ => 0)))])) H locs := hV
  refine lv_aload_n hx hb dX8_init_87 rfl (lv_at hl 0 rfl) ?_
  refine lv_sipush (v := 606) hx hb dX8_init_88 (by decide) ?_
  refine zk_arr (N := 606) hC hV wq_103 (by decide +kernel) (by decide +kernel) (Nat.le_of_ble_eq_true rfl) ⟨Nat.le_of_ble_eq_true rfl, Nat.le_of_ble_eq_true rfl⟩ dX8_init_91 (fun q11 H hV => ?_)
  have hV : zVo D (zB h s.heap.size) s ((h, .inr (8, [.ref q1, .ref q2, .ref q3, .int 0, .ref q4, .int 0, .ref q5, .ref q6, .ref q7, .ref q8, .ref q9, .ref q10, .null, .int 0, .int 0, .int 0, .int 0, .null, .null, .null])) :: (((((((((((([] : va_W) ++ [(q1, .inl (cI, 346, .inl (fun _ => 0)))]) ++ [(q2, .inl (cI, 346, .inl (fun _ => 0)))]) ++ [(q3, .inl (cI, 346, .inl (fun _ => 0)))]) ++ [(q4, .inl (cI, 100, .inl (fun _ => 0)))]) ++ [(q5, .inl (cI, 8, .inl (fun _ => 0)))]) ++ [(q6, .inl (cI, 8, .inl (fun _ => 0)))]) ++ [(q7, .inl (cI, 8, .inl (fun _ => 0)))]) ++ [(q8, .inl (cI, 101, .inl (fun _ => 0)))]) ++ [(q9, .inl (cI, 101, .inl (fun _ => 0)))]) ++ [(q10, .inl (cI, 101, .inl (fun _ => 0)))]) ++ [(q11, .inl (cI, 606, .inl (fun _ => 0)))])) H locs := hV
  refine zk_putF hC hin hV ff_X8_42 rfl rfl (Nat.le_of_ble_eq_true rfl) dX8_init_93 (fun H locs hV => ?_)
  have hV : zVo D (zB h s.heap.size) s ((h, .inr (8, [.ref q1, .ref q2, .ref q3, .int 0, .ref q4, .int 0, .ref q5, .ref q6, .ref q7, .ref q8, .ref q9, .ref q10, .ref q11, .int 0, .int 0, .int 0, .int 0, .null, .null, .null])) :: (((((((((((([] : va_W) ++ [(q1, .inl (cI, 346, .inl (fun _ => 0)))]) ++ [(q2, .inl (cI, 346, .inl (fun _ => 0)))]) ++ [(q3, .inl (cI, 346, .inl (fun _ => 0)))]) ++ [(q4, .inl (cI, 100, .inl (fun _ => 0)))]) ++ [(q5, .inl (cI, 8, .inl (fun _ => 0)))]) ++ [(q6, .inl (cI, 8, .inl (fun _ => 0)))]) ++ [(q7, .inl (cI, 8, .inl (fun _ => 0)))]) ++ [(q8, .inl (cI, 101, .inl (fun _ => 0)))]) ++ [(q9, .inl (cI, 101, .inl (fun _ => 0)))]) ++ [(q10, .inl (cI, 101, .inl (fun _ => 0)))]) ++ [(q11, .inl (cI, 606, .inl (fun _ => 0)))])) H locs := hV
  refine lv_aload_n hx hb dX8_init_96 rfl (lv_at hl 0 rfl) ?_
  refine lv_bipush (v := 6) hx hb dX8_init_97 (by decide) ?_
  refine zk_arr (N := 6) hC hV wq_103 (by decide +kernel) (by decide +kernel) (Nat.le_of_ble_eq_true rfl) ⟨Nat.le_of_ble_eq_true rfl, Nat.le_of_ble_eq_true rfl⟩ dX8_init_99 (fun q12 H hV => ?_)
  have hV : zVo D (zB h s.heap.size) s ((h, .inr (8, [.ref q1, .ref q2, .ref q3, .int 0, .ref q4, .int 0, .ref q5, .ref q6, .ref q7, .ref q8, .ref q9, .ref q10, .ref q11, .int 0, .int 0, .int 0, .int 0, .null, .null, .null])) :: ((((((((((((([] : va_W) ++ [(q1, .inl (cI, 346, .inl (fun _ => 0)))]) ++ [(q2, .inl (cI, 346, .inl (fun _ => 0)))]) ++ [(q3, .inl (cI, 346, .inl (fun _ => 0)))]) ++ [(q4, .inl (cI, 100, .inl (fun _ => 0)))]) ++ [(q5, .inl (cI, 8, .inl (fun _ => 0)))]) ++ [(q6, .inl (cI, 8, .inl (fun _ => 0)))]) ++ [(q7, .inl (cI, 8, .inl (fun _ => 0)))]) ++ [(q8, .inl (cI, 101, .inl (fun _ => 0)))]) ++ [(q9, .inl (cI, 101, .inl (fun _ => 0)))]) ++ [(q10, .inl (cI, 101, .inl (fun _ => 0)))]) ++ [(q11, .inl (cI, 606, .inl (fun _ => 0)))]) ++ [(q12, .inl (cI, 6, .inl (fun _ => 0)))])) H locs := hV
  refine lv_dup hx hb dX8_init_101 rfl ?_
  refine lv_iconst (v := 0) hx hb dX8_init_102 (by decide) ?_
  refine lv_iconst (v := (-1)) hx hb dX8_init_103 (by decide) ?_
  refine zk_ast hC hV 12 rfl (by unfold vp_in; decide +kernel) dX8_init_104 (fun H locs hV => ?_)
  have hV : zVo D (zB h s.heap.size) s ((h, .inr (8, [.ref q1, .ref q2, .ref q3, .int 0, .ref q4, .int 0, .ref q5, .ref q6, .ref q7, .ref q8, .ref q9, .ref q10, .ref q11, .int 0, .int 0, .int 0, .int 0, .null, .null, .null])) :: ((((((((((((([] : va_W) ++ [(q1, .inl (cI, 346, .inl (fun _ => 0)))]) ++ [(q2, .inl (cI, 346, .inl (fun _ => 0)))]) ++ [(q3, .inl (cI, 346, .inl (fun _ => 0)))]) ++ [(q4, .inl (cI, 100, .inl (fun _ => 0)))]) ++ [(q5, .inl (cI, 8, .inl (fun _ => 0)))]) ++ [(q6, .inl (cI, 8, .inl (fun _ => 0)))]) ++ [(q7, .inl (cI, 8, .inl (fun _ => 0)))]) ++ [(q8, .inl (cI, 101, .inl (fun _ => 0)))]) ++ [(q9, .inl (cI, 101, .inl (fun _ => 0)))]) ++ [(q10, .inl (cI, 101, .inl (fun _ => 0)))]) ++ [(q11, .inl (cI, 606, .inl (fun _ => 0)))]) ++ [(q12, .inl (cI, 6, .inl (upd (fun _ => 0) 0 ((-1)))))])) H locs := hV
  refine lv_dup hx hb dX8_init_105 rfl ?_
  refine lv_iconst (v := 1) hx hb dX8_init_106 (by decide) ?_
  refine lv_iconst (v := (-1)) hx hb dX8_init_107 (by decide) ?_
  refine zk_ast hC hV 12 rfl (by unfold vp_in; decide +kernel) dX8_init_108 (fun H locs hV => ?_)
  have hV : zVo D (zB h s.heap.size) s ((h, .inr (8, [.ref q1, .ref q2, .ref q3, .int 0, .ref q4, .int 0, .ref q5, .ref q6, .ref q7, .ref q8, .ref q9, .ref q10, .ref q11, .int 0, .int 0, .int 0, .int 0, .null, .null, .null])) :: ((((((((((((([] : va_W) ++ [(q1, .inl (cI, 346, .inl (fun _ => 0)))]) ++ [(q2, .inl (cI, 346, .inl (fun _ => 0)))]) ++ [(q3, .inl (cI, 346, .inl (fun _ => 0)))]) ++ [(q4, .inl (cI, 100, .inl (fun _ => 0)))]) ++ [(q5, .inl (cI, 8, .inl (fun _ => 0)))]) ++ [(q6, .inl (cI, 8, .inl (fun _ => 0)))]) ++ [(q7, .inl (cI, 8, .inl (fun _ => 0)))]) ++ [(q8, .inl (cI, 101, .inl (fun _ => 0)))]) ++ [(q9, .inl (cI, 101, .inl (fun _ => 0)))]) ++ [(q10, .inl (cI, 101, .inl (fun _ => 0)))]) ++ [(q11, .inl (cI, 606, .inl (fun _ => 0)))]) ++ [(q12, .inl (cI, 6, .inl (upd (upd (fun _ => 0) 0 ((-1))) 1 ((-1)))))])) H locs := hV
  refine lv_dup hx hb dX8_init_109 rfl ?_
  refine lv_iconst (v := 2) hx hb dX8_init_110 (by decide) ?_
  refine lv_iconst (v := (-1)) hx hb dX8_init_111 (by decide) ?_
  refine zk_ast hC hV 12 rfl (by unfold vp_in; decide +kernel) dX8_init_112 (fun H locs hV => ?_)
  have hV : zVo D (zB h s.heap.size) s ((h, .inr (8, [.ref q1, .ref q2, .ref q3, .int 0, .ref q4, .int 0, .ref q5, .ref q6, .ref q7, .ref q8, .ref q9, .ref q10, .ref q11, .int 0, .int 0, .int 0, .int 0, .null, .null, .null])) :: ((((((((((((([] : va_W) ++ [(q1, .inl (cI, 346, .inl (fun _ => 0)))]) ++ [(q2, .inl (cI, 346, .inl (fun _ => 0)))]) ++ [(q3, .inl (cI, 346, .inl (fun _ => 0)))]) ++ [(q4, .inl (cI, 100, .inl (fun _ => 0)))]) ++ [(q5, .inl (cI, 8, .inl (fun _ => 0)))]) ++ [(q6, .inl (cI, 8, .inl (fun _ => 0)))]) ++ [(q7, .inl (cI, 8, .inl (fun _ => 0)))]) ++ [(q8, .inl (cI, 101, .inl (fun _ => 0)))]) ++ [(q9, .inl (cI, 101, .inl (fun _ => 0)))]) ++ [(q10, .inl (cI, 101, .inl (fun _ => 0)))]) ++ [(q11, .inl (cI, 606, .inl (fun _ => 0)))]) ++ [(q12, .inl (cI, 6, .inl (upd (upd (upd (fun _ => 0) 0 ((-1))) 1 ((-1))) 2 ((-1)))))])) H locs := hV
  refine lv_dup hx hb dX8_init_113 rfl ?_
  refine lv_iconst (v := 3) hx hb dX8_init_114 (by decide) ?_
  refine lv_iconst (v := (-1)) hx hb dX8_init_115 (by decide) ?_
  refine zk_ast hC hV 12 rfl (by unfold vp_in; decide +kernel) dX8_init_116 (fun H locs hV => ?_)
  have hV : zVo D (zB h s.heap.size) s ((h, .inr (8, [.ref q1, .ref q2, .ref q3, .int 0, .ref q4, .int 0, .ref q5, .ref q6, .ref q7, .ref q8, .ref q9, .ref q10, .ref q11, .int 0, .int 0, .int 0, .int 0, .null, .null, .null])) :: ((((((((((((([] : va_W) ++ [(q1, .inl (cI, 346, .inl (fun _ => 0)))]) ++ [(q2, .inl (cI, 346, .inl (fun _ => 0)))]) ++ [(q3, .inl (cI, 346, .inl (fun _ => 0)))]) ++ [(q4, .inl (cI, 100, .inl (fun _ => 0)))]) ++ [(q5, .inl (cI, 8, .inl (fun _ => 0)))]) ++ [(q6, .inl (cI, 8, .inl (fun _ => 0)))]) ++ [(q7, .inl (cI, 8, .inl (fun _ => 0)))]) ++ [(q8, .inl (cI, 101, .inl (fun _ => 0)))]) ++ [(q9, .inl (cI, 101, .inl (fun _ => 0)))]) ++ [(q10, .inl (cI, 101, .inl (fun _ => 0)))]) ++ [(q11, .inl (cI, 606, .inl (fun _ => 0)))]) ++ [(q12, .inl (cI, 6, .inl (upd (upd (upd (upd (fun _ => 0) 0 ((-1))) 1 ((-1))) 2 ((-1))) 3 ((-1)))))])) H locs := hV
  refine lv_dup hx hb dX8_init_117 rfl ?_
  refine lv_iconst (v := 4) hx hb dX8_init_118 (by decide) ?_
  refine lv_iconst (v := (-1)) hx hb dX8_init_119 (by decide) ?_
  refine zk_ast hC hV 12 rfl (by unfold vp_in; decide +kernel) dX8_init_120 (fun H locs hV => ?_)
  have hV : zVo D (zB h s.heap.size) s ((h, .inr (8, [.ref q1, .ref q2, .ref q3, .int 0, .ref q4, .int 0, .ref q5, .ref q6, .ref q7, .ref q8, .ref q9, .ref q10, .ref q11, .int 0, .int 0, .int 0, .int 0, .null, .null, .null])) :: ((((((((((((([] : va_W) ++ [(q1, .inl (cI, 346, .inl (fun _ => 0)))]) ++ [(q2, .inl (cI, 346, .inl (fun _ => 0)))]) ++ [(q3, .inl (cI, 346, .inl (fun _ => 0)))]) ++ [(q4, .inl (cI, 100, .inl (fun _ => 0)))]) ++ [(q5, .inl (cI, 8, .inl (fun _ => 0)))]) ++ [(q6, .inl (cI, 8, .inl (fun _ => 0)))]) ++ [(q7, .inl (cI, 8, .inl (fun _ => 0)))]) ++ [(q8, .inl (cI, 101, .inl (fun _ => 0)))]) ++ [(q9, .inl (cI, 101, .inl (fun _ => 0)))]) ++ [(q10, .inl (cI, 101, .inl (fun _ => 0)))]) ++ [(q11, .inl (cI, 606, .inl (fun _ => 0)))]) ++ [(q12, .inl (cI, 6, .inl (upd (upd (upd (upd (upd (fun _ => 0) 0 ((-1))) 1 ((-1))) 2 ((-1))) 3 ((-1))) 4 ((-1)))))])) H locs := hV
  refine lv_dup hx hb dX8_init_121 rfl ?_
  refine lv_iconst (v := 5) hx hb dX8_init_122 (by decide) ?_
  refine lv_iconst (v := (-1)) hx hb dX8_init_123 (by decide) ?_
  refine zk_ast hC hV 12 rfl (by unfold vp_in; decide +kernel) dX8_init_124 (fun H locs hV => ?_)
  have hV : zVo D (zB h s.heap.size) s ((h, .inr (8, [.ref q1, .ref q2, .ref q3, .int 0, .ref q4, .int 0, .ref q5, .ref q6, .ref q7, .ref q8, .ref q9, .ref q10, .ref q11, .int 0, .int 0, .int 0, .int 0, .null, .null, .null])) :: ((((((((((((([] : va_W) ++ [(q1, .inl (cI, 346, .inl (fun _ => 0)))]) ++ [(q2, .inl (cI, 346, .inl (fun _ => 0)))]) ++ [(q3, .inl (cI, 346, .inl (fun _ => 0)))]) ++ [(q4, .inl (cI, 100, .inl (fun _ => 0)))]) ++ [(q5, .inl (cI, 8, .inl (fun _ => 0)))]) ++ [(q6, .inl (cI, 8, .inl (fun _ => 0)))]) ++ [(q7, .inl (cI, 8, .inl (fun _ => 0)))]) ++ [(q8, .inl (cI, 101, .inl (fun _ => 0)))]) ++ [(q9, .inl (cI, 101, .inl (fun _ => 0)))]) ++ [(q10, .inl (cI, 101, .inl (fun _ => 0)))]) ++ [(q11, .inl (cI, 606, .inl (fun _ => 0)))]) ++ [(q12, .inl (cI, 6, .inl (upd (upd (upd (upd (upd (upd (fun _ => 0) 0 ((-1))) 1 ((-1))) 2 ((-1))) 3 ((-1))) 4 ((-1))) 5 ((-1)))))])) H locs := hV
  refine zk_putF hC hin hV ff_X8_45 rfl rfl (Nat.le_of_ble_eq_true rfl) dX8_init_125 (fun H locs hV => ?_)
  have hV : zVo D (zB h s.heap.size) s ((h, .inr (8, [.ref q1, .ref q2, .ref q3, .int 0, .ref q4, .int 0, .ref q5, .ref q6, .ref q7, .ref q8, .ref q9, .ref q10, .ref q11, .int 0, .int 0, .int 0, .int 0, .ref q12, .null, .null])) :: ((((((((((((([] : va_W) ++ [(q1, .inl (cI, 346, .inl (fun _ => 0)))]) ++ [(q2, .inl (cI, 346, .inl (fun _ => 0)))]) ++ [(q3, .inl (cI, 346, .inl (fun _ => 0)))]) ++ [(q4, .inl (cI, 100, .inl (fun _ => 0)))]) ++ [(q5, .inl (cI, 8, .inl (fun _ => 0)))]) ++ [(q6, .inl (cI, 8, .inl (fun _ => 0)))]) ++ [(q7, .inl (cI, 8, .inl (fun _ => 0)))]) ++ [(q8, .inl (cI, 101, .inl (fun _ => 0)))]) ++ [(q9, .inl (cI, 101, .inl (fun _ => 0)))]) ++ [(q10, .inl (cI, 101, .inl (fun _ => 0)))]) ++ [(q11, .inl (cI, 606, .inl (fun _ => 0)))]) ++ [(q12, .inl (cI, 6, .inl (upd (upd (upd (upd (upd (upd (fun _ => 0) 0 ((-1))) 1 ((-1))) 2 ((-1))) 3 ((-1))) 4 ((-1))) 5 ((-1)))))])) H locs := hV
  refine lv_aload_n hx hb dX8_init_128 rfl (lv_at hl 0 rfl) ?_
  refine lv_bipush (v := 6) hx hb dX8_init_129 (by decide) ?_
  refine zk_arr (N := 6) hC hV wq_103 (by decide +kernel) (by decide +kernel) (Nat.le_of_ble_eq_true rfl) ⟨Nat.le_of_ble_eq_true rfl, Nat.le_of_ble_eq_true rfl⟩ dX8_init_131 (fun q13 H hV => ?_)
  have hV : zVo D (zB h s.heap.size) s ((h, .inr (8, [.ref q1, .ref q2, .ref q3, .int 0, .ref q4, .int 0, .ref q5, .ref q6, .ref q7, .ref q8, .ref q9, .ref q10, .ref q11, .int 0, .int 0, .int 0, .int 0, .ref q12, .null, .null])) :: (((((((((((((([] : va_W) ++ [(q1, .inl (cI, 346, .inl (fun _ => 0)))]) ++ [(q2, .inl (cI, 346, .inl (fun _ => 0)))]) ++ [(q3, .inl (cI, 346, .inl (fun _ => 0)))]) ++ [(q4, .inl (cI, 100, .inl (fun _ => 0)))]) ++ [(q5, .inl (cI, 8, .inl (fun _ => 0)))]) ++ [(q6, .inl (cI, 8, .inl (fun _ => 0)))]) ++ [(q7, .inl (cI, 8, .inl (fun _ => 0)))]) ++ [(q8, .inl (cI, 101, .inl (fun _ => 0)))]) ++ [(q9, .inl (cI, 101, .inl (fun _ => 0)))]) ++ [(q10, .inl (cI, 101, .inl (fun _ => 0)))]) ++ [(q11, .inl (cI, 606, .inl (fun _ => 0)))]) ++ [(q12, .inl (cI, 6, .inl (upd (upd (upd (upd (upd (upd (fun _ => 0) 0 ((-1))) 1 ((-1))) 2 ((-1))) 3 ((-1))) 4 ((-1))) 5 ((-1)))))]) ++ [(q13, .inl (cI, 6, .inl (fun _ => 0)))])) H locs := hV
  refine zk_putF hC hin hV ff_X8_48 rfl rfl (Nat.le_of_ble_eq_true rfl) dX8_init_133 (fun H locs hV => ?_)
  have hV : zVo D (zB h s.heap.size) s ((h, .inr (8, [.ref q1, .ref q2, .ref q3, .int 0, .ref q4, .int 0, .ref q5, .ref q6, .ref q7, .ref q8, .ref q9, .ref q10, .ref q11, .int 0, .int 0, .int 0, .int 0, .ref q12, .ref q13, .null])) :: (((((((((((((([] : va_W) ++ [(q1, .inl (cI, 346, .inl (fun _ => 0)))]) ++ [(q2, .inl (cI, 346, .inl (fun _ => 0)))]) ++ [(q3, .inl (cI, 346, .inl (fun _ => 0)))]) ++ [(q4, .inl (cI, 100, .inl (fun _ => 0)))]) ++ [(q5, .inl (cI, 8, .inl (fun _ => 0)))]) ++ [(q6, .inl (cI, 8, .inl (fun _ => 0)))]) ++ [(q7, .inl (cI, 8, .inl (fun _ => 0)))]) ++ [(q8, .inl (cI, 101, .inl (fun _ => 0)))]) ++ [(q9, .inl (cI, 101, .inl (fun _ => 0)))]) ++ [(q10, .inl (cI, 101, .inl (fun _ => 0)))]) ++ [(q11, .inl (cI, 606, .inl (fun _ => 0)))]) ++ [(q12, .inl (cI, 6, .inl (upd (upd (upd (upd (upd (upd (fun _ => 0) 0 ((-1))) 1 ((-1))) 2 ((-1))) 3 ((-1))) 4 ((-1))) 5 ((-1)))))]) ++ [(q13, .inl (cI, 6, .inl (fun _ => 0)))])) H locs := hV
  refine lv_aload_n hx hb dX8_init_136 rfl (lv_at hl 0 rfl) ?_
  refine lv_sipush (v := 360) hx hb dX8_init_137 (by decide) ?_
  refine zk_arrL (N := 360) hC hV wq_269 (by decide +kernel) (by decide +kernel) (Nat.le_of_ble_eq_true rfl) ⟨Nat.le_of_ble_eq_true rfl, Nat.le_of_ble_eq_true rfl⟩ dX8_init_140 (fun q14 H hV => ?_)
  have hV : zVo D (zB h s.heap.size) s ((h, .inr (8, [.ref q1, .ref q2, .ref q3, .int 0, .ref q4, .int 0, .ref q5, .ref q6, .ref q7, .ref q8, .ref q9, .ref q10, .ref q11, .int 0, .int 0, .int 0, .int 0, .ref q12, .ref q13, .null])) :: ((((((((((((((([] : va_W) ++ [(q1, .inl (cI, 346, .inl (fun _ => 0)))]) ++ [(q2, .inl (cI, 346, .inl (fun _ => 0)))]) ++ [(q3, .inl (cI, 346, .inl (fun _ => 0)))]) ++ [(q4, .inl (cI, 100, .inl (fun _ => 0)))]) ++ [(q5, .inl (cI, 8, .inl (fun _ => 0)))]) ++ [(q6, .inl (cI, 8, .inl (fun _ => 0)))]) ++ [(q7, .inl (cI, 8, .inl (fun _ => 0)))]) ++ [(q8, .inl (cI, 101, .inl (fun _ => 0)))]) ++ [(q9, .inl (cI, 101, .inl (fun _ => 0)))]) ++ [(q10, .inl (cI, 101, .inl (fun _ => 0)))]) ++ [(q11, .inl (cI, 606, .inl (fun _ => 0)))]) ++ [(q12, .inl (cI, 6, .inl (upd (upd (upd (upd (upd (upd (fun _ => 0) 0 ((-1))) 1 ((-1))) 2 ((-1))) 3 ((-1))) 4 ((-1))) 5 ((-1)))))]) ++ [(q13, .inl (cI, 6, .inl (fun _ => 0)))]) ++ [(q14, .inl (cJ, 360, .inr (.inl (fun _ => 0))))])) H locs := hV
  refine zk_putF hC hin hV ff_X8_51 rfl rfl (Nat.le_of_ble_eq_true rfl) dX8_init_142 (fun H locs hV => ?_)
  have hV : zVo D (zB h s.heap.size) s ((h, .inr (8, [.ref q1, .ref q2, .ref q3, .int 0, .ref q4, .int 0, .ref q5, .ref q6, .ref q7, .ref q8, .ref q9, .ref q10, .ref q11, .int 0, .int 0, .int 0, .int 0, .ref q12, .ref q13, .ref q14])) :: ((((((((((((((([] : va_W) ++ [(q1, .inl (cI, 346, .inl (fun _ => 0)))]) ++ [(q2, .inl (cI, 346, .inl (fun _ => 0)))]) ++ [(q3, .inl (cI, 346, .inl (fun _ => 0)))]) ++ [(q4, .inl (cI, 100, .inl (fun _ => 0)))]) ++ [(q5, .inl (cI, 8, .inl (fun _ => 0)))]) ++ [(q6, .inl (cI, 8, .inl (fun _ => 0)))]) ++ [(q7, .inl (cI, 8, .inl (fun _ => 0)))]) ++ [(q8, .inl (cI, 101, .inl (fun _ => 0)))]) ++ [(q9, .inl (cI, 101, .inl (fun _ => 0)))]) ++ [(q10, .inl (cI, 101, .inl (fun _ => 0)))]) ++ [(q11, .inl (cI, 606, .inl (fun _ => 0)))]) ++ [(q12, .inl (cI, 6, .inl (upd (upd (upd (upd (upd (upd (fun _ => 0) 0 ((-1))) 1 ((-1))) 2 ((-1))) 3 ((-1))) 4 ((-1))) 5 ((-1)))))]) ++ [(q13, .inl (cI, 6, .inl (fun _ => 0)))]) ++ [(q14, .inl (cJ, 360, .inr (.inl (fun _ => 0))))])) H locs := hV
  refine lv_iconst (v := 0) hx hb dX8_init_145 (by decide) ?_
  refine lv_istore_n (lv' := [(1, .int 0), (0, .ref h)]) hx hb dX8_init_146 rfl hl (by decide) rfl (fun ls hl => ?_)
  refine lv_iload_n hx hb dX8_init_147 rfl (lv_at hl 0 rfl) ?_
  refine lv_iconst (v := 4) hx hb dX8_init_148 (by decide) ?_
  refine lv_icmp_ge (tgt := 169) hx hb dX8_init_149 (by decide) (fun hc => absurd hc (by decide)) (fun _ => ?_)
  refine lv_aload_n hx hb dX8_init_152 rfl (lv_at hl 1 rfl) ?_
  refine zk_get hC hV fl_X8_11 rfl dX8_init_153 ?_
  refine lv_bipush (v := 16) hx hb dX8_init_156 (by decide) ?_
  refine lv_iload_n hx hb dX8_init_158 rfl (lv_at hl 0 rfl) ?_
  refine lv_iadd hx hb dX8_init_159 ?_
  refine lv_bipush (v := (-5)) hx hb dX8_init_160 (by decide) ?_
  refine zk_ast hC hV 1 rfl (by unfold vp_in; decide +kernel) dX8_init_162 (fun H locs hV => ?_)
  have hV : zVo D (zB h s.heap.size) s ((h, .inr (8, [.ref q1, .ref q2, .ref q3, .int 0, .ref q4, .int 0, .ref q5, .ref q6, .ref q7, .ref q8, .ref q9, .ref q10, .ref q11, .int 0, .int 0, .int 0, .int 0, .ref q12, .ref q13, .ref q14])) :: ((((((((((((((([] : va_W) ++ [(q1, .inl (cI, 346, .inl (upd (fun _ => 0) 16 ((-5)))))]) ++ [(q2, .inl (cI, 346, .inl (fun _ => 0)))]) ++ [(q3, .inl (cI, 346, .inl (fun _ => 0)))]) ++ [(q4, .inl (cI, 100, .inl (fun _ => 0)))]) ++ [(q5, .inl (cI, 8, .inl (fun _ => 0)))]) ++ [(q6, .inl (cI, 8, .inl (fun _ => 0)))]) ++ [(q7, .inl (cI, 8, .inl (fun _ => 0)))]) ++ [(q8, .inl (cI, 101, .inl (fun _ => 0)))]) ++ [(q9, .inl (cI, 101, .inl (fun _ => 0)))]) ++ [(q10, .inl (cI, 101, .inl (fun _ => 0)))]) ++ [(q11, .inl (cI, 606, .inl (fun _ => 0)))]) ++ [(q12, .inl (cI, 6, .inl (upd (upd (upd (upd (upd (upd (fun _ => 0) 0 ((-1))) 1 ((-1))) 2 ((-1))) 3 ((-1))) 4 ((-1))) 5 ((-1)))))]) ++ [(q13, .inl (cI, 6, .inl (fun _ => 0)))]) ++ [(q14, .inl (cJ, 360, .inr (.inl (fun _ => 0))))])) H locs := hV
  refine lv_iinc (v := 1) (lv' := [(1, .int 1), (0, .ref h)]) hx hb dX8_init_163 hl (k := 0) rfl (by decide) (by decide) rfl (fun ls hl => ?_)
  refine lv_goto (tgt := 147) hx hb dX8_init_166 (by decide) ?_
  refine lv_iload_n hx hb dX8_init_147 rfl (lv_at hl 0 rfl) ?_
  refine lv_iconst (v := 4) hx hb dX8_init_148 (by decide) ?_
  refine lv_icmp_ge (tgt := 169) hx hb dX8_init_149 (by decide) (fun hc => absurd hc (by decide)) (fun _ => ?_)
  refine lv_aload_n hx hb dX8_init_152 rfl (lv_at hl 1 rfl) ?_
  refine zk_get hC hV fl_X8_11 rfl dX8_init_153 ?_
  refine lv_bipush (v := 16) hx hb dX8_init_156 (by decide) ?_
  refine lv_iload_n hx hb dX8_init_158 rfl (lv_at hl 0 rfl) ?_
  refine lv_iadd hx hb dX8_init_159 ?_
  refine lv_bipush (v := (-5)) hx hb dX8_init_160 (by decide) ?_
  refine zk_ast hC hV 1 rfl (by unfold vp_in; decide +kernel) dX8_init_162 (fun H locs hV => ?_)
  have hV : zVo D (zB h s.heap.size) s ((h, .inr (8, [.ref q1, .ref q2, .ref q3, .int 0, .ref q4, .int 0, .ref q5, .ref q6, .ref q7, .ref q8, .ref q9, .ref q10, .ref q11, .int 0, .int 0, .int 0, .int 0, .ref q12, .ref q13, .ref q14])) :: ((((((((((((((([] : va_W) ++ [(q1, .inl (cI, 346, .inl (upd (upd (fun _ => 0) 16 ((-5))) 17 ((-5)))))]) ++ [(q2, .inl (cI, 346, .inl (fun _ => 0)))]) ++ [(q3, .inl (cI, 346, .inl (fun _ => 0)))]) ++ [(q4, .inl (cI, 100, .inl (fun _ => 0)))]) ++ [(q5, .inl (cI, 8, .inl (fun _ => 0)))]) ++ [(q6, .inl (cI, 8, .inl (fun _ => 0)))]) ++ [(q7, .inl (cI, 8, .inl (fun _ => 0)))]) ++ [(q8, .inl (cI, 101, .inl (fun _ => 0)))]) ++ [(q9, .inl (cI, 101, .inl (fun _ => 0)))]) ++ [(q10, .inl (cI, 101, .inl (fun _ => 0)))]) ++ [(q11, .inl (cI, 606, .inl (fun _ => 0)))]) ++ [(q12, .inl (cI, 6, .inl (upd (upd (upd (upd (upd (upd (fun _ => 0) 0 ((-1))) 1 ((-1))) 2 ((-1))) 3 ((-1))) 4 ((-1))) 5 ((-1)))))]) ++ [(q13, .inl (cI, 6, .inl (fun _ => 0)))]) ++ [(q14, .inl (cJ, 360, .inr (.inl (fun _ => 0))))])) H locs := hV
  refine lv_iinc (v := 2) (lv' := [(1, .int 2), (0, .ref h)]) hx hb dX8_init_163 hl (k := 0) rfl (by decide) (by decide) rfl (fun ls hl => ?_)
  refine lv_goto (tgt := 147) hx hb dX8_init_166 (by decide) ?_
  refine lv_iload_n hx hb dX8_init_147 rfl (lv_at hl 0 rfl) ?_
  refine lv_iconst (v := 4) hx hb dX8_init_148 (by decide) ?_
  refine lv_icmp_ge (tgt := 169) hx hb dX8_init_149 (by decide) (fun hc => absurd hc (by decide)) (fun _ => ?_)
  refine lv_aload_n hx hb dX8_init_152 rfl (lv_at hl 1 rfl) ?_
  refine zk_get hC hV fl_X8_11 rfl dX8_init_153 ?_
  refine lv_bipush (v := 16) hx hb dX8_init_156 (by decide) ?_
  refine lv_iload_n hx hb dX8_init_158 rfl (lv_at hl 0 rfl) ?_
  refine lv_iadd hx hb dX8_init_159 ?_
  refine lv_bipush (v := (-5)) hx hb dX8_init_160 (by decide) ?_
  refine zk_ast hC hV 1 rfl (by unfold vp_in; decide +kernel) dX8_init_162 (fun H locs hV => ?_)
  have hV : zVo D (zB h s.heap.size) s ((h, .inr (8, [.ref q1, .ref q2, .ref q3, .int 0, .ref q4, .int 0, .ref q5, .ref q6, .ref q7, .ref q8, .ref q9, .ref q10, .ref q11, .int 0, .int 0, .int 0, .int 0, .ref q12, .ref q13, .ref q14])) :: ((((((((((((((([] : va_W) ++ [(q1, .inl (cI, 346, .inl (upd (upd (upd (fun _ => 0) 16 ((-5))) 17 ((-5))) 18 ((-5)))))]) ++ [(q2, .inl (cI, 346, .inl (fun _ => 0)))]) ++ [(q3, .inl (cI, 346, .inl (fun _ => 0)))]) ++ [(q4, .inl (cI, 100, .inl (fun _ => 0)))]) ++ [(q5, .inl (cI, 8, .inl (fun _ => 0)))]) ++ [(q6, .inl (cI, 8, .inl (fun _ => 0)))]) ++ [(q7, .inl (cI, 8, .inl (fun _ => 0)))]) ++ [(q8, .inl (cI, 101, .inl (fun _ => 0)))]) ++ [(q9, .inl (cI, 101, .inl (fun _ => 0)))]) ++ [(q10, .inl (cI, 101, .inl (fun _ => 0)))]) ++ [(q11, .inl (cI, 606, .inl (fun _ => 0)))]) ++ [(q12, .inl (cI, 6, .inl (upd (upd (upd (upd (upd (upd (fun _ => 0) 0 ((-1))) 1 ((-1))) 2 ((-1))) 3 ((-1))) 4 ((-1))) 5 ((-1)))))]) ++ [(q13, .inl (cI, 6, .inl (fun _ => 0)))]) ++ [(q14, .inl (cJ, 360, .inr (.inl (fun _ => 0))))])) H locs := hV
  refine lv_iinc (v := 3) (lv' := [(1, .int 3), (0, .ref h)]) hx hb dX8_init_163 hl (k := 0) rfl (by decide) (by decide) rfl (fun ls hl => ?_)
  refine lv_goto (tgt := 147) hx hb dX8_init_166 (by decide) ?_
  refine lv_iload_n hx hb dX8_init_147 rfl (lv_at hl 0 rfl) ?_
  refine lv_iconst (v := 4) hx hb dX8_init_148 (by decide) ?_
  refine lv_icmp_ge (tgt := 169) hx hb dX8_init_149 (by decide) (fun hc => absurd hc (by decide)) (fun _ => ?_)
  refine lv_aload_n hx hb dX8_init_152 rfl (lv_at hl 1 rfl) ?_
  refine zk_get hC hV fl_X8_11 rfl dX8_init_153 ?_
  refine lv_bipush (v := 16) hx hb dX8_init_156 (by decide) ?_
  refine lv_iload_n hx hb dX8_init_158 rfl (lv_at hl 0 rfl) ?_
  refine lv_iadd hx hb dX8_init_159 ?_
  refine lv_bipush (v := (-5)) hx hb dX8_init_160 (by decide) ?_
  refine zk_ast hC hV 1 rfl (by unfold vp_in; decide +kernel) dX8_init_162 (fun H locs hV => ?_)
  have hV : zVo D (zB h s.heap.size) s ((h, .inr (8, [.ref q1, .ref q2, .ref q3, .int 0, .ref q4, .int 0, .ref q5, .ref q6, .ref q7, .ref q8, .ref q9, .ref q10, .ref q11, .int 0, .int 0, .int 0, .int 0, .ref q12, .ref q13, .ref q14])) :: ((((((((((((((([] : va_W) ++ [(q1, .inl (cI, 346, .inl (upd (upd (upd (upd (fun _ => 0) 16 ((-5))) 17 ((-5))) 18 ((-5))) 19 ((-5)))))]) ++ [(q2, .inl (cI, 346, .inl (fun _ => 0)))]) ++ [(q3, .inl (cI, 346, .inl (fun _ => 0)))]) ++ [(q4, .inl (cI, 100, .inl (fun _ => 0)))]) ++ [(q5, .inl (cI, 8, .inl (fun _ => 0)))]) ++ [(q6, .inl (cI, 8, .inl (fun _ => 0)))]) ++ [(q7, .inl (cI, 8, .inl (fun _ => 0)))]) ++ [(q8, .inl (cI, 101, .inl (fun _ => 0)))]) ++ [(q9, .inl (cI, 101, .inl (fun _ => 0)))]) ++ [(q10, .inl (cI, 101, .inl (fun _ => 0)))]) ++ [(q11, .inl (cI, 606, .inl (fun _ => 0)))]) ++ [(q12, .inl (cI, 6, .inl (upd (upd (upd (upd (upd (upd (fun _ => 0) 0 ((-1))) 1 ((-1))) 2 ((-1))) 3 ((-1))) 4 ((-1))) 5 ((-1)))))]) ++ [(q13, .inl (cI, 6, .inl (fun _ => 0)))]) ++ [(q14, .inl (cJ, 360, .inr (.inl (fun _ => 0))))])) H locs := hV
  refine lv_iinc (v := 4) (lv' := [(1, .int 4), (0, .ref h)]) hx hb dX8_init_163 hl (k := 0) rfl (by decide) (by decide) rfl (fun ls hl => ?_)
  refine lv_goto (tgt := 147) hx hb dX8_init_166 (by decide) ?_
  refine lv_iload_n hx hb dX8_init_147 rfl (lv_at hl 0 rfl) ?_
  refine lv_iconst (v := 4) hx hb dX8_init_148 (by decide) ?_
  refine lv_icmp_ge (tgt := 169) hx hb dX8_init_149 (by decide) (fun _ => ?_) (fun hc => absurd (by decide) hc)
  refine lv_aload_n hx hb dX8_init_169 rfl (lv_at hl 1 rfl) ?_
  refine zk_get hC hV fl_X8_11 rfl dX8_init_170 ?_
  refine lv_iconst (v := 4) hx hb dX8_init_173 (by decide) ?_
  refine lv_bipush (v := (-5)) hx hb dX8_init_174 (by decide) ?_
  refine zk_ast hC hV 1 rfl (by unfold vp_in; decide +kernel) dX8_init_176 (fun H locs hV => ?_)
  have hV : zVo D (zB h s.heap.size) s ((h, .inr (8, [.ref q1, .ref q2, .ref q3, .int 0, .ref q4, .int 0, .ref q5, .ref q6, .ref q7, .ref q8, .ref q9, .ref q10, .ref q11, .int 0, .int 0, .int 0, .int 0, .ref q12, .ref q13, .ref q14])) :: ((((((((((((((([] : va_W) ++ [(q1, .inl (cI, 346, .inl (upd (upd (upd (upd (upd (fun _ => 0) 16 ((-5))) 17 ((-5))) 18 ((-5))) 19 ((-5))) 4 ((-5)))))]) ++ [(q2, .inl (cI, 346, .inl (fun _ => 0)))]) ++ [(q3, .inl (cI, 346, .inl (fun _ => 0)))]) ++ [(q4, .inl (cI, 100, .inl (fun _ => 0)))]) ++ [(q5, .inl (cI, 8, .inl (fun _ => 0)))]) ++ [(q6, .inl (cI, 8, .inl (fun _ => 0)))]) ++ [(q7, .inl (cI, 8, .inl (fun _ => 0)))]) ++ [(q8, .inl (cI, 101, .inl (fun _ => 0)))]) ++ [(q9, .inl (cI, 101, .inl (fun _ => 0)))]) ++ [(q10, .inl (cI, 101, .inl (fun _ => 0)))]) ++ [(q11, .inl (cI, 606, .inl (fun _ => 0)))]) ++ [(q12, .inl (cI, 6, .inl (upd (upd (upd (upd (upd (upd (fun _ => 0) 0 ((-1))) 1 ((-1))) 2 ((-1))) 3 ((-1))) 4 ((-1))) 5 ((-1)))))]) ++ [(q13, .inl (cI, 6, .inl (fun _ => 0)))]) ++ [(q14, .inl (cJ, 360, .inr (.inl (fun _ => 0))))])) H locs := hV
  exact zk_end hC hr hlk hV ⟨q1, q2, q3, q4, q5, q6, q7, q8, q9, q10, q11, q12, q13, q14, rfl⟩ dX8_init_177
