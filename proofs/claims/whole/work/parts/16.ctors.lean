theorem kwAI : Cond.arrayClass .int ∈ tbG := tb_g 200 (by decide +kernel) (by decide +kernel)
theorem kwOI : Cond.instanceMethod objectInit ∈ tbG := tb_g 121 (by decide +kernel) (by decide +kernel)
theorem kwOC : Cond.code objectInit ⟨#[0xb1]⟩ 1 none ∈ tbG := tb_g 122 (by decide +kernel) (by decide +kernel)
theorem fp_RX0_9 : FpA RX0 9 0 0 false .int := ⟨RX0, TX0, 13, tyX0, rfl, iw_0, by decide, kw138, tyX0_ok, nmX0, rfl, by decide +kernel, rfl⟩
theorem fp_RX0_15 : FpA RX0 15 0 1 false .int := ⟨RX0, TX0, 13, tyX0, rfl, iw_0, by decide, kw141, tyX0_ok, nmX0, rfl, by decide +kernel, rfl⟩
theorem fp_RX0_18 : FpA RX0 18 0 2 false .int := ⟨RX0, TX0, 13, tyX0, rfl, iw_0, by decide, kw144, tyX0_ok, nmX0, rfl, by decide +kernel, rfl⟩
theorem fp_RX0_21 : FpA RX0 21 0 3 false .int := ⟨RX0, TX0, 13, tyX0, rfl, iw_0, by decide, kw146, tyX0_ok, nmX0, rfl, by decide +kernel, rfl⟩
theorem fp_RX0_24 : FpA RX0 24 0 4 false .int := ⟨RX0, TX0, 13, tyX0, rfl, iw_0, by decide, kw149, tyX0_ok, nmX0, rfl, by decide +kernel, rfl⟩
theorem fp_RX0_27 : FpA RX0 27 0 5 false .int := ⟨RX0, TX0, 13, tyX0, rfl, iw_0, by decide, kw151, tyX0_ok, nmX0, rfl, by decide +kernel, rfl⟩
theorem fp_RX0_30 : FpA RX0 30 0 6 false .int := ⟨RX0, TX0, 13, tyX0, rfl, iw_0, by decide, kw154, tyX0_ok, nmX0, rfl, by decide +kernel, rfl⟩
theorem fp_RX0_33 : FpA RX0 33 0 7 false .int := ⟨RX0, TX0, 13, tyX0, rfl, iw_0, by decide, kw157, tyX0_ok, nmX0, rfl, by decide +kernel, rfl⟩
theorem fp_RX0_36 : FpA RX0 36 0 8 false .int := ⟨RX0, TX0, 13, tyX0, rfl, iw_0, by decide, kw160, tyX0_ok, nmX0, rfl, by decide +kernel, rfl⟩
theorem fp_RX0_39 : FpA RX0 39 0 9 false .int := ⟨RX0, TX0, 13, tyX0, rfl, iw_0, by decide, kw163, tyX0_ok, nmX0, rfl, by decide +kernel, rfl⟩
theorem fp_RX0_42 : FpA RX0 42 0 10 false .int := ⟨RX0, TX0, 13, tyX0, rfl, iw_0, by decide, kw166, tyX0_ok, nmX0, rfl, by decide +kernel, rfl⟩
theorem fp_RX0_45 : FpA RX0 45 0 11 false .int := ⟨RX0, TX0, 13, tyX0, rfl, iw_0, by decide, kw169, tyX0_ok, nmX0, rfl, by decide +kernel, rfl⟩
theorem fp_RX3_11 : FpA RX3 11 3 0 true (.array (.object "ShyWell$Text")) := ⟨RX3, TX3, 14, tyX3, rfl, iw_3, by decide, kw201, tyX3_ok, nmX3, rfl, by decide +kernel, rfl⟩
theorem fp_RX3_17 : FpA RX3 17 3 1 true (.array .int) := ⟨RX3, TX3, 14, tyX3, rfl, iw_3, by decide, kw202, tyX3_ok, nmX3, rfl, by decide +kernel, rfl⟩
theorem fp_RX3_21 : FpA RX3 21 3 2 false .int := ⟨RX3, TX3, 14, tyX3, rfl, iw_3, by decide, kw204, tyX3_ok, nmX3, rfl, by decide +kernel, rfl⟩
theorem fp_RX3_27 : FpA RX3 27 3 3 true (.array (.object "ShyWell$Comer")) := ⟨RX3, TX3, 14, tyX3, rfl, iw_3, by decide, kw206, tyX3_ok, nmX3, rfl, by decide +kernel, rfl⟩
theorem fp_RX3_31 : FpA RX3 31 3 4 false .int := ⟨RX3, TX3, 14, tyX3, rfl, iw_3, by decide, kw207, tyX3_ok, nmX3, rfl, by decide +kernel, rfl⟩
theorem fp_RX3_34 : FpA RX3 34 3 5 false .int := ⟨RX3, TX3, 14, tyX3, rfl, iw_3, by decide, kw209, tyX3_ok, nmX3, rfl, by decide +kernel, rfl⟩
theorem fp_RX3_37 : FpA RX3 37 3 6 false .int := ⟨RX3, TX3, 14, tyX3, rfl, iw_3, by decide, kw211, tyX3_ok, nmX3, rfl, by decide +kernel, rfl⟩
theorem fp_RX3_40 : FpA RX3 40 3 7 false .int := ⟨RX3, TX3, 14, tyX3, rfl, iw_3, by decide, kw213, tyX3_ok, nmX3, rfl, by decide +kernel, rfl⟩
theorem fp_RX3_43 : FpA RX3 43 3 8 false .int := ⟨RX3, TX3, 14, tyX3, rfl, iw_3, by decide, kw215, tyX3_ok, nmX3, rfl, by decide +kernel, rfl⟩
theorem fp_RX3_46 : FpA RX3 46 3 9 false .int := ⟨RX3, TX3, 14, tyX3, rfl, iw_3, by decide, kw216, tyX3_ok, nmX3, rfl, by decide +kernel, rfl⟩
theorem fp_RX3_49 : FpA RX3 49 3 10 false .int := ⟨RX3, TX3, 14, tyX3, rfl, iw_3, by decide, kw217, tyX3_ok, nmX3, rfl, by decide +kernel, rfl⟩
theorem fp_RX3_52 : FpA RX3 52 3 11 false .int := ⟨RX3, TX3, 14, tyX3, rfl, iw_3, by decide, kw219, tyX3_ok, nmX3, rfl, by decide +kernel, rfl⟩
theorem fp_RX3_55 : FpA RX3 55 3 12 false .int := ⟨RX3, TX3, 14, tyX3, rfl, iw_3, by decide, kw221, tyX3_ok, nmX3, rfl, by decide +kernel, rfl⟩
theorem fp_RX3_58 : FpA RX3 58 3 13 false .int := ⟨RX3, TX3, 14, tyX3, rfl, iw_3, by decide, kw223, tyX3_ok, nmX3, rfl, by decide +kernel, rfl⟩
theorem fp_RX2_19 : FpA RX2 19 2 0 true (.array .int) := ⟨RX2, TX2, 2, tyX2, rfl, iw_2, by decide, kw269, tyX2_ok, nmX2, rfl, by decide +kernel, rfl⟩
theorem fp_RX2_7 : FpA RX2 7 2 1 false .int := ⟨RX2, TX2, 2, tyX2, rfl, iw_2, by decide, kw272, tyX2_ok, nmX2, rfl, by decide +kernel, rfl⟩
theorem fp_RX1_14 : FpA RX1 14 1 0 true (.object "ShyWell$Row") := ⟨RX1, TX1, 7, tyX1, rfl, iw_1, by decide, kw280, tyX1_ok, nmX1, rfl, by decide +kernel, rfl⟩
theorem fp_RX1_20 : FpA RX1 20 1 1 true (.object "ShyWell$Row") := ⟨RX1, TX1, 7, tyX1, rfl, iw_1, by decide, kw282, tyX1_ok, nmX1, rfl, by decide +kernel, rfl⟩
theorem fp_RX1_65 : FpA RX1 65 1 2 false .int := ⟨RX1, TX1, 7, tyX1, rfl, iw_1, by decide, kw283, tyX1_ok, nmX1, rfl, by decide +kernel, rfl⟩
theorem fp_RX1_30 : FpA RX1 30 1 3 false .int := ⟨RX1, TX1, 7, tyX1, rfl, iw_1, by decide, kw285, tyX1_ok, nmX1, rfl, by decide +kernel, rfl⟩
theorem fp_RX1_33 : FpA RX1 33 1 4 false .int := ⟨RX1, TX1, 7, tyX1, rfl, iw_1, by decide, kw286, tyX1_ok, nmX1, rfl, by decide +kernel, rfl⟩
theorem fp_RX1_43 : FpA RX1 43 1 5 false .int := ⟨RX1, TX1, 7, tyX1, rfl, iw_1, by decide, kw287, tyX1_ok, nmX1, rfl, by decide +kernel, rfl⟩
theorem fp_RX1_27 : FpA RX1 27 1 6 false .int := ⟨RX1, TX1, 7, tyX1, rfl, iw_1, by decide, kw288, tyX1_ok, nmX1, rfl, by decide +kernel, rfl⟩
theorem fp_RX4_9 : FpA RX4 9 4 0 true (.array .int) := ⟨RX4, TX4, 3, tyX4, rfl, iw_4, by decide, kw315, tyX4_ok, nmX4, rfl, by decide +kernel, rfl⟩
theorem fp_RX4_15 : FpA RX4 15 4 1 false .int := ⟨RX4, TX4, 3, tyX4, rfl, iw_4, by decide, kw318, tyX4_ok, nmX4, rfl, by decide +kernel, rfl⟩
theorem fp_RX4_19 : FpA RX4 19 4 2 false .int := ⟨RX4, TX4, 3, tyX4, rfl, iw_4, by decide, kw320, tyX4_ok, nmX4, rfl, by decide +kernel, rfl⟩
theorem fp_RX5_12 : FpA RX5 12 5 0 true (.object "ShyWell$Comer") := ⟨RX5, TX5, 4, tyX5, rfl, iw_5, by decide, kw339, tyX5_ok, nmX5, rfl, by decide +kernel, rfl⟩
theorem fp_RX5_21 : FpA RX5 21 5 1 true (.object "ShyWell$Sheet") := ⟨RX5, TX5, 4, tyX5, rfl, iw_5, by decide, kw341, tyX5_ok, nmX5, rfl, by decide +kernel, rfl⟩
theorem fp_RX5_25 : FpA RX5 25 5 2 false .int := ⟨RX5, TX5, 4, tyX5, rfl, iw_5, by decide, kw343, tyX5_ok, nmX5, rfl, by decide +kernel, rfl⟩
theorem fp_RX5_29 : FpA RX5 29 5 3 false .int := ⟨RX5, TX5, 4, tyX5, rfl, iw_5, by decide, kw345, tyX5_ok, nmX5, rfl, by decide +kernel, rfl⟩
theorem fp_RX7_10 : FpA RX7 10 7 0 true (.object "ShyWell$Scene") := ⟨RX7, TX7, 9, tyX7, rfl, iw_7, by decide, kw356, tyX7_ok, nmX7, rfl, by decide +kernel, rfl⟩
theorem fp_RX7_16 : FpA RX7 16 7 1 true (.object "ShyWell$Scene") := ⟨RX7, TX7, 9, tyX7, rfl, iw_7, by decide, kw357, tyX7_ok, nmX7, rfl, by decide +kernel, rfl⟩
theorem fp_RX7_19 : FpA RX7 19 7 2 true (.object "ShyWell$Scene") := ⟨RX7, TX7, 9, tyX7, rfl, iw_7, by decide, kw358, tyX7_ok, nmX7, rfl, by decide +kernel, rfl⟩
theorem fp_RX7_22 : FpA RX7 22 7 3 false .boolean := ⟨RX7, TX7, 9, tyX7, rfl, iw_7, by decide, kw359, tyX7_ok, nmX7, rfl, by decide +kernel, rfl⟩
theorem fp_RX7_29 : FpA RX7 29 7 4 true (.object "ShyWell$Reader") := ⟨RX7, TX7, 9, tyX7, rfl, iw_7, by decide, kw360, tyX7_ok, nmX7, rfl, by decide +kernel, rfl⟩
theorem fp_RX7_37 : FpA RX7 37 7 5 true (.object "ShyWell$Row") := ⟨RX7, TX7, 9, tyX7, rfl, iw_7, by decide, kw361, tyX7_ok, nmX7, rfl, by decide +kernel, rfl⟩
theorem fp_RX7_43 : FpA RX7 43 7 6 true (.object "ShyWell$Row") := ⟨RX7, TX7, 9, tyX7, rfl, iw_7, by decide, kw362, tyX7_ok, nmX7, rfl, by decide +kernel, rfl⟩
theorem fp_RX7_48 : FpA RX7 48 7 7 true (.array (.object "ShyWell$Sheet")) := ⟨RX7, TX7, 9, tyX7, rfl, iw_7, by decide, kw363, tyX7_ok, nmX7, rfl, by decide +kernel, rfl⟩
theorem fp_RX7_54 : FpA RX7 54 7 8 true (.array (.object "ShyWell$Slot")) := ⟨RX7, TX7, 9, tyX7, rfl, iw_7, by decide, kw364, tyX7_ok, nmX7, rfl, by decide +kernel, rfl⟩
theorem fp_RX6_7 : FpA RX6 7 6 0 true .int := ⟨RX6, TX6, 4, tyX6, rfl, iw_6, by decide, kw827, tyX6_ok, nmX6, rfl, by decide +kernel, rfl⟩
theorem fp_RX6_13 : FpA RX6 13 6 1 true .int := ⟨RX6, TX6, 4, tyX6, rfl, iw_6, by decide, kw830, tyX6_ok, nmX6, rfl, by decide +kernel, rfl⟩
theorem fp_RX6_16 : FpA RX6 16 6 2 true (.array .int) := ⟨RX6, TX6, 4, tyX6, rfl, iw_6, by decide, kw832, tyX6_ok, nmX6, rfl, by decide +kernel, rfl⟩
theorem fp_RX6_26 : FpA RX6 26 6 3 true (.array .int) := ⟨RX6, TX6, 4, tyX6, rfl, iw_6, by decide, kw833, tyX6_ok, nmX6, rfl, by decide +kernel, rfl⟩
theorem fp_RX8_7 : FpA RX8 7 8 0 true (.array .int) := ⟨RX8, TX8, 34, tyX8, rfl, iw_8, by decide, kw970, tyX8_ok, nmX8, rfl, by decide +kernel, rfl⟩
theorem fp_RX8_13 : FpA RX8 13 8 1 true (.array .int) := ⟨RX8, TX8, 34, tyX8, rfl, iw_8, by decide, kw971, tyX8_ok, nmX8, rfl, by decide +kernel, rfl⟩
theorem fp_RX8_16 : FpA RX8 16 8 2 true (.array .int) := ⟨RX8, TX8, 34, tyX8, rfl, iw_8, by decide, kw972, tyX8_ok, nmX8, rfl, by decide +kernel, rfl⟩
theorem fp_RX8_331 : FpA RX8 331 8 3 false .boolean := ⟨RX8, TX8, 34, tyX8, rfl, iw_8, by decide, kw973, tyX8_ok, nmX8, rfl, by decide +kernel, rfl⟩
theorem fp_RX8_19 : FpA RX8 19 8 4 true (.array .int) := ⟨RX8, TX8, 34, tyX8, rfl, iw_8, by decide, kw974, tyX8_ok, nmX8, rfl, by decide +kernel, rfl⟩
theorem fp_RX8_22 : FpA RX8 22 8 5 true (.array .int) := ⟨RX8, TX8, 34, tyX8, rfl, iw_8, by decide, kw975, tyX8_ok, nmX8, rfl, by decide +kernel, rfl⟩
theorem fp_RX8_25 : FpA RX8 25 8 6 true (.array .int) := ⟨RX8, TX8, 34, tyX8, rfl, iw_8, by decide, kw976, tyX8_ok, nmX8, rfl, by decide +kernel, rfl⟩
theorem fp_RX8_28 : FpA RX8 28 8 7 true (.array .int) := ⟨RX8, TX8, 34, tyX8, rfl, iw_8, by decide, kw977, tyX8_ok, nmX8, rfl, by decide +kernel, rfl⟩
theorem fp_RX8_31 : FpA RX8 31 8 8 true (.array .int) := ⟨RX8, TX8, 34, tyX8, rfl, iw_8, by decide, kw978, tyX8_ok, nmX8, rfl, by decide +kernel, rfl⟩
theorem fp_RX8_34 : FpA RX8 34 8 9 true (.array .int) := ⟨RX8, TX8, 34, tyX8, rfl, iw_8, by decide, kw979, tyX8_ok, nmX8, rfl, by decide +kernel, rfl⟩
theorem fp_RX8_37 : FpA RX8 37 8 10 true (.array .int) := ⟨RX8, TX8, 34, tyX8, rfl, iw_8, by decide, kw980, tyX8_ok, nmX8, rfl, by decide +kernel, rfl⟩
theorem fp_RX8_40 : FpA RX8 40 8 11 true (.array .int) := ⟨RX8, TX8, 34, tyX8, rfl, iw_8, by decide, kw981, tyX8_ok, nmX8, rfl, by decide +kernel, rfl⟩
theorem fp_RX8_43 : FpA RX8 43 8 12 true (.array .int) := ⟨RX8, TX8, 34, tyX8, rfl, iw_8, by decide, kw982, tyX8_ok, nmX8, rfl, by decide +kernel, rfl⟩
theorem fp_RX8_46 : FpA RX8 46 8 13 false .int := ⟨RX8, TX8, 34, tyX8, rfl, iw_8, by decide, kw983, tyX8_ok, nmX8, rfl, by decide +kernel, rfl⟩
theorem fp_RX8_176 : FpA RX8 176 8 14 false .int := ⟨RX8, TX8, 34, tyX8, rfl, iw_8, by decide, kw984, tyX8_ok, nmX8, rfl, by decide +kernel, rfl⟩
theorem fp_RX8_50 : FpA RX8 50 8 15 true (.array .int) := ⟨RX8, TX8, 34, tyX8, rfl, iw_8, by decide, kw985, tyX8_ok, nmX8, rfl, by decide +kernel, rfl⟩
theorem fp_RX8_53 : FpA RX8 53 8 16 true (.array .int) := ⟨RX8, TX8, 34, tyX8, rfl, iw_8, by decide, kw986, tyX8_ok, nmX8, rfl, by decide +kernel, rfl⟩
theorem fp_RX8_206 : FpA RX8 206 8 17 false .int := ⟨RX8, TX8, 34, tyX8, rfl, iw_8, by decide, kw987, tyX8_ok, nmX8, rfl, by decide +kernel, rfl⟩
theorem fp_RX8_223 : FpA RX8 223 8 18 false .int := ⟨RX8, TX8, 34, tyX8, rfl, iw_8, by decide, kw988, tyX8_ok, nmX8, rfl, by decide +kernel, rfl⟩
theorem fp_RX8_217 : FpA RX8 217 8 19 false .int := ⟨RX8, TX8, 34, tyX8, rfl, iw_8, by decide, kw989, tyX8_ok, nmX8, rfl, by decide +kernel, rfl⟩
theorem fp_RX8_220 : FpA RX8 220 8 20 false .int := ⟨RX8, TX8, 34, tyX8, rfl, iw_8, by decide, kw990, tyX8_ok, nmX8, rfl, by decide +kernel, rfl⟩
theorem fp_RX8_235 : FpA RX8 235 8 21 false .int := ⟨RX8, TX8, 34, tyX8, rfl, iw_8, by decide, kw991, tyX8_ok, nmX8, rfl, by decide +kernel, rfl⟩
theorem fp_RX8_229 : FpA RX8 229 8 22 false .int := ⟨RX8, TX8, 34, tyX8, rfl, iw_8, by decide, kw992, tyX8_ok, nmX8, rfl, by decide +kernel, rfl⟩
theorem fp_RX8_285 : FpA RX8 285 8 23 false .int := ⟨RX8, TX8, 34, tyX8, rfl, iw_8, by decide, kw993, tyX8_ok, nmX8, rfl, by decide +kernel, rfl⟩
theorem fp_RX8_282 : FpA RX8 282 8 24 false .int := ⟨RX8, TX8, 34, tyX8, rfl, iw_8, by decide, kw994, tyX8_ok, nmX8, rfl, by decide +kernel, rfl⟩
theorem fp_RX8_249 : FpA RX8 249 8 25 false .int := ⟨RX8, TX8, 34, tyX8, rfl, iw_8, by decide, kw995, tyX8_ok, nmX8, rfl, by decide +kernel, rfl⟩
theorem fp_RX8_246 : FpA RX8 246 8 26 false .int := ⟨RX8, TX8, 34, tyX8, rfl, iw_8, by decide, kw996, tyX8_ok, nmX8, rfl, by decide +kernel, rfl⟩
theorem fp_RX8_276 : FpA RX8 276 8 27 false .int := ⟨RX8, TX8, 34, tyX8, rfl, iw_8, by decide, kw997, tyX8_ok, nmX8, rfl, by decide +kernel, rfl⟩
theorem fp_RX8_56 : FpA RX8 56 8 28 true (.array .int) := ⟨RX8, TX8, 34, tyX8, rfl, iw_8, by decide, kw998, tyX8_ok, nmX8, rfl, by decide +kernel, rfl⟩
theorem fp_RX8_59 : FpA RX8 59 8 29 true (.array .int) := ⟨RX8, TX8, 34, tyX8, rfl, iw_8, by decide, kw999, tyX8_ok, nmX8, rfl, by decide +kernel, rfl⟩
theorem fp_RX8_62 : FpA RX8 62 8 30 true (.array .int) := ⟨RX8, TX8, 34, tyX8, rfl, iw_8, by decide, kw1000, tyX8_ok, nmX8, rfl, by decide +kernel, rfl⟩
theorem fp_RX8_65 : FpA RX8 65 8 31 true (.array .int) := ⟨RX8, TX8, 34, tyX8, rfl, iw_8, by decide, kw1001, tyX8_ok, nmX8, rfl, by decide +kernel, rfl⟩
theorem fp_RX8_328 : FpA RX8 328 8 32 false .int := ⟨RX8, TX8, 34, tyX8, rfl, iw_8, by decide, kw1002, tyX8_ok, nmX8, rfl, by decide +kernel, rfl⟩
theorem fp_RX8_68 : FpA RX8 68 8 33 true (.array .int) := ⟨RX8, TX8, 34, tyX8, rfl, iw_8, by decide, kw1003, tyX8_ok, nmX8, rfl, by decide +kernel, rfl⟩
def F_X0_init (C : Nat → ClassId) (h0 : Nat) (pre : va_W) (u : Nat → Nat) : va_W := (h0, .inr (0, [.int 0, .int 0, .int 0, .int 0, .int 0, .int 0, .int 0, .int 0, .int 0, .int 0, .int 0, .int 0, .int 0])) :: pre
set_option maxHeartbeats 4000000 in
set_option maxRecDepth 100000 in
theorem v_X0_init {l : Launch} {D : va_G} {C : Nat → ClassId} {h0 : Nat} {pre : va_W} : CtrW l D C yX0_init cX0_init 1 none 1 0 0 [.ref h0] ((h0, .inr (0, [.int 0, .int 0, .int 0, .int 0, .int 0, .int 0, .int 0, .int 0, .int 0, .int 0, .int 0, .int 0, .int 0])) :: pre) (WV D (F_X0_init C h0 pre)) := by
  refine CtrW.of (by decide +kernel) (Nat.le_of_ble_eq_true rfl) (fun g A hgl X => ?_)
  subst hgl
  have X : CV g cX0_init RX0 none "<init>" 1 0 0 D C A 1 := X
  show AV g D A 1 _ 0 [(0, .ref h0)] [] ((h0, .inr (0, [.int 0, .int 0, .int 0, .int 0, .int 0, .int 0, .int 0, .int 0, .int 0, .int 0, .int 0, .int 0, .int 0])) :: pre) 0 0
  refine av_aload_n X dX0_init_0 0 rfl ?_
  refine av_obj X dX0_init_1 kw137 kwOI kwOC (by decide) (Nat.le_of_ble_eq_true rfl) ?_
  exact av_vret X (F_X0_init C h0 pre) (fun i => ([] : List Nat).getD i 0) dX0_init_4 (by decide) (by decide) rfl
def F_X2_init_96 (C : Nat → ClassId) (h0 : Nat) (pre : va_W) (u : Nat → Nat) : va_W := (u 0, .inl (C 0, 96, .inl (fun _ => 0))) :: (h0, .inr (2, [.ref (u 0), .int 0])) :: pre
set_option maxHeartbeats 4000000 in
set_option maxRecDepth 100000 in
theorem v_X2_init_96 {l : Launch} {D : va_G} {C : Nat → ClassId} {h0 : Nat} {pre : va_W} : CtrW l D C yX2_init cX2_init 2 none 1 1 96 [.ref h0, .int 96] ((h0, .inr (2, [.null, .int 0])) :: pre) (WV D (F_X2_init_96 C h0 pre)) := by
  refine CtrW.of (by decide +kernel) (Nat.le_of_ble_eq_true rfl) (fun g A hgl X => ?_)
  subst hgl
  have X : CV g cX2_init RX2 none "<init>" 1 1 96 D C A 2 := X
  show AV g D A 2 _ 0 [(0, .ref h0), (1, .int 96)] [] ((h0, .inr (2, [.null, .int 0])) :: pre) 0 0
  refine av_aload_n X dX2_init_0 0 rfl ?_
  refine av_obj X dX2_init_1 kw265 kwOI kwOC (by decide) (Nat.le_of_ble_eq_true rfl) ?_
  refine av_aload_n X dX2_init_4 0 rfl ?_
  refine av_iconst (v := 0) X dX2_init_5 (by decide) ?_
  refine av_put (q0 := 0) (ws' := ((h0, .inr (2, [.null, .int 0])) :: pre)) X dX2_init_6 rfl fp_RX2_7 (by first | decide | rfl) (by first | decide | rfl) (Nat.le_of_ble_eq_true rfl) rfl ?_
  refine av_aload_n X dX2_init_9 0 rfl ?_
  refine av_iconst (v := 0) X dX2_init_10 (by decide) ?_
  refine av_iload_n X dX2_init_11 1 rfl ?_
  refine av_mmax (v := 96) X dX2_init_12 kw266 kw267 kw103 kw268 (by decide) (by decide) (Nat.le_of_ble_eq_true rfl) (by decide) ?_
  refine av_newa (N := 96) X dX2_init_15 kwAI (by decide) (by decide) (by decide) (by decide) (by decide) (fun q1 => ?_)
  refine av_putF (q0 := 1) (ws' := ((q1, .inl (C 0, 96, .inl (fun _ => 0))) :: ((h0, .inr (2, [.ref q1, .int 0])) :: pre))) X dX2_init_17 rfl fp_RX2_19 (by first | decide | rfl) (by first | decide | rfl) (Nat.le_of_ble_eq_true rfl) rfl ?_
  exact av_vret X (F_X2_init_96 C h0 pre) (fun i => ([q1] : List Nat).getD i 0) dX2_init_20 (by decide) (by decide) rfl
def F_X2_init_60 (C : Nat → ClassId) (h0 : Nat) (pre : va_W) (u : Nat → Nat) : va_W := (u 0, .inl (C 0, 60, .inl (fun _ => 0))) :: (h0, .inr (2, [.ref (u 0), .int 0])) :: pre
set_option maxHeartbeats 4000000 in
set_option maxRecDepth 100000 in
theorem v_X2_init_60 {l : Launch} {D : va_G} {C : Nat → ClassId} {h0 : Nat} {pre : va_W} : CtrW l D C yX2_init cX2_init 2 none 1 1 60 [.ref h0, .int 60] ((h0, .inr (2, [.null, .int 0])) :: pre) (WV D (F_X2_init_60 C h0 pre)) := by
  refine CtrW.of (by decide +kernel) (Nat.le_of_ble_eq_true rfl) (fun g A hgl X => ?_)
  subst hgl
  have X : CV g cX2_init RX2 none "<init>" 1 1 60 D C A 2 := X
  show AV g D A 2 _ 0 [(0, .ref h0), (1, .int 60)] [] ((h0, .inr (2, [.null, .int 0])) :: pre) 0 0
  refine av_aload_n X dX2_init_0 0 rfl ?_
  refine av_obj X dX2_init_1 kw265 kwOI kwOC (by decide) (Nat.le_of_ble_eq_true rfl) ?_
  refine av_aload_n X dX2_init_4 0 rfl ?_
  refine av_iconst (v := 0) X dX2_init_5 (by decide) ?_
  refine av_put (q0 := 0) (ws' := ((h0, .inr (2, [.null, .int 0])) :: pre)) X dX2_init_6 rfl fp_RX2_7 (by first | decide | rfl) (by first | decide | rfl) (Nat.le_of_ble_eq_true rfl) rfl ?_
  refine av_aload_n X dX2_init_9 0 rfl ?_
  refine av_iconst (v := 0) X dX2_init_10 (by decide) ?_
  refine av_iload_n X dX2_init_11 1 rfl ?_
  refine av_mmax (v := 60) X dX2_init_12 kw266 kw267 kw103 kw268 (by decide) (by decide) (Nat.le_of_ble_eq_true rfl) (by decide) ?_
  refine av_newa (N := 60) X dX2_init_15 kwAI (by decide) (by decide) (by decide) (by decide) (by decide) (fun q1 => ?_)
  refine av_putF (q0 := 1) (ws' := ((q1, .inl (C 0, 60, .inl (fun _ => 0))) :: ((h0, .inr (2, [.ref q1, .int 0])) :: pre))) X dX2_init_17 rfl fp_RX2_19 (by first | decide | rfl) (by first | decide | rfl) (Nat.le_of_ble_eq_true rfl) rfl ?_
  exact av_vret X (F_X2_init_60 C h0 pre) (fun i => ([q1] : List Nat).getD i 0) dX2_init_20 (by decide) (by decide) rfl
def F_X1_init (C : Nat → ClassId) (h0 : Nat) (pre : va_W) (u : Nat → Nat) : va_W := (u 3, .inl (C 0, 96, .inl (fun _ => 0))) :: (u 2, .inr (2, [.ref (u 3), .int 0])) :: (u 1, .inl (C 0, 96, .inl (fun _ => 0))) :: (u 0, .inr (2, [.ref (u 1), .int 0])) :: (h0, .inr (1, [.ref (u 0), .ref (u 2), .int 0, .int 0, .int 0, .int 0, .int 0])) :: pre
set_option maxHeartbeats 4000000 in
set_option maxRecDepth 100000 in
theorem v_X1_init {l : Launch} {D : va_G} {C : Nat → ClassId} {h0 : Nat} {pre : va_W} : CtrW l D C yX1_init cX1_init 1 none 2 4 196 [.ref h0] ((h0, .inr (1, [.null, .null, .int 0, .int 0, .int 0, .int 0, .int 0])) :: pre) (WV D (F_X1_init C h0 pre)) := by
  refine CtrW.of (by decide +kernel) (Nat.le_of_ble_eq_true rfl) (fun g A hgl X => ?_)
  subst hgl
  have X : CV g cX1_init RX1 none "<init>" 2 4 196 D C A 1 := X
  show AV g D A 1 _ 0 [(0, .ref h0)] [] ((h0, .inr (1, [.null, .null, .int 0, .int 0, .int 0, .int 0, .int 0])) :: pre) 0 0
  refine av_aload_n X dX1_init_0 0 rfl ?_
  refine av_obj X dX1_init_1 kw259 kwOI kwOC (by decide) (Nat.le_of_ble_eq_true rfl) ?_
  refine av_aload_n X dX1_init_4 0 rfl ?_
  refine av_new (ci := 2) (fs := [.null, .int 0]) X dX1_init_5 kw260 kw261 kw102 rfl iw_2 tyX2 tyX2_ok (by decide +kernel) (by decide) (by decide) (fun q1 => ?_)
  refine av_dup X dX1_init_8 rfl ?_
  refine av_bipush (v := 96) X dX1_init_9 (by decide) ?_
  refine av_cin X [.int 96] [.ref q1, .ref h0] v_X2_init_96 cal_yX2_init kw262 kw263 rfl (by decide) rfl rfl (Nat.le_of_ble_eq_true rfl) dX1_init_11 (by decide) (by decide) (fun u2 => ?_)
  refine av_putF (q0 := 2) (ws' := (F_X2_init_96 C q1 ((h0, .inr (1, [.ref q1, .null, .int 0, .int 0, .int 0, .int 0, .int 0])) :: pre) u2)) X dX1_init_14 rfl fp_RX1_14 (by first | decide | rfl) (by first | decide | rfl) (Nat.le_of_ble_eq_true rfl) rfl ?_
  refine av_aload_n X dX1_init_17 0 rfl ?_
  refine av_new (ci := 2) (fs := [.null, .int 0]) X dX1_init_18 kw260 kw261 kw102 rfl iw_2 tyX2 tyX2_ok (by decide +kernel) (by decide) (by decide) (fun q3 => ?_)
  refine av_dup X dX1_init_21 rfl ?_
  refine av_bipush (v := 96) X dX1_init_22 (by decide) ?_
  refine av_cin X [.int 96] [.ref q3, .ref h0] v_X2_init_96 cal_yX2_init kw262 kw263 rfl (by decide) rfl rfl (Nat.le_of_ble_eq_true rfl) dX1_init_24 (by decide) (by decide) (fun u4 => ?_)
  refine av_putF (q0 := 4) (ws' := (F_X2_init_96 C q3 (F_X2_init_96 C q1 ((h0, .inr (1, [.ref q1, .ref q3, .int 0, .int 0, .int 0, .int 0, .int 0])) :: pre) u2) u4)) X dX1_init_27 rfl fp_RX1_20 (by first | decide | rfl) (by first | decide | rfl) (Nat.le_of_ble_eq_true rfl) rfl ?_
  exact av_vret X (F_X1_init C h0 pre) (fun i => ([q1, u2 0, q3, u4 0] : List Nat).getD i 0) dX1_init_30 (by decide) (by decide) rfl
def F_X4_init (C : Nat → ClassId) (h0 : Nat) (pre : va_W) (u : Nat → Nat) : va_W := (u 0, .inl (C 0, 24, .inl (fun _ => 0))) :: (h0, .inr (4, [.ref (u 0), .int (-1), .int 0])) :: pre
set_option maxHeartbeats 4000000 in
set_option maxRecDepth 100000 in
theorem v_X4_init {l : Launch} {D : va_G} {C : Nat → ClassId} {h0 : Nat} {pre : va_W} : CtrW l D C yX4_init cX4_init 1 none 1 1 24 [.ref h0] ((h0, .inr (4, [.null, .int 0, .int 0])) :: pre) (WV D (F_X4_init C h0 pre)) := by
  refine CtrW.of (by decide +kernel) (Nat.le_of_ble_eq_true rfl) (fun g A hgl X => ?_)
  subst hgl
  have X : CV g cX4_init RX4 none "<init>" 1 1 24 D C A 1 := X
  show AV g D A 1 _ 0 [(0, .ref h0)] [] ((h0, .inr (4, [.null, .int 0, .int 0])) :: pre) 0 0
  refine av_aload_n X dX4_init_0 0 rfl ?_
  refine av_obj X dX4_init_1 kw314 kwOI kwOC (by decide) (Nat.le_of_ble_eq_true rfl) ?_
  refine av_aload_n X dX4_init_4 0 rfl ?_
  refine av_bipush (v := 24) X dX4_init_5 (by decide) ?_
  refine av_newa (N := 24) X dX4_init_7 kwAI (by decide) (by decide) (by decide) (by decide) (by decide) (fun q1 => ?_)
  refine av_putF (q0 := 1) (ws' := ((q1, .inl (C 0, 24, .inl (fun _ => 0))) :: ((h0, .inr (4, [.ref q1, .int 0, .int 0])) :: pre))) X dX4_init_9 rfl fp_RX4_9 (by first | decide | rfl) (by first | decide | rfl) (Nat.le_of_ble_eq_true rfl) rfl ?_
  refine av_aload_n X dX4_init_12 0 rfl ?_
  refine av_iconst (v := (-1)) X dX4_init_13 (by decide) ?_
  refine av_put (q0 := 1) (ws' := ((q1, .inl (C 0, 24, .inl (fun _ => 0))) :: ((h0, .inr (4, [.ref q1, .int (-1), .int 0])) :: pre))) X dX4_init_14 rfl fp_RX4_15 (by first | decide | rfl) (by first | decide | rfl) (Nat.le_of_ble_eq_true rfl) rfl ?_
  refine av_aload_n X dX4_init_17 0 rfl ?_
  refine av_iconst (v := 0) X dX4_init_18 (by decide) ?_
  refine av_put (q0 := 1) (ws' := ((q1, .inl (C 0, 24, .inl (fun _ => 0))) :: ((h0, .inr (4, [.ref q1, .int (-1), .int 0])) :: pre))) X dX4_init_19 rfl fp_RX4_19 (by first | decide | rfl) (by first | decide | rfl) (Nat.le_of_ble_eq_true rfl) rfl ?_
  exact av_vret X (F_X4_init C h0 pre) (fun i => ([q1] : List Nat).getD i 0) dX4_init_22 (by decide) (by decide) rfl
def F_X5_init (C : Nat → ClassId) (h0 : Nat) (pre : va_W) (u : Nat → Nat) : va_W := (u 2, .inl (C 0, 24, .inl (fun _ => 0))) :: (u 1, .inr (4, [.ref (u 2), .int (-1), .int 0])) :: (u 0, .inr (0, [.int 0, .int 0, .int 0, .int 0, .int 0, .int 0, .int 0, .int 0, .int 0, .int 0, .int 0, .int 0, .int 0])) :: (h0, .inr (5, [.ref (u 0), .ref (u 1), .int 0, .int 0])) :: pre
set_option maxHeartbeats 4000000 in
set_option maxRecDepth 100000 in
theorem v_X5_init {l : Launch} {D : va_G} {C : Nat → ClassId} {h0 : Nat} {pre : va_W} : CtrW l D C yX5_init cX5_init 1 none 2 3 40 [.ref h0] ((h0, .inr (5, [.null, .null, .int 0, .int 0])) :: pre) (WV D (F_X5_init C h0 pre)) := by
  refine CtrW.of (by decide +kernel) (Nat.le_of_ble_eq_true rfl) (fun g A hgl X => ?_)
  subst hgl
  have X : CV g cX5_init RX5 none "<init>" 2 3 40 D C A 1 := X
  show AV g D A 1 _ 0 [(0, .ref h0)] [] ((h0, .inr (5, [.null, .null, .int 0, .int 0])) :: pre) 0 0
  refine av_aload_n X dX5_init_0 0 rfl ?_
  refine av_obj X dX5_init_1 kw334 kwOI kwOC (by decide) (Nat.le_of_ble_eq_true rfl) ?_
  refine av_aload_n X dX5_init_4 0 rfl ?_
  refine av_new (ci := 0) (fs := [.int 0, .int 0, .int 0, .int 0, .int 0, .int 0, .int 0, .int 0, .int 0, .int 0, .int 0, .int 0, .int 0]) X dX5_init_5 kw335 kw133 kw100 rfl iw_0 tyX0 tyX0_ok (by decide +kernel) (by decide) (by decide) (fun q1 => ?_)
  refine av_dup X dX5_init_8 rfl ?_
  refine av_cin X [] [.ref q1, .ref h0] v_X0_init cal_yX0_init kw336 kw135 rfl (by decide) rfl rfl (Nat.le_of_ble_eq_true rfl) dX5_init_9 (by decide) (by decide) (fun u2 => ?_)
  refine av_putF (q0 := 1) (ws' := (F_X0_init C q1 ((h0, .inr (5, [.ref q1, .null, .int 0, .int 0])) :: pre) u2)) X dX5_init_12 rfl fp_RX5_12 (by first | decide | rfl) (by first | decide | rfl) (Nat.le_of_ble_eq_true rfl) rfl ?_
  refine av_aload_n X dX5_init_15 0 rfl ?_
  refine av_new (ci := 4) (fs := [.null, .int 0, .int 0]) X dX5_init_16 kw337 kw310 kw104 rfl iw_4 tyX4 tyX4_ok (by decide +kernel) (by decide) (by decide) (fun q3 => ?_)
  refine av_dup X dX5_init_19 rfl ?_
  refine av_cin X [] [.ref q3, .ref h0] v_X4_init cal_yX4_init kw338 kw312 rfl (by decide) rfl rfl (Nat.le_of_ble_eq_true rfl) dX5_init_20 (by decide) (by decide) (fun u4 => ?_)
  refine av_putF (q0 := 3) (ws' := (F_X4_init C q3 (F_X0_init C q1 ((h0, .inr (5, [.ref q1, .ref q3, .int 0, .int 0])) :: pre) u2) u4)) X dX5_init_23 rfl fp_RX5_21 (by first | decide | rfl) (by first | decide | rfl) (Nat.le_of_ble_eq_true rfl) rfl ?_
  refine av_aload_n X dX5_init_26 0 rfl ?_
  refine av_iconst (v := 0) X dX5_init_27 (by decide) ?_
  refine av_put (q0 := 3) (ws' := (F_X4_init C q3 (F_X0_init C q1 ((h0, .inr (5, [.ref q1, .ref q3, .int 0, .int 0])) :: pre) u2) u4)) X dX5_init_28 rfl fp_RX5_25 (by first | decide | rfl) (by first | decide | rfl) (Nat.le_of_ble_eq_true rfl) rfl ?_
  refine av_aload_n X dX5_init_31 0 rfl ?_
  refine av_iconst (v := 0) X dX5_init_32 (by decide) ?_
  refine av_put (q0 := 3) (ws' := (F_X4_init C q3 (F_X0_init C q1 ((h0, .inr (5, [.ref q1, .ref q3, .int 0, .int 0])) :: pre) u2) u4)) X dX5_init_33 rfl fp_RX5_29 (by first | decide | rfl) (by first | decide | rfl) (Nat.le_of_ble_eq_true rfl) rfl ?_
  exact av_vret X (F_X5_init C h0 pre) (fun i => ([q1, q3, u4 0] : List Nat).getD i 0) dX5_init_36 (by decide) (by decide) rfl
def F_X3_init (C : Nat → ClassId) (h0 : Nat) (pre : va_W) (u : Nat → Nat) : va_W := (u 10, .inr (0, [.int 0, .int 0, .int 0, .int 0, .int 0, .int 0, .int 0, .int 0, .int 0, .int 0, .int 0, .int 0, .int 0])) :: (u 9, .inr (0, [.int 0, .int 0, .int 0, .int 0, .int 0, .int 0, .int 0, .int 0, .int 0, .int 0, .int 0, .int 0, .int 0])) :: (u 8, .inr (0, [.int 0, .int 0, .int 0, .int 0, .int 0, .int 0, .int 0, .int 0, .int 0, .int 0, .int 0, .int 0, .int 0])) :: (u 7, .inr (0, [.int 0, .int 0, .int 0, .int 0, .int 0, .int 0, .int 0, .int 0, .int 0, .int 0, .int 0, .int 0, .int 0])) :: (u 6, .inr (0, [.int 0, .int 0, .int 0, .int 0, .int 0, .int 0, .int 0, .int 0, .int 0, .int 0, .int 0, .int 0, .int 0])) :: (u 5, .inr (0, [.int 0, .int 0, .int 0, .int 0, .int 0, .int 0, .int 0, .int 0, .int 0, .int 0, .int 0, .int 0, .int 0])) :: (u 4, .inr (0, [.int 0, .int 0, .int 0, .int 0, .int 0, .int 0, .int 0, .int 0, .int 0, .int 0, .int 0, .int 0, .int 0])) :: (u 3, .inr (0, [.int 0, .int 0, .int 0, .int 0, .int 0, .int 0, .int 0, .int 0, .int 0, .int 0, .int 0, .int 0, .int 0])) :: (u 2, .inl (C 1, 8, qa (va_up (va_up (va_up (va_up (va_up (va_up (va_up (va_up (fun _ => none) 0 (some (u 3))) 1 (some (u 4))) 2 (some (u 5))) 3 (some (u 6))) 4 (some (u 7))) 5 (some (u 8))) 6 (some (u 9))) 7 (some (u 10))))) :: (u 1, .inl (C 0, 3, .inl (upd (upd (upd (fun _ => 0) 0 (-1)) 1 (-1)) 2 (-1)))) :: (u 0, .inl (C 2, 14, qa (fun _ => none))) :: (h0, .inr (3, [.ref (u 0), .ref (u 1), .int 0, .ref (u 2), .int 0, .int 15, .int 9, .int 3, .int 1, .int 0, .int 0, .int 0, .int 0, .int 1])) :: pre
set_option maxHeartbeats 4000000 in
set_option maxRecDepth 100000 in
theorem v_X3_init {l : Launch} {D : va_G} {C : Nat → ClassId} {h0 : Nat} {pre : va_W} : CtrW l D C yX3_init cX3_init 2 none 2 11 129 [.ref h0] ((h0, .inr (3, [.null, .null, .int 0, .null, .int 0, .int 0, .int 0, .int 0, .int 0, .int 0, .int 0, .int 0, .int 0, .int 0])) :: pre) (WV D (F_X3_init C h0 pre)) := by
  refine CtrW.of (by decide +kernel) (Nat.le_of_ble_eq_true rfl) (fun g A hgl X => ?_)
  subst hgl
  have X : CV g cX3_init RX3 none "<init>" 2 11 129 D C A 2 := X
  show AV g D A 2 _ 0 [(0, .ref h0)] [] ((h0, .inr (3, [.null, .null, .int 0, .null, .int 0, .int 0, .int 0, .int 0, .int 0, .int 0, .int 0, .int 0, .int 0, .int 0])) :: pre) 0 0
  refine av_aload_n X dX3_init_0 0 rfl ?_
  refine av_obj X dX3_init_1 kw128 kwOI kwOC (by decide) (Nat.le_of_ble_eq_true rfl) ?_
  refine av_aload_n X dX3_init_4 0 rfl ?_
  refine av_bipush (v := 14) X dX3_init_5 (by decide) ?_
  refine av_newq (t := 2) (N := 14) X dX3_init_7 kw129 X.ao.2.1 rfl (by decide) (by decide) (by decide) (by decide) (by decide) (fun q1 => ?_)
  refine av_putF (q0 := 1) (ws' := ((q1, .inl (C 2, 14, qa (fun _ => none))) :: ((h0, .inr (3, [.ref q1, .null, .int 0, .null, .int 0, .int 0, .int 0, .int 0, .int 0, .int 0, .int 0, .int 0, .int 0, .int 0])) :: pre))) X dX3_init_10 rfl fp_RX3_11 (by first | decide | rfl) (by first | decide | rfl) (Nat.le_of_ble_eq_true rfl) rfl ?_
  refine av_aload_n X dX3_init_13 0 rfl ?_
  refine av_iconst (v := 3) X dX3_init_14 (by decide) ?_
  refine av_newa (N := 3) X dX3_init_15 kwAI (by decide) (by decide) (by decide) (by decide) (by decide) (fun q2 => ?_)
  refine av_dup X dX3_init_17 rfl ?_
  refine av_iconst (v := 0) X dX3_init_18 (by decide) ?_
  refine av_iconst (v := (-1)) X dX3_init_19 (by decide) ?_
  refine av_iast (q0 := 0) (ws' := ((q2, .inl (C 0, 3, .inl (upd (fun _ => 0) 0 (-1)))) :: ((q1, .inl (C 2, 14, qa (fun _ => none))) :: ((h0, .inr (3, [.ref q1, .null, .int 0, .null, .int 0, .int 0, .int 0, .int 0, .int 0, .int 0, .int 0, .int 0, .int 0, .int 0])) :: pre)))) X dX3_init_20 rfl (by unfold vp_in; decide) rfl ?_
  refine av_dup X dX3_init_21 rfl ?_
  refine av_iconst (v := 1) X dX3_init_22 (by decide) ?_
  refine av_iconst (v := (-1)) X dX3_init_23 (by decide) ?_
  refine av_iast (q0 := 0) (ws' := ((q2, .inl (C 0, 3, .inl (upd (upd (fun _ => 0) 0 (-1)) 1 (-1)))) :: ((q1, .inl (C 2, 14, qa (fun _ => none))) :: ((h0, .inr (3, [.ref q1, .null, .int 0, .null, .int 0, .int 0, .int 0, .int 0, .int 0, .int 0, .int 0, .int 0, .int 0, .int 0])) :: pre)))) X dX3_init_24 rfl (by unfold vp_in; decide) rfl ?_
  refine av_dup X dX3_init_25 rfl ?_
  refine av_iconst (v := 2) X dX3_init_26 (by decide) ?_
  refine av_iconst (v := (-1)) X dX3_init_27 (by decide) ?_
  refine av_iast (q0 := 0) (ws' := ((q2, .inl (C 0, 3, .inl (upd (upd (upd (fun _ => 0) 0 (-1)) 1 (-1)) 2 (-1)))) :: ((q1, .inl (C 2, 14, qa (fun _ => none))) :: ((h0, .inr (3, [.ref q1, .null, .int 0, .null, .int 0, .int 0, .int 0, .int 0, .int 0, .int 0, .int 0, .int 0, .int 0, .int 0])) :: pre)))) X dX3_init_28 rfl (by unfold vp_in; decide) rfl ?_
  refine av_putF (q0 := 2) (ws' := ((q2, .inl (C 0, 3, .inl (upd (upd (upd (fun _ => 0) 0 (-1)) 1 (-1)) 2 (-1)))) :: ((q1, .inl (C 2, 14, qa (fun _ => none))) :: ((h0, .inr (3, [.ref q1, .ref q2, .int 0, .null, .int 0, .int 0, .int 0, .int 0, .int 0, .int 0, .int 0, .int 0, .int 0, .int 0])) :: pre)))) X dX3_init_29 rfl fp_RX3_17 (by first | decide | rfl) (by first | decide | rfl) (Nat.le_of_ble_eq_true rfl) rfl ?_
  refine av_aload_n X dX3_init_32 0 rfl ?_
  refine av_iconst (v := 0) X dX3_init_33 (by decide) ?_
  refine av_put (q0 := 2) (ws' := ((q2, .inl (C 0, 3, .inl (upd (upd (upd (fun _ => 0) 0 (-1)) 1 (-1)) 2 (-1)))) :: ((q1, .inl (C 2, 14, qa (fun _ => none))) :: ((h0, .inr (3, [.ref q1, .ref q2, .int 0, .null, .int 0, .int 0, .int 0, .int 0, .int 0, .int 0, .int 0, .int 0, .int 0, .int 0])) :: pre)))) X dX3_init_34 rfl fp_RX3_21 (by first | decide | rfl) (by first | decide | rfl) (Nat.le_of_ble_eq_true rfl) rfl ?_
  refine av_aload_n X dX3_init_37 0 rfl ?_
  refine av_bipush (v := 8) X dX3_init_38 (by decide) ?_
  refine av_newq (t := 1) (N := 8) X dX3_init_40 kw131 X.ao.1 rfl (by decide) (by decide) (by decide) (by decide) (by decide) (fun q3 => ?_)
  refine av_putF (q0 := 3) (ws' := ((q3, .inl (C 1, 8, qa (fun _ => none))) :: ((q2, .inl (C 0, 3, .inl (upd (upd (upd (fun _ => 0) 0 (-1)) 1 (-1)) 2 (-1)))) :: ((q1, .inl (C 2, 14, qa (fun _ => none))) :: ((h0, .inr (3, [.ref q1, .ref q2, .int 0, .ref q3, .int 0, .int 0, .int 0, .int 0, .int 0, .int 0, .int 0, .int 0, .int 0, .int 0])) :: pre))))) X dX3_init_43 rfl fp_RX3_27 (by first | decide | rfl) (by first | decide | rfl) (Nat.le_of_ble_eq_true rfl) rfl ?_
  refine av_aload_n X dX3_init_46 0 rfl ?_
  refine av_iconst (v := 0) X dX3_init_47 (by decide) ?_
  refine av_put (q0 := 3) (ws' := ((q3, .inl (C 1, 8, qa (fun _ => none))) :: ((q2, .inl (C 0, 3, .inl (upd (upd (upd (fun _ => 0) 0 (-1)) 1 (-1)) 2 (-1)))) :: ((q1, .inl (C 2, 14, qa (fun _ => none))) :: ((h0, .inr (3, [.ref q1, .ref q2, .int 0, .ref q3, .int 0, .int 0, .int 0, .int 0, .int 0, .int 0, .int 0, .int 0, .int 0, .int 0])) :: pre))))) X dX3_init_48 rfl fp_RX3_31 (by first | decide | rfl) (by first | decide | rfl) (Nat.le_of_ble_eq_true rfl) rfl ?_
  refine av_aload_n X dX3_init_51 0 rfl ?_
  refine av_bipush (v := 15) X dX3_init_52 (by decide) ?_
  refine av_put (q0 := 3) (ws' := ((q3, .inl (C 1, 8, qa (fun _ => none))) :: ((q2, .inl (C 0, 3, .inl (upd (upd (upd (fun _ => 0) 0 (-1)) 1 (-1)) 2 (-1)))) :: ((q1, .inl (C 2, 14, qa (fun _ => none))) :: ((h0, .inr (3, [.ref q1, .ref q2, .int 0, .ref q3, .int 0, .int 15, .int 0, .int 0, .int 0, .int 0, .int 0, .int 0, .int 0, .int 0])) :: pre))))) X dX3_init_54 rfl fp_RX3_34 (by first | decide | rfl) (by first | decide | rfl) (Nat.le_of_ble_eq_true rfl) rfl ?_
  refine av_aload_n X dX3_init_57 0 rfl ?_
  refine av_bipush (v := 9) X dX3_init_58 (by decide) ?_
  refine av_put (q0 := 3) (ws' := ((q3, .inl (C 1, 8, qa (fun _ => none))) :: ((q2, .inl (C 0, 3, .inl (upd (upd (upd (fun _ => 0) 0 (-1)) 1 (-1)) 2 (-1)))) :: ((q1, .inl (C 2, 14, qa (fun _ => none))) :: ((h0, .inr (3, [.ref q1, .ref q2, .int 0, .ref q3, .int 0, .int 15, .int 9, .int 0, .int 0, .int 0, .int 0, .int 0, .int 0, .int 0])) :: pre))))) X dX3_init_60 rfl fp_RX3_37 (by first | decide | rfl) (by first | decide | rfl) (Nat.le_of_ble_eq_true rfl) rfl ?_
  refine av_aload_n X dX3_init_63 0 rfl ?_
  refine av_iconst (v := 3) X dX3_init_64 (by decide) ?_
  refine av_put (q0 := 3) (ws' := ((q3, .inl (C 1, 8, qa (fun _ => none))) :: ((q2, .inl (C 0, 3, .inl (upd (upd (upd (fun _ => 0) 0 (-1)) 1 (-1)) 2 (-1)))) :: ((q1, .inl (C 2, 14, qa (fun _ => none))) :: ((h0, .inr (3, [.ref q1, .ref q2, .int 0, .ref q3, .int 0, .int 15, .int 9, .int 3, .int 0, .int 0, .int 0, .int 0, .int 0, .int 0])) :: pre))))) X dX3_init_65 rfl fp_RX3_40 (by first | decide | rfl) (by first | decide | rfl) (Nat.le_of_ble_eq_true rfl) rfl ?_
  refine av_aload_n X dX3_init_68 0 rfl ?_
  refine av_iconst (v := 1) X dX3_init_69 (by decide) ?_
  refine av_put (q0 := 3) (ws' := ((q3, .inl (C 1, 8, qa (fun _ => none))) :: ((q2, .inl (C 0, 3, .inl (upd (upd (upd (fun _ => 0) 0 (-1)) 1 (-1)) 2 (-1)))) :: ((q1, .inl (C 2, 14, qa (fun _ => none))) :: ((h0, .inr (3, [.ref q1, .ref q2, .int 0, .ref q3, .int 0, .int 15, .int 9, .int 3, .int 1, .int 0, .int 0, .int 0, .int 0, .int 0])) :: pre))))) X dX3_init_70 rfl fp_RX3_43 (by first | decide | rfl) (by first | decide | rfl) (Nat.le_of_ble_eq_true rfl) rfl ?_
  refine av_aload_n X dX3_init_73 0 rfl ?_
  refine av_iconst (v := 0) X dX3_init_74 (by decide) ?_
  refine av_put (q0 := 3) (ws' := ((q3, .inl (C 1, 8, qa (fun _ => none))) :: ((q2, .inl (C 0, 3, .inl (upd (upd (upd (fun _ => 0) 0 (-1)) 1 (-1)) 2 (-1)))) :: ((q1, .inl (C 2, 14, qa (fun _ => none))) :: ((h0, .inr (3, [.ref q1, .ref q2, .int 0, .ref q3, .int 0, .int 15, .int 9, .int 3, .int 1, .int 0, .int 0, .int 0, .int 0, .int 0])) :: pre))))) X dX3_init_75 rfl fp_RX3_46 (by first | decide | rfl) (by first | decide | rfl) (Nat.le_of_ble_eq_true rfl) rfl ?_
  refine av_aload_n X dX3_init_78 0 rfl ?_
  refine av_iconst (v := 0) X dX3_init_79 (by decide) ?_
  refine av_put (q0 := 3) (ws' := ((q3, .inl (C 1, 8, qa (fun _ => none))) :: ((q2, .inl (C 0, 3, .inl (upd (upd (upd (fun _ => 0) 0 (-1)) 1 (-1)) 2 (-1)))) :: ((q1, .inl (C 2, 14, qa (fun _ => none))) :: ((h0, .inr (3, [.ref q1, .ref q2, .int 0, .ref q3, .int 0, .int 15, .int 9, .int 3, .int 1, .int 0, .int 0, .int 0, .int 0, .int 0])) :: pre))))) X dX3_init_80 rfl fp_RX3_49 (by first | decide | rfl) (by first | decide | rfl) (Nat.le_of_ble_eq_true rfl) rfl ?_
  refine av_aload_n X dX3_init_83 0 rfl ?_
  refine av_iconst (v := 0) X dX3_init_84 (by decide) ?_
  refine av_put (q0 := 3) (ws' := ((q3, .inl (C 1, 8, qa (fun _ => none))) :: ((q2, .inl (C 0, 3, .inl (upd (upd (upd (fun _ => 0) 0 (-1)) 1 (-1)) 2 (-1)))) :: ((q1, .inl (C 2, 14, qa (fun _ => none))) :: ((h0, .inr (3, [.ref q1, .ref q2, .int 0, .ref q3, .int 0, .int 15, .int 9, .int 3, .int 1, .int 0, .int 0, .int 0, .int 0, .int 0])) :: pre))))) X dX3_init_85 rfl fp_RX3_52 (by first | decide | rfl) (by first | decide | rfl) (Nat.le_of_ble_eq_true rfl) rfl ?_
  refine av_aload_n X dX3_init_88 0 rfl ?_
  refine av_iconst (v := 0) X dX3_init_89 (by decide) ?_
  refine av_put (q0 := 3) (ws' := ((q3, .inl (C 1, 8, qa (fun _ => none))) :: ((q2, .inl (C 0, 3, .inl (upd (upd (upd (fun _ => 0) 0 (-1)) 1 (-1)) 2 (-1)))) :: ((q1, .inl (C 2, 14, qa (fun _ => none))) :: ((h0, .inr (3, [.ref q1, .ref q2, .int 0, .ref q3, .int 0, .int 15, .int 9, .int 3, .int 1, .int 0, .int 0, .int 0, .int 0, .int 0])) :: pre))))) X dX3_init_90 rfl fp_RX3_55 (by first | decide | rfl) (by first | decide | rfl) (Nat.le_of_ble_eq_true rfl) rfl ?_
  refine av_aload_n X dX3_init_93 0 rfl ?_
  refine av_iconst (v := 1) X dX3_init_94 (by decide) ?_
  refine av_put (q0 := 3) (ws' := ((q3, .inl (C 1, 8, qa (fun _ => none))) :: ((q2, .inl (C 0, 3, .inl (upd (upd (upd (fun _ => 0) 0 (-1)) 1 (-1)) 2 (-1)))) :: ((q1, .inl (C 2, 14, qa (fun _ => none))) :: ((h0, .inr (3, [.ref q1, .ref q2, .int 0, .ref q3, .int 0, .int 15, .int 9, .int 3, .int 1, .int 0, .int 0, .int 0, .int 0, .int 1])) :: pre))))) X dX3_init_95 rfl fp_RX3_58 (by first | decide | rfl) (by first | decide | rfl) (Nat.le_of_ble_eq_true rfl) rfl ?_
  refine av_iconst (v := 0) X dX3_init_98 (by decide) ?_
  refine av_istore_n (lv' := [(1, .int 0), (0, .ref h0)]) X dX3_init_99 (by decide) rfl ?_
  refine av_iload_n X dX3_init_100 0 rfl ?_
  refine av_aload_n X dX3_init_101 1 rfl ?_
  refine av_get (q0 := 3) X dX3_init_102 rfl fl_RX3_27 rfl ?_
  refine av_alen (q0 := 0) (t := 1) (v := 8) X dX3_init_105 rfl rfl rfl ?_
  refine av_icmp_ge (tgt := 128) X dX3_init_106 (by decide) (fun c => absurd c (by decide)) (fun _ => ?_)
  refine av_aload_n X dX3_init_109 1 rfl ?_
  refine av_get (q0 := 3) X dX3_init_110 rfl fl_RX3_27 rfl ?_
  refine av_iload_n X dX3_init_113 0 rfl ?_
  refine av_new (ci := 0) (fs := [.int 0, .int 0, .int 0, .int 0, .int 0, .int 0, .int 0, .int 0, .int 0, .int 0, .int 0, .int 0, .int 0]) X dX3_init_114 kw131 kw133 kw100 rfl iw_0 tyX0 tyX0_ok (by decide +kernel) (by decide) (by decide) (fun q4 => ?_)
  refine av_dup X dX3_init_117 rfl ?_
  refine av_cin X [] [.ref q4, .int 0, .ref q3] v_X0_init cal_yX0_init kw134 kw135 rfl (by decide) rfl rfl (Nat.le_of_ble_eq_true rfl) dX3_init_118 (by decide) (by decide) (fun u5 => ?_)
  refine av_aast (q0 := 1) (qk := 0) (t := 1) (ci := 0) (ws' := (F_X0_init C q4 ((q3, .inl (C 1, 8, qa (va_up (fun _ => none) 0 (some q4)))) :: ((q2, .inl (C 0, 3, .inl (upd (upd (upd (fun _ => 0) 0 (-1)) 1 (-1)) 2 (-1)))) :: ((q1, .inl (C 2, 14, qa (fun _ => none))) :: ((h0, .inr (3, [.ref q1, .ref q2, .int 0, .ref q3, .int 0, .int 15, .int 9, .int 3, .int 1, .int 0, .int 0, .int 0, .int 0, .int 1])) :: pre)))) u5)) X dX3_init_121 rfl rfl rfl rfl (by unfold vp_in; decide) rfl ?_
  refine av_iinc (v := 1) (lv' := [(1, .int 1), (0, .ref h0)]) X dX3_init_122 0 rfl (by decide) (by decide) rfl ?_
  refine av_goto (tgt := 100) X dX3_init_125 (by decide) ?_
  refine av_iload_n X dX3_init_100 0 rfl ?_
  refine av_aload_n X dX3_init_101 1 rfl ?_
  refine av_get (q0 := 4) X dX3_init_102 rfl fl_RX3_27 rfl ?_
  refine av_alen (q0 := 1) (t := 1) (v := 8) X dX3_init_105 rfl rfl rfl ?_
  refine av_icmp_ge (tgt := 128) X dX3_init_106 (by decide) (fun c => absurd c (by decide)) (fun _ => ?_)
  refine av_aload_n X dX3_init_109 1 rfl ?_
  refine av_get (q0 := 4) X dX3_init_110 rfl fl_RX3_27 rfl ?_
  refine av_iload_n X dX3_init_113 0 rfl ?_
  refine av_new (ci := 0) (fs := [.int 0, .int 0, .int 0, .int 0, .int 0, .int 0, .int 0, .int 0, .int 0, .int 0, .int 0, .int 0, .int 0]) X dX3_init_114 kw131 kw133 kw100 rfl iw_0 tyX0 tyX0_ok (by decide +kernel) (by decide) (by decide) (fun q6 => ?_)
  refine av_dup X dX3_init_117 rfl ?_
  refine av_cin X [] [.ref q6, .int 1, .ref q3] v_X0_init cal_yX0_init kw134 kw135 rfl (by decide) rfl rfl (Nat.le_of_ble_eq_true rfl) dX3_init_118 (by decide) (by decide) (fun u7 => ?_)
  refine av_aast (q0 := 2) (qk := 0) (t := 1) (ci := 0) (ws' := (F_X0_init C q6 (F_X0_init C q4 ((q3, .inl (C 1, 8, qa (va_up (va_up (fun _ => none) 0 (some q4)) 1 (some q6)))) :: ((q2, .inl (C 0, 3, .inl (upd (upd (upd (fun _ => 0) 0 (-1)) 1 (-1)) 2 (-1)))) :: ((q1, .inl (C 2, 14, qa (fun _ => none))) :: ((h0, .inr (3, [.ref q1, .ref q2, .int 0, .ref q3, .int 0, .int 15, .int 9, .int 3, .int 1, .int 0, .int 0, .int 0, .int 0, .int 1])) :: pre)))) u5) u7)) X dX3_init_121 rfl rfl rfl rfl (by unfold vp_in; decide) rfl ?_
  refine av_iinc (v := 2) (lv' := [(1, .int 2), (0, .ref h0)]) X dX3_init_122 0 rfl (by decide) (by decide) rfl ?_
  refine av_goto (tgt := 100) X dX3_init_125 (by decide) ?_
  refine av_iload_n X dX3_init_100 0 rfl ?_
  refine av_aload_n X dX3_init_101 1 rfl ?_
  refine av_get (q0 := 5) X dX3_init_102 rfl fl_RX3_27 rfl ?_
  refine av_alen (q0 := 2) (t := 1) (v := 8) X dX3_init_105 rfl rfl rfl ?_
  refine av_icmp_ge (tgt := 128) X dX3_init_106 (by decide) (fun c => absurd c (by decide)) (fun _ => ?_)
  refine av_aload_n X dX3_init_109 1 rfl ?_
  refine av_get (q0 := 5) X dX3_init_110 rfl fl_RX3_27 rfl ?_
  refine av_iload_n X dX3_init_113 0 rfl ?_
  refine av_new (ci := 0) (fs := [.int 0, .int 0, .int 0, .int 0, .int 0, .int 0, .int 0, .int 0, .int 0, .int 0, .int 0, .int 0, .int 0]) X dX3_init_114 kw131 kw133 kw100 rfl iw_0 tyX0 tyX0_ok (by decide +kernel) (by decide) (by decide) (fun q8 => ?_)
  refine av_dup X dX3_init_117 rfl ?_
  refine av_cin X [] [.ref q8, .int 2, .ref q3] v_X0_init cal_yX0_init kw134 kw135 rfl (by decide) rfl rfl (Nat.le_of_ble_eq_true rfl) dX3_init_118 (by decide) (by decide) (fun u9 => ?_)
  refine av_aast (q0 := 3) (qk := 0) (t := 1) (ci := 0) (ws' := (F_X0_init C q8 (F_X0_init C q6 (F_X0_init C q4 ((q3, .inl (C 1, 8, qa (va_up (va_up (va_up (fun _ => none) 0 (some q4)) 1 (some q6)) 2 (some q8)))) :: ((q2, .inl (C 0, 3, .inl (upd (upd (upd (fun _ => 0) 0 (-1)) 1 (-1)) 2 (-1)))) :: ((q1, .inl (C 2, 14, qa (fun _ => none))) :: ((h0, .inr (3, [.ref q1, .ref q2, .int 0, .ref q3, .int 0, .int 15, .int 9, .int 3, .int 1, .int 0, .int 0, .int 0, .int 0, .int 1])) :: pre)))) u5) u7) u9)) X dX3_init_121 rfl rfl rfl rfl (by unfold vp_in; decide) rfl ?_
  refine av_iinc (v := 3) (lv' := [(1, .int 3), (0, .ref h0)]) X dX3_init_122 0 rfl (by decide) (by decide) rfl ?_
  refine av_goto (tgt := 100) X dX3_init_125 (by decide) ?_
  refine av_iload_n X dX3_init_100 0 rfl ?_
  refine av_aload_n X dX3_init_101 1 rfl ?_
  refine av_get (q0 := 6) X dX3_init_102 rfl fl_RX3_27 rfl ?_
  refine av_alen (q0 := 3) (t := 1) (v := 8) X dX3_init_105 rfl rfl rfl ?_
  refine av_icmp_ge (tgt := 128) X dX3_init_106 (by decide) (fun c => absurd c (by decide)) (fun _ => ?_)
  refine av_aload_n X dX3_init_109 1 rfl ?_
  refine av_get (q0 := 6) X dX3_init_110 rfl fl_RX3_27 rfl ?_
  refine av_iload_n X dX3_init_113 0 rfl ?_
  refine av_new (ci := 0) (fs := [.int 0, .int 0, .int 0, .int 0, .int 0, .int 0, .int 0, .int 0, .int 0, .int 0, .int 0, .int 0, .int 0]) X dX3_init_114 kw131 kw133 kw100 rfl iw_0 tyX0 tyX0_ok (by decide +kernel) (by decide) (by decide) (fun q10 => ?_)
  refine av_dup X dX3_init_117 rfl ?_
  refine av_cin X [] [.ref q10, .int 3, .ref q3] v_X0_init cal_yX0_init kw134 kw135 rfl (by decide) rfl rfl (Nat.le_of_ble_eq_true rfl) dX3_init_118 (by decide) (by decide) (fun u11 => ?_)
  refine av_aast (q0 := 4) (qk := 0) (t := 1) (ci := 0) (ws' := (F_X0_init C q10 (F_X0_init C q8 (F_X0_init C q6 (F_X0_init C q4 ((q3, .inl (C 1, 8, qa (va_up (va_up (va_up (va_up (fun _ => none) 0 (some q4)) 1 (some q6)) 2 (some q8)) 3 (some q10)))) :: ((q2, .inl (C 0, 3, .inl (upd (upd (upd (fun _ => 0) 0 (-1)) 1 (-1)) 2 (-1)))) :: ((q1, .inl (C 2, 14, qa (fun _ => none))) :: ((h0, .inr (3, [.ref q1, .ref q2, .int 0, .ref q3, .int 0, .int 15, .int 9, .int 3, .int 1, .int 0, .int 0, .int 0, .int 0, .int 1])) :: pre)))) u5) u7) u9) u11)) X dX3_init_121 rfl rfl rfl rfl (by unfold vp_in; decide) rfl ?_
  refine av_iinc (v := 4) (lv' := [(1, .int 4), (0, .ref h0)]) X dX3_init_122 0 rfl (by decide) (by decide) rfl ?_
  refine av_goto (tgt := 100) X dX3_init_125 (by decide) ?_
  refine av_iload_n X dX3_init_100 0 rfl ?_
  refine av_aload_n X dX3_init_101 1 rfl ?_
  refine av_get (q0 := 7) X dX3_init_102 rfl fl_RX3_27 rfl ?_
  refine av_alen (q0 := 4) (t := 1) (v := 8) X dX3_init_105 rfl rfl rfl ?_
  refine av_icmp_ge (tgt := 128) X dX3_init_106 (by decide) (fun c => absurd c (by decide)) (fun _ => ?_)
  refine av_aload_n X dX3_init_109 1 rfl ?_
  refine av_get (q0 := 7) X dX3_init_110 rfl fl_RX3_27 rfl ?_
  refine av_iload_n X dX3_init_113 0 rfl ?_
  refine av_new (ci := 0) (fs := [.int 0, .int 0, .int 0, .int 0, .int 0, .int 0, .int 0, .int 0, .int 0, .int 0, .int 0, .int 0, .int 0]) X dX3_init_114 kw131 kw133 kw100 rfl iw_0 tyX0 tyX0_ok (by decide +kernel) (by decide) (by decide) (fun q12 => ?_)
  refine av_dup X dX3_init_117 rfl ?_
  refine av_cin X [] [.ref q12, .int 4, .ref q3] v_X0_init cal_yX0_init kw134 kw135 rfl (by decide) rfl rfl (Nat.le_of_ble_eq_true rfl) dX3_init_118 (by decide) (by decide) (fun u13 => ?_)
  refine av_aast (q0 := 5) (qk := 0) (t := 1) (ci := 0) (ws' := (F_X0_init C q12 (F_X0_init C q10 (F_X0_init C q8 (F_X0_init C q6 (F_X0_init C q4 ((q3, .inl (C 1, 8, qa (va_up (va_up (va_up (va_up (va_up (fun _ => none) 0 (some q4)) 1 (some q6)) 2 (some q8)) 3 (some q10)) 4 (some q12)))) :: ((q2, .inl (C 0, 3, .inl (upd (upd (upd (fun _ => 0) 0 (-1)) 1 (-1)) 2 (-1)))) :: ((q1, .inl (C 2, 14, qa (fun _ => none))) :: ((h0, .inr (3, [.ref q1, .ref q2, .int 0, .ref q3, .int 0, .int 15, .int 9, .int 3, .int 1, .int 0, .int 0, .int 0, .int 0, .int 1])) :: pre)))) u5) u7) u9) u11) u13)) X dX3_init_121 rfl rfl rfl rfl (by unfold vp_in; decide) rfl ?_
  refine av_iinc (v := 5) (lv' := [(1, .int 5), (0, .ref h0)]) X dX3_init_122 0 rfl (by decide) (by decide) rfl ?_
  refine av_goto (tgt := 100) X dX3_init_125 (by decide) ?_
  refine av_iload_n X dX3_init_100 0 rfl ?_
  refine av_aload_n X dX3_init_101 1 rfl ?_
  refine av_get (q0 := 8) X dX3_init_102 rfl fl_RX3_27 rfl ?_
  refine av_alen (q0 := 5) (t := 1) (v := 8) X dX3_init_105 rfl rfl rfl ?_
  refine av_icmp_ge (tgt := 128) X dX3_init_106 (by decide) (fun c => absurd c (by decide)) (fun _ => ?_)
  refine av_aload_n X dX3_init_109 1 rfl ?_
  refine av_get (q0 := 8) X dX3_init_110 rfl fl_RX3_27 rfl ?_
  refine av_iload_n X dX3_init_113 0 rfl ?_
  refine av_new (ci := 0) (fs := [.int 0, .int 0, .int 0, .int 0, .int 0, .int 0, .int 0, .int 0, .int 0, .int 0, .int 0, .int 0, .int 0]) X dX3_init_114 kw131 kw133 kw100 rfl iw_0 tyX0 tyX0_ok (by decide +kernel) (by decide) (by decide) (fun q14 => ?_)
  refine av_dup X dX3_init_117 rfl ?_
  refine av_cin X [] [.ref q14, .int 5, .ref q3] v_X0_init cal_yX0_init kw134 kw135 rfl (by decide) rfl rfl (Nat.le_of_ble_eq_true rfl) dX3_init_118 (by decide) (by decide) (fun u15 => ?_)
  refine av_aast (q0 := 6) (qk := 0) (t := 1) (ci := 0) (ws' := (F_X0_init C q14 (F_X0_init C q12 (F_X0_init C q10 (F_X0_init C q8 (F_X0_init C q6 (F_X0_init C q4 ((q3, .inl (C 1, 8, qa (va_up (va_up (va_up (va_up (va_up (va_up (fun _ => none) 0 (some q4)) 1 (some q6)) 2 (some q8)) 3 (some q10)) 4 (some q12)) 5 (some q14)))) :: ((q2, .inl (C 0, 3, .inl (upd (upd (upd (fun _ => 0) 0 (-1)) 1 (-1)) 2 (-1)))) :: ((q1, .inl (C 2, 14, qa (fun _ => none))) :: ((h0, .inr (3, [.ref q1, .ref q2, .int 0, .ref q3, .int 0, .int 15, .int 9, .int 3, .int 1, .int 0, .int 0, .int 0, .int 0, .int 1])) :: pre)))) u5) u7) u9) u11) u13) u15)) X dX3_init_121 rfl rfl rfl rfl (by unfold vp_in; decide) rfl ?_
  refine av_iinc (v := 6) (lv' := [(1, .int 6), (0, .ref h0)]) X dX3_init_122 0 rfl (by decide) (by decide) rfl ?_
  refine av_goto (tgt := 100) X dX3_init_125 (by decide) ?_
  refine av_iload_n X dX3_init_100 0 rfl ?_
  refine av_aload_n X dX3_init_101 1 rfl ?_
  refine av_get (q0 := 9) X dX3_init_102 rfl fl_RX3_27 rfl ?_
  refine av_alen (q0 := 6) (t := 1) (v := 8) X dX3_init_105 rfl rfl rfl ?_
  refine av_icmp_ge (tgt := 128) X dX3_init_106 (by decide) (fun c => absurd c (by decide)) (fun _ => ?_)
  refine av_aload_n X dX3_init_109 1 rfl ?_
  refine av_get (q0 := 9) X dX3_init_110 rfl fl_RX3_27 rfl ?_
  refine av_iload_n X dX3_init_113 0 rfl ?_
  refine av_new (ci := 0) (fs := [.int 0, .int 0, .int 0, .int 0, .int 0, .int 0, .int 0, .int 0, .int 0, .int 0, .int 0, .int 0, .int 0]) X dX3_init_114 kw131 kw133 kw100 rfl iw_0 tyX0 tyX0_ok (by decide +kernel) (by decide) (by decide) (fun q16 => ?_)
  refine av_dup X dX3_init_117 rfl ?_
  refine av_cin X [] [.ref q16, .int 6, .ref q3] v_X0_init cal_yX0_init kw134 kw135 rfl (by decide) rfl rfl (Nat.le_of_ble_eq_true rfl) dX3_init_118 (by decide) (by decide) (fun u17 => ?_)
  refine av_aast (q0 := 7) (qk := 0) (t := 1) (ci := 0) (ws' := (F_X0_init C q16 (F_X0_init C q14 (F_X0_init C q12 (F_X0_init C q10 (F_X0_init C q8 (F_X0_init C q6 (F_X0_init C q4 ((q3, .inl (C 1, 8, qa (va_up (va_up (va_up (va_up (va_up (va_up (va_up (fun _ => none) 0 (some q4)) 1 (some q6)) 2 (some q8)) 3 (some q10)) 4 (some q12)) 5 (some q14)) 6 (some q16)))) :: ((q2, .inl (C 0, 3, .inl (upd (upd (upd (fun _ => 0) 0 (-1)) 1 (-1)) 2 (-1)))) :: ((q1, .inl (C 2, 14, qa (fun _ => none))) :: ((h0, .inr (3, [.ref q1, .ref q2, .int 0, .ref q3, .int 0, .int 15, .int 9, .int 3, .int 1, .int 0, .int 0, .int 0, .int 0, .int 1])) :: pre)))) u5) u7) u9) u11) u13) u15) u17)) X dX3_init_121 rfl rfl rfl rfl (by unfold vp_in; decide) rfl ?_
  refine av_iinc (v := 7) (lv' := [(1, .int 7), (0, .ref h0)]) X dX3_init_122 0 rfl (by decide) (by decide) rfl ?_
  refine av_goto (tgt := 100) X dX3_init_125 (by decide) ?_
  refine av_iload_n X dX3_init_100 0 rfl ?_
  refine av_aload_n X dX3_init_101 1 rfl ?_
  refine av_get (q0 := 10) X dX3_init_102 rfl fl_RX3_27 rfl ?_
  refine av_alen (q0 := 7) (t := 1) (v := 8) X dX3_init_105 rfl rfl rfl ?_
  refine av_icmp_ge (tgt := 128) X dX3_init_106 (by decide) (fun c => absurd c (by decide)) (fun _ => ?_)
  refine av_aload_n X dX3_init_109 1 rfl ?_
  refine av_get (q0 := 10) X dX3_init_110 rfl fl_RX3_27 rfl ?_
  refine av_iload_n X dX3_init_113 0 rfl ?_
  refine av_new (ci := 0) (fs := [.int 0, .int 0, .int 0, .int 0, .int 0, .int 0, .int 0, .int 0, .int 0, .int 0, .int 0, .int 0, .int 0]) X dX3_init_114 kw131 kw133 kw100 rfl iw_0 tyX0 tyX0_ok (by decide +kernel) (by decide) (by decide) (fun q18 => ?_)
  refine av_dup X dX3_init_117 rfl ?_
  refine av_cin X [] [.ref q18, .int 7, .ref q3] v_X0_init cal_yX0_init kw134 kw135 rfl (by decide) rfl rfl (Nat.le_of_ble_eq_true rfl) dX3_init_118 (by decide) (by decide) (fun u19 => ?_)
  refine av_aast (q0 := 8) (qk := 0) (t := 1) (ci := 0) (ws' := (F_X0_init C q18 (F_X0_init C q16 (F_X0_init C q14 (F_X0_init C q12 (F_X0_init C q10 (F_X0_init C q8 (F_X0_init C q6 (F_X0_init C q4 ((q3, .inl (C 1, 8, qa (va_up (va_up (va_up (va_up (va_up (va_up (va_up (va_up (fun _ => none) 0 (some q4)) 1 (some q6)) 2 (some q8)) 3 (some q10)) 4 (some q12)) 5 (some q14)) 6 (some q16)) 7 (some q18)))) :: ((q2, .inl (C 0, 3, .inl (upd (upd (upd (fun _ => 0) 0 (-1)) 1 (-1)) 2 (-1)))) :: ((q1, .inl (C 2, 14, qa (fun _ => none))) :: ((h0, .inr (3, [.ref q1, .ref q2, .int 0, .ref q3, .int 0, .int 15, .int 9, .int 3, .int 1, .int 0, .int 0, .int 0, .int 0, .int 1])) :: pre)))) u5) u7) u9) u11) u13) u15) u17) u19)) X dX3_init_121 rfl rfl rfl rfl (by unfold vp_in; decide) rfl ?_
  refine av_iinc (v := 8) (lv' := [(1, .int 8), (0, .ref h0)]) X dX3_init_122 0 rfl (by decide) (by decide) rfl ?_
  refine av_goto (tgt := 100) X dX3_init_125 (by decide) ?_
  refine av_iload_n X dX3_init_100 0 rfl ?_
  refine av_aload_n X dX3_init_101 1 rfl ?_
  refine av_get (q0 := 11) X dX3_init_102 rfl fl_RX3_27 rfl ?_
  refine av_alen (q0 := 8) (t := 1) (v := 8) X dX3_init_105 rfl rfl rfl ?_
  refine av_icmp_ge (tgt := 128) X dX3_init_106 (by decide) (fun _ => ?_) (fun c => absurd (by decide) c)
  exact av_vret X (F_X3_init C h0 pre) (fun i => ([q1, q2, q3, q4, q6, q8, q10, q12, q14, q16, q18] : List Nat).getD i 0) dX3_init_128 (by decide) (by decide) rfl
def F_X7_init (C : Nat → ClassId) (h0 : Nat) (pre : va_W) (u : Nat → Nat) : va_W := (u 72, .inl (C 0, 24, .inl (fun _ => 0))) :: (u 71, .inr (4, [.ref (u 72), .int (-1), .int 0])) :: (u 70, .inr (0, [.int 0, .int 0, .int 0, .int 0, .int 0, .int 0, .int 0, .int 0, .int 0, .int 0, .int 0, .int 0, .int 0])) :: (u 69, .inr (5, [.ref (u 70), .ref (u 71), .int 0, .int 0])) :: (u 68, .inl (C 0, 24, .inl (fun _ => 0))) :: (u 67, .inr (4, [.ref (u 68), .int (-1), .int 0])) :: (u 66, .inr (0, [.int 0, .int 0, .int 0, .int 0, .int 0, .int 0, .int 0, .int 0, .int 0, .int 0, .int 0, .int 0, .int 0])) :: (u 65, .inr (5, [.ref (u 66), .ref (u 67), .int 0, .int 0])) :: (u 64, .inl (C 0, 24, .inl (fun _ => 0))) :: (u 63, .inr (4, [.ref (u 64), .int (-1), .int 0])) :: (u 62, .inr (0, [.int 0, .int 0, .int 0, .int 0, .int 0, .int 0, .int 0, .int 0, .int 0, .int 0, .int 0, .int 0, .int 0])) :: (u 61, .inr (5, [.ref (u 62), .ref (u 63), .int 0, .int 0])) :: (u 60, .inl (C 0, 24, .inl (fun _ => 0))) :: (u 59, .inr (4, [.ref (u 60), .int (-1), .int 0])) :: (u 58, .inr (0, [.int 0, .int 0, .int 0, .int 0, .int 0, .int 0, .int 0, .int 0, .int 0, .int 0, .int 0, .int 0, .int 0])) :: (u 57, .inr (5, [.ref (u 58), .ref (u 59), .int 0, .int 0])) :: (u 56, .inl (C 0, 24, .inl (fun _ => 0))) :: (u 55, .inr (4, [.ref (u 56), .int (-1), .int 0])) :: (u 54, .inr (0, [.int 0, .int 0, .int 0, .int 0, .int 0, .int 0, .int 0, .int 0, .int 0, .int 0, .int 0, .int 0, .int 0])) :: (u 53, .inr (5, [.ref (u 54), .ref (u 55), .int 0, .int 0])) :: (u 52, .inl (C 0, 24, .inl (fun _ => 0))) :: (u 51, .inr (4, [.ref (u 52), .int (-1), .int 0])) :: (u 50, .inl (C 0, 24, .inl (fun _ => 0))) :: (u 49, .inr (4, [.ref (u 50), .int (-1), .int 0])) :: (u 48, .inl (C 0, 24, .inl (fun _ => 0))) :: (u 47, .inr (4, [.ref (u 48), .int (-1), .int 0])) :: (u 46, .inl (C 0, 24, .inl (fun _ => 0))) :: (u 45, .inr (4, [.ref (u 46), .int (-1), .int 0])) :: (u 44, .inl (C 4, 5, qa (va_up (va_up (va_up (va_up (va_up (fun _ => none) 0 (some (u 53))) 1 (some (u 57))) 2 (some (u 61))) 3 (some (u 65))) 4 (some (u 69))))) :: (u 43, .inl (C 3, 4, qa (va_up (va_up (va_up (va_up (fun _ => none) 0 (some (u 45))) 1 (some (u 47))) 2 (some (u 49))) 3 (some (u 51))))) :: (u 42, .inl (C 0, 60, .inl (fun _ => 0))) :: (u 41, .inr (2, [.ref (u 42), .int 0])) :: (u 40, .inl (C 0, 96, .inl (fun _ => 0))) :: (u 39, .inr (2, [.ref (u 40), .int 0])) :: (u 38, .inl (C 0, 96, .inl (fun _ => 0))) :: (u 37, .inr (2, [.ref (u 38), .int 0])) :: (u 36, .inr (1, [.ref (u 37), .ref (u 39), .int 0, .int 0, .int 0, .int 0, .int 0])) :: (u 35, .inr (0, [.int 0, .int 0, .int 0, .int 0, .int 0, .int 0, .int 0, .int 0, .int 0, .int 0, .int 0, .int 0, .int 0])) :: (u 34, .inr (0, [.int 0, .int 0, .int 0, .int 0, .int 0, .int 0, .int 0, .int 0, .int 0, .int 0, .int 0, .int 0, .int 0])) :: (u 33, .inr (0, [.int 0, .int 0, .int 0, .int 0, .int 0, .int 0, .int 0, .int 0, .int 0, .int 0, .int 0, .int 0, .int 0])) :: (u 32, .inr (0, [.int 0, .int 0, .int 0, .int 0, .int 0, .int 0, .int 0, .int 0, .int 0, .int 0, .int 0, .int 0, .int 0])) :: (u 31, .inr (0, [.int 0, .int 0, .int 0, .int 0, .int 0, .int 0, .int 0, .int 0, .int 0, .int 0, .int 0, .int 0, .int 0])) :: (u 30, .inr (0, [.int 0, .int 0, .int 0, .int 0, .int 0, .int 0, .int 0, .int 0, .int 0, .int 0, .int 0, .int 0, .int 0])) :: (u 29, .inr (0, [.int 0, .int 0, .int 0, .int 0, .int 0, .int 0, .int 0, .int 0, .int 0, .int 0, .int 0, .int 0, .int 0])) :: (u 28, .inr (0, [.int 0, .int 0, .int 0, .int 0, .int 0, .int 0, .int 0, .int 0, .int 0, .int 0, .int 0, .int 0, .int 0])) :: (u 27, .inl (C 1, 8, qa (va_up (va_up (va_up (va_up (va_up (va_up (va_up (va_up (fun _ => none) 0 (some (u 28))) 1 (some (u 29))) 2 (some (u 30))) 3 (some (u 31))) 4 (some (u 32))) 5 (some (u 33))) 6 (some (u 34))) 7 (some (u 35))))) :: (u 26, .inl (C 0, 3, .inl (upd (upd (upd (fun _ => 0) 0 (-1)) 1 (-1)) 2 (-1)))) :: (u 25, .inl (C 2, 14, qa (fun _ => none))) :: (u 24, .inr (3, [.ref (u 25), .ref (u 26), .int 0, .ref (u 27), .int 0, .int 15, .int 9, .int 3, .int 1, .int 0, .int 0, .int 0, .int 0, .int 1])) :: (u 23, .inr (0, [.int 0, .int 0, .int 0, .int 0, .int 0, .int 0, .int 0, .int 0, .int 0, .int 0, .int 0, .int 0, .int 0])) :: (u 22, .inr (0, [.int 0, .int 0, .int 0, .int 0, .int 0, .int 0, .int 0, .int 0, .int 0, .int 0, .int 0, .int 0, .int 0])) :: (u 21, .inr (0, [.int 0, .int 0, .int 0, .int 0, .int 0, .int 0, .int 0, .int 0, .int 0, .int 0, .int 0, .int 0, .int 0])) :: (u 20, .inr (0, [.int 0, .int 0, .int 0, .int 0, .int 0, .int 0, .int 0, .int 0, .int 0, .int 0, .int 0, .int 0, .int 0])) :: (u 19, .inr (0, [.int 0, .int 0, .int 0, .int 0, .int 0, .int 0, .int 0, .int 0, .int 0, .int 0, .int 0, .int 0, .int 0])) :: (u 18, .inr (0, [.int 0, .int 0, .int 0, .int 0, .int 0, .int 0, .int 0, .int 0, .int 0, .int 0, .int 0, .int 0, .int 0])) :: (u 17, .inr (0, [.int 0, .int 0, .int 0, .int 0, .int 0, .int 0, .int 0, .int 0, .int 0, .int 0, .int 0, .int 0, .int 0])) :: (u 16, .inr (0, [.int 0, .int 0, .int 0, .int 0, .int 0, .int 0, .int 0, .int 0, .int 0, .int 0, .int 0, .int 0, .int 0])) :: (u 15, .inl (C 1, 8, qa (va_up (va_up (va_up (va_up (va_up (va_up (va_up (va_up (fun _ => none) 0 (some (u 16))) 1 (some (u 17))) 2 (some (u 18))) 3 (some (u 19))) 4 (some (u 20))) 5 (some (u 21))) 6 (some (u 22))) 7 (some (u 23))))) :: (u 14, .inl (C 0, 3, .inl (upd (upd (upd (fun _ => 0) 0 (-1)) 1 (-1)) 2 (-1)))) :: (u 13, .inl (C 2, 14, qa (fun _ => none))) :: (u 12, .inr (3, [.ref (u 13), .ref (u 14), .int 0, .ref (u 15), .int 0, .int 15, .int 9, .int 3, .int 1, .int 0, .int 0, .int 0, .int 0, .int 1])) :: (u 11, .inr (0, [.int 0, .int 0, .int 0, .int 0, .int 0, .int 0, .int 0, .int 0, .int 0, .int 0, .int 0, .int 0, .int 0])) :: (u 10, .inr (0, [.int 0, .int 0, .int 0, .int 0, .int 0, .int 0, .int 0, .int 0, .int 0, .int 0, .int 0, .int 0, .int 0])) :: (u 9, .inr (0, [.int 0, .int 0, .int 0, .int 0, .int 0, .int 0, .int 0, .int 0, .int 0, .int 0, .int 0, .int 0, .int 0])) :: (u 8, .inr (0, [.int 0, .int 0, .int 0, .int 0, .int 0, .int 0, .int 0, .int 0, .int 0, .int 0, .int 0, .int 0, .int 0])) :: (u 7, .inr (0, [.int 0, .int 0, .int 0, .int 0, .int 0, .int 0, .int 0, .int 0, .int 0, .int 0, .int 0, .int 0, .int 0])) :: (u 6, .inr (0, [.int 0, .int 0, .int 0, .int 0, .int 0, .int 0, .int 0, .int 0, .int 0, .int 0, .int 0, .int 0, .int 0])) :: (u 5, .inr (0, [.int 0, .int 0, .int 0, .int 0, .int 0, .int 0, .int 0, .int 0, .int 0, .int 0, .int 0, .int 0, .int 0])) :: (u 4, .inr (0, [.int 0, .int 0, .int 0, .int 0, .int 0, .int 0, .int 0, .int 0, .int 0, .int 0, .int 0, .int 0, .int 0])) :: (u 3, .inl (C 1, 8, qa (va_up (va_up (va_up (va_up (va_up (va_up (va_up (va_up (fun _ => none) 0 (some (u 4))) 1 (some (u 5))) 2 (some (u 6))) 3 (some (u 7))) 4 (some (u 8))) 5 (some (u 9))) 6 (some (u 10))) 7 (some (u 11))))) :: (u 2, .inl (C 0, 3, .inl (upd (upd (upd (fun _ => 0) 0 (-1)) 1 (-1)) 2 (-1)))) :: (u 1, .inl (C 2, 14, qa (fun _ => none))) :: (u 0, .inr (3, [.ref (u 1), .ref (u 2), .int 0, .ref (u 3), .int 0, .int 15, .int 9, .int 3, .int 1, .int 0, .int 0, .int 0, .int 0, .int 1])) :: (h0, .inr (7, [.ref (u 0), .ref (u 12), .ref (u 24), .int 0, .ref (u 36), .ref (u 37), .ref (u 41), .ref (u 43), .ref (u 44)])) :: pre
set_option maxHeartbeats 4000000 in
set_option maxRecDepth 100000 in
theorem v_X7_init {l : Launch} {D : va_G} {C : Nat → ClassId} {h0 : Nat} {pre : va_W} : CtrW l D C yX7_init cX7_init 2 none 3 73 1031 [.ref h0] ((h0, .inr (7, [.null, .null, .null, .int 0, .null, .null, .null, .null, .null])) :: pre) (WV D (F_X7_init C h0 pre)) := by
  refine CtrW.of (by decide +kernel) (Nat.le_of_ble_eq_true rfl) (fun g A hgl X => ?_)
  subst hgl
  have X : CV g cX7_init RX7 none "<init>" 3 73 1031 D C A 2 := X
  show AV g D A 2 _ 0 [(0, .ref h0)] [] ((h0, .inr (7, [.null, .null, .null, .int 0, .null, .null, .null, .null, .null])) :: pre) 0 0
  refine av_aload_n X dX7_init_0 0 rfl ?_
  refine av_obj X dX7_init_1 kw120 kwOI kwOC (by decide) (Nat.le_of_ble_eq_true rfl) ?_
  refine av_aload_n X dX7_init_4 0 rfl ?_
  refine av_new (ci := 3) (fs := [.null, .null, .int 0, .null, .int 0, .int 0, .int 0, .int 0, .int 0, .int 0, .int 0, .int 0, .int 0, .int 0]) X dX7_init_5 kw123 kw124 kw99 rfl iw_3 tyX3 tyX3_ok (by decide +kernel) (by decide) (by decide) (fun q1 => ?_)
  refine av_dup X dX7_init_8 rfl ?_
  refine av_cin X [] [.ref q1, .ref h0] v_X3_init cal_yX3_init kw125 kw126 rfl (by decide) rfl rfl (Nat.le_of_ble_eq_true rfl) dX7_init_9 (by decide) (by decide) (fun u2 => ?_)
  refine av_putF (q0 := 12) (ws' := (F_X3_init C q1 ((h0, .inr (7, [.ref q1, .null, .null, .int 0, .null, .null, .null, .null, .null])) :: pre) u2)) X dX7_init_12 rfl fp_RX7_10 (by first | decide | rfl) (by first | decide | rfl) (Nat.le_of_ble_eq_true rfl) rfl ?_
  refine av_aload_n X dX7_init_15 0 rfl ?_
  refine av_new (ci := 3) (fs := [.null, .null, .int 0, .null, .int 0, .int 0, .int 0, .int 0, .int 0, .int 0, .int 0, .int 0, .int 0, .int 0]) X dX7_init_16 kw123 kw124 kw99 rfl iw_3 tyX3 tyX3_ok (by decide +kernel) (by decide) (by decide) (fun q3 => ?_)
  refine av_dup X dX7_init_19 rfl ?_
  refine av_cin X [] [.ref q3, .ref h0] v_X3_init cal_yX3_init kw125 kw126 rfl (by decide) rfl rfl (Nat.le_of_ble_eq_true rfl) dX7_init_20 (by decide) (by decide) (fun u4 => ?_)
  refine av_putF (q0 := 24) (ws' := (F_X3_init C q3 (F_X3_init C q1 ((h0, .inr (7, [.ref q1, .ref q3, .null, .int 0, .null, .null, .null, .null, .null])) :: pre) u2) u4)) X dX7_init_23 rfl fp_RX7_16 (by first | decide | rfl) (by first | decide | rfl) (Nat.le_of_ble_eq_true rfl) rfl ?_
  refine av_aload_n X dX7_init_26 0 rfl ?_
  refine av_new (ci := 3) (fs := [.null, .null, .int 0, .null, .int 0, .int 0, .int 0, .int 0, .int 0, .int 0, .int 0, .int 0, .int 0, .int 0]) X dX7_init_27 kw123 kw124 kw99 rfl iw_3 tyX3 tyX3_ok (by decide +kernel) (by decide) (by decide) (fun q5 => ?_)
  refine av_dup X dX7_init_30 rfl ?_
  refine av_cin X [] [.ref q5, .ref h0] v_X3_init cal_yX3_init kw125 kw126 rfl (by decide) rfl rfl (Nat.le_of_ble_eq_true rfl) dX7_init_31 (by decide) (by decide) (fun u6 => ?_)
  refine av_putF (q0 := 36) (ws' := (F_X3_init C q5 (F_X3_init C q3 (F_X3_init C q1 ((h0, .inr (7, [.ref q1, .ref q3, .ref q5, .int 0, .null, .null, .null, .null, .null])) :: pre) u2) u4) u6)) X dX7_init_34 rfl fp_RX7_19 (by first | decide | rfl) (by first | decide | rfl) (Nat.le_of_ble_eq_true rfl) rfl ?_
  refine av_aload_n X dX7_init_37 0 rfl ?_
  refine av_iconst (v := 0) X dX7_init_38 (by decide) ?_
  refine av_put (q0 := 36) (ws' := (F_X3_init C q5 (F_X3_init C q3 (F_X3_init C q1 ((h0, .inr (7, [.ref q1, .ref q3, .ref q5, .int 0, .null, .null, .null, .null, .null])) :: pre) u2) u4) u6)) X dX7_init_39 rfl fp_RX7_22 (by first | decide | rfl) (by first | decide | rfl) (Nat.le_of_ble_eq_true rfl) rfl ?_
  refine av_aload_n X dX7_init_42 0 rfl ?_
  refine av_new (ci := 1) (fs := [.null, .null, .int 0, .int 0, .int 0, .int 0, .int 0]) X dX7_init_43 kw254 kw255 kw101 rfl iw_1 tyX1 tyX1_ok (by decide +kernel) (by decide) (by decide) (fun q7 => ?_)
  refine av_dup X dX7_init_46 rfl ?_
  refine av_cin X [] [.ref q7, .ref h0] v_X1_init cal_yX1_init kw256 kw257 rfl (by decide) rfl rfl (Nat.le_of_ble_eq_true rfl) dX7_init_47 (by decide) (by decide) (fun u8 => ?_)
  refine av_putF (q0 := 41) (ws' := (F_X1_init C q7 (F_X3_init C q5 (F_X3_init C q3 (F_X3_init C q1 ((h0, .inr (7, [.ref q1, .ref q3, .ref q5, .int 0, .ref q7, .null, .null, .null, .null])) :: pre) u2) u4) u6) u8)) X dX7_init_50 rfl fp_RX7_29 (by first | decide | rfl) (by first | decide | rfl) (Nat.le_of_ble_eq_true rfl) rfl ?_
  refine av_aload_n X dX7_init_53 0 rfl ?_
  refine av_aload_n X dX7_init_54 0 rfl ?_
  refine av_get (q0 := 41) X dX7_init_55 rfl fl_RX7_29 rfl ?_
  refine av_get (q0 := 4) X dX7_init_58 rfl fl_RX7_33 rfl ?_
  refine av_putF (q0 := 41) (ws' := (F_X1_init C q7 (F_X3_init C q5 (F_X3_init C q3 (F_X3_init C q1 ((h0, .inr (7, [.ref q1, .ref q3, .ref q5, .int 0, .ref q7, .ref (u8 0), .null, .null, .null])) :: pre) u2) u4) u6) u8)) X dX7_init_61 rfl fp_RX7_37 (by first | decide | rfl) (by first | decide | rfl) (Nat.le_of_ble_eq_true rfl) rfl ?_
  refine av_aload_n X dX7_init_64 0 rfl ?_
  refine av_new (ci := 2) (fs := [.null, .int 0]) X dX7_init_65 kw304 kw261 kw102 rfl iw_2 tyX2 tyX2_ok (by decide +kernel) (by decide) (by decide) (fun q9 => ?_)
  refine av_dup X dX7_init_68 rfl ?_
  refine av_bipush (v := 60) X dX7_init_69 (by decide) ?_
  refine av_cin X [.int 60] [.ref q9, .ref h0] v_X2_init_60 cal_yX2_init kw305 kw263 rfl (by decide) rfl rfl (Nat.le_of_ble_eq_true rfl) dX7_init_71 (by decide) (by decide) (fun u10 => ?_)
  refine av_putF (q0 := 43) (ws' := (F_X2_init_60 C q9 (F_X1_init C q7 (F_X3_init C q5 (F_X3_init C q3 (F_X3_init C q1 ((h0, .inr (7, [.ref q1, .ref q3, .ref q5, .int 0, .ref q7, .ref (u8 0), .ref q9, .null, .null])) :: pre) u2) u4) u6) u8) u10)) X dX7_init_74 rfl fp_RX7_43 (by first | decide | rfl) (by first | decide | rfl) (Nat.le_of_ble_eq_true rfl) rfl ?_
  refine av_aload_n X dX7_init_77 0 rfl ?_
  refine av_iconst (v := 4) X dX7_init_78 (by decide) ?_
  refine av_newq (t := 3) (N := 4) X dX7_init_79 kw306 X.ao.2.2.1 rfl (by decide) (by decide) (by decide) (by decide) (by decide) (fun q11 => ?_)
  refine av_putF (q0 := 44) (ws' := ((q11, .inl (C 3, 4, qa (fun _ => none))) :: (F_X2_init_60 C q9 (F_X1_init C q7 (F_X3_init C q5 (F_X3_init C q3 (F_X3_init C q1 ((h0, .inr (7, [.ref q1, .ref q3, .ref q5, .int 0, .ref q7, .ref (u8 0), .ref q9, .ref q11, .null])) :: pre) u2) u4) u6) u8) u10))) X dX7_init_82 rfl fp_RX7_48 (by first | decide | rfl) (by first | decide | rfl) (Nat.le_of_ble_eq_true rfl) rfl ?_
  refine av_aload_n X dX7_init_85 0 rfl ?_
  refine av_iconst (v := 5) X dX7_init_86 (by decide) ?_
  refine av_newq (t := 4) (N := 5) X dX7_init_87 kw308 X.ao.2.2.2 rfl (by decide) (by decide) (by decide) (by decide) (by decide) (fun q12 => ?_)
  refine av_putF (q0 := 45) (ws' := ((q12, .inl (C 4, 5, qa (fun _ => none))) :: ((q11, .inl (C 3, 4, qa (fun _ => none))) :: (F_X2_init_60 C q9 (F_X1_init C q7 (F_X3_init C q5 (F_X3_init C q3 (F_X3_init C q1 ((h0, .inr (7, [.ref q1, .ref q3, .ref q5, .int 0, .ref q7, .ref (u8 0), .ref q9, .ref q11, .ref q12])) :: pre) u2) u4) u6) u8) u10)))) X dX7_init_90 rfl fp_RX7_54 (by first | decide | rfl) (by first | decide | rfl) (Nat.le_of_ble_eq_true rfl) rfl ?_
  refine av_iconst (v := 0) X dX7_init_93 (by decide) ?_
  refine av_istore_n (lv' := [(1, .int 0), (0, .ref h0)]) X dX7_init_94 (by decide) rfl ?_
  refine av_iload_n X dX7_init_95 0 rfl ?_
  refine av_aload_n X dX7_init_96 1 rfl ?_
  refine av_get (q0 := 45) X dX7_init_97 rfl fl_RX7_48 rfl ?_
  refine av_alen (q0 := 1) (t := 3) (v := 4) X dX7_init_100 rfl rfl rfl ?_
  refine av_icmp_ge (tgt := 123) X dX7_init_101 (by decide) (fun c => absurd c (by decide)) (fun _ => ?_)
  refine av_aload_n X dX7_init_104 1 rfl ?_
  refine av_get (q0 := 45) X dX7_init_105 rfl fl_RX7_48 rfl ?_
  refine av_iload_n X dX7_init_108 0 rfl ?_
  refine av_new (ci := 4) (fs := [.null, .int 0, .int 0]) X dX7_init_109 kw306 kw310 kw104 rfl iw_4 tyX4 tyX4_ok (by decide +kernel) (by decide) (by decide) (fun q13 => ?_)
  refine av_dup X dX7_init_112 rfl ?_
  refine av_cin X [] [.ref q13, .int 0, .ref q11] v_X4_init cal_yX4_init kw311 kw312 rfl (by decide) rfl rfl (Nat.le_of_ble_eq_true rfl) dX7_init_113 (by decide) (by decide) (fun u14 => ?_)
  refine av_aast (q0 := 3) (qk := 1) (t := 3) (ci := 4) (ws' := (F_X4_init C q13 ((q12, .inl (C 4, 5, qa (fun _ => none))) :: ((q11, .inl (C 3, 4, qa (va_up (fun _ => none) 0 (some q13)))) :: (F_X2_init_60 C q9 (F_X1_init C q7 (F_X3_init C q5 (F_X3_init C q3 (F_X3_init C q1 ((h0, .inr (7, [.ref q1, .ref q3, .ref q5, .int 0, .ref q7, .ref (u8 0), .ref q9, .ref q11, .ref q12])) :: pre) u2) u4) u6) u8) u10))) u14)) X dX7_init_116 rfl rfl rfl rfl (by unfold vp_in; decide) rfl ?_
  refine av_iinc (v := 1) (lv' := [(1, .int 1), (0, .ref h0)]) X dX7_init_117 0 rfl (by decide) (by decide) rfl ?_
  refine av_goto (tgt := 95) X dX7_init_120 (by decide) ?_
  refine av_iload_n X dX7_init_95 0 rfl ?_
  refine av_aload_n X dX7_init_96 1 rfl ?_
  refine av_get (q0 := 47) X dX7_init_97 rfl fl_RX7_48 rfl ?_
  refine av_alen (q0 := 3) (t := 3) (v := 4) X dX7_init_100 rfl rfl rfl ?_
  refine av_icmp_ge (tgt := 123) X dX7_init_101 (by decide) (fun c => absurd c (by decide)) (fun _ => ?_)
  refine av_aload_n X dX7_init_104 1 rfl ?_
  refine av_get (q0 := 47) X dX7_init_105 rfl fl_RX7_48 rfl ?_
  refine av_iload_n X dX7_init_108 0 rfl ?_
  refine av_new (ci := 4) (fs := [.null, .int 0, .int 0]) X dX7_init_109 kw306 kw310 kw104 rfl iw_4 tyX4 tyX4_ok (by decide +kernel) (by decide) (by decide) (fun q15 => ?_)
  refine av_dup X dX7_init_112 rfl ?_
  refine av_cin X [] [.ref q15, .int 1, .ref q11] v_X4_init cal_yX4_init kw311 kw312 rfl (by decide) rfl rfl (Nat.le_of_ble_eq_true rfl) dX7_init_113 (by decide) (by decide) (fun u16 => ?_)
  refine av_aast (q0 := 5) (qk := 1) (t := 3) (ci := 4) (ws' := (F_X4_init C q15 (F_X4_init C q13 ((q12, .inl (C 4, 5, qa (fun _ => none))) :: ((q11, .inl (C 3, 4, qa (va_up (va_up (fun _ => none) 0 (some q13)) 1 (some q15)))) :: (F_X2_init_60 C q9 (F_X1_init C q7 (F_X3_init C q5 (F_X3_init C q3 (F_X3_init C q1 ((h0, .inr (7, [.ref q1, .ref q3, .ref q5, .int 0, .ref q7, .ref (u8 0), .ref q9, .ref q11, .ref q12])) :: pre) u2) u4) u6) u8) u10))) u14) u16)) X dX7_init_116 rfl rfl rfl rfl (by unfold vp_in; decide) rfl ?_
  refine av_iinc (v := 2) (lv' := [(1, .int 2), (0, .ref h0)]) X dX7_init_117 0 rfl (by decide) (by decide) rfl ?_
  refine av_goto (tgt := 95) X dX7_init_120 (by decide) ?_
  refine av_iload_n X dX7_init_95 0 rfl ?_
  refine av_aload_n X dX7_init_96 1 rfl ?_
  refine av_get (q0 := 49) X dX7_init_97 rfl fl_RX7_48 rfl ?_
  refine av_alen (q0 := 5) (t := 3) (v := 4) X dX7_init_100 rfl rfl rfl ?_
  refine av_icmp_ge (tgt := 123) X dX7_init_101 (by decide) (fun c => absurd c (by decide)) (fun _ => ?_)
  refine av_aload_n X dX7_init_104 1 rfl ?_
  refine av_get (q0 := 49) X dX7_init_105 rfl fl_RX7_48 rfl ?_
  refine av_iload_n X dX7_init_108 0 rfl ?_
  refine av_new (ci := 4) (fs := [.null, .int 0, .int 0]) X dX7_init_109 kw306 kw310 kw104 rfl iw_4 tyX4 tyX4_ok (by decide +kernel) (by decide) (by decide) (fun q17 => ?_)
  refine av_dup X dX7_init_112 rfl ?_
  refine av_cin X [] [.ref q17, .int 2, .ref q11] v_X4_init cal_yX4_init kw311 kw312 rfl (by decide) rfl rfl (Nat.le_of_ble_eq_true rfl) dX7_init_113 (by decide) (by decide) (fun u18 => ?_)
  refine av_aast (q0 := 7) (qk := 1) (t := 3) (ci := 4) (ws' := (F_X4_init C q17 (F_X4_init C q15 (F_X4_init C q13 ((q12, .inl (C 4, 5, qa (fun _ => none))) :: ((q11, .inl (C 3, 4, qa (va_up (va_up (va_up (fun _ => none) 0 (some q13)) 1 (some q15)) 2 (some q17)))) :: (F_X2_init_60 C q9 (F_X1_init C q7 (F_X3_init C q5 (F_X3_init C q3 (F_X3_init C q1 ((h0, .inr (7, [.ref q1, .ref q3, .ref q5, .int 0, .ref q7, .ref (u8 0), .ref q9, .ref q11, .ref q12])) :: pre) u2) u4) u6) u8) u10))) u14) u16) u18)) X dX7_init_116 rfl rfl rfl rfl (by unfold vp_in; decide) rfl ?_
  refine av_iinc (v := 3) (lv' := [(1, .int 3), (0, .ref h0)]) X dX7_init_117 0 rfl (by decide) (by decide) rfl ?_
  refine av_goto (tgt := 95) X dX7_init_120 (by decide) ?_
  refine av_iload_n X dX7_init_95 0 rfl ?_
  refine av_aload_n X dX7_init_96 1 rfl ?_
  refine av_get (q0 := 51) X dX7_init_97 rfl fl_RX7_48 rfl ?_
  refine av_alen (q0 := 7) (t := 3) (v := 4) X dX7_init_100 rfl rfl rfl ?_
  refine av_icmp_ge (tgt := 123) X dX7_init_101 (by decide) (fun c => absurd c (by decide)) (fun _ => ?_)
  refine av_aload_n X dX7_init_104 1 rfl ?_
  refine av_get (q0 := 51) X dX7_init_105 rfl fl_RX7_48 rfl ?_
  refine av_iload_n X dX7_init_108 0 rfl ?_
  refine av_new (ci := 4) (fs := [.null, .int 0, .int 0]) X dX7_init_109 kw306 kw310 kw104 rfl iw_4 tyX4 tyX4_ok (by decide +kernel) (by decide) (by decide) (fun q19 => ?_)
  refine av_dup X dX7_init_112 rfl ?_
  refine av_cin X [] [.ref q19, .int 3, .ref q11] v_X4_init cal_yX4_init kw311 kw312 rfl (by decide) rfl rfl (Nat.le_of_ble_eq_true rfl) dX7_init_113 (by decide) (by decide) (fun u20 => ?_)
  refine av_aast (q0 := 9) (qk := 1) (t := 3) (ci := 4) (ws' := (F_X4_init C q19 (F_X4_init C q17 (F_X4_init C q15 (F_X4_init C q13 ((q12, .inl (C 4, 5, qa (fun _ => none))) :: ((q11, .inl (C 3, 4, qa (va_up (va_up (va_up (va_up (fun _ => none) 0 (some q13)) 1 (some q15)) 2 (some q17)) 3 (some q19)))) :: (F_X2_init_60 C q9 (F_X1_init C q7 (F_X3_init C q5 (F_X3_init C q3 (F_X3_init C q1 ((h0, .inr (7, [.ref q1, .ref q3, .ref q5, .int 0, .ref q7, .ref (u8 0), .ref q9, .ref q11, .ref q12])) :: pre) u2) u4) u6) u8) u10))) u14) u16) u18) u20)) X dX7_init_116 rfl rfl rfl rfl (by unfold vp_in; decide) rfl ?_
  refine av_iinc (v := 4) (lv' := [(1, .int 4), (0, .ref h0)]) X dX7_init_117 0 rfl (by decide) (by decide) rfl ?_
  refine av_goto (tgt := 95) X dX7_init_120 (by decide) ?_
  refine av_iload_n X dX7_init_95 0 rfl ?_
  refine av_aload_n X dX7_init_96 1 rfl ?_
  refine av_get (q0 := 53) X dX7_init_97 rfl fl_RX7_48 rfl ?_
  refine av_alen (q0 := 9) (t := 3) (v := 4) X dX7_init_100 rfl rfl rfl ?_
  refine av_icmp_ge (tgt := 123) X dX7_init_101 (by decide) (fun _ => ?_) (fun c => absurd (by decide) c)
  refine av_iconst (v := 0) X dX7_init_123 (by decide) ?_
  refine av_istore_n (lv' := [(1, .int 0), (0, .ref h0)]) X dX7_init_124 (by decide) rfl ?_
  refine av_iload_n X dX7_init_125 0 rfl ?_
  refine av_aload_n X dX7_init_126 1 rfl ?_
  refine av_get (q0 := 53) X dX7_init_127 rfl fl_RX7_54 rfl ?_
  refine av_alen (q0 := 8) (t := 4) (v := 5) X dX7_init_130 rfl rfl rfl ?_
  refine av_icmp_ge (tgt := 153) X dX7_init_131 (by decide) (fun c => absurd c (by decide)) (fun _ => ?_)
  refine av_aload_n X dX7_init_134 1 rfl ?_
  refine av_get (q0 := 53) X dX7_init_135 rfl fl_RX7_54 rfl ?_
  refine av_iload_n X dX7_init_138 0 rfl ?_
  refine av_new (ci := 5) (fs := [.null, .null, .int 0, .int 0]) X dX7_init_139 kw308 kw330 kw105 rfl iw_5 tyX5 tyX5_ok (by decide +kernel) (by decide) (by decide) (fun q21 => ?_)
  refine av_dup X dX7_init_142 rfl ?_
  refine av_cin X [] [.ref q21, .int 0, .ref q12] v_X5_init cal_yX5_init kw331 kw332 rfl (by decide) rfl rfl (Nat.le_of_ble_eq_true rfl) dX7_init_143 (by decide) (by decide) (fun u22 => ?_)
  refine av_aast (q0 := 12) (qk := 3) (t := 4) (ci := 5) (ws' := (F_X5_init C q21 (F_X4_init C q19 (F_X4_init C q17 (F_X4_init C q15 (F_X4_init C q13 ((q12, .inl (C 4, 5, qa (va_up (fun _ => none) 0 (some q21)))) :: ((q11, .inl (C 3, 4, qa (va_up (va_up (va_up (va_up (fun _ => none) 0 (some q13)) 1 (some q15)) 2 (some q17)) 3 (some q19)))) :: (F_X2_init_60 C q9 (F_X1_init C q7 (F_X3_init C q5 (F_X3_init C q3 (F_X3_init C q1 ((h0, .inr (7, [.ref q1, .ref q3, .ref q5, .int 0, .ref q7, .ref (u8 0), .ref q9, .ref q11, .ref q12])) :: pre) u2) u4) u6) u8) u10))) u14) u16) u18) u20) u22)) X dX7_init_146 rfl rfl rfl rfl (by unfold vp_in; decide) rfl ?_
  refine av_iinc (v := 1) (lv' := [(1, .int 1), (0, .ref h0)]) X dX7_init_147 0 rfl (by decide) (by decide) rfl ?_
  refine av_goto (tgt := 125) X dX7_init_150 (by decide) ?_
  refine av_iload_n X dX7_init_125 0 rfl ?_
  refine av_aload_n X dX7_init_126 1 rfl ?_
  refine av_get (q0 := 57) X dX7_init_127 rfl fl_RX7_54 rfl ?_
  refine av_alen (q0 := 12) (t := 4) (v := 5) X dX7_init_130 rfl rfl rfl ?_
  refine av_icmp_ge (tgt := 153) X dX7_init_131 (by decide) (fun c => absurd c (by decide)) (fun _ => ?_)
  refine av_aload_n X dX7_init_134 1 rfl ?_
  refine av_get (q0 := 57) X dX7_init_135 rfl fl_RX7_54 rfl ?_
  refine av_iload_n X dX7_init_138 0 rfl ?_
  refine av_new (ci := 5) (fs := [.null, .null, .int 0, .int 0]) X dX7_init_139 kw308 kw330 kw105 rfl iw_5 tyX5 tyX5_ok (by decide +kernel) (by decide) (by decide) (fun q23 => ?_)
  refine av_dup X dX7_init_142 rfl ?_
  refine av_cin X [] [.ref q23, .int 1, .ref q12] v_X5_init cal_yX5_init kw331 kw332 rfl (by decide) rfl rfl (Nat.le_of_ble_eq_true rfl) dX7_init_143 (by decide) (by decide) (fun u24 => ?_)
  refine av_aast (q0 := 16) (qk := 3) (t := 4) (ci := 5) (ws' := (F_X5_init C q23 (F_X5_init C q21 (F_X4_init C q19 (F_X4_init C q17 (F_X4_init C q15 (F_X4_init C q13 ((q12, .inl (C 4, 5, qa (va_up (va_up (fun _ => none) 0 (some q21)) 1 (some q23)))) :: ((q11, .inl (C 3, 4, qa (va_up (va_up (va_up (va_up (fun _ => none) 0 (some q13)) 1 (some q15)) 2 (some q17)) 3 (some q19)))) :: (F_X2_init_60 C q9 (F_X1_init C q7 (F_X3_init C q5 (F_X3_init C q3 (F_X3_init C q1 ((h0, .inr (7, [.ref q1, .ref q3, .ref q5, .int 0, .ref q7, .ref (u8 0), .ref q9, .ref q11, .ref q12])) :: pre) u2) u4) u6) u8) u10))) u14) u16) u18) u20) u22) u24)) X dX7_init_146 rfl rfl rfl rfl (by unfold vp_in; decide) rfl ?_
  refine av_iinc (v := 2) (lv' := [(1, .int 2), (0, .ref h0)]) X dX7_init_147 0 rfl (by decide) (by decide) rfl ?_
  refine av_goto (tgt := 125) X dX7_init_150 (by decide) ?_
  refine av_iload_n X dX7_init_125 0 rfl ?_
  refine av_aload_n X dX7_init_126 1 rfl ?_
  refine av_get (q0 := 61) X dX7_init_127 rfl fl_RX7_54 rfl ?_
  refine av_alen (q0 := 16) (t := 4) (v := 5) X dX7_init_130 rfl rfl rfl ?_
  refine av_icmp_ge (tgt := 153) X dX7_init_131 (by decide) (fun c => absurd c (by decide)) (fun _ => ?_)
  refine av_aload_n X dX7_init_134 1 rfl ?_
  refine av_get (q0 := 61) X dX7_init_135 rfl fl_RX7_54 rfl ?_
  refine av_iload_n X dX7_init_138 0 rfl ?_
  refine av_new (ci := 5) (fs := [.null, .null, .int 0, .int 0]) X dX7_init_139 kw308 kw330 kw105 rfl iw_5 tyX5 tyX5_ok (by decide +kernel) (by decide) (by decide) (fun q25 => ?_)
  refine av_dup X dX7_init_142 rfl ?_
  refine av_cin X [] [.ref q25, .int 2, .ref q12] v_X5_init cal_yX5_init kw331 kw332 rfl (by decide) rfl rfl (Nat.le_of_ble_eq_true rfl) dX7_init_143 (by decide) (by decide) (fun u26 => ?_)
  refine av_aast (q0 := 20) (qk := 3) (t := 4) (ci := 5) (ws' := (F_X5_init C q25 (F_X5_init C q23 (F_X5_init C q21 (F_X4_init C q19 (F_X4_init C q17 (F_X4_init C q15 (F_X4_init C q13 ((q12, .inl (C 4, 5, qa (va_up (va_up (va_up (fun _ => none) 0 (some q21)) 1 (some q23)) 2 (some q25)))) :: ((q11, .inl (C 3, 4, qa (va_up (va_up (va_up (va_up (fun _ => none) 0 (some q13)) 1 (some q15)) 2 (some q17)) 3 (some q19)))) :: (F_X2_init_60 C q9 (F_X1_init C q7 (F_X3_init C q5 (F_X3_init C q3 (F_X3_init C q1 ((h0, .inr (7, [.ref q1, .ref q3, .ref q5, .int 0, .ref q7, .ref (u8 0), .ref q9, .ref q11, .ref q12])) :: pre) u2) u4) u6) u8) u10))) u14) u16) u18) u20) u22) u24) u26)) X dX7_init_146 rfl rfl rfl rfl (by unfold vp_in; decide) rfl ?_
  refine av_iinc (v := 3) (lv' := [(1, .int 3), (0, .ref h0)]) X dX7_init_147 0 rfl (by decide) (by decide) rfl ?_
  refine av_goto (tgt := 125) X dX7_init_150 (by decide) ?_
  refine av_iload_n X dX7_init_125 0 rfl ?_
  refine av_aload_n X dX7_init_126 1 rfl ?_
  refine av_get (q0 := 65) X dX7_init_127 rfl fl_RX7_54 rfl ?_
  refine av_alen (q0 := 20) (t := 4) (v := 5) X dX7_init_130 rfl rfl rfl ?_
  refine av_icmp_ge (tgt := 153) X dX7_init_131 (by decide) (fun c => absurd c (by decide)) (fun _ => ?_)
  refine av_aload_n X dX7_init_134 1 rfl ?_
  refine av_get (q0 := 65) X dX7_init_135 rfl fl_RX7_54 rfl ?_
  refine av_iload_n X dX7_init_138 0 rfl ?_
  refine av_new (ci := 5) (fs := [.null, .null, .int 0, .int 0]) X dX7_init_139 kw308 kw330 kw105 rfl iw_5 tyX5 tyX5_ok (by decide +kernel) (by decide) (by decide) (fun q27 => ?_)
  refine av_dup X dX7_init_142 rfl ?_
  refine av_cin X [] [.ref q27, .int 3, .ref q12] v_X5_init cal_yX5_init kw331 kw332 rfl (by decide) rfl rfl (Nat.le_of_ble_eq_true rfl) dX7_init_143 (by decide) (by decide) (fun u28 => ?_)
  refine av_aast (q0 := 24) (qk := 3) (t := 4) (ci := 5) (ws' := (F_X5_init C q27 (F_X5_init C q25 (F_X5_init C q23 (F_X5_init C q21 (F_X4_init C q19 (F_X4_init C q17 (F_X4_init C q15 (F_X4_init C q13 ((q12, .inl (C 4, 5, qa (va_up (va_up (va_up (va_up (fun _ => none) 0 (some q21)) 1 (some q23)) 2 (some q25)) 3 (some q27)))) :: ((q11, .inl (C 3, 4, qa (va_up (va_up (va_up (va_up (fun _ => none) 0 (some q13)) 1 (some q15)) 2 (some q17)) 3 (some q19)))) :: (F_X2_init_60 C q9 (F_X1_init C q7 (F_X3_init C q5 (F_X3_init C q3 (F_X3_init C q1 ((h0, .inr (7, [.ref q1, .ref q3, .ref q5, .int 0, .ref q7, .ref (u8 0), .ref q9, .ref q11, .ref q12])) :: pre) u2) u4) u6) u8) u10))) u14) u16) u18) u20) u22) u24) u26) u28)) X dX7_init_146 rfl rfl rfl rfl (by unfold vp_in; decide) rfl ?_
  refine av_iinc (v := 4) (lv' := [(1, .int 4), (0, .ref h0)]) X dX7_init_147 0 rfl (by decide) (by decide) rfl ?_
  refine av_goto (tgt := 125) X dX7_init_150 (by decide) ?_
  refine av_iload_n X dX7_init_125 0 rfl ?_
  refine av_aload_n X dX7_init_126 1 rfl ?_
  refine av_get (q0 := 69) X dX7_init_127 rfl fl_RX7_54 rfl ?_
  refine av_alen (q0 := 24) (t := 4) (v := 5) X dX7_init_130 rfl rfl rfl ?_
  refine av_icmp_ge (tgt := 153) X dX7_init_131 (by decide) (fun c => absurd c (by decide)) (fun _ => ?_)
  refine av_aload_n X dX7_init_134 1 rfl ?_
  refine av_get (q0 := 69) X dX7_init_135 rfl fl_RX7_54 rfl ?_
  refine av_iload_n X dX7_init_138 0 rfl ?_
  refine av_new (ci := 5) (fs := [.null, .null, .int 0, .int 0]) X dX7_init_139 kw308 kw330 kw105 rfl iw_5 tyX5 tyX5_ok (by decide +kernel) (by decide) (by decide) (fun q29 => ?_)
  refine av_dup X dX7_init_142 rfl ?_
  refine av_cin X [] [.ref q29, .int 4, .ref q12] v_X5_init cal_yX5_init kw331 kw332 rfl (by decide) rfl rfl (Nat.le_of_ble_eq_true rfl) dX7_init_143 (by decide) (by decide) (fun u30 => ?_)
  refine av_aast (q0 := 28) (qk := 3) (t := 4) (ci := 5) (ws' := (F_X5_init C q29 (F_X5_init C q27 (F_X5_init C q25 (F_X5_init C q23 (F_X5_init C q21 (F_X4_init C q19 (F_X4_init C q17 (F_X4_init C q15 (F_X4_init C q13 ((q12, .inl (C 4, 5, qa (va_up (va_up (va_up (va_up (va_up (fun _ => none) 0 (some q21)) 1 (some q23)) 2 (some q25)) 3 (some q27)) 4 (some q29)))) :: ((q11, .inl (C 3, 4, qa (va_up (va_up (va_up (va_up (fun _ => none) 0 (some q13)) 1 (some q15)) 2 (some q17)) 3 (some q19)))) :: (F_X2_init_60 C q9 (F_X1_init C q7 (F_X3_init C q5 (F_X3_init C q3 (F_X3_init C q1 ((h0, .inr (7, [.ref q1, .ref q3, .ref q5, .int 0, .ref q7, .ref (u8 0), .ref q9, .ref q11, .ref q12])) :: pre) u2) u4) u6) u8) u10))) u14) u16) u18) u20) u22) u24) u26) u28) u30)) X dX7_init_146 rfl rfl rfl rfl (by unfold vp_in; decide) rfl ?_
  refine av_iinc (v := 5) (lv' := [(1, .int 5), (0, .ref h0)]) X dX7_init_147 0 rfl (by decide) (by decide) rfl ?_
  refine av_goto (tgt := 125) X dX7_init_150 (by decide) ?_
  refine av_iload_n X dX7_init_125 0 rfl ?_
  refine av_aload_n X dX7_init_126 1 rfl ?_
  refine av_get (q0 := 73) X dX7_init_127 rfl fl_RX7_54 rfl ?_
  refine av_alen (q0 := 28) (t := 4) (v := 5) X dX7_init_130 rfl rfl rfl ?_
  refine av_icmp_ge (tgt := 153) X dX7_init_131 (by decide) (fun _ => ?_) (fun c => absurd (by decide) c)
  exact av_vret X (F_X7_init C h0 pre) (fun i => ([q1, u2 0, u2 1, u2 2, u2 3, u2 4, u2 5, u2 6, u2 7, u2 8, u2 9, u2 10, q3, u4 0, u4 1, u4 2, u4 3, u4 4, u4 5, u4 6, u4 7, u4 8, u4 9, u4 10, q5, u6 0, u6 1, u6 2, u6 3, u6 4, u6 5, u6 6, u6 7, u6 8, u6 9, u6 10, q7, u8 0, u8 1, u8 2, u8 3, q9, u10 0, q11, q12, q13, u14 0, q15, u16 0, q17, u18 0, q19, u20 0, q21, u22 0, u22 1, u22 2, q23, u24 0, u24 1, u24 2, q25, u26 0, u26 1, u26 2, q27, u28 0, u28 1, u28 2, q29, u30 0, u30 1, u30 2] : List Nat).getD i 0) dX7_init_153 (by decide) (by decide) rfl
def F_X8_init (C : Nat → ClassId) (h0 : Nat) (pre : va_W) (u : Nat → Nat) : va_W := (u 18, .inl (C 0, 60, .inl (fun _ => 0))) :: (u 17, .inl (C 0, 60, .inl (fun _ => 0))) :: (u 16, .inl (C 0, 24, .inl (fun _ => 0))) :: (u 15, .inl (C 0, 100, .inl (fun _ => 0))) :: (u 14, .inl (C 0, 128, .inl (fun _ => 0))) :: (u 13, .inl (C 0, 96, .inl (fun _ => 0))) :: (u 12, .inl (C 0, 108, .inl (fun _ => 0))) :: (u 11, .inl (C 0, 8, .inl (fun _ => 0))) :: (u 10, .inl (C 0, 120, .inl (fun _ => 0))) :: (u 9, .inl (C 0, 5, .inl (fun _ => 0))) :: (u 8, .inl (C 0, 5, .inl (fun _ => 0))) :: (u 7, .inl (C 0, 5, .inl (fun _ => 0))) :: (u 6, .inl (C 0, 5, .inl (fun _ => 0))) :: (u 5, .inl (C 0, 96, .inl (fun _ => 0))) :: (u 4, .inl (C 0, 4, .inl (fun _ => 0))) :: (u 3, .inl (C 0, 4, .inl (upd (upd (upd (upd (fun _ => 0) 0 (-1)) 1 (-1)) 2 (-1)) 3 (-1)))) :: (u 2, .inl (C 0, 3108, .inl (fun _ => 0))) :: (u 1, .inl (C 0, 3108, .inl (fun _ => 0))) :: (u 0, .inl (C 0, 3108, .inl (upd (upd (upd (upd (upd (fun _ => 0) 3 15) 4 9) 5 3) 6 1) 10 1))) :: (h0, .inr (8, [.ref (u 0), .ref (u 1), .ref (u 2), .int 0, .ref (u 3), .ref (u 4), .ref (u 5), .ref (u 6), .ref (u 7), .ref (u 8), .ref (u 9), .ref (u 10), .ref (u 11), .int (-1), .int 0, .ref (u 12), .ref (u 13), .int 0, .int 0, .int 0, .int 0, .int 0, .int 0, .int 0, .int 0, .int 0, .int 0, .int 0, .ref (u 14), .ref (u 15), .ref (u 16), .ref (u 17), .int 0, .ref (u 18)])) :: pre
set_option maxHeartbeats 4000000 in
set_option maxRecDepth 100000 in
theorem v_X8_init {l : Launch} {D : va_G} {C : Nat → ClassId} {h0 : Nat} {pre : va_W} : CtrW l D C yX8_init cX8_init 2 none 1 19 10152 [.ref h0] ((h0, .inr (8, [.null, .null, .null, .int 0, .null, .null, .null, .null, .null, .null, .null, .null, .null, .int 0, .int 0, .null, .null, .int 0, .int 0, .int 0, .int 0, .int 0, .int 0, .int 0, .int 0, .int 0, .int 0, .int 0, .null, .null, .null, .null, .int 0, .null])) :: pre) (WV D (F_X8_init C h0 pre)) := by
  refine CtrW.of (by decide +kernel) (Nat.le_of_ble_eq_true rfl) (fun g A hgl X => ?_)
  subst hgl
  have X : CV g cX8_init RX8 none "<init>" 1 19 10152 D C A 2 := X
  show AV g D A 2 _ 0 [(0, .ref h0)] [] ((h0, .inr (8, [.null, .null, .null, .int 0, .null, .null, .null, .null, .null, .null, .null, .null, .null, .int 0, .int 0, .null, .null, .int 0, .int 0, .int 0, .int 0, .int 0, .int 0, .int 0, .int 0, .int 0, .int 0, .int 0, .null, .null, .null, .null, .int 0, .null])) :: pre) 0 0
  refine av_aload_n X dX8_init_0 0 rfl ?_
  refine av_obj X dX8_init_1 kw969 kwOI kwOC (by decide) (Nat.le_of_ble_eq_true rfl) ?_
  refine av_aload_n X dX8_init_4 0 rfl ?_
  refine av_sipush (v := 3108) X dX8_init_5 (by decide) ?_
  refine av_newa (N := 3108) X dX8_init_8 kwAI (by decide) (by decide) (by decide) (by decide) (by decide) (fun q1 => ?_)
  refine av_putF (q0 := 1) (ws' := ((q1, .inl (C 0, 3108, .inl (fun _ => 0))) :: ((h0, .inr (8, [.ref q1, .null, .null, .int 0, .null, .null, .null, .null, .null, .null, .null, .null, .null, .int 0, .int 0, .null, .null, .int 0, .int 0, .int 0, .int 0, .int 0, .int 0, .int 0, .int 0, .int 0, .int 0, .int 0, .null, .null, .null, .null, .int 0, .null])) :: pre))) X dX8_init_10 rfl fp_RX8_7 (by first | decide | rfl) (by first | decide | rfl) (Nat.le_of_ble_eq_true rfl) rfl ?_
  refine av_aload_n X dX8_init_13 0 rfl ?_
  refine av_sipush (v := 3108) X dX8_init_14 (by decide) ?_
  refine av_newa (N := 3108) X dX8_init_17 kwAI (by decide) (by decide) (by decide) (by decide) (by decide) (fun q2 => ?_)
  refine av_putF (q0 := 2) (ws' := ((q2, .inl (C 0, 3108, .inl (fun _ => 0))) :: ((q1, .inl (C 0, 3108, .inl (fun _ => 0))) :: ((h0, .inr (8, [.ref q1, .ref q2, .null, .int 0, .null, .null, .null, .null, .null, .null, .null, .null, .null, .int 0, .int 0, .null, .null, .int 0, .int 0, .int 0, .int 0, .int 0, .int 0, .int 0, .int 0, .int 0, .int 0, .int 0, .null, .null, .null, .null, .int 0, .null])) :: pre)))) X dX8_init_19 rfl fp_RX8_13 (by first | decide | rfl) (by first | decide | rfl) (Nat.le_of_ble_eq_true rfl) rfl ?_
  refine av_aload_n X dX8_init_22 0 rfl ?_
  refine av_sipush (v := 3108) X dX8_init_23 (by decide) ?_
  refine av_newa (N := 3108) X dX8_init_26 kwAI (by decide) (by decide) (by decide) (by decide) (by decide) (fun q3 => ?_)
  refine av_putF (q0 := 3) (ws' := ((q3, .inl (C 0, 3108, .inl (fun _ => 0))) :: ((q2, .inl (C 0, 3108, .inl (fun _ => 0))) :: ((q1, .inl (C 0, 3108, .inl (fun _ => 0))) :: ((h0, .inr (8, [.ref q1, .ref q2, .ref q3, .int 0, .null, .null, .null, .null, .null, .null, .null, .null, .null, .int 0, .int 0, .null, .null, .int 0, .int 0, .int 0, .int 0, .int 0, .int 0, .int 0, .int 0, .int 0, .int 0, .int 0, .null, .null, .null, .null, .int 0, .null])) :: pre))))) X dX8_init_28 rfl fp_RX8_16 (by first | decide | rfl) (by first | decide | rfl) (Nat.le_of_ble_eq_true rfl) rfl ?_
  refine av_aload_n X dX8_init_31 0 rfl ?_
  refine av_iconst (v := 4) X dX8_init_32 (by decide) ?_
  refine av_newa (N := 4) X dX8_init_33 kwAI (by decide) (by decide) (by decide) (by decide) (by decide) (fun q4 => ?_)
  refine av_putF (q0 := 4) (ws' := ((q4, .inl (C 0, 4, .inl (fun _ => 0))) :: ((q3, .inl (C 0, 3108, .inl (fun _ => 0))) :: ((q2, .inl (C 0, 3108, .inl (fun _ => 0))) :: ((q1, .inl (C 0, 3108, .inl (fun _ => 0))) :: ((h0, .inr (8, [.ref q1, .ref q2, .ref q3, .int 0, .ref q4, .null, .null, .null, .null, .null, .null, .null, .null, .int 0, .int 0, .null, .null, .int 0, .int 0, .int 0, .int 0, .int 0, .int 0, .int 0, .int 0, .int 0, .int 0, .int 0, .null, .null, .null, .null, .int 0, .null])) :: pre)))))) X dX8_init_35 rfl fp_RX8_19 (by first | decide | rfl) (by first | decide | rfl) (Nat.le_of_ble_eq_true rfl) rfl ?_
  refine av_aload_n X dX8_init_38 0 rfl ?_
  refine av_iconst (v := 4) X dX8_init_39 (by decide) ?_
  refine av_newa (N := 4) X dX8_init_40 kwAI (by decide) (by decide) (by decide) (by decide) (by decide) (fun q5 => ?_)
  refine av_putF (q0 := 5) (ws' := ((q5, .inl (C 0, 4, .inl (fun _ => 0))) :: ((q4, .inl (C 0, 4, .inl (fun _ => 0))) :: ((q3, .inl (C 0, 3108, .inl (fun _ => 0))) :: ((q2, .inl (C 0, 3108, .inl (fun _ => 0))) :: ((q1, .inl (C 0, 3108, .inl (fun _ => 0))) :: ((h0, .inr (8, [.ref q1, .ref q2, .ref q3, .int 0, .ref q4, .ref q5, .null, .null, .null, .null, .null, .null, .null, .int 0, .int 0, .null, .null, .int 0, .int 0, .int 0, .int 0, .int 0, .int 0, .int 0, .int 0, .int 0, .int 0, .int 0, .null, .null, .null, .null, .int 0, .null])) :: pre))))))) X dX8_init_42 rfl fp_RX8_22 (by first | decide | rfl) (by first | decide | rfl) (Nat.le_of_ble_eq_true rfl) rfl ?_
  refine av_aload_n X dX8_init_45 0 rfl ?_
  refine av_bipush (v := 96) X dX8_init_46 (by decide) ?_
  refine av_newa (N := 96) X dX8_init_48 kwAI (by decide) (by decide) (by decide) (by decide) (by decide) (fun q6 => ?_)
  refine av_putF (q0 := 6) (ws' := ((q6, .inl (C 0, 96, .inl (fun _ => 0))) :: ((q5, .inl (C 0, 4, .inl (fun _ => 0))) :: ((q4, .inl (C 0, 4, .inl (fun _ => 0))) :: ((q3, .inl (C 0, 3108, .inl (fun _ => 0))) :: ((q2, .inl (C 0, 3108, .inl (fun _ => 0))) :: ((q1, .inl (C 0, 3108, .inl (fun _ => 0))) :: ((h0, .inr (8, [.ref q1, .ref q2, .ref q3, .int 0, .ref q4, .ref q5, .ref q6, .null, .null, .null, .null, .null, .null, .int 0, .int 0, .null, .null, .int 0, .int 0, .int 0, .int 0, .int 0, .int 0, .int 0, .int 0, .int 0, .int 0, .int 0, .null, .null, .null, .null, .int 0, .null])) :: pre)))))))) X dX8_init_50 rfl fp_RX8_25 (by first | decide | rfl) (by first | decide | rfl) (Nat.le_of_ble_eq_true rfl) rfl ?_
  refine av_aload_n X dX8_init_53 0 rfl ?_
  refine av_iconst (v := 5) X dX8_init_54 (by decide) ?_
  refine av_newa (N := 5) X dX8_init_55 kwAI (by decide) (by decide) (by decide) (by decide) (by decide) (fun q7 => ?_)
  refine av_putF (q0 := 7) (ws' := ((q7, .inl (C 0, 5, .inl (fun _ => 0))) :: ((q6, .inl (C 0, 96, .inl (fun _ => 0))) :: ((q5, .inl (C 0, 4, .inl (fun _ => 0))) :: ((q4, .inl (C 0, 4, .inl (fun _ => 0))) :: ((q3, .inl (C 0, 3108, .inl (fun _ => 0))) :: ((q2, .inl (C 0, 3108, .inl (fun _ => 0))) :: ((q1, .inl (C 0, 3108, .inl (fun _ => 0))) :: ((h0, .inr (8, [.ref q1, .ref q2, .ref q3, .int 0, .ref q4, .ref q5, .ref q6, .ref q7, .null, .null, .null, .null, .null, .int 0, .int 0, .null, .null, .int 0, .int 0, .int 0, .int 0, .int 0, .int 0, .int 0, .int 0, .int 0, .int 0, .int 0, .null, .null, .null, .null, .int 0, .null])) :: pre))))))))) X dX8_init_57 rfl fp_RX8_28 (by first | decide | rfl) (by first | decide | rfl) (Nat.le_of_ble_eq_true rfl) rfl ?_
  refine av_aload_n X dX8_init_60 0 rfl ?_
  refine av_iconst (v := 5) X dX8_init_61 (by decide) ?_
  refine av_newa (N := 5) X dX8_init_62 kwAI (by decide) (by decide) (by decide) (by decide) (by decide) (fun q8 => ?_)
  refine av_putF (q0 := 8) (ws' := ((q8, .inl (C 0, 5, .inl (fun _ => 0))) :: ((q7, .inl (C 0, 5, .inl (fun _ => 0))) :: ((q6, .inl (C 0, 96, .inl (fun _ => 0))) :: ((q5, .inl (C 0, 4, .inl (fun _ => 0))) :: ((q4, .inl (C 0, 4, .inl (fun _ => 0))) :: ((q3, .inl (C 0, 3108, .inl (fun _ => 0))) :: ((q2, .inl (C 0, 3108, .inl (fun _ => 0))) :: ((q1, .inl (C 0, 3108, .inl (fun _ => 0))) :: ((h0, .inr (8, [.ref q1, .ref q2, .ref q3, .int 0, .ref q4, .ref q5, .ref q6, .ref q7, .ref q8, .null, .null, .null, .null, .int 0, .int 0, .null, .null, .int 0, .int 0, .int 0, .int 0, .int 0, .int 0, .int 0, .int 0, .int 0, .int 0, .int 0, .null, .null, .null, .null, .int 0, .null])) :: pre)))))))))) X dX8_init_64 rfl fp_RX8_31 (by first | decide | rfl) (by first | decide | rfl) (Nat.le_of_ble_eq_true rfl) rfl ?_
  refine av_aload_n X dX8_init_67 0 rfl ?_
  refine av_iconst (v := 5) X dX8_init_68 (by decide) ?_
  refine av_newa (N := 5) X dX8_init_69 kwAI (by decide) (by decide) (by decide) (by decide) (by decide) (fun q9 => ?_)
  refine av_putF (q0 := 9) (ws' := ((q9, .inl (C 0, 5, .inl (fun _ => 0))) :: ((q8, .inl (C 0, 5, .inl (fun _ => 0))) :: ((q7, .inl (C 0, 5, .inl (fun _ => 0))) :: ((q6, .inl (C 0, 96, .inl (fun _ => 0))) :: ((q5, .inl (C 0, 4, .inl (fun _ => 0))) :: ((q4, .inl (C 0, 4, .inl (fun _ => 0))) :: ((q3, .inl (C 0, 3108, .inl (fun _ => 0))) :: ((q2, .inl (C 0, 3108, .inl (fun _ => 0))) :: ((q1, .inl (C 0, 3108, .inl (fun _ => 0))) :: ((h0, .inr (8, [.ref q1, .ref q2, .ref q3, .int 0, .ref q4, .ref q5, .ref q6, .ref q7, .ref q8, .ref q9, .null, .null, .null, .int 0, .int 0, .null, .null, .int 0, .int 0, .int 0, .int 0, .int 0, .int 0, .int 0, .int 0, .int 0, .int 0, .int 0, .null, .null, .null, .null, .int 0, .null])) :: pre))))))))))) X dX8_init_71 rfl fp_RX8_34 (by first | decide | rfl) (by first | decide | rfl) (Nat.le_of_ble_eq_true rfl) rfl ?_
  refine av_aload_n X dX8_init_74 0 rfl ?_
  refine av_iconst (v := 5) X dX8_init_75 (by decide) ?_
  refine av_newa (N := 5) X dX8_init_76 kwAI (by decide) (by decide) (by decide) (by decide) (by decide) (fun q10 => ?_)
  refine av_putF (q0 := 10) (ws' := ((q10, .inl (C 0, 5, .inl (fun _ => 0))) :: ((q9, .inl (C 0, 5, .inl (fun _ => 0))) :: ((q8, .inl (C 0, 5, .inl (fun _ => 0))) :: ((q7, .inl (C 0, 5, .inl (fun _ => 0))) :: ((q6, .inl (C 0, 96, .inl (fun _ => 0))) :: ((q5, .inl (C 0, 4, .inl (fun _ => 0))) :: ((q4, .inl (C 0, 4, .inl (fun _ => 0))) :: ((q3, .inl (C 0, 3108, .inl (fun _ => 0))) :: ((q2, .inl (C 0, 3108, .inl (fun _ => 0))) :: ((q1, .inl (C 0, 3108, .inl (fun _ => 0))) :: ((h0, .inr (8, [.ref q1, .ref q2, .ref q3, .int 0, .ref q4, .ref q5, .ref q6, .ref q7, .ref q8, .ref q9, .ref q10, .null, .null, .int 0, .int 0, .null, .null, .int 0, .int 0, .int 0, .int 0, .int 0, .int 0, .int 0, .int 0, .int 0, .int 0, .int 0, .null, .null, .null, .null, .int 0, .null])) :: pre)))))))))))) X dX8_init_78 rfl fp_RX8_37 (by first | decide | rfl) (by first | decide | rfl) (Nat.le_of_ble_eq_true rfl) rfl ?_
  refine av_aload_n X dX8_init_81 0 rfl ?_
  refine av_bipush (v := 120) X dX8_init_82 (by decide) ?_
  refine av_newa (N := 120) X dX8_init_84 kwAI (by decide) (by decide) (by decide) (by decide) (by decide) (fun q11 => ?_)
  refine av_putF (q0 := 11) (ws' := ((q11, .inl (C 0, 120, .inl (fun _ => 0))) :: ((q10, .inl (C 0, 5, .inl (fun _ => 0))) :: ((q9, .inl (C 0, 5, .inl (fun _ => 0))) :: ((q8, .inl (C 0, 5, .inl (fun _ => 0))) :: ((q7, .inl (C 0, 5, .inl (fun _ => 0))) :: ((q6, .inl (C 0, 96, .inl (fun _ => 0))) :: ((q5, .inl (C 0, 4, .inl (fun _ => 0))) :: ((q4, .inl (C 0, 4, .inl (fun _ => 0))) :: ((q3, .inl (C 0, 3108, .inl (fun _ => 0))) :: ((q2, .inl (C 0, 3108, .inl (fun _ => 0))) :: ((q1, .inl (C 0, 3108, .inl (fun _ => 0))) :: ((h0, .inr (8, [.ref q1, .ref q2, .ref q3, .int 0, .ref q4, .ref q5, .ref q6, .ref q7, .ref q8, .ref q9, .ref q10, .ref q11, .null, .int 0, .int 0, .null, .null, .int 0, .int 0, .int 0, .int 0, .int 0, .int 0, .int 0, .int 0, .int 0, .int 0, .int 0, .null, .null, .null, .null, .int 0, .null])) :: pre))))))))))))) X dX8_init_86 rfl fp_RX8_40 (by first | decide | rfl) (by first | decide | rfl) (Nat.le_of_ble_eq_true rfl) rfl ?_
  refine av_aload_n X dX8_init_89 0 rfl ?_
  refine av_bipush (v := 8) X dX8_init_90 (by decide) ?_
  refine av_newa (N := 8) X dX8_init_92 kwAI (by decide) (by decide) (by decide) (by decide) (by decide) (fun q12 => ?_)
  refine av_putF (q0 := 12) (ws' := ((q12, .inl (C 0, 8, .inl (fun _ => 0))) :: ((q11, .inl (C 0, 120, .inl (fun _ => 0))) :: ((q10, .inl (C 0, 5, .inl (fun _ => 0))) :: ((q9, .inl (C 0, 5, .inl (fun _ => 0))) :: ((q8, .inl (C 0, 5, .inl (fun _ => 0))) :: ((q7, .inl (C 0, 5, .inl (fun _ => 0))) :: ((q6, .inl (C 0, 96, .inl (fun _ => 0))) :: ((q5, .inl (C 0, 4, .inl (fun _ => 0))) :: ((q4, .inl (C 0, 4, .inl (fun _ => 0))) :: ((q3, .inl (C 0, 3108, .inl (fun _ => 0))) :: ((q2, .inl (C 0, 3108, .inl (fun _ => 0))) :: ((q1, .inl (C 0, 3108, .inl (fun _ => 0))) :: ((h0, .inr (8, [.ref q1, .ref q2, .ref q3, .int 0, .ref q4, .ref q5, .ref q6, .ref q7, .ref q8, .ref q9, .ref q10, .ref q11, .ref q12, .int 0, .int 0, .null, .null, .int 0, .int 0, .int 0, .int 0, .int 0, .int 0, .int 0, .int 0, .int 0, .int 0, .int 0, .null, .null, .null, .null, .int 0, .null])) :: pre)))))))))))))) X dX8_init_94 rfl fp_RX8_43 (by first | decide | rfl) (by first | decide | rfl) (Nat.le_of_ble_eq_true rfl) rfl ?_
  refine av_aload_n X dX8_init_97 0 rfl ?_
  refine av_iconst (v := (-1)) X dX8_init_98 (by decide) ?_
  refine av_put (q0 := 12) (ws' := ((q12, .inl (C 0, 8, .inl (fun _ => 0))) :: ((q11, .inl (C 0, 120, .inl (fun _ => 0))) :: ((q10, .inl (C 0, 5, .inl (fun _ => 0))) :: ((q9, .inl (C 0, 5, .inl (fun _ => 0))) :: ((q8, .inl (C 0, 5, .inl (fun _ => 0))) :: ((q7, .inl (C 0, 5, .inl (fun _ => 0))) :: ((q6, .inl (C 0, 96, .inl (fun _ => 0))) :: ((q5, .inl (C 0, 4, .inl (fun _ => 0))) :: ((q4, .inl (C 0, 4, .inl (fun _ => 0))) :: ((q3, .inl (C 0, 3108, .inl (fun _ => 0))) :: ((q2, .inl (C 0, 3108, .inl (fun _ => 0))) :: ((q1, .inl (C 0, 3108, .inl (fun _ => 0))) :: ((h0, .inr (8, [.ref q1, .ref q2, .ref q3, .int 0, .ref q4, .ref q5, .ref q6, .ref q7, .ref q8, .ref q9, .ref q10, .ref q11, .ref q12, .int (-1), .int 0, .null, .null, .int 0, .int 0, .int 0, .int 0, .int 0, .int 0, .int 0, .int 0, .int 0, .int 0, .int 0, .null, .null, .null, .null, .int 0, .null])) :: pre)))))))))))))) X dX8_init_99 rfl fp_RX8_46 (by first | decide | rfl) (by first | decide | rfl) (Nat.le_of_ble_eq_true rfl) rfl ?_
  refine av_aload_n X dX8_init_102 0 rfl ?_
  refine av_bipush (v := 108) X dX8_init_103 (by decide) ?_
  refine av_newa (N := 108) X dX8_init_105 kwAI (by decide) (by decide) (by decide) (by decide) (by decide) (fun q13 => ?_)
  refine av_putF (q0 := 13) (ws' := ((q13, .inl (C 0, 108, .inl (fun _ => 0))) :: ((q12, .inl (C 0, 8, .inl (fun _ => 0))) :: ((q11, .inl (C 0, 120, .inl (fun _ => 0))) :: ((q10, .inl (C 0, 5, .inl (fun _ => 0))) :: ((q9, .inl (C 0, 5, .inl (fun _ => 0))) :: ((q8, .inl (C 0, 5, .inl (fun _ => 0))) :: ((q7, .inl (C 0, 5, .inl (fun _ => 0))) :: ((q6, .inl (C 0, 96, .inl (fun _ => 0))) :: ((q5, .inl (C 0, 4, .inl (fun _ => 0))) :: ((q4, .inl (C 0, 4, .inl (fun _ => 0))) :: ((q3, .inl (C 0, 3108, .inl (fun _ => 0))) :: ((q2, .inl (C 0, 3108, .inl (fun _ => 0))) :: ((q1, .inl (C 0, 3108, .inl (fun _ => 0))) :: ((h0, .inr (8, [.ref q1, .ref q2, .ref q3, .int 0, .ref q4, .ref q5, .ref q6, .ref q7, .ref q8, .ref q9, .ref q10, .ref q11, .ref q12, .int (-1), .int 0, .ref q13, .null, .int 0, .int 0, .int 0, .int 0, .int 0, .int 0, .int 0, .int 0, .int 0, .int 0, .int 0, .null, .null, .null, .null, .int 0, .null])) :: pre))))))))))))))) X dX8_init_107 rfl fp_RX8_50 (by first | decide | rfl) (by first | decide | rfl) (Nat.le_of_ble_eq_true rfl) rfl ?_
  refine av_aload_n X dX8_init_110 0 rfl ?_
  refine av_bipush (v := 96) X dX8_init_111 (by decide) ?_
  refine av_newa (N := 96) X dX8_init_113 kwAI (by decide) (by decide) (by decide) (by decide) (by decide) (fun q14 => ?_)
  refine av_putF (q0 := 14) (ws' := ((q14, .inl (C 0, 96, .inl (fun _ => 0))) :: ((q13, .inl (C 0, 108, .inl (fun _ => 0))) :: ((q12, .inl (C 0, 8, .inl (fun _ => 0))) :: ((q11, .inl (C 0, 120, .inl (fun _ => 0))) :: ((q10, .inl (C 0, 5, .inl (fun _ => 0))) :: ((q9, .inl (C 0, 5, .inl (fun _ => 0))) :: ((q8, .inl (C 0, 5, .inl (fun _ => 0))) :: ((q7, .inl (C 0, 5, .inl (fun _ => 0))) :: ((q6, .inl (C 0, 96, .inl (fun _ => 0))) :: ((q5, .inl (C 0, 4, .inl (fun _ => 0))) :: ((q4, .inl (C 0, 4, .inl (fun _ => 0))) :: ((q3, .inl (C 0, 3108, .inl (fun _ => 0))) :: ((q2, .inl (C 0, 3108, .inl (fun _ => 0))) :: ((q1, .inl (C 0, 3108, .inl (fun _ => 0))) :: ((h0, .inr (8, [.ref q1, .ref q2, .ref q3, .int 0, .ref q4, .ref q5, .ref q6, .ref q7, .ref q8, .ref q9, .ref q10, .ref q11, .ref q12, .int (-1), .int 0, .ref q13, .ref q14, .int 0, .int 0, .int 0, .int 0, .int 0, .int 0, .int 0, .int 0, .int 0, .int 0, .int 0, .null, .null, .null, .null, .int 0, .null])) :: pre)))))))))))))))) X dX8_init_115 rfl fp_RX8_53 (by first | decide | rfl) (by first | decide | rfl) (Nat.le_of_ble_eq_true rfl) rfl ?_
  refine av_aload_n X dX8_init_118 0 rfl ?_
  refine av_sipush (v := 128) X dX8_init_119 (by decide) ?_
  refine av_newa (N := 128) X dX8_init_122 kwAI (by decide) (by decide) (by decide) (by decide) (by decide) (fun q15 => ?_)
  refine av_putF (q0 := 15) (ws' := ((q15, .inl (C 0, 128, .inl (fun _ => 0))) :: ((q14, .inl (C 0, 96, .inl (fun _ => 0))) :: ((q13, .inl (C 0, 108, .inl (fun _ => 0))) :: ((q12, .inl (C 0, 8, .inl (fun _ => 0))) :: ((q11, .inl (C 0, 120, .inl (fun _ => 0))) :: ((q10, .inl (C 0, 5, .inl (fun _ => 0))) :: ((q9, .inl (C 0, 5, .inl (fun _ => 0))) :: ((q8, .inl (C 0, 5, .inl (fun _ => 0))) :: ((q7, .inl (C 0, 5, .inl (fun _ => 0))) :: ((q6, .inl (C 0, 96, .inl (fun _ => 0))) :: ((q5, .inl (C 0, 4, .inl (fun _ => 0))) :: ((q4, .inl (C 0, 4, .inl (fun _ => 0))) :: ((q3, .inl (C 0, 3108, .inl (fun _ => 0))) :: ((q2, .inl (C 0, 3108, .inl (fun _ => 0))) :: ((q1, .inl (C 0, 3108, .inl (fun _ => 0))) :: ((h0, .inr (8, [.ref q1, .ref q2, .ref q3, .int 0, .ref q4, .ref q5, .ref q6, .ref q7, .ref q8, .ref q9, .ref q10, .ref q11, .ref q12, .int (-1), .int 0, .ref q13, .ref q14, .int 0, .int 0, .int 0, .int 0, .int 0, .int 0, .int 0, .int 0, .int 0, .int 0, .int 0, .ref q15, .null, .null, .null, .int 0, .null])) :: pre))))))))))))))))) X dX8_init_124 rfl fp_RX8_56 (by first | decide | rfl) (by first | decide | rfl) (Nat.le_of_ble_eq_true rfl) rfl ?_
  refine av_aload_n X dX8_init_127 0 rfl ?_
  refine av_bipush (v := 100) X dX8_init_128 (by decide) ?_
  refine av_newa (N := 100) X dX8_init_130 kwAI (by decide) (by decide) (by decide) (by decide) (by decide) (fun q16 => ?_)
  refine av_putF (q0 := 16) (ws' := ((q16, .inl (C 0, 100, .inl (fun _ => 0))) :: ((q15, .inl (C 0, 128, .inl (fun _ => 0))) :: ((q14, .inl (C 0, 96, .inl (fun _ => 0))) :: ((q13, .inl (C 0, 108, .inl (fun _ => 0))) :: ((q12, .inl (C 0, 8, .inl (fun _ => 0))) :: ((q11, .inl (C 0, 120, .inl (fun _ => 0))) :: ((q10, .inl (C 0, 5, .inl (fun _ => 0))) :: ((q9, .inl (C 0, 5, .inl (fun _ => 0))) :: ((q8, .inl (C 0, 5, .inl (fun _ => 0))) :: ((q7, .inl (C 0, 5, .inl (fun _ => 0))) :: ((q6, .inl (C 0, 96, .inl (fun _ => 0))) :: ((q5, .inl (C 0, 4, .inl (fun _ => 0))) :: ((q4, .inl (C 0, 4, .inl (fun _ => 0))) :: ((q3, .inl (C 0, 3108, .inl (fun _ => 0))) :: ((q2, .inl (C 0, 3108, .inl (fun _ => 0))) :: ((q1, .inl (C 0, 3108, .inl (fun _ => 0))) :: ((h0, .inr (8, [.ref q1, .ref q2, .ref q3, .int 0, .ref q4, .ref q5, .ref q6, .ref q7, .ref q8, .ref q9, .ref q10, .ref q11, .ref q12, .int (-1), .int 0, .ref q13, .ref q14, .int 0, .int 0, .int 0, .int 0, .int 0, .int 0, .int 0, .int 0, .int 0, .int 0, .int 0, .ref q15, .ref q16, .null, .null, .int 0, .null])) :: pre)))))))))))))))))) X dX8_init_132 rfl fp_RX8_59 (by first | decide | rfl) (by first | decide | rfl) (Nat.le_of_ble_eq_true rfl) rfl ?_
  refine av_aload_n X dX8_init_135 0 rfl ?_
  refine av_bipush (v := 24) X dX8_init_136 (by decide) ?_
  refine av_newa (N := 24) X dX8_init_138 kwAI (by decide) (by decide) (by decide) (by decide) (by decide) (fun q17 => ?_)
  refine av_putF (q0 := 17) (ws' := ((q17, .inl (C 0, 24, .inl (fun _ => 0))) :: ((q16, .inl (C 0, 100, .inl (fun _ => 0))) :: ((q15, .inl (C 0, 128, .inl (fun _ => 0))) :: ((q14, .inl (C 0, 96, .inl (fun _ => 0))) :: ((q13, .inl (C 0, 108, .inl (fun _ => 0))) :: ((q12, .inl (C 0, 8, .inl (fun _ => 0))) :: ((q11, .inl (C 0, 120, .inl (fun _ => 0))) :: ((q10, .inl (C 0, 5, .inl (fun _ => 0))) :: ((q9, .inl (C 0, 5, .inl (fun _ => 0))) :: ((q8, .inl (C 0, 5, .inl (fun _ => 0))) :: ((q7, .inl (C 0, 5, .inl (fun _ => 0))) :: ((q6, .inl (C 0, 96, .inl (fun _ => 0))) :: ((q5, .inl (C 0, 4, .inl (fun _ => 0))) :: ((q4, .inl (C 0, 4, .inl (fun _ => 0))) :: ((q3, .inl (C 0, 3108, .inl (fun _ => 0))) :: ((q2, .inl (C 0, 3108, .inl (fun _ => 0))) :: ((q1, .inl (C 0, 3108, .inl (fun _ => 0))) :: ((h0, .inr (8, [.ref q1, .ref q2, .ref q3, .int 0, .ref q4, .ref q5, .ref q6, .ref q7, .ref q8, .ref q9, .ref q10, .ref q11, .ref q12, .int (-1), .int 0, .ref q13, .ref q14, .int 0, .int 0, .int 0, .int 0, .int 0, .int 0, .int 0, .int 0, .int 0, .int 0, .int 0, .ref q15, .ref q16, .ref q17, .null, .int 0, .null])) :: pre))))))))))))))))))) X dX8_init_140 rfl fp_RX8_62 (by first | decide | rfl) (by first | decide | rfl) (Nat.le_of_ble_eq_true rfl) rfl ?_
  refine av_aload_n X dX8_init_143 0 rfl ?_
  refine av_bipush (v := 60) X dX8_init_144 (by decide) ?_
  refine av_newa (N := 60) X dX8_init_146 kwAI (by decide) (by decide) (by decide) (by decide) (by decide) (fun q18 => ?_)
  refine av_putF (q0 := 18) (ws' := ((q18, .inl (C 0, 60, .inl (fun _ => 0))) :: ((q17, .inl (C 0, 24, .inl (fun _ => 0))) :: ((q16, .inl (C 0, 100, .inl (fun _ => 0))) :: ((q15, .inl (C 0, 128, .inl (fun _ => 0))) :: ((q14, .inl (C 0, 96, .inl (fun _ => 0))) :: ((q13, .inl (C 0, 108, .inl (fun _ => 0))) :: ((q12, .inl (C 0, 8, .inl (fun _ => 0))) :: ((q11, .inl (C 0, 120, .inl (fun _ => 0))) :: ((q10, .inl (C 0, 5, .inl (fun _ => 0))) :: ((q9, .inl (C 0, 5, .inl (fun _ => 0))) :: ((q8, .inl (C 0, 5, .inl (fun _ => 0))) :: ((q7, .inl (C 0, 5, .inl (fun _ => 0))) :: ((q6, .inl (C 0, 96, .inl (fun _ => 0))) :: ((q5, .inl (C 0, 4, .inl (fun _ => 0))) :: ((q4, .inl (C 0, 4, .inl (fun _ => 0))) :: ((q3, .inl (C 0, 3108, .inl (fun _ => 0))) :: ((q2, .inl (C 0, 3108, .inl (fun _ => 0))) :: ((q1, .inl (C 0, 3108, .inl (fun _ => 0))) :: ((h0, .inr (8, [.ref q1, .ref q2, .ref q3, .int 0, .ref q4, .ref q5, .ref q6, .ref q7, .ref q8, .ref q9, .ref q10, .ref q11, .ref q12, .int (-1), .int 0, .ref q13, .ref q14, .int 0, .int 0, .int 0, .int 0, .int 0, .int 0, .int 0, .int 0, .int 0, .int 0, .int 0, .ref q15, .ref q16, .ref q17, .ref q18, .int 0, .null])) :: pre)))))))))))))))))))) X dX8_init_148 rfl fp_RX8_65 (by first | decide | rfl) (by first | decide | rfl) (Nat.le_of_ble_eq_true rfl) rfl ?_
  refine av_aload_n X dX8_init_151 0 rfl ?_
  refine av_bipush (v := 60) X dX8_init_152 (by decide) ?_
  refine av_newa (N := 60) X dX8_init_154 kwAI (by decide) (by decide) (by decide) (by decide) (by decide) (fun q19 => ?_)
  refine av_putF (q0 := 19) (ws' := ((q19, .inl (C 0, 60, .inl (fun _ => 0))) :: ((q18, .inl (C 0, 60, .inl (fun _ => 0))) :: ((q17, .inl (C 0, 24, .inl (fun _ => 0))) :: ((q16, .inl (C 0, 100, .inl (fun _ => 0))) :: ((q15, .inl (C 0, 128, .inl (fun _ => 0))) :: ((q14, .inl (C 0, 96, .inl (fun _ => 0))) :: ((q13, .inl (C 0, 108, .inl (fun _ => 0))) :: ((q12, .inl (C 0, 8, .inl (fun _ => 0))) :: ((q11, .inl (C 0, 120, .inl (fun _ => 0))) :: ((q10, .inl (C 0, 5, .inl (fun _ => 0))) :: ((q9, .inl (C 0, 5, .inl (fun _ => 0))) :: ((q8, .inl (C 0, 5, .inl (fun _ => 0))) :: ((q7, .inl (C 0, 5, .inl (fun _ => 0))) :: ((q6, .inl (C 0, 96, .inl (fun _ => 0))) :: ((q5, .inl (C 0, 4, .inl (fun _ => 0))) :: ((q4, .inl (C 0, 4, .inl (fun _ => 0))) :: ((q3, .inl (C 0, 3108, .inl (fun _ => 0))) :: ((q2, .inl (C 0, 3108, .inl (fun _ => 0))) :: ((q1, .inl (C 0, 3108, .inl (fun _ => 0))) :: ((h0, .inr (8, [.ref q1, .ref q2, .ref q3, .int 0, .ref q4, .ref q5, .ref q6, .ref q7, .ref q8, .ref q9, .ref q10, .ref q11, .ref q12, .int (-1), .int 0, .ref q13, .ref q14, .int 0, .int 0, .int 0, .int 0, .int 0, .int 0, .int 0, .int 0, .int 0, .int 0, .int 0, .ref q15, .ref q16, .ref q17, .ref q18, .int 0, .ref q19])) :: pre))))))))))))))))))))) X dX8_init_156 rfl fp_RX8_68 (by first | decide | rfl) (by first | decide | rfl) (Nat.le_of_ble_eq_true rfl) rfl ?_
  refine av_aload_n X dX8_init_159 0 rfl ?_
  refine av_get (q0 := 19) X dX8_init_160 rfl fl_RX8_7 rfl ?_
  refine av_iconst (v := 3) X dX8_init_163 (by decide) ?_
  refine av_bipush (v := 15) X dX8_init_164 (by decide) ?_
  refine av_iast (q0 := 18) (ws' := ((q19, .inl (C 0, 60, .inl (fun _ => 0))) :: ((q18, .inl (C 0, 60, .inl (fun _ => 0))) :: ((q17, .inl (C 0, 24, .inl (fun _ => 0))) :: ((q16, .inl (C 0, 100, .inl (fun _ => 0))) :: ((q15, .inl (C 0, 128, .inl (fun _ => 0))) :: ((q14, .inl (C 0, 96, .inl (fun _ => 0))) :: ((q13, .inl (C 0, 108, .inl (fun _ => 0))) :: ((q12, .inl (C 0, 8, .inl (fun _ => 0))) :: ((q11, .inl (C 0, 120, .inl (fun _ => 0))) :: ((q10, .inl (C 0, 5, .inl (fun _ => 0))) :: ((q9, .inl (C 0, 5, .inl (fun _ => 0))) :: ((q8, .inl (C 0, 5, .inl (fun _ => 0))) :: ((q7, .inl (C 0, 5, .inl (fun _ => 0))) :: ((q6, .inl (C 0, 96, .inl (fun _ => 0))) :: ((q5, .inl (C 0, 4, .inl (fun _ => 0))) :: ((q4, .inl (C 0, 4, .inl (fun _ => 0))) :: ((q3, .inl (C 0, 3108, .inl (fun _ => 0))) :: ((q2, .inl (C 0, 3108, .inl (fun _ => 0))) :: ((q1, .inl (C 0, 3108, .inl (upd (fun _ => 0) 3 15))) :: ((h0, .inr (8, [.ref q1, .ref q2, .ref q3, .int 0, .ref q4, .ref q5, .ref q6, .ref q7, .ref q8, .ref q9, .ref q10, .ref q11, .ref q12, .int (-1), .int 0, .ref q13, .ref q14, .int 0, .int 0, .int 0, .int 0, .int 0, .int 0, .int 0, .int 0, .int 0, .int 0, .int 0, .ref q15, .ref q16, .ref q17, .ref q18, .int 0, .ref q19])) :: pre))))))))))))))))))))) X dX8_init_166 rfl (by unfold vp_in; decide) rfl ?_
  refine av_aload_n X dX8_init_167 0 rfl ?_
  refine av_get (q0 := 19) X dX8_init_168 rfl fl_RX8_7 rfl ?_
  refine av_iconst (v := 4) X dX8_init_171 (by decide) ?_
  refine av_bipush (v := 9) X dX8_init_172 (by decide) ?_
  refine av_iast (q0 := 18) (ws' := ((q19, .inl (C 0, 60, .inl (fun _ => 0))) :: ((q18, .inl (C 0, 60, .inl (fun _ => 0))) :: ((q17, .inl (C 0, 24, .inl (fun _ => 0))) :: ((q16, .inl (C 0, 100, .inl (fun _ => 0))) :: ((q15, .inl (C 0, 128, .inl (fun _ => 0))) :: ((q14, .inl (C 0, 96, .inl (fun _ => 0))) :: ((q13, .inl (C 0, 108, .inl (fun _ => 0))) :: ((q12, .inl (C 0, 8, .inl (fun _ => 0))) :: ((q11, .inl (C 0, 120, .inl (fun _ => 0))) :: ((q10, .inl (C 0, 5, .inl (fun _ => 0))) :: ((q9, .inl (C 0, 5, .inl (fun _ => 0))) :: ((q8, .inl (C 0, 5, .inl (fun _ => 0))) :: ((q7, .inl (C 0, 5, .inl (fun _ => 0))) :: ((q6, .inl (C 0, 96, .inl (fun _ => 0))) :: ((q5, .inl (C 0, 4, .inl (fun _ => 0))) :: ((q4, .inl (C 0, 4, .inl (fun _ => 0))) :: ((q3, .inl (C 0, 3108, .inl (fun _ => 0))) :: ((q2, .inl (C 0, 3108, .inl (fun _ => 0))) :: ((q1, .inl (C 0, 3108, .inl (upd (upd (fun _ => 0) 3 15) 4 9))) :: ((h0, .inr (8, [.ref q1, .ref q2, .ref q3, .int 0, .ref q4, .ref q5, .ref q6, .ref q7, .ref q8, .ref q9, .ref q10, .ref q11, .ref q12, .int (-1), .int 0, .ref q13, .ref q14, .int 0, .int 0, .int 0, .int 0, .int 0, .int 0, .int 0, .int 0, .int 0, .int 0, .int 0, .ref q15, .ref q16, .ref q17, .ref q18, .int 0, .ref q19])) :: pre))))))))))))))))))))) X dX8_init_174 rfl (by unfold vp_in; decide) rfl ?_
  refine av_aload_n X dX8_init_175 0 rfl ?_
  refine av_get (q0 := 19) X dX8_init_176 rfl fl_RX8_7 rfl ?_
  refine av_iconst (v := 5) X dX8_init_179 (by decide) ?_
  refine av_iconst (v := 3) X dX8_init_180 (by decide) ?_
  refine av_iast (q0 := 18) (ws' := ((q19, .inl (C 0, 60, .inl (fun _ => 0))) :: ((q18, .inl (C 0, 60, .inl (fun _ => 0))) :: ((q17, .inl (C 0, 24, .inl (fun _ => 0))) :: ((q16, .inl (C 0, 100, .inl (fun _ => 0))) :: ((q15, .inl (C 0, 128, .inl (fun _ => 0))) :: ((q14, .inl (C 0, 96, .inl (fun _ => 0))) :: ((q13, .inl (C 0, 108, .inl (fun _ => 0))) :: ((q12, .inl (C 0, 8, .inl (fun _ => 0))) :: ((q11, .inl (C 0, 120, .inl (fun _ => 0))) :: ((q10, .inl (C 0, 5, .inl (fun _ => 0))) :: ((q9, .inl (C 0, 5, .inl (fun _ => 0))) :: ((q8, .inl (C 0, 5, .inl (fun _ => 0))) :: ((q7, .inl (C 0, 5, .inl (fun _ => 0))) :: ((q6, .inl (C 0, 96, .inl (fun _ => 0))) :: ((q5, .inl (C 0, 4, .inl (fun _ => 0))) :: ((q4, .inl (C 0, 4, .inl (fun _ => 0))) :: ((q3, .inl (C 0, 3108, .inl (fun _ => 0))) :: ((q2, .inl (C 0, 3108, .inl (fun _ => 0))) :: ((q1, .inl (C 0, 3108, .inl (upd (upd (upd (fun _ => 0) 3 15) 4 9) 5 3))) :: ((h0, .inr (8, [.ref q1, .ref q2, .ref q3, .int 0, .ref q4, .ref q5, .ref q6, .ref q7, .ref q8, .ref q9, .ref q10, .ref q11, .ref q12, .int (-1), .int 0, .ref q13, .ref q14, .int 0, .int 0, .int 0, .int 0, .int 0, .int 0, .int 0, .int 0, .int 0, .int 0, .int 0, .ref q15, .ref q16, .ref q17, .ref q18, .int 0, .ref q19])) :: pre))))))))))))))))))))) X dX8_init_181 rfl (by unfold vp_in; decide) rfl ?_
  refine av_aload_n X dX8_init_182 0 rfl ?_
  refine av_get (q0 := 19) X dX8_init_183 rfl fl_RX8_7 rfl ?_
  refine av_bipush (v := 6) X dX8_init_186 (by decide) ?_
  refine av_iconst (v := 1) X dX8_init_188 (by decide) ?_
  refine av_iast (q0 := 18) (ws' := ((q19, .inl (C 0, 60, .inl (fun _ => 0))) :: ((q18, .inl (C 0, 60, .inl (fun _ => 0))) :: ((q17, .inl (C 0, 24, .inl (fun _ => 0))) :: ((q16, .inl (C 0, 100, .inl (fun _ => 0))) :: ((q15, .inl (C 0, 128, .inl (fun _ => 0))) :: ((q14, .inl (C 0, 96, .inl (fun _ => 0))) :: ((q13, .inl (C 0, 108, .inl (fun _ => 0))) :: ((q12, .inl (C 0, 8, .inl (fun _ => 0))) :: ((q11, .inl (C 0, 120, .inl (fun _ => 0))) :: ((q10, .inl (C 0, 5, .inl (fun _ => 0))) :: ((q9, .inl (C 0, 5, .inl (fun _ => 0))) :: ((q8, .inl (C 0, 5, .inl (fun _ => 0))) :: ((q7, .inl (C 0, 5, .inl (fun _ => 0))) :: ((q6, .inl (C 0, 96, .inl (fun _ => 0))) :: ((q5, .inl (C 0, 4, .inl (fun _ => 0))) :: ((q4, .inl (C 0, 4, .inl (fun _ => 0))) :: ((q3, .inl (C 0, 3108, .inl (fun _ => 0))) :: ((q2, .inl (C 0, 3108, .inl (fun _ => 0))) :: ((q1, .inl (C 0, 3108, .inl (upd (upd (upd (upd (fun _ => 0) 3 15) 4 9) 5 3) 6 1))) :: ((h0, .inr (8, [.ref q1, .ref q2, .ref q3, .int 0, .ref q4, .ref q5, .ref q6, .ref q7, .ref q8, .ref q9, .ref q10, .ref q11, .ref q12, .int (-1), .int 0, .ref q13, .ref q14, .int 0, .int 0, .int 0, .int 0, .int 0, .int 0, .int 0, .int 0, .int 0, .int 0, .int 0, .ref q15, .ref q16, .ref q17, .ref q18, .int 0, .ref q19])) :: pre))))))))))))))))))))) X dX8_init_189 rfl (by unfold vp_in; decide) rfl ?_
  refine av_aload_n X dX8_init_190 0 rfl ?_
  refine av_get (q0 := 19) X dX8_init_191 rfl fl_RX8_7 rfl ?_
  refine av_bipush (v := 10) X dX8_init_194 (by decide) ?_
  refine av_iconst (v := 1) X dX8_init_196 (by decide) ?_
  refine av_iast (q0 := 18) (ws' := ((q19, .inl (C 0, 60, .inl (fun _ => 0))) :: ((q18, .inl (C 0, 60, .inl (fun _ => 0))) :: ((q17, .inl (C 0, 24, .inl (fun _ => 0))) :: ((q16, .inl (C 0, 100, .inl (fun _ => 0))) :: ((q15, .inl (C 0, 128, .inl (fun _ => 0))) :: ((q14, .inl (C 0, 96, .inl (fun _ => 0))) :: ((q13, .inl (C 0, 108, .inl (fun _ => 0))) :: ((q12, .inl (C 0, 8, .inl (fun _ => 0))) :: ((q11, .inl (C 0, 120, .inl (fun _ => 0))) :: ((q10, .inl (C 0, 5, .inl (fun _ => 0))) :: ((q9, .inl (C 0, 5, .inl (fun _ => 0))) :: ((q8, .inl (C 0, 5, .inl (fun _ => 0))) :: ((q7, .inl (C 0, 5, .inl (fun _ => 0))) :: ((q6, .inl (C 0, 96, .inl (fun _ => 0))) :: ((q5, .inl (C 0, 4, .inl (fun _ => 0))) :: ((q4, .inl (C 0, 4, .inl (fun _ => 0))) :: ((q3, .inl (C 0, 3108, .inl (fun _ => 0))) :: ((q2, .inl (C 0, 3108, .inl (fun _ => 0))) :: ((q1, .inl (C 0, 3108, .inl (upd (upd (upd (upd (upd (fun _ => 0) 3 15) 4 9) 5 3) 6 1) 10 1))) :: ((h0, .inr (8, [.ref q1, .ref q2, .ref q3, .int 0, .ref q4, .ref q5, .ref q6, .ref q7, .ref q8, .ref q9, .ref q10, .ref q11, .ref q12, .int (-1), .int 0, .ref q13, .ref q14, .int 0, .int 0, .int 0, .int 0, .int 0, .int 0, .int 0, .int 0, .int 0, .int 0, .int 0, .ref q15, .ref q16, .ref q17, .ref q18, .int 0, .ref q19])) :: pre))))))))))))))))))))) X dX8_init_197 rfl (by unfold vp_in; decide) rfl ?_
  refine av_iconst (v := 0) X dX8_init_198 (by decide) ?_
  refine av_istore_n (lv' := [(1, .int 0), (0, .ref h0)]) X dX8_init_199 (by decide) rfl ?_
  refine av_iload_n X dX8_init_200 0 rfl ?_
  refine av_iconst (v := 4) X dX8_init_201 (by decide) ?_
  refine av_icmp_ge (tgt := 218) X dX8_init_202 (by decide) (fun c => absurd c (by decide)) (fun _ => ?_)
  refine av_aload_n X dX8_init_205 1 rfl ?_
  refine av_get (q0 := 19) X dX8_init_206 rfl fl_RX8_19 rfl ?_
  refine av_iload_n X dX8_init_209 0 rfl ?_
  refine av_iconst (v := (-1)) X dX8_init_210 (by decide) ?_
  refine av_iast (q0 := 15) (ws' := ((q19, .inl (C 0, 60, .inl (fun _ => 0))) :: ((q18, .inl (C 0, 60, .inl (fun _ => 0))) :: ((q17, .inl (C 0, 24, .inl (fun _ => 0))) :: ((q16, .inl (C 0, 100, .inl (fun _ => 0))) :: ((q15, .inl (C 0, 128, .inl (fun _ => 0))) :: ((q14, .inl (C 0, 96, .inl (fun _ => 0))) :: ((q13, .inl (C 0, 108, .inl (fun _ => 0))) :: ((q12, .inl (C 0, 8, .inl (fun _ => 0))) :: ((q11, .inl (C 0, 120, .inl (fun _ => 0))) :: ((q10, .inl (C 0, 5, .inl (fun _ => 0))) :: ((q9, .inl (C 0, 5, .inl (fun _ => 0))) :: ((q8, .inl (C 0, 5, .inl (fun _ => 0))) :: ((q7, .inl (C 0, 5, .inl (fun _ => 0))) :: ((q6, .inl (C 0, 96, .inl (fun _ => 0))) :: ((q5, .inl (C 0, 4, .inl (fun _ => 0))) :: ((q4, .inl (C 0, 4, .inl (upd (fun _ => 0) 0 (-1)))) :: ((q3, .inl (C 0, 3108, .inl (fun _ => 0))) :: ((q2, .inl (C 0, 3108, .inl (fun _ => 0))) :: ((q1, .inl (C 0, 3108, .inl (upd (upd (upd (upd (upd (fun _ => 0) 3 15) 4 9) 5 3) 6 1) 10 1))) :: ((h0, .inr (8, [.ref q1, .ref q2, .ref q3, .int 0, .ref q4, .ref q5, .ref q6, .ref q7, .ref q8, .ref q9, .ref q10, .ref q11, .ref q12, .int (-1), .int 0, .ref q13, .ref q14, .int 0, .int 0, .int 0, .int 0, .int 0, .int 0, .int 0, .int 0, .int 0, .int 0, .int 0, .ref q15, .ref q16, .ref q17, .ref q18, .int 0, .ref q19])) :: pre))))))))))))))))))))) X dX8_init_211 rfl (by unfold vp_in; decide) rfl ?_
  refine av_iinc (v := 1) (lv' := [(1, .int 1), (0, .ref h0)]) X dX8_init_212 0 rfl (by decide) (by decide) rfl ?_
  refine av_goto (tgt := 200) X dX8_init_215 (by decide) ?_
  refine av_iload_n X dX8_init_200 0 rfl ?_
  refine av_iconst (v := 4) X dX8_init_201 (by decide) ?_
  refine av_icmp_ge (tgt := 218) X dX8_init_202 (by decide) (fun c => absurd c (by decide)) (fun _ => ?_)
  refine av_aload_n X dX8_init_205 1 rfl ?_
  refine av_get (q0 := 19) X dX8_init_206 rfl fl_RX8_19 rfl ?_
  refine av_iload_n X dX8_init_209 0 rfl ?_
  refine av_iconst (v := (-1)) X dX8_init_210 (by decide) ?_
  refine av_iast (q0 := 15) (ws' := ((q19, .inl (C 0, 60, .inl (fun _ => 0))) :: ((q18, .inl (C 0, 60, .inl (fun _ => 0))) :: ((q17, .inl (C 0, 24, .inl (fun _ => 0))) :: ((q16, .inl (C 0, 100, .inl (fun _ => 0))) :: ((q15, .inl (C 0, 128, .inl (fun _ => 0))) :: ((q14, .inl (C 0, 96, .inl (fun _ => 0))) :: ((q13, .inl (C 0, 108, .inl (fun _ => 0))) :: ((q12, .inl (C 0, 8, .inl (fun _ => 0))) :: ((q11, .inl (C 0, 120, .inl (fun _ => 0))) :: ((q10, .inl (C 0, 5, .inl (fun _ => 0))) :: ((q9, .inl (C 0, 5, .inl (fun _ => 0))) :: ((q8, .inl (C 0, 5, .inl (fun _ => 0))) :: ((q7, .inl (C 0, 5, .inl (fun _ => 0))) :: ((q6, .inl (C 0, 96, .inl (fun _ => 0))) :: ((q5, .inl (C 0, 4, .inl (fun _ => 0))) :: ((q4, .inl (C 0, 4, .inl (upd (upd (fun _ => 0) 0 (-1)) 1 (-1)))) :: ((q3, .inl (C 0, 3108, .inl (fun _ => 0))) :: ((q2, .inl (C 0, 3108, .inl (fun _ => 0))) :: ((q1, .inl (C 0, 3108, .inl (upd (upd (upd (upd (upd (fun _ => 0) 3 15) 4 9) 5 3) 6 1) 10 1))) :: ((h0, .inr (8, [.ref q1, .ref q2, .ref q3, .int 0, .ref q4, .ref q5, .ref q6, .ref q7, .ref q8, .ref q9, .ref q10, .ref q11, .ref q12, .int (-1), .int 0, .ref q13, .ref q14, .int 0, .int 0, .int 0, .int 0, .int 0, .int 0, .int 0, .int 0, .int 0, .int 0, .int 0, .ref q15, .ref q16, .ref q17, .ref q18, .int 0, .ref q19])) :: pre))))))))))))))))))))) X dX8_init_211 rfl (by unfold vp_in; decide) rfl ?_
  refine av_iinc (v := 2) (lv' := [(1, .int 2), (0, .ref h0)]) X dX8_init_212 0 rfl (by decide) (by decide) rfl ?_
  refine av_goto (tgt := 200) X dX8_init_215 (by decide) ?_
  refine av_iload_n X dX8_init_200 0 rfl ?_
  refine av_iconst (v := 4) X dX8_init_201 (by decide) ?_
  refine av_icmp_ge (tgt := 218) X dX8_init_202 (by decide) (fun c => absurd c (by decide)) (fun _ => ?_)
  refine av_aload_n X dX8_init_205 1 rfl ?_
  refine av_get (q0 := 19) X dX8_init_206 rfl fl_RX8_19 rfl ?_
  refine av_iload_n X dX8_init_209 0 rfl ?_
  refine av_iconst (v := (-1)) X dX8_init_210 (by decide) ?_
  refine av_iast (q0 := 15) (ws' := ((q19, .inl (C 0, 60, .inl (fun _ => 0))) :: ((q18, .inl (C 0, 60, .inl (fun _ => 0))) :: ((q17, .inl (C 0, 24, .inl (fun _ => 0))) :: ((q16, .inl (C 0, 100, .inl (fun _ => 0))) :: ((q15, .inl (C 0, 128, .inl (fun _ => 0))) :: ((q14, .inl (C 0, 96, .inl (fun _ => 0))) :: ((q13, .inl (C 0, 108, .inl (fun _ => 0))) :: ((q12, .inl (C 0, 8, .inl (fun _ => 0))) :: ((q11, .inl (C 0, 120, .inl (fun _ => 0))) :: ((q10, .inl (C 0, 5, .inl (fun _ => 0))) :: ((q9, .inl (C 0, 5, .inl (fun _ => 0))) :: ((q8, .inl (C 0, 5, .inl (fun _ => 0))) :: ((q7, .inl (C 0, 5, .inl (fun _ => 0))) :: ((q6, .inl (C 0, 96, .inl (fun _ => 0))) :: ((q5, .inl (C 0, 4, .inl (fun _ => 0))) :: ((q4, .inl (C 0, 4, .inl (upd (upd (upd (fun _ => 0) 0 (-1)) 1 (-1)) 2 (-1)))) :: ((q3, .inl (C 0, 3108, .inl (fun _ => 0))) :: ((q2, .inl (C 0, 3108, .inl (fun _ => 0))) :: ((q1, .inl (C 0, 3108, .inl (upd (upd (upd (upd (upd (fun _ => 0) 3 15) 4 9) 5 3) 6 1) 10 1))) :: ((h0, .inr (8, [.ref q1, .ref q2, .ref q3, .int 0, .ref q4, .ref q5, .ref q6, .ref q7, .ref q8, .ref q9, .ref q10, .ref q11, .ref q12, .int (-1), .int 0, .ref q13, .ref q14, .int 0, .int 0, .int 0, .int 0, .int 0, .int 0, .int 0, .int 0, .int 0, .int 0, .int 0, .ref q15, .ref q16, .ref q17, .ref q18, .int 0, .ref q19])) :: pre))))))))))))))))))))) X dX8_init_211 rfl (by unfold vp_in; decide) rfl ?_
  refine av_iinc (v := 3) (lv' := [(1, .int 3), (0, .ref h0)]) X dX8_init_212 0 rfl (by decide) (by decide) rfl ?_
  refine av_goto (tgt := 200) X dX8_init_215 (by decide) ?_
  refine av_iload_n X dX8_init_200 0 rfl ?_
  refine av_iconst (v := 4) X dX8_init_201 (by decide) ?_
  refine av_icmp_ge (tgt := 218) X dX8_init_202 (by decide) (fun c => absurd c (by decide)) (fun _ => ?_)
  refine av_aload_n X dX8_init_205 1 rfl ?_
  refine av_get (q0 := 19) X dX8_init_206 rfl fl_RX8_19 rfl ?_
  refine av_iload_n X dX8_init_209 0 rfl ?_
  refine av_iconst (v := (-1)) X dX8_init_210 (by decide) ?_
  refine av_iast (q0 := 15) (ws' := ((q19, .inl (C 0, 60, .inl (fun _ => 0))) :: ((q18, .inl (C 0, 60, .inl (fun _ => 0))) :: ((q17, .inl (C 0, 24, .inl (fun _ => 0))) :: ((q16, .inl (C 0, 100, .inl (fun _ => 0))) :: ((q15, .inl (C 0, 128, .inl (fun _ => 0))) :: ((q14, .inl (C 0, 96, .inl (fun _ => 0))) :: ((q13, .inl (C 0, 108, .inl (fun _ => 0))) :: ((q12, .inl (C 0, 8, .inl (fun _ => 0))) :: ((q11, .inl (C 0, 120, .inl (fun _ => 0))) :: ((q10, .inl (C 0, 5, .inl (fun _ => 0))) :: ((q9, .inl (C 0, 5, .inl (fun _ => 0))) :: ((q8, .inl (C 0, 5, .inl (fun _ => 0))) :: ((q7, .inl (C 0, 5, .inl (fun _ => 0))) :: ((q6, .inl (C 0, 96, .inl (fun _ => 0))) :: ((q5, .inl (C 0, 4, .inl (fun _ => 0))) :: ((q4, .inl (C 0, 4, .inl (upd (upd (upd (upd (fun _ => 0) 0 (-1)) 1 (-1)) 2 (-1)) 3 (-1)))) :: ((q3, .inl (C 0, 3108, .inl (fun _ => 0))) :: ((q2, .inl (C 0, 3108, .inl (fun _ => 0))) :: ((q1, .inl (C 0, 3108, .inl (upd (upd (upd (upd (upd (fun _ => 0) 3 15) 4 9) 5 3) 6 1) 10 1))) :: ((h0, .inr (8, [.ref q1, .ref q2, .ref q3, .int 0, .ref q4, .ref q5, .ref q6, .ref q7, .ref q8, .ref q9, .ref q10, .ref q11, .ref q12, .int (-1), .int 0, .ref q13, .ref q14, .int 0, .int 0, .int 0, .int 0, .int 0, .int 0, .int 0, .int 0, .int 0, .int 0, .int 0, .ref q15, .ref q16, .ref q17, .ref q18, .int 0, .ref q19])) :: pre))))))))))))))))))))) X dX8_init_211 rfl (by unfold vp_in; decide) rfl ?_
  refine av_iinc (v := 4) (lv' := [(1, .int 4), (0, .ref h0)]) X dX8_init_212 0 rfl (by decide) (by decide) rfl ?_
  refine av_goto (tgt := 200) X dX8_init_215 (by decide) ?_
  refine av_iload_n X dX8_init_200 0 rfl ?_
  refine av_iconst (v := 4) X dX8_init_201 (by decide) ?_
  refine av_icmp_ge (tgt := 218) X dX8_init_202 (by decide) (fun _ => ?_) (fun c => absurd (by decide) c)
  exact av_vret X (F_X8_init C h0 pre) (fun i => ([q1, q2, q3, q4, q5, q6, q7, q8, q9, q10, q11, q12, q13, q14, q15, q16, q17, q18, q19] : List Nat).getD i 0) dX8_init_218 (by decide) (by decide) rfl
