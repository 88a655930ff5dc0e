/-! THE JDK's OWN MEMBERS over the five texts: each answers and leaves all as it was. -/
theorem jw_82 : (Jvm.Cond.initialized "java/lang/Math") ∈ mu_tb := mu_tb_in (List.mem_of_getElem? (i := 82) (by decide +kernel)) (by decide +kernel)
theorem jw_88 : (Jvm.Cond.initialized "java/lang/String") ∈ mu_tb := mu_tb_in (List.mem_of_getElem? (i := 88) (by decide +kernel)) (by decide +kernel)
theorem jw_89 : (Jvm.Cond.initialized "java/lang/StringLatin1") ∈ mu_tb := mu_tb_in (List.mem_of_getElem? (i := 89) (by decide +kernel)) (by decide +kernel)
theorem jw_90 : (Jvm.Cond.initialized "jdk/internal/util/Preconditions") ∈ mu_tb := mu_tb_in (List.mem_of_getElem? (i := 90) (by decide +kernel)) (by decide +kernel)
theorem jw_115 : (Jvm.Cond.static ({ cls := "java/lang/Math", name := "max", desc := "(II)I" } : Jvm.MethodName)) ∈ mu_tb := mu_tb_in (List.mem_of_getElem? (i := 115) (by decide +kernel)) (by decide +kernel)
theorem jw_116 : (Jvm.Cond.code ({ cls := "java/lang/Math", name := "max", desc := "(II)I" } : Jvm.MethodName) prog_16_method_65_code (2 : Nat) (Option.some Jvm.ClassFile.FieldType.int)) ∈ mu_tb := mu_tb_in (List.mem_of_getElem? (i := 116) (by decide +kernel)) (by decide +kernel)
theorem jw_354 : (Jvm.Cond.static ({ cls := "java/lang/Math", name := "min", desc := "(II)I" } : Jvm.MethodName)) ∈ mu_tb := mu_tb_in (List.mem_of_getElem? (i := 354) (by decide +kernel)) (by decide +kernel)
theorem jw_355 : (Jvm.Cond.code ({ cls := "java/lang/Math", name := "min", desc := "(II)I" } : Jvm.MethodName) prog_16_method_69_code (2 : Nat) (Option.some Jvm.ClassFile.FieldType.int)) ∈ mu_tb := mu_tb_in (List.mem_of_getElem? (i := 355) (by decide +kernel)) (by decide +kernel)
theorem jw_374 : (Jvm.Cond.instanceMethod ({ cls := "java/lang/String", name := "length", desc := "()I" } : Jvm.MethodName)) ∈ mu_tb := mu_tb_in (List.mem_of_getElem? (i := 374) (by decide +kernel)) (by decide +kernel)
theorem jw_375 : (Jvm.Cond.selects "java/lang/String" ({ cls := "java/lang/String", name := "length", desc := "()I" } : Jvm.MethodName) ({ cls := "java/lang/String", name := "length", desc := "()I" } : Jvm.MethodName)) ∈ mu_tb := mu_tb_in (List.mem_of_getElem? (i := 375) (by decide +kernel)) (by decide +kernel)
theorem jw_376 : (Jvm.Cond.code ({ cls := "java/lang/String", name := "length", desc := "()I" } : Jvm.MethodName) prog_17_method_54_code (1 : Nat) (Option.some Jvm.ClassFile.FieldType.int)) ∈ mu_tb := mu_tb_in (List.mem_of_getElem? (i := 376) (by decide +kernel)) (by decide +kernel)
theorem jw_377 : (Jvm.Cond.methodLink "java/lang/String" (335 : Nat) ({ cls := "java/lang/String", name := "coder", desc := "()B" } : Jvm.MethodName)) ∈ mu_tb := mu_tb_in (List.mem_of_getElem? (i := 377) (by decide +kernel)) (by decide +kernel)
theorem jw_378 : (Jvm.Cond.instanceMethod ({ cls := "java/lang/String", name := "coder", desc := "()B" } : Jvm.MethodName)) ∈ mu_tb := mu_tb_in (List.mem_of_getElem? (i := 378) (by decide +kernel)) (by decide +kernel)
theorem jw_379 : (Jvm.Cond.selects "java/lang/String" ({ cls := "java/lang/String", name := "coder", desc := "()B" } : Jvm.MethodName) ({ cls := "java/lang/String", name := "coder", desc := "()B" } : Jvm.MethodName)) ∈ mu_tb := mu_tb_in (List.mem_of_getElem? (i := 379) (by decide +kernel)) (by decide +kernel)
theorem jw_380 : (Jvm.Cond.code ({ cls := "java/lang/String", name := "coder", desc := "()B" } : Jvm.MethodName) prog_17_method_152_code (1 : Nat) (Option.some Jvm.ClassFile.FieldType.byte)) ∈ mu_tb := mu_tb_in (List.mem_of_getElem? (i := 380) (by decide +kernel)) (by decide +kernel)
theorem jw_381 : (Jvm.Cond.fieldLink "java/lang/String" (38 : Nat) "java/lang/String" "COMPACT_STRINGS" "Z") ∈ mu_tb := mu_tb_in (List.mem_of_getElem? (i := 381) (by decide +kernel)) (by decide +kernel)
theorem jw_384 : (Jvm.Cond.instanceMethod ({ cls := "java/lang/String", name := "charAt", desc := "(I)C" } : Jvm.MethodName)) ∈ mu_tb := mu_tb_in (List.mem_of_getElem? (i := 384) (by decide +kernel)) (by decide +kernel)
theorem jw_385 : (Jvm.Cond.selects "java/lang/String" ({ cls := "java/lang/String", name := "charAt", desc := "(I)C" } : Jvm.MethodName) ({ cls := "java/lang/String", name := "charAt", desc := "(I)C" } : Jvm.MethodName)) ∈ mu_tb := mu_tb_in (List.mem_of_getElem? (i := 385) (by decide +kernel)) (by decide +kernel)
theorem jw_386 : (Jvm.Cond.code ({ cls := "java/lang/String", name := "charAt", desc := "(I)C" } : Jvm.MethodName) prog_17_method_56_code (2 : Nat) (Option.some Jvm.ClassFile.FieldType.char)) ∈ mu_tb := mu_tb_in (List.mem_of_getElem? (i := 386) (by decide +kernel)) (by decide +kernel)
theorem jw_387 : (Jvm.Cond.methodLink "java/lang/String" (492 : Nat) ({ cls := "java/lang/String", name := "isLatin1", desc := "()Z" } : Jvm.MethodName)) ∈ mu_tb := mu_tb_in (List.mem_of_getElem? (i := 387) (by decide +kernel)) (by decide +kernel)
theorem jw_388 : (Jvm.Cond.instanceMethod ({ cls := "java/lang/String", name := "isLatin1", desc := "()Z" } : Jvm.MethodName)) ∈ mu_tb := mu_tb_in (List.mem_of_getElem? (i := 388) (by decide +kernel)) (by decide +kernel)
theorem jw_389 : (Jvm.Cond.selects "java/lang/String" ({ cls := "java/lang/String", name := "isLatin1", desc := "()Z" } : Jvm.MethodName) ({ cls := "java/lang/String", name := "isLatin1", desc := "()Z" } : Jvm.MethodName)) ∈ mu_tb := mu_tb_in (List.mem_of_getElem? (i := 389) (by decide +kernel)) (by decide +kernel)
theorem jw_390 : (Jvm.Cond.code ({ cls := "java/lang/String", name := "isLatin1", desc := "()Z" } : Jvm.MethodName) prog_17_method_154_code (1 : Nat) (Option.some Jvm.ClassFile.FieldType.boolean)) ∈ mu_tb := mu_tb_in (List.mem_of_getElem? (i := 390) (by decide +kernel)) (by decide +kernel)
theorem jw_391 : (Jvm.Cond.methodLink "java/lang/String" (495 : Nat) ({ cls := "java/lang/StringLatin1", name := "charAt", desc := "([BI)C" } : Jvm.MethodName)) ∈ mu_tb := mu_tb_in (List.mem_of_getElem? (i := 391) (by decide +kernel)) (by decide +kernel)
theorem jw_392 : (Jvm.Cond.static ({ cls := "java/lang/StringLatin1", name := "charAt", desc := "([BI)C" } : Jvm.MethodName)) ∈ mu_tb := mu_tb_in (List.mem_of_getElem? (i := 392) (by decide +kernel)) (by decide +kernel)
theorem jw_393 : (Jvm.Cond.code ({ cls := "java/lang/StringLatin1", name := "charAt", desc := "([BI)C" } : Jvm.MethodName) prog_18_method_2_code (2 : Nat) (Option.some Jvm.ClassFile.FieldType.char)) ∈ mu_tb := mu_tb_in (List.mem_of_getElem? (i := 393) (by decide +kernel)) (by decide +kernel)
theorem jw_394 : (Jvm.Cond.methodLink "java/lang/StringLatin1" (9 : Nat) ({ cls := "java/lang/String", name := "checkIndex", desc := "(II)V" } : Jvm.MethodName)) ∈ mu_tb := mu_tb_in (List.mem_of_getElem? (i := 394) (by decide +kernel)) (by decide +kernel)
theorem jw_395 : (Jvm.Cond.static ({ cls := "java/lang/String", name := "checkIndex", desc := "(II)V" } : Jvm.MethodName)) ∈ mu_tb := mu_tb_in (List.mem_of_getElem? (i := 395) (by decide +kernel)) (by decide +kernel)
theorem jw_396 : (Jvm.Cond.code ({ cls := "java/lang/String", name := "checkIndex", desc := "(II)V" } : Jvm.MethodName) prog_17_method_155_code (2 : Nat) (Option.none : Option Jvm.ClassFile.FieldType)) ∈ mu_tb := mu_tb_in (List.mem_of_getElem? (i := 396) (by decide +kernel)) (by decide +kernel)
theorem jw_397 : (Jvm.Cond.fieldLink "java/lang/String" (1053 : Nat) "jdk/internal/util/Preconditions" "SIOOBE_FORMATTER" "Ljava/util/function/BiFunction;") ∈ mu_tb := mu_tb_in (List.mem_of_getElem? (i := 397) (by decide +kernel)) (by decide +kernel)
theorem jw_399 : (Jvm.Cond.methodLink "java/lang/String" (1059 : Nat) ({ cls := "jdk/internal/util/Preconditions", name := "checkIndex", desc := "(IILjava/util/function/BiFunction;)I" } : Jvm.MethodName)) ∈ mu_tb := mu_tb_in (List.mem_of_getElem? (i := 399) (by decide +kernel)) (by decide +kernel)
theorem jw_400 : (Jvm.Cond.static ({ cls := "jdk/internal/util/Preconditions", name := "checkIndex", desc := "(IILjava/util/function/BiFunction;)I" } : Jvm.MethodName)) ∈ mu_tb := mu_tb_in (List.mem_of_getElem? (i := 400) (by decide +kernel)) (by decide +kernel)
theorem jw_401 : (Jvm.Cond.code ({ cls := "jdk/internal/util/Preconditions", name := "checkIndex", desc := "(IILjava/util/function/BiFunction;)I" } : Jvm.MethodName) prog_21_method_11_code (3 : Nat) (Option.some Jvm.ClassFile.FieldType.int)) ∈ mu_tb := mu_tb_in (List.mem_of_getElem? (i := 401) (by decide +kernel)) (by decide +kernel)
theorem jw_450 : (Jvm.Cond.instanceMethod ({ cls := "java/lang/String", name := "indexOf", desc := "(I)I" } : Jvm.MethodName)) ∈ mu_tb := mu_tb_in (List.mem_of_getElem? (i := 450) (by decide +kernel)) (by decide +kernel)
theorem jw_451 : (Jvm.Cond.selects "java/lang/String" ({ cls := "java/lang/String", name := "indexOf", desc := "(I)I" } : Jvm.MethodName) ({ cls := "java/lang/String", name := "indexOf", desc := "(I)I" } : Jvm.MethodName)) ∈ mu_tb := mu_tb_in (List.mem_of_getElem? (i := 451) (by decide +kernel)) (by decide +kernel)
theorem jw_452 : (Jvm.Cond.code ({ cls := "java/lang/String", name := "indexOf", desc := "(I)I" } : Jvm.MethodName) prog_17_method_79_code (2 : Nat) (Option.some Jvm.ClassFile.FieldType.int)) ∈ mu_tb := mu_tb_in (List.mem_of_getElem? (i := 452) (by decide +kernel)) (by decide +kernel)
theorem jw_453 : (Jvm.Cond.methodLink "java/lang/String" (633 : Nat) ({ cls := "java/lang/String", name := "indexOf", desc := "(II)I" } : Jvm.MethodName)) ∈ mu_tb := mu_tb_in (List.mem_of_getElem? (i := 453) (by decide +kernel)) (by decide +kernel)
theorem jw_454 : (Jvm.Cond.instanceMethod ({ cls := "java/lang/String", name := "indexOf", desc := "(II)I" } : Jvm.MethodName)) ∈ mu_tb := mu_tb_in (List.mem_of_getElem? (i := 454) (by decide +kernel)) (by decide +kernel)
theorem jw_455 : (Jvm.Cond.selects "java/lang/String" ({ cls := "java/lang/String", name := "indexOf", desc := "(II)I" } : Jvm.MethodName) ({ cls := "java/lang/String", name := "indexOf", desc := "(II)I" } : Jvm.MethodName)) ∈ mu_tb := mu_tb_in (List.mem_of_getElem? (i := 455) (by decide +kernel)) (by decide +kernel)
theorem jw_456 : (Jvm.Cond.code ({ cls := "java/lang/String", name := "indexOf", desc := "(II)I" } : Jvm.MethodName) prog_17_method_80_code (3 : Nat) (Option.some Jvm.ClassFile.FieldType.int)) ∈ mu_tb := mu_tb_in (List.mem_of_getElem? (i := 456) (by decide +kernel)) (by decide +kernel)
theorem jw_457 : (Jvm.Cond.methodLink "java/lang/String" (505 : Nat) ({ cls := "java/lang/String", name := "length", desc := "()I" } : Jvm.MethodName)) ∈ mu_tb := mu_tb_in (List.mem_of_getElem? (i := 457) (by decide +kernel)) (by decide +kernel)
theorem jw_458 : (Jvm.Cond.methodLink "java/lang/String" (637 : Nat) ({ cls := "java/lang/StringLatin1", name := "indexOf", desc := "([BIII)I" } : Jvm.MethodName)) ∈ mu_tb := mu_tb_in (List.mem_of_getElem? (i := 458) (by decide +kernel)) (by decide +kernel)
theorem jw_459 : (Jvm.Cond.static ({ cls := "java/lang/StringLatin1", name := "indexOf", desc := "([BIII)I" } : Jvm.MethodName)) ∈ mu_tb := mu_tb_in (List.mem_of_getElem? (i := 459) (by decide +kernel)) (by decide +kernel)
theorem jw_460 : (Jvm.Cond.code ({ cls := "java/lang/StringLatin1", name := "indexOf", desc := "([BIII)I" } : Jvm.MethodName) prog_18_method_22_code (4 : Nat) (Option.some Jvm.ClassFile.FieldType.int)) ∈ mu_tb := mu_tb_in (List.mem_of_getElem? (i := 460) (by decide +kernel)) (by decide +kernel)
theorem jw_461 : (Jvm.Cond.methodLink "java/lang/StringLatin1" (88 : Nat) ({ cls := "java/lang/StringLatin1", name := "canEncode", desc := "(I)Z" } : Jvm.MethodName)) ∈ mu_tb := mu_tb_in (List.mem_of_getElem? (i := 461) (by decide +kernel)) (by decide +kernel)
theorem jw_462 : (Jvm.Cond.static ({ cls := "java/lang/StringLatin1", name := "canEncode", desc := "(I)Z" } : Jvm.MethodName)) ∈ mu_tb := mu_tb_in (List.mem_of_getElem? (i := 462) (by decide +kernel)) (by decide +kernel)
theorem jw_463 : (Jvm.Cond.code ({ cls := "java/lang/StringLatin1", name := "canEncode", desc := "(I)Z" } : Jvm.MethodName) prog_18_method_4_code (1 : Nat) (Option.some Jvm.ClassFile.FieldType.boolean)) ∈ mu_tb := mu_tb_in (List.mem_of_getElem? (i := 463) (by decide +kernel)) (by decide +kernel)
theorem jw_464 : (Jvm.Cond.methodLink "java/lang/StringLatin1" (92 : Nat) ({ cls := "java/lang/Math", name := "max", desc := "(II)I" } : Jvm.MethodName)) ∈ mu_tb := mu_tb_in (List.mem_of_getElem? (i := 464) (by decide +kernel)) (by decide +kernel)
theorem jw_465 : (Jvm.Cond.methodLink "java/lang/StringLatin1" (38 : Nat) ({ cls := "java/lang/Math", name := "min", desc := "(II)I" } : Jvm.MethodName)) ∈ mu_tb := mu_tb_in (List.mem_of_getElem? (i := 465) (by decide +kernel)) (by decide +kernel)
theorem jw_466 : (Jvm.Cond.methodLink "java/lang/StringLatin1" (95 : Nat) ({ cls := "java/lang/StringLatin1", name := "indexOfChar", desc := "([BIII)I" } : Jvm.MethodName)) ∈ mu_tb := mu_tb_in (List.mem_of_getElem? (i := 466) (by decide +kernel)) (by decide +kernel)
theorem jw_467 : (Jvm.Cond.static ({ cls := "java/lang/StringLatin1", name := "indexOfChar", desc := "([BIII)I" } : Jvm.MethodName)) ∈ mu_tb := mu_tb_in (List.mem_of_getElem? (i := 467) (by decide +kernel)) (by decide +kernel)
theorem jw_468 : (Jvm.Cond.code ({ cls := "java/lang/StringLatin1", name := "indexOfChar", desc := "([BIII)I" } : Jvm.MethodName) prog_18_method_23_code (6 : Nat) (Option.some Jvm.ClassFile.FieldType.int)) ∈ mu_tb := mu_tb_in (List.mem_of_getElem? (i := 468) (by decide +kernel)) (by decide +kernel)
theorem jw_1512 : (Jvm.Cond.fieldLink "java/lang/String" (9 : Nat) "java/lang/String" "value" "[B") ∈ mu_tb := mu_tb_in (List.mem_of_getElem? (i := 1511) (by decide +kernel)) (by decide +kernel)
theorem jw_1513 : (Jvm.Cond.fieldLink "java/lang/String" (15 : Nat) "java/lang/String" "coder" "B") ∈ mu_tb := mu_tb_in (List.mem_of_getElem? (i := 1512) (by decide +kernel)) (by decide +kernel)
abbrev jn_coder : MethodName := ⟨"java/lang/String", "coder", "()B"⟩
abbrev jn_isL : MethodName := ⟨"java/lang/String", "isLatin1", "()Z"⟩
abbrev jn_len : MethodName := ⟨"java/lang/String", "length", "()I"⟩
abbrev jn_chk3 : MethodName := ⟨"jdk/internal/util/Preconditions", "checkIndex", "(IILjava/util/function/BiFunction;)I"⟩
abbrev jn_chk : MethodName := ⟨"java/lang/String", "checkIndex", "(II)V"⟩
abbrev jn_lat : MethodName := ⟨"java/lang/StringLatin1", "charAt", "([BI)C"⟩
abbrev jn_at : MethodName := ⟨"java/lang/String", "charAt", "(I)C"⟩
abbrev jn_can : MethodName := ⟨"java/lang/StringLatin1", "canEncode", "(I)Z"⟩
abbrev jn_ioc : MethodName := ⟨"java/lang/StringLatin1", "indexOfChar", "([BIII)I"⟩
abbrev jn_iol : MethodName := ⟨"java/lang/StringLatin1", "indexOf", "([BIII)I"⟩
abbrev jn_io2 : MethodName := ⟨"java/lang/String", "indexOf", "(II)I"⟩
abbrev jn_io1 : MethodName := ⟨"java/lang/String", "indexOf", "(I)I"⟩
theorem jd_coder_0 : decode prog_17_method_152_code 0 = .ok (.getstatic 38, 3) := by decide +kernel
theorem jd_coder_3 : decode prog_17_method_152_code 3 = .ok (.ifCond .eq 10, 3) := by decide +kernel
theorem jd_coder_6 : decode prog_17_method_152_code 6 = .ok (.aload_n 0, 1) := by decide +kernel
theorem jd_coder_7 : decode prog_17_method_152_code 7 = .ok (.getfield 15, 3) := by decide +kernel
theorem jd_coder_10 : decode prog_17_method_152_code 10 = .ok (.goto 4, 3) := by decide +kernel
theorem jd_coder_14 : decode prog_17_method_152_code 14 = .ok (.ireturn, 1) := by decide +kernel
theorem jd_isL_0 : decode prog_17_method_154_code 0 = .ok (.getstatic 38, 3) := by decide +kernel
theorem jd_isL_3 : decode prog_17_method_154_code 3 = .ok (.ifCond .eq 14, 3) := by decide +kernel
theorem jd_isL_6 : decode prog_17_method_154_code 6 = .ok (.aload_n 0, 1) := by decide +kernel
theorem jd_isL_7 : decode prog_17_method_154_code 7 = .ok (.getfield 15, 3) := by decide +kernel
theorem jd_isL_10 : decode prog_17_method_154_code 10 = .ok (.ifCond .ne 7, 3) := by decide +kernel
theorem jd_isL_13 : decode prog_17_method_154_code 13 = .ok (.iconst 1, 1) := by decide +kernel
theorem jd_isL_14 : decode prog_17_method_154_code 14 = .ok (.goto 4, 3) := by decide +kernel
theorem jd_isL_18 : decode prog_17_method_154_code 18 = .ok (.ireturn, 1) := by decide +kernel
theorem jd_len_0 : decode prog_17_method_54_code 0 = .ok (.aload_n 0, 1) := by decide +kernel
theorem jd_len_1 : decode prog_17_method_54_code 1 = .ok (.getfield 9, 3) := by decide +kernel
theorem jd_len_4 : decode prog_17_method_54_code 4 = .ok (.arraylength, 1) := by decide +kernel
theorem jd_len_5 : decode prog_17_method_54_code 5 = .ok (.aload_n 0, 1) := by decide +kernel
theorem jd_len_6 : decode prog_17_method_54_code 6 = .ok (.invokevirtual 335, 3) := by decide +kernel
theorem jd_len_9 : decode prog_17_method_54_code 9 = .ok (.ishr, 1) := by decide +kernel
theorem jd_len_10 : decode prog_17_method_54_code 10 = .ok (.ireturn, 1) := by decide +kernel
theorem jd_chk3_0 : decode prog_21_method_11_code 0 = .ok (.iload_n 0, 1) := by decide +kernel
theorem jd_chk3_1 : decode prog_21_method_11_code 1 = .ok (.ifCond .lt 8, 3) := by decide +kernel
theorem jd_chk3_4 : decode prog_21_method_11_code 4 = .ok (.iload_n 0, 1) := by decide +kernel
theorem jd_chk3_5 : decode prog_21_method_11_code 5 = .ok (.iload_n 1, 1) := by decide +kernel
theorem jd_chk3_6 : decode prog_21_method_11_code 6 = .ok (.if_icmp .lt 10, 3) := by decide +kernel
theorem jd_chk3_16 : decode prog_21_method_11_code 16 = .ok (.iload_n 0, 1) := by decide +kernel
theorem jd_chk3_17 : decode prog_21_method_11_code 17 = .ok (.ireturn, 1) := by decide +kernel
theorem jd_chk_0 : decode prog_17_method_155_code 0 = .ok (.iload_n 0, 1) := by decide +kernel
theorem jd_chk_1 : decode prog_17_method_155_code 1 = .ok (.iload_n 1, 1) := by decide +kernel
theorem jd_chk_2 : decode prog_17_method_155_code 2 = .ok (.getstatic 1053, 3) := by decide +kernel
theorem jd_chk_5 : decode prog_17_method_155_code 5 = .ok (.invokestatic 1059, 3) := by decide +kernel
theorem jd_chk_8 : decode prog_17_method_155_code 8 = .ok (.pop, 1) := by decide +kernel
theorem jd_chk_9 : decode prog_17_method_155_code 9 = .ok (.return_, 1) := by decide +kernel
theorem jd_lat_0 : decode prog_18_method_2_code 0 = .ok (.iload_n 1, 1) := by decide +kernel
theorem jd_lat_1 : decode prog_18_method_2_code 1 = .ok (.aload_n 0, 1) := by decide +kernel
theorem jd_lat_2 : decode prog_18_method_2_code 2 = .ok (.arraylength, 1) := by decide +kernel
theorem jd_lat_3 : decode prog_18_method_2_code 3 = .ok (.invokestatic 9, 3) := by decide +kernel
theorem jd_lat_6 : decode prog_18_method_2_code 6 = .ok (.aload_n 0, 1) := by decide +kernel
theorem jd_lat_7 : decode prog_18_method_2_code 7 = .ok (.iload_n 1, 1) := by decide +kernel
theorem jd_lat_8 : decode prog_18_method_2_code 8 = .ok (.baload, 1) := by decide +kernel
theorem jd_lat_9 : decode prog_18_method_2_code 9 = .ok (.sipush 255, 3) := by decide +kernel
theorem jd_lat_12 : decode prog_18_method_2_code 12 = .ok (.iand, 1) := by decide +kernel
theorem jd_lat_13 : decode prog_18_method_2_code 13 = .ok (.i2c, 1) := by decide +kernel
theorem jd_lat_14 : decode prog_18_method_2_code 14 = .ok (.ireturn, 1) := by decide +kernel
theorem jd_at_0 : decode prog_17_method_56_code 0 = .ok (.aload_n 0, 1) := by decide +kernel
theorem jd_at_1 : decode prog_17_method_56_code 1 = .ok (.invokevirtual 492, 3) := by decide +kernel
theorem jd_at_4 : decode prog_17_method_56_code 4 = .ok (.ifCond .eq 12, 3) := by decide +kernel
theorem jd_at_7 : decode prog_17_method_56_code 7 = .ok (.aload_n 0, 1) := by decide +kernel
theorem jd_at_8 : decode prog_17_method_56_code 8 = .ok (.getfield 9, 3) := by decide +kernel
theorem jd_at_11 : decode prog_17_method_56_code 11 = .ok (.iload_n 1, 1) := by decide +kernel
theorem jd_at_12 : decode prog_17_method_56_code 12 = .ok (.invokestatic 495, 3) := by decide +kernel
theorem jd_at_15 : decode prog_17_method_56_code 15 = .ok (.ireturn, 1) := by decide +kernel
theorem jd_can_0 : decode prog_18_method_4_code 0 = .ok (.iload_n 0, 1) := by decide +kernel
theorem jd_can_1 : decode prog_18_method_4_code 1 = .ok (.ifCond .lt 14, 3) := by decide +kernel
theorem jd_can_4 : decode prog_18_method_4_code 4 = .ok (.iload_n 0, 1) := by decide +kernel
theorem jd_can_5 : decode prog_18_method_4_code 5 = .ok (.sipush 255, 3) := by decide +kernel
theorem jd_can_8 : decode prog_18_method_4_code 8 = .ok (.if_icmp .gt 7, 3) := by decide +kernel
theorem jd_can_11 : decode prog_18_method_4_code 11 = .ok (.iconst 1, 1) := by decide +kernel
theorem jd_can_12 : decode prog_18_method_4_code 12 = .ok (.goto 4, 3) := by decide +kernel
theorem jd_can_15 : decode prog_18_method_4_code 15 = .ok (.iconst 0, 1) := by decide +kernel
theorem jd_can_16 : decode prog_18_method_4_code 16 = .ok (.ireturn, 1) := by decide +kernel
theorem jd_ioc_0 : decode prog_18_method_23_code 0 = .ok (.iload_n 1, 1) := by decide +kernel
theorem jd_ioc_1 : decode prog_18_method_23_code 1 = .ok (.i2b, 1) := by decide +kernel
theorem jd_ioc_2 : decode prog_18_method_23_code 2 = .ok (.istore 4, 2) := by decide +kernel
theorem jd_ioc_4 : decode prog_18_method_23_code 4 = .ok (.iload_n 2, 1) := by decide +kernel
theorem jd_ioc_5 : decode prog_18_method_23_code 5 = .ok (.istore 5, 2) := by decide +kernel
theorem jd_ioc_7 : decode prog_18_method_23_code 7 = .ok (.iload 5, 2) := by decide +kernel
theorem jd_ioc_9 : decode prog_18_method_23_code 9 = .ok (.iload_n 3, 1) := by decide +kernel
theorem jd_ioc_10 : decode prog_18_method_23_code 10 = .ok (.if_icmp .ge 21, 3) := by decide +kernel
theorem jd_ioc_13 : decode prog_18_method_23_code 13 = .ok (.aload_n 0, 1) := by decide +kernel
theorem jd_ioc_14 : decode prog_18_method_23_code 14 = .ok (.iload 5, 2) := by decide +kernel
theorem jd_ioc_16 : decode prog_18_method_23_code 16 = .ok (.baload, 1) := by decide +kernel
theorem jd_ioc_17 : decode prog_18_method_23_code 17 = .ok (.iload 4, 2) := by decide +kernel
theorem jd_ioc_19 : decode prog_18_method_23_code 19 = .ok (.if_icmp .ne 6, 3) := by decide +kernel
theorem jd_ioc_22 : decode prog_18_method_23_code 22 = .ok (.iload 5, 2) := by decide +kernel
theorem jd_ioc_24 : decode prog_18_method_23_code 24 = .ok (.ireturn, 1) := by decide +kernel
theorem jd_ioc_25 : decode prog_18_method_23_code 25 = .ok (.iinc 5 1, 3) := by decide +kernel
theorem jd_ioc_28 : decode prog_18_method_23_code 28 = .ok (.goto (-21), 3) := by decide +kernel
theorem jd_ioc_31 : decode prog_18_method_23_code 31 = .ok (.iconst (-1), 1) := by decide +kernel
theorem jd_ioc_32 : decode prog_18_method_23_code 32 = .ok (.ireturn, 1) := by decide +kernel
theorem jd_iol_0 : decode prog_18_method_22_code 0 = .ok (.iload_n 1, 1) := by decide +kernel
theorem jd_iol_1 : decode prog_18_method_22_code 1 = .ok (.invokestatic 88, 3) := by decide +kernel
theorem jd_iol_4 : decode prog_18_method_22_code 4 = .ok (.ifCond .ne 5, 3) := by decide +kernel
theorem jd_iol_7 : decode prog_18_method_22_code 7 = .ok (.iconst (-1), 1) := by decide +kernel
theorem jd_iol_8 : decode prog_18_method_22_code 8 = .ok (.ireturn, 1) := by decide +kernel
theorem jd_iol_9 : decode prog_18_method_22_code 9 = .ok (.iload_n 2, 1) := by decide +kernel
theorem jd_iol_10 : decode prog_18_method_22_code 10 = .ok (.iconst 0, 1) := by decide +kernel
theorem jd_iol_11 : decode prog_18_method_22_code 11 = .ok (.invokestatic 92, 3) := by decide +kernel
theorem jd_iol_14 : decode prog_18_method_22_code 14 = .ok (.istore_n 2, 1) := by decide +kernel
theorem jd_iol_15 : decode prog_18_method_22_code 15 = .ok (.iload_n 3, 1) := by decide +kernel
theorem jd_iol_16 : decode prog_18_method_22_code 16 = .ok (.aload_n 0, 1) := by decide +kernel
theorem jd_iol_17 : decode prog_18_method_22_code 17 = .ok (.arraylength, 1) := by decide +kernel
theorem jd_iol_18 : decode prog_18_method_22_code 18 = .ok (.invokestatic 38, 3) := by decide +kernel
theorem jd_iol_21 : decode prog_18_method_22_code 21 = .ok (.istore_n 3, 1) := by decide +kernel
theorem jd_iol_22 : decode prog_18_method_22_code 22 = .ok (.iload_n 2, 1) := by decide +kernel
theorem jd_iol_23 : decode prog_18_method_22_code 23 = .ok (.iload_n 3, 1) := by decide +kernel
theorem jd_iol_24 : decode prog_18_method_22_code 24 = .ok (.if_icmp .lt 5, 3) := by decide +kernel
theorem jd_iol_29 : decode prog_18_method_22_code 29 = .ok (.aload_n 0, 1) := by decide +kernel
theorem jd_iol_30 : decode prog_18_method_22_code 30 = .ok (.iload_n 1, 1) := by decide +kernel
theorem jd_iol_31 : decode prog_18_method_22_code 31 = .ok (.iload_n 2, 1) := by decide +kernel
theorem jd_iol_32 : decode prog_18_method_22_code 32 = .ok (.iload_n 3, 1) := by decide +kernel
theorem jd_iol_33 : decode prog_18_method_22_code 33 = .ok (.invokestatic 95, 3) := by decide +kernel
theorem jd_iol_36 : decode prog_18_method_22_code 36 = .ok (.ireturn, 1) := by decide +kernel
theorem jd_io2_0 : decode prog_17_method_80_code 0 = .ok (.aload_n 0, 1) := by decide +kernel
theorem jd_io2_1 : decode prog_17_method_80_code 1 = .ok (.invokevirtual 492, 3) := by decide +kernel
theorem jd_io2_4 : decode prog_17_method_80_code 4 = .ok (.ifCond .eq 19, 3) := by decide +kernel
theorem jd_io2_7 : decode prog_17_method_80_code 7 = .ok (.aload_n 0, 1) := by decide +kernel
theorem jd_io2_8 : decode prog_17_method_80_code 8 = .ok (.getfield 9, 3) := by decide +kernel
theorem jd_io2_11 : decode prog_17_method_80_code 11 = .ok (.iload_n 1, 1) := by decide +kernel
theorem jd_io2_12 : decode prog_17_method_80_code 12 = .ok (.iload_n 2, 1) := by decide +kernel
theorem jd_io2_13 : decode prog_17_method_80_code 13 = .ok (.aload_n 0, 1) := by decide +kernel
theorem jd_io2_14 : decode prog_17_method_80_code 14 = .ok (.invokevirtual 505, 3) := by decide +kernel
theorem jd_io2_17 : decode prog_17_method_80_code 17 = .ok (.invokestatic 637, 3) := by decide +kernel
theorem jd_io2_20 : decode prog_17_method_80_code 20 = .ok (.goto 16, 3) := by decide +kernel
theorem jd_io2_36 : decode prog_17_method_80_code 36 = .ok (.ireturn, 1) := by decide +kernel
theorem jd_io1_0 : decode prog_17_method_79_code 0 = .ok (.aload_n 0, 1) := by decide +kernel
theorem jd_io1_1 : decode prog_17_method_79_code 1 = .ok (.iload_n 1, 1) := by decide +kernel
theorem jd_io1_2 : decode prog_17_method_79_code 2 = .ok (.iconst 0, 1) := by decide +kernel
theorem jd_io1_3 : decode prog_17_method_79_code 3 = .ok (.invokevirtual 633, 3) := by decide +kernel
theorem jd_io1_6 : decode prog_17_method_79_code 6 = .ok (.ireturn, 1) := by decide +kernel
-- the numbers of the texts
def jL (i : Nat) : Int := ((mu_str i).length : Int)
theorem jf_1 : ∀ i, i < 5 → Int32.ofNat (mu_len5.getD i 0) = Int32.ofInt (jL i) := by decide +kernel
theorem jf_2 : ∀ i, i < 5 → Int32.ofInt (jL i) >>> ((0 : Int32) &&& 31) = Int32.ofInt (jL i) := by decide +kernel
theorem jf_3 : ∀ i, i < 5 → mu_len5.getD i 0 = (mu_str i).length ∧ (mu_str i).length ≤ 6 ∧ 0 < (mu_str i).length := by decide +kernel
theorem jf_4 : ∀ i, i < 5 → ∀ j, j < (mu_str i).length → (((mu_byt5.getD i []).getD j 0 &&& 255).toUInt32 % 65536).toInt32 = Int32.ofInt ((mu_str i).getD j 0) := by decide +kernel
theorem jf_5 : ∀ i, i < 5 → ∀ j, j < (mu_str i).length → 0 ≤ (mu_str i).getD j 0 ∧ (mu_str i).getD j 0 < 128 ∧ (mu_byt5.getD i []).getD j 0 = Int32.ofInt ((mu_str i).getD j 0) := by decide +kernel
theorem jf_6 : ∀ i, i < 5 → ∀ j, j < (mu_str i).length → narrow .char (.int (Int32.ofInt ((mu_str i).getD j 0))) = .int (Int32.ofInt ((mu_str i).getD j 0)) := by decide +kernel
theorem jf_7 : ∀ i, i < 5 → 0 < jL i ∧ jL i ≤ 6 := by decide +kernel
/-- the byte that the search compares with -/
def jb (c : Int) : Int32 := (Int32.ofInt c).toInt8.toInt32
theorem jb_at : ∀ c : Nat, c < 256 → jb (c : Int) = Int32.ofInt (if (c : Int) < 128 then (c : Int) else (c : Int) - 256) := by decide +kernel
theorem jb_eq {x c : Int} (x0 : 0 ≤ x) (x1 : x < 128) (c0 : 0 ≤ c) (c1 : c ≤ 255) : Int32.ofInt x = jb c ↔ x = c := by
  have h := jb_at c.toNat (by omega)
  rw [show ((c.toNat : Nat) : Int) = c by omega] at h
  rw [h]
  split
  · exact mu_eq (by omega) (by omega) (by omega) (by omega)
  · rw [mu_eq (by omega) (by omega) (by omega) (by omega)]
    omega
def jm_rm (f : Nat) : Room := { frames := f, cells := 0, slots := 0, locals := 64 * f }
def jm_I (K : mu_K) (l : Launch) (y : MethodName) (cc : ByteArray) (mx : Nat) (ty : FieldType) (f : Nat) (vs : List Value) (H0 : Heap) (r : Int32) : Prop :=
  Met l y (Cond.code y cc mx (some ty) :: mu_tb) (jm_rm f) (va_Pc vs (fun U => U.heap = H0 ∧ mu_E K U)) (va_Qi (fun x (_ : Unit) => x = r) (fun _ t => t.heap = H0) (kA K)) 0 0 (kA K)
def jm_N (K : mu_K) (l : Launch) (y : MethodName) (cc : ByteArray) (mx : Nat) (f : Nat) (vs : List Value) (H0 : Heap) : Prop :=
  Met l y (Cond.code y cc mx none :: mu_tb) (jm_rm f) (va_Pc vs (fun U => U.heap = H0 ∧ mu_E K U)) (va_Qv (fun _ : Unit => True) (fun _ t => t.heap = H0) (kA K)) 0 0 (kA K)
def jm_Cx (K : mu_K) (own : String) (cc : ByteArray) (mx f : Nat) (p : Program) (R : Room) (s : State) (m : MethodId) (args : Array Value) (c : Code) : Prop :=
  p.tables.exec = Jvm.exec ∧ c.code = cc ∧ c.maxLocals = mx ∧ s.vm.findClass own = some m.cls ∧ (∀ w ∈ mu_tb, w.before args s = true) ∧ mu_E K s ∧ f ≤ R.frames ∧ 64 * f ≤ R.locals
theorem jm_ofI {K : mu_K} {l : Launch} {y : MethodName} {cc : ByteArray} {mx f : Nat} {ty : FieldType} {vs : List Value} {H0 : Heap} {r : Int32} (hpl : plainName y.cls = true) (hlen : (lg_sl vs).length ≤ mx) (hn : narrow ty (.int r) = .int r)
    (body : ∀ (p : Program) (e : Env) (R : Room) (s : State) (m : MethodId) (args : Array Value) (below : List Frame) (meth : Method) (c : Code) (Q : State → Prop) (ls : Array Slot), jm_Cx K y.cls cc mx f p R s m args c → va_S (kA K) s.heap H0 [] → lv_has ls mx (lv_args 0 vs) → (∀ (locs : List Loc) (ls1 : Array Slot) (pc : Nat), va_S (kA K) s.heap H0 locs → decode cc pc = .ok (.ireturn, 1) → W p l e R s m args below meth c H0 locs 0 0 Q (F0 m pc ls1 [.int r])) → W p l e R s m args below meth c H0 [] 0 0 Q (F0 m 0 ls [])) : jm_I K l y cc mx ty f vs H0 r := by
  refine Met.ofW (cc := cc) (maxL := mx) (ret := some ty) hpl rfl ?_
  intro p e s m args below meth c s₁ B hml hPc
  obtain ⟨rfl, hh, hE⟩ := hPc
  subst hh
  have hpre := atoms_spec (ws := Cond.code y cc mx (some ty) :: mu_tb) B.pre
  have hl := lv_entry vs (n := mx) hlen
  rw [lg_entry_eq]
  generalize (lg_sl vs ++ List.replicate (mx - (lg_sl vs).length) Slot.unset).toArray = ls at hl ⊢
  have hrt := B.returns
  have hlk : meth.locks = false := B.notSynchronized
  refine body p e (jm_rm f) s m vs.toArray below meth c _ ls ⟨B.exec, B.bytes, hml, findClass_of_methodNamed B.named, fun w hw => hpre w (List.mem_cons_of_mem _ hw), hE, Nat.le_refl _, Nat.le_refl _⟩ va_S.rf hl ?_
  intro locs ls1 pc hS hd
  exact W.zret B.exec B.bytes hrt hn (fun t ht _ => ⟨⟨r, (), rfl, rfl, ht⟩, hS.F ht⟩) hS.2.2 hd (hlocks := hlk)
theorem jm_ofN {K : mu_K} {l : Launch} {y : MethodName} {cc : ByteArray} {mx f : Nat} {vs : List Value} {H0 : Heap} (hpl : plainName y.cls = true) (hlen : (lg_sl vs).length ≤ mx)
    (body : ∀ (p : Program) (e : Env) (R : Room) (s : State) (m : MethodId) (args : Array Value) (below : List Frame) (meth : Method) (c : Code) (Q : State → Prop) (ls : Array Slot), jm_Cx K y.cls cc mx f p R s m args c → va_S (kA K) s.heap H0 [] → lv_has ls mx (lv_args 0 vs) → (∀ (locs : List Loc) (ls1 : Array Slot) (pc : Nat), va_S (kA K) s.heap H0 locs → decode cc pc = .ok (.return_, 1) → W p l e R s m args below meth c H0 locs 0 0 Q (F0 m pc ls1 [])) → W p l e R s m args below meth c H0 [] 0 0 Q (F0 m 0 ls [])) : jm_N K l y cc mx f vs H0 := by
  refine Met.ofW (cc := cc) (maxL := mx) (ret := none) hpl rfl ?_
  intro p e s m args below meth c s₁ B hml hPc
  obtain ⟨rfl, hh, hE⟩ := hPc
  subst hh
  have hpre := atoms_spec (ws := Cond.code y cc mx none :: mu_tb) B.pre
  have hl := lv_entry vs (n := mx) hlen
  rw [lg_entry_eq]
  generalize (lg_sl vs ++ List.replicate (mx - (lg_sl vs).length) Slot.unset).toArray = ls at hl ⊢
  have hrt := B.returns
  have hlk : meth.locks = false := B.notSynchronized
  refine body p e (jm_rm f) s m vs.toArray below meth c _ ls ⟨B.exec, B.bytes, hml, findClass_of_methodNamed B.named, fun w hw => hpre w (List.mem_cons_of_mem _ hw), hE, Nat.le_refl _, Nat.le_refl _⟩ va_S.rf hl ?_
  intro locs ls1 pc hS hd
  exact W.vret B.exec B.bytes hrt (fun t ht _ => ⟨⟨(), rfl, trivial, ht⟩, hS.F ht⟩) hS.2.2 hd (hlocks := hlk)
section
variable {p : Program} {l : Launch} {e : Env} {R : Room} {s : State} {m : MethodId} {args : Array Value} {below : List Frame} {meth : Method} {c : Code} {H : Heap} {locs : List Loc} {cells slots : Nat} {Q : State → Prop}
theorem jm_blind {K : mu_K} {vs : List Value} {H0 : Heap} : FrameBlind (va_Pc vs (fun U => U.heap = H0 ∧ mu_E K U)) := fun a U g mk q => ⟨q.1, q.2.1, q.2.2.same rfl rfl⟩
theorem jm_callS {K : mu_K} {cc cc1 : ByteArray} {own : String} {y : MethodName} {mx1 f1 n ix pc : Nat} {ty : FieldType} {vs rest : List Value} {r : Int32} {ls : Array Slot} (hx : p.tables.exec = Jvm.exec) (hb : c.code = cc) (hml : c.maxLocals = ls.size) (hown : s.vm.findClass own = some m.cls) (hts : ∀ w ∈ mu_tb, w.before args s = true) (hE : mu_E K s) (hS : va_S (kA K) s.heap H locs) (hM : jm_I K l y cc1 mx1 ty f1 vs H r)
    (hf : f1 + 1 ≤ R.frames) (hlo : 64 * f1 + 64 ≤ R.locals) (hmx : mx1 ≤ 40) (hw1 : Cond.methodLink own ix y ∈ mu_tb) (hw2 : Cond.static y ∈ mu_tb) (hw3 : Cond.initialized y.cls ∈ mu_tb) (hw4 : Cond.code y cc1 mx1 (some ty) ∈ mu_tb) (hd : y.cls ≠ "java/lang/invoke/MethodHandle" ∧ y.cls ≠ "java/lang/invoke/VarHandle" ∧ (parseMethodDescriptor y.desc).map (fun d => d.parameters.length) = some n) (hvs : vs.length = n) (hsum : (rest.map fun v => v.category).sum ≤ 8) (hc : cells ≤ R.cells) (hs : slots ≤ R.slots) (hdg : decode cc pc = .ok (.invokestatic ix, 3))
    (kk : ∀ locs1 : List Loc, va_S (kA K) s.heap H locs1 → W p l e R s m args below meth c H locs1 cells slots Q (F0 m (pc + 3) ls (.int r :: rest))) : W p l e R s m args below meth c H locs cells slots Q (F0 m pc ls (vs.reverse ++ rest)) := by
  have hr : va_Run p l e R s m args below meth c H locs cells slots 0 0 (F0 m pc ls (vs.reverse ++ rest)) rest (va_Qi (fun x (_ : Unit) => x = r) (fun _ t => t.heap = H) (kA K) vs.toArray) (kA K) := by
    refine va_runS (nL := ls.size) (Ts := mu_tb) (own := own) ⟨hx, hb, hml, hown, hts⟩ hM (va_cwS n hts (mu_tb_ws ?_) rfl rfl rfl hd ⟨hf, by show 8 + (mx1 + 11) + 64 * f1 ≤ _; omega⟩) ⟨jm_blind, fun U hU hW => ⟨rfl, hU, hE.go hW hU hS⟩⟩ rfl hvs rfl rfl (lv_room hsum) hdg ⟨hc, hs⟩
    intro w hw
    rcases List.mem_append.mp hw with h1 | h1
    · simp only [List.mem_cons, List.not_mem_nil, or_false] at h1
      rcases h1 with rfl | rfl | rfl <;> assumption
    · rcases List.mem_cons.mp h1 with rfl | h1
      · exact hw4
      · exact h1
  exact va_calli (a := vs.toArray) hr hS (fun _ _ h => h) (fun _ h => h) (fun r1 u t H1 locs1 ht _ hp hB _ _ hS1 => by
    have e1 : H1 = H := by rw [← ht]; exact hB
    rw [e1] at hS1 ⊢
    rw [hp]
    exact kk locs1 hS1)
theorem jm_callN {K : mu_K} {cc cc1 : ByteArray} {own : String} {y : MethodName} {mx1 f1 n ix pc : Nat} {vs rest : List Value} {ls : Array Slot} (hx : p.tables.exec = Jvm.exec) (hb : c.code = cc) (hml : c.maxLocals = ls.size) (hown : s.vm.findClass own = some m.cls) (hts : ∀ w ∈ mu_tb, w.before args s = true) (hE : mu_E K s) (hS : va_S (kA K) s.heap H locs) (hM : jm_N K l y cc1 mx1 f1 vs H)
    (hf : f1 + 1 ≤ R.frames) (hlo : 64 * f1 + 64 ≤ R.locals) (hmx : mx1 ≤ 40) (hw1 : Cond.methodLink own ix y ∈ mu_tb) (hw2 : Cond.static y ∈ mu_tb) (hw3 : Cond.initialized y.cls ∈ mu_tb) (hw4 : Cond.code y cc1 mx1 none ∈ mu_tb) (hd : y.cls ≠ "java/lang/invoke/MethodHandle" ∧ y.cls ≠ "java/lang/invoke/VarHandle" ∧ (parseMethodDescriptor y.desc).map (fun d => d.parameters.length) = some n) (hvs : vs.length = n) (hsum : (rest.map fun v => v.category).sum ≤ 8) (hc : cells ≤ R.cells) (hs : slots ≤ R.slots) (hdg : decode cc pc = .ok (.invokestatic ix, 3))
    (kk : ∀ locs1 : List Loc, va_S (kA K) s.heap H locs1 → W p l e R s m args below meth c H locs1 cells slots Q (F0 m (pc + 3) ls rest)) : W p l e R s m args below meth c H locs cells slots Q (F0 m pc ls (vs.reverse ++ rest)) := by
  have hr : va_Run p l e R s m args below meth c H locs cells slots 0 0 (F0 m pc ls (vs.reverse ++ rest)) rest (va_Qv (fun _ : Unit => True) (fun _ t => t.heap = H) (kA K) vs.toArray) (kA K) := by
    refine va_runS (nL := ls.size) (Ts := mu_tb) (own := own) ⟨hx, hb, hml, hown, hts⟩ hM (va_cwS n hts (mu_tb_ws ?_) rfl rfl rfl hd ⟨hf, by show 8 + (mx1 + 11) + 64 * f1 ≤ _; omega⟩) ⟨jm_blind, fun U hU hW => ⟨rfl, hU, hE.go hW hU hS⟩⟩ rfl hvs rfl rfl (lv_room hsum) hdg ⟨hc, hs⟩
    intro w hw
    rcases List.mem_append.mp hw with h1 | h1
    · simp only [List.mem_cons, List.not_mem_nil, or_false] at h1
      rcases h1 with rfl | rfl | rfl <;> assumption
    · rcases List.mem_cons.mp h1 with rfl | h1
      · exact hw4
      · exact h1
  exact va_callv (a := vs.toArray) hr hS (fun _ _ h => h) (fun _ h => h) (fun u t H1 locs1 ht _ _ hB _ _ hS1 => by
    have e1 : H1 = H := by rw [← ht]; exact hB
    rw [e1] at hS1 ⊢
    exact kk locs1 hS1)
theorem jm_callV {K : mu_K} {cc cc1 : ByteArray} {own : String} {y : MethodName} {mx1 f1 n ix pc b : Nat} {ty : FieldType} {vs rest : List Value} {r : Int32} {ls : Array Slot} (hx : p.tables.exec = Jvm.exec) (hb : c.code = cc) (hml : c.maxLocals = ls.size) (hown : s.vm.findClass own = some m.cls) (hts : ∀ w ∈ mu_tb, w.before args s = true) (hE : mu_E K s) (hS : va_S (kA K) s.heap H locs) (hrc : ∃ cell : Cell, H[b]? = some cell ∧ cell.vm.isStatics = false ∧ s.vm.findClass "java/lang/String" = some cell.cls) (hM : jm_I K l y cc1 mx1 ty f1 (.ref b :: vs) H r)
    (hf : f1 + 1 ≤ R.frames) (hlo : 64 * f1 + 64 ≤ R.locals) (hmx : mx1 ≤ 40) (hw1 : Cond.methodLink own ix y ∈ mu_tb) (hw2 : Cond.instanceMethod y ∈ mu_tb) (hw3 : Cond.initialized "java/lang/String" ∈ mu_tb) (hw4 : Cond.code y cc1 mx1 (some ty) ∈ mu_tb) (hw5 : Cond.selects "java/lang/String" y y ∈ mu_tb) (hd : y.cls = "java/lang/String" ∧ y.cls ≠ "java/lang/invoke/MethodHandle" ∧ y.cls ≠ "java/lang/invoke/VarHandle" ∧ (parseMethodDescriptor y.desc).map (fun d => d.parameters.length) = some n) (hvs : vs.length = n) (hsum : (rest.map fun v => v.category).sum ≤ 8) (hc : cells ≤ R.cells) (hs : slots ≤ R.slots) (hdg : decode cc pc = .ok (.invokevirtual ix, 3))
    (kk : ∀ locs1 : List Loc, va_S (kA K) s.heap H locs1 → W p l e R s m args below meth c H locs1 cells slots Q (F0 m (pc + 3) ls (.int r :: rest))) : W p l e R s m args below meth c H locs cells slots Q (F0 m pc ls (vs.reverse ++ .ref b :: rest)) := by
  have hr : va_Run p l e R s m args below meth c H locs cells slots 0 0 (F0 m pc ls (vs.reverse ++ .ref b :: rest)) rest (va_Qi (fun x (_ : Unit) => x = r) (fun _ t => t.heap = H) (kA K) (Value.ref b :: vs).toArray) (kA K) := by
    refine va_runV (C := "java/lang/String") (nL := ls.size) (Ts := mu_tb) (own := own) ⟨hx, hb, hml, hown, hts⟩ hM (cwV n hts (mu_tb_ws ?_) rfl rfl rfl hd ⟨hf, by show 8 + (mx1 + 11) + 64 * f1 ≤ _; omega⟩) ⟨jm_blind, hrc, fun U hU hW => ⟨rfl, hU, hE.go hW hU hS⟩⟩ rfl hvs rfl rfl (lv_room hsum) hdg ⟨hc, hs⟩
    intro w hw
    rcases List.mem_append.mp hw with h1 | h1
    · simp only [List.mem_cons, List.not_mem_nil, or_false] at h1
      rcases h1 with rfl | rfl | rfl | rfl <;> assumption
    · rcases List.mem_cons.mp h1 with rfl | h1
      · exact hw4
      · exact h1
  exact va_calli (a := (Value.ref b :: vs).toArray) hr hS (fun _ _ h => h) (fun _ h => h) (fun r1 u t H1 locs1 ht _ hp hB _ _ hS1 => by
    have e1 : H1 = H := by rw [← ht]; exact hB
    rw [e1] at hS1 ⊢
    rw [hp]
    exact kk locs1 hS1)
end
/-- the text's own cell, its bytes' -/
def jk (K : mu_K) (i : Nat) : Nat := kx K (-10 - (i : Int))
def jv (K : mu_K) (i : Nat) : Nat := kx K (-20 - (i : Int))
theorem jt {K : mu_K} {s : State} (h : mu_E K s) : vk_S 5 mu_len5 mu_byt5 (jk K) (jv K) (kA K) s s.heap := h.2.2.2.2.1.1
theorem jz {K : mu_K} {s : State} (h : mu_E K s) : va_Z "java/lang/String" "COMPACT_STRINGS" "Z" (.int 1) (kA K) s s.heap := h.2.2.2.2.1.2.2.1
theorem jzq {K : mu_K} {s : State} (h : mu_E K s) : va_Zq "jdk/internal/util/Preconditions" "SIOOBE_FORMATTER" "Ljava/util/function/BiFunction;" (kA K) s s.heap := h.2.2.2.2.1.2.2.2
section
variable {K : mu_K} {l : Launch} {H0 : Heap} {i : Nat}
theorem jm_coder (hi : i < 5) : jm_I K l jn_coder prog_17_method_152_code 1 .byte 0 [.ref (jk K i)] H0 0 := by
  refine jm_ofI (by decide +kernel) (Nat.le_of_ble_eq_true rfl) (by decide) ?_
  intro p e R s m args below meth c Q ls C hS hl hret
  obtain ⟨hx, hb, hml, hown, hts, hE, hf, hlo⟩ := C
  have hl : lv_has ls 1 [(0, .ref (jk K i))] := hl
  refine va_gets hx hb (jz hE) hS hown (hts _ jw_381) (fun _ h => h) jd_coder_0 ?_
  refine lv_if_eq (tgt := 13) hx hb jd_coder_3 rfl (fun h => absurd h (by decide)) (fun _ => ?_)
  refine lv_aload_n hx hb jd_coder_6 rfl (lv_at hl 0 rfl) ?_
  refine vk_getf hx hb ((jt hE).1 i hi).2.1 hS hown (hts _ jw_1513) (fun _ h => h) jd_coder_7 ?_
  refine lv_goto (tgt := 14) hx hb jd_coder_10 rfl ?_
  exact hret _ _ _ hS jd_coder_14
theorem jm_isL (hi : i < 5) : jm_I K l jn_isL prog_17_method_154_code 1 .boolean 0 [.ref (jk K i)] H0 1 := by
  refine jm_ofI (by decide +kernel) (Nat.le_of_ble_eq_true rfl) (by decide) ?_
  intro p e R s m args below meth c Q ls C hS hl hret
  obtain ⟨hx, hb, hml, hown, hts, hE, hf, hlo⟩ := C
  have hl : lv_has ls 1 [(0, .ref (jk K i))] := hl
  refine va_gets hx hb (jz hE) hS hown (hts _ jw_381) (fun _ h => h) jd_isL_0 ?_
  refine lv_if_eq (tgt := 17) hx hb jd_isL_3 rfl (fun h => absurd h (by decide)) (fun _ => ?_)
  refine lv_aload_n hx hb jd_isL_6 rfl (lv_at hl 0 rfl) ?_
  refine vk_getf hx hb ((jt hE).1 i hi).2.1 hS hown (hts _ jw_1513) (fun _ h => h) jd_isL_7 ?_
  refine lv_if_ne (tgt := 17) hx hb jd_isL_10 rfl (fun h => absurd rfl h) (fun _ => ?_)
  refine lv_iconst (v := 1) hx hb jd_isL_13 (by decide) ?_
  refine lv_goto (tgt := 18) hx hb jd_isL_14 rfl ?_
  exact hret _ _ _ hS jd_isL_18
theorem jm_len (hi : i < 5) : jm_I K l jn_len prog_17_method_54_code 1 .int 1 [.ref (jk K i)] H0 (Int32.ofInt (jL i)) := by
  refine jm_ofI (by decide +kernel) (Nat.le_of_ble_eq_true rfl) rfl ?_
  intro p e R s m args below meth c Q ls C hS hl hret
  obtain ⟨hx, hb, hml, hown, hts, hE, hf, hlo⟩ := C
  have hl : lv_has ls 1 [(0, .ref (jk K i))] := hl
  refine lv_aload_n hx hb jd_len_0 rfl (lv_at hl 0 rfl) ?_
  refine vk_getf hx hb ((jt hE).1 i hi).2.2.1 hS hown (hts _ jw_1512) (fun _ h => h) jd_len_1 ?_
  refine va_tlen hx hb ((jt hE).1 i hi).2.2.2 hS (jf_1 i hi) jd_len_4 ?_
  refine lv_aload_n hx hb jd_len_5 rfl (lv_at hl 0 rfl) ?_
  refine jm_callV (vs := []) (rest := [.int (Int32.ofInt (jL i))]) hx hb (hml.trans hl.1.symm) hown hts hE hS (vk_recv (jt hE) hi hS) (jm_coder hi) (by omega) (by omega) (by decide) jw_377 jw_378 jw_88 jw_380 jw_379 (n := 0) (by decide +kernel) rfl (Nat.le_of_ble_eq_true rfl) (Nat.zero_le _) (Nat.zero_le _) jd_len_6 (fun locs1 hS1 => ?_)
  refine lv_ishr hx hb jd_len_9 ?_
  rw [jf_2 i hi]
  exact hret _ _ _ hS1 jd_len_10
theorem jm_chk3 {j n : Int} {o : Option Nat} (h0 : 0 ≤ j) (h1 : j < n) (h2 : n ≤ 2147483647) : jm_I K l jn_chk3 prog_21_method_11_code 3 .int 0 [.int (Int32.ofInt j), .int (Int32.ofInt n), va_rf o] H0 (Int32.ofInt j) := by
  refine jm_ofI (by decide +kernel) (by cases o <;> exact Nat.le_of_ble_eq_true rfl) rfl ?_
  intro p e R s m args below meth c Q ls C hS hl hret
  obtain ⟨hx, hb, hml, hown, hts, hE, hf, hlo⟩ := C
  have hl : lv_has ls 3 [(0, .int (Int32.ofInt j)), (1, .int (Int32.ofInt n)), (2, va_rf o)] := hl
  refine lv_iload_n hx hb jd_chk3_0 rfl (lv_at hl 0 rfl) ?_
  refine lv_if_lt (tgt := 9) hx hb jd_chk3_1 rfl (fun h => absurd h (mu_ng h0 (by omega))) (fun _ => ?_)
  refine lv_iload_n hx hb jd_chk3_4 rfl (lv_at hl 0 rfl) ?_
  refine lv_iload_n hx hb jd_chk3_5 rfl (lv_at hl 1 rfl) ?_
  refine lv_icmp_lt (tgt := 16) hx hb jd_chk3_6 rfl (fun _ => ?_) (fun h => absurd ((mu_lt (by omega) (by omega) (by omega) (by omega)).mpr h1) h)
  refine lv_iload_n hx hb jd_chk3_16 rfl (lv_at hl 0 rfl) ?_
  exact hret _ _ _ hS jd_chk3_17
theorem jm_chk {j n : Int} (h0 : 0 ≤ j) (h1 : j < n) (h2 : n ≤ 2147483647) : jm_N K l jn_chk prog_17_method_155_code 2 1 [.int (Int32.ofInt j), .int (Int32.ofInt n)] H0 := by
  refine jm_ofN (by decide +kernel) (Nat.le_of_ble_eq_true rfl) ?_
  intro p e R s m args below meth c Q ls C hS hl hret
  obtain ⟨hx, hb, hml, hown, hts, hE, hf, hlo⟩ := C
  have hl : lv_has ls 2 [(0, .int (Int32.ofInt j)), (1, .int (Int32.ofInt n))] := hl
  refine lv_iload_n hx hb jd_chk_0 rfl (lv_at hl 0 rfl) ?_
  refine lv_iload_n hx hb jd_chk_1 rfl (lv_at hl 1 rfl) ?_
  have key : ∀ o : Option Nat, W p l e R s m args below meth c H0 [] 0 0 Q (F0 m 5 ls [va_rf o, .int (Int32.ofInt n), .int (Int32.ofInt j)]) := by
    intro o
    refine jm_callS (vs := [.int (Int32.ofInt j), .int (Int32.ofInt n), va_rf o]) (rest := []) hx hb (hml.trans hl.1.symm) hown hts hE hS (jm_chk3 h0 h1 h2) (by omega) (by omega) (by decide) jw_399 jw_400 jw_90 jw_401 (n := 3) (by decide +kernel) rfl (Nat.le_of_ble_eq_true rfl) (Nat.zero_le _) (Nat.zero_le _) jd_chk_5 (fun locs1 hS1 => ?_)
    refine lv_pop hx hb jd_chk_8 rfl ?_
    exact hret _ _ _ hS1 jd_chk_9
  rcases jzq hE with hz | ⟨t, hz⟩
  · exact va_gets hx hb hz hS hown (hts _ jw_397) (fun _ h => h) jd_chk_2 (key none)
  · exact va_gets hx hb hz hS hown (hts _ jw_397) (fun _ h => h) jd_chk_2 (key (some t))
theorem jm_lat (hi : i < 5) {j : Int} (h0 : 0 ≤ j) (h1 : j < jL i) : jm_I K l jn_lat prog_18_method_2_code 2 .char 2 [.ref (jv K i), .int (Int32.ofInt j)] H0 (Int32.ofInt ((mu_str i).getD j.toNat 0)) := by
  have h6 := (jf_7 i hi).2
  have hj : j.toNat < (mu_str i).length := by unfold jL at h1; omega
  refine jm_ofI (by decide +kernel) (Nat.le_of_ble_eq_true rfl) (jf_6 i hi j.toNat hj) ?_
  intro p e R s m args below meth c Q ls C hS hl hret
  obtain ⟨hx, hb, hml, hown, hts, hE, hf, hlo⟩ := C
  have hl : lv_has ls 2 [(0, .ref (jv K i)), (1, .int (Int32.ofInt j))] := hl
  refine lv_iload_n hx hb jd_lat_0 rfl (lv_at hl 1 rfl) ?_
  refine lv_aload_n hx hb jd_lat_1 rfl (lv_at hl 0 rfl) ?_
  refine va_tlen hx hb ((jt hE).1 i hi).2.2.2 hS (jf_1 i hi) jd_lat_2 ?_
  refine jm_callN (vs := [.int (Int32.ofInt j), .int (Int32.ofInt (jL i))]) (rest := []) hx hb (hml.trans hl.1.symm) hown hts hE hS (jm_chk h0 h1 (by omega)) (by omega) (by omega) (by decide) jw_394 jw_395 jw_88 jw_396 (n := 2) (by decide +kernel) rfl (Nat.le_of_ble_eq_true rfl) (Nat.zero_le _) (Nat.zero_le _) jd_lat_3 (fun locs1 hS1 => ?_)
  refine lv_aload_n hx hb jd_lat_6 rfl (lv_at hl 0 rfl) ?_
  refine lv_iload_n hx hb jd_lat_7 rfl (lv_at hl 1 rfl) ?_
  refine va_tb hx hb ((jt hE).1 i hi).2.2.2 hS1 (i := Int32.ofInt j) (mu_in h0 (by rw [(jf_3 i hi).1]; exact h1) (by omega)) (v := .int ((mu_byt5.getD i []).getD j.toNat 0)) (by show Value.int _ = _; rw [mu_tn h0 (by omega)]) jd_lat_8 ?_
  refine lv_sipush (v := 255) hx hb jd_lat_9 (by decide) ?_
  refine lv_iand hx hb jd_lat_12 ?_
  refine lv_i2c hx hb jd_lat_13 (jf_4 i hi j.toNat hj) ?_
  exact hret _ _ _ hS1 jd_lat_14
theorem jm_at (hi : i < 5) {j : Int} (h0 : 0 ≤ j) (h1 : j < jL i) : jm_I K l jn_at prog_17_method_56_code 2 .char 3 [.ref (jk K i), .int (Int32.ofInt j)] H0 (Int32.ofInt ((mu_str i).getD j.toNat 0)) := by
  have h6 := (jf_7 i hi).2
  have hj : j.toNat < (mu_str i).length := by unfold jL at h1; omega
  refine jm_ofI (by decide +kernel) (Nat.le_of_ble_eq_true rfl) (jf_6 i hi j.toNat hj) ?_
  intro p e R s m args below meth c Q ls C hS hl hret
  obtain ⟨hx, hb, hml, hown, hts, hE, hf, hlo⟩ := C
  have hl : lv_has ls 2 [(0, .ref (jk K i)), (1, .int (Int32.ofInt j))] := hl
  refine lv_aload_n hx hb jd_at_0 rfl (lv_at hl 0 rfl) ?_
  refine jm_callV (vs := []) (rest := []) hx hb (hml.trans hl.1.symm) hown hts hE hS (vk_recv (jt hE) hi hS) (jm_isL hi) (by omega) (by omega) (by decide) jw_387 jw_388 jw_88 jw_390 jw_389 (n := 0) (by decide +kernel) rfl (Nat.le_of_ble_eq_true rfl) (Nat.zero_le _) (Nat.zero_le _) jd_at_1 (fun locs1 hS1 => ?_)
  refine lv_if_eq (tgt := 16) hx hb jd_at_4 rfl (fun h => absurd h (by decide)) (fun _ => ?_)
  refine lv_aload_n hx hb jd_at_7 rfl (lv_at hl 0 rfl) ?_
  refine vk_getf hx hb ((jt hE).1 i hi).2.2.1 hS1 hown (hts _ jw_1512) (fun _ h => h) jd_at_8 ?_
  refine lv_iload_n hx hb jd_at_11 rfl (lv_at hl 1 rfl) ?_
  refine jm_callS (vs := [.ref (jv K i), .int (Int32.ofInt j)]) (rest := []) hx hb (hml.trans hl.1.symm) hown hts hE hS1 (jm_lat hi h0 h1) (by omega) (by omega) (by decide) jw_391 jw_392 jw_89 jw_393 (n := 2) (by decide +kernel) rfl (Nat.le_of_ble_eq_true rfl) (Nat.zero_le _) (Nat.zero_le _) jd_at_12 (fun locs2 hS2 => ?_)
  exact hret _ _ _ hS2 jd_at_15
theorem jm_can1 {x : Int} (h0 : 0 ≤ x) (h1 : x ≤ 255) : jm_I K l jn_can prog_18_method_4_code 1 .boolean 0 [.int (Int32.ofInt x)] H0 1 := by
  refine jm_ofI (by decide +kernel) (Nat.le_of_ble_eq_true rfl) (by decide) ?_
  intro p e R s m args below meth c Q ls C hS hl hret
  obtain ⟨hx, hb, hml, hown, hts, hE, hf, hlo⟩ := C
  have hl : lv_has ls 1 [(0, .int (Int32.ofInt x))] := hl
  refine lv_iload_n hx hb jd_can_0 rfl (lv_at hl 0 rfl) ?_
  refine lv_if_lt (tgt := 15) hx hb jd_can_1 rfl (fun h => absurd h (mu_ng h0 (by omega))) (fun _ => ?_)
  refine lv_iload_n hx hb jd_can_4 rfl (lv_at hl 0 rfl) ?_
  refine lv_sipush (v := Int32.ofInt 255) hx hb jd_can_5 (by decide) ?_
  refine lv_icmp_gt (tgt := 15) hx hb jd_can_8 rfl (fun h => absurd ((mu_lt (by omega) (by omega) (by omega) (by omega)).mp h) (by omega)) (fun _ => ?_)
  refine lv_iconst (v := 1) hx hb jd_can_11 (by decide) ?_
  refine lv_goto (tgt := 16) hx hb jd_can_12 rfl ?_
  exact hret _ _ _ hS jd_can_16
theorem jm_can0 {x : Int} (h0 : -2147483648 ≤ x) (h1 : x ≤ 2147483647) (h : ¬ (0 ≤ x ∧ x ≤ 255)) : jm_I K l jn_can prog_18_method_4_code 1 .boolean 0 [.int (Int32.ofInt x)] H0 0 := by
  refine jm_ofI (by decide +kernel) (Nat.le_of_ble_eq_true rfl) (by decide) ?_
  intro p e R s m args below meth c Q ls C hS hl hret
  obtain ⟨hx, hb, hml, hown, hts, hE, hf, hlo⟩ := C
  have hl : lv_has ls 1 [(0, .int (Int32.ofInt x))] := hl
  have out : W p l e R s m args below meth c H0 [] 0 0 Q (F0 m 15 ls []) := by
    refine lv_iconst (v := 0) hx hb jd_can_15 (by decide) ?_
    exact hret _ _ _ hS jd_can_16
  refine lv_iload_n hx hb jd_can_0 rfl (lv_at hl 0 rfl) ?_
  refine lv_if_lt (tgt := 15) hx hb jd_can_1 rfl (fun _ => out) (fun hn => ?_)
  refine lv_iload_n hx hb jd_can_4 rfl (lv_at hl 0 rfl) ?_
  refine lv_sipush (v := Int32.ofInt 255) hx hb jd_can_5 (by decide) ?_
  refine lv_icmp_gt (tgt := 15) hx hb jd_can_8 rfl (fun _ => out) (fun hg => ?_)
  refine absurd ⟨?_, ?_⟩ h
  · rcases Int.lt_or_le x 0 with q | q
    · exact absurd ((mu_lt (x := x) (y := 0) h0 h1 (by decide) (by decide)).mpr q) hn
    · exact q
  · rcases Int.lt_or_le 255 x with q | q
    · exact absurd ((mu_lt (x := 255) (y := x) (by decide) (by decide) h0 h1).mpr q) hg
    · exact q
/-- the place in a text -/
def jx (i : Nat) (c : Int) (n : Nat) (k : Int) : Int := mu_ixF (fun j => (mu_str i).getD j.toNat 0) c n k
theorem jx_out (hi : i < 5) {x : Int} (h : ¬ (0 ≤ x ∧ x ≤ 255)) : ∀ (n : Nat) (k : Int), 0 ≤ k → k + n = jL i → jx i x n k = -1 := by
  intro n
  induction n with
  | zero => intro k _ _; rfl
  | succ n ih =>
    intro k hk hn
    have h5 := jf_5 i hi k.toNat (by unfold jL at hn; omega)
    have e : jx i x (n + 1) k = if (mu_str i).getD k.toNat 0 = x then k else jx i x n (k + 1) := rfl
    rw [e, if_neg (fun z => h ⟨by omega, by omega⟩)]
    exact ih (k + 1) (by omega) (by omega)
theorem jm_ioc (hi : i < 5) {x : Int} (h0 : 0 ≤ x) (h1 : x ≤ 255) : jm_I K l jn_ioc prog_18_method_23_code 6 .int 0 [.ref (jv K i), .int (Int32.ofInt x), .int (Int32.ofInt 0), .int (Int32.ofInt (jL i))] H0 (Int32.ofInt (jx i x (mu_str i).length 0)) := by
  have h6 := (jf_7 i hi).2
  refine jm_ofI (by decide +kernel) (Nat.le_of_ble_eq_true rfl) rfl ?_
  intro p e R s m args below meth c Q ls C hS hl hret
  obtain ⟨hx, hb, hml, hown, hts, hE, hf, hlo⟩ := C
  have hl : lv_has ls 6 [(0, .ref (jv K i)), (1, .int (Int32.ofInt x)), (2, .int (Int32.ofInt 0)), (3, .int (Int32.ofInt (jL i)))] := hl
  have loop : ∀ (n : Nat) (j : Int) (ls : Array Slot), 0 ≤ j → j + n = jL i → jx i x (mu_str i).length 0 = jx i x n j → lv_has ls 6 [(5, .int (Int32.ofInt j)), (4, .int (jb x)), (0, .ref (jv K i)), (1, .int (Int32.ofInt x)), (2, .int (Int32.ofInt 0)), (3, .int (Int32.ofInt (jL i)))] → W p l e R s m args below meth c H0 [] 0 0 Q (F0 m 7 ls []) := by
    intro n
    induction n with
    | zero =>
      intro j ls hj hn hr hl
      refine lv_iload hx hb jd_ioc_7 (lv_at hl 0 rfl) ?_
      refine lv_iload_n hx hb jd_ioc_9 rfl (lv_at hl 5 rfl) ?_
      refine lv_icmp_ge (tgt := 31) hx hb jd_ioc_10 rfl (fun _ => ?_) (fun h => absurd ((mu_le (by omega) (by omega) (by omega) (by omega)).mpr (by omega)) h)
      refine lv_iconst (v := Int32.ofInt (jx i x (mu_str i).length 0)) hx hb jd_ioc_31 (by rw [hr]; rfl) ?_
      exact hret _ _ _ hS jd_ioc_32
    | succ n ih =>
      intro j ls hj hn hr hl
      have hjn : j.toNat < (mu_str i).length := by unfold jL at hn; omega
      have h5 := jf_5 i hi j.toNat hjn
      have e : jx i x (n + 1) j = if (mu_str i).getD j.toNat 0 = x then j else jx i x n (j + 1) := rfl
      refine lv_iload hx hb jd_ioc_7 (lv_at hl 0 rfl) ?_
      refine lv_iload_n hx hb jd_ioc_9 rfl (lv_at hl 5 rfl) ?_
      refine lv_icmp_ge (tgt := 31) hx hb jd_ioc_10 rfl (fun h => absurd ((mu_le (by omega) (by omega) (by omega) (by omega)).mp h) (by omega)) (fun _ => ?_)
      refine lv_aload_n hx hb jd_ioc_13 rfl (lv_at hl 2 rfl) ?_
      refine lv_iload hx hb jd_ioc_14 (lv_at hl 0 rfl) ?_
      refine va_tb hx hb ((jt hE).1 i hi).2.2.2 hS (i := Int32.ofInt j) (mu_in hj (by rw [(jf_3 i hi).1]; show j < jL i; omega) (by omega)) (v := .int (Int32.ofInt ((mu_str i).getD j.toNat 0))) (by show Value.int _ = _; rw [mu_tn hj (by omega), h5.2.2]) jd_ioc_16 ?_
      refine lv_iload hx hb jd_ioc_17 (lv_at hl 1 rfl) ?_
      refine lv_icmp_ne (tgt := 25) hx hb jd_ioc_19 rfl (fun q => ?_) (fun q => ?_)
      · rw [if_neg (fun z => q ((jb_eq h5.1 h5.2.1 h0 h1).mpr z))] at e
        refine lv_iinc (k := 0) (v := Int32.ofInt (j + 1)) (lv' := [(5, .int (Int32.ofInt (j + 1))), (4, .int (jb x)), (0, .ref (jv K i)), (1, .int (Int32.ofInt x)), (2, .int (Int32.ofInt 0)), (3, .int (Int32.ofInt (jL i)))]) hx hb jd_ioc_25 hl rfl (Int32.ofInt_add j 1).symm (by decide) rfl (fun ls hl => ?_)
        refine lv_goto (tgt := 7) hx hb jd_ioc_28 rfl ?_
        exact ih (j + 1) ls (by omega) (by omega) (hr.trans e) hl
      · rw [if_pos ((jb_eq h5.1 h5.2.1 h0 h1).mp q)] at e
        refine lv_iload hx hb jd_ioc_22 (lv_at hl 0 rfl) ?_
        have := hret [] ls 24 hS jd_ioc_24
        rw [hr, e] at this
        exact this
  refine lv_iload_n hx hb jd_ioc_0 rfl (lv_at hl 1 rfl) ?_
  refine lv_i2b (v := jb x) hx hb jd_ioc_1 rfl ?_
  refine lv_istore (lv' := [(4, .int (jb x)), (0, .ref (jv K i)), (1, .int (Int32.ofInt x)), (2, .int (Int32.ofInt 0)), (3, .int (Int32.ofInt (jL i)))]) hx hb jd_ioc_2 hl (by decide) rfl (fun ls hl => ?_)
  refine lv_iload_n hx hb jd_ioc_4 rfl (lv_at hl 3 rfl) ?_
  refine lv_istore (lv' := [(5, .int (Int32.ofInt 0)), (4, .int (jb x)), (0, .ref (jv K i)), (1, .int (Int32.ofInt x)), (2, .int (Int32.ofInt 0)), (3, .int (Int32.ofInt (jL i)))]) hx hb jd_ioc_5 hl (by decide) rfl (fun ls hl => ?_)
  exact loop (mu_str i).length 0 ls (Int.le_refl _) (by unfold jL; omega) rfl hl
theorem jm_iol (hi : i < 5) {x : Int} (h0 : -2147483648 ≤ x) (h1 : x ≤ 2147483647) : jm_I K l jn_iol prog_18_method_22_code 4 .int 1 [.ref (jv K i), .int (Int32.ofInt x), .int (Int32.ofInt 0), .int (Int32.ofInt (jL i))] H0 (Int32.ofInt (jx i x (mu_str i).length 0)) := by
  have h6 := jf_7 i hi
  refine jm_ofI (by decide +kernel) (Nat.le_of_ble_eq_true rfl) rfl ?_
  intro p e R s m args below meth c Q ls C hS hl hret
  obtain ⟨hx, hb, hml, hown, hts, hE, hf, hlo⟩ := C
  have hl : lv_has ls 4 [(0, .ref (jv K i)), (1, .int (Int32.ofInt x)), (2, .int (Int32.ofInt 0)), (3, .int (Int32.ofInt (jL i)))] := hl
  refine lv_iload_n hx hb jd_iol_0 rfl (lv_at hl 1 rfl) ?_
  by_cases hc : 0 ≤ x ∧ x ≤ 255
  · refine jm_callS (vs := [.int (Int32.ofInt x)]) (rest := []) hx hb (hml.trans hl.1.symm) hown hts hE hS (jm_can1 hc.1 hc.2) (by omega) (by omega) (by decide) jw_461 jw_462 jw_89 jw_463 (n := 1) (by decide +kernel) rfl (Nat.le_of_ble_eq_true rfl) (Nat.zero_le _) (Nat.zero_le _) jd_iol_1 (fun locs1 hS1 => ?_)
    refine lv_if_ne (tgt := 9) hx hb jd_iol_4 rfl (fun _ => ?_) (fun h => absurd h (by decide))
    refine lv_iload_n hx hb jd_iol_9 rfl (lv_at hl 2 rfl) ?_
    refine lv_iconst (v := Int32.ofInt 0) hx hb jd_iol_10 rfl ?_
    refine va_mmax hx hb (hml.trans hl.1.symm) hown (hts _ jw_464) (hts _ jw_115) (hts _ jw_82) (hts _ jw_116) (by omega) (by show 0 + 13 ≤ _; omega) (Nat.zero_le _) (Nat.zero_le _) jd_iol_11 ?_
    rw [ite_self]
    refine lv_istore_n (lv' := [(2, .int (Int32.ofInt 0)), (0, .ref (jv K i)), (1, .int (Int32.ofInt x)), (3, .int (Int32.ofInt (jL i)))]) hx hb jd_iol_14 rfl hl (by decide) rfl (fun ls hl => ?_)
    refine lv_iload_n hx hb jd_iol_15 rfl (lv_at hl 3 rfl) ?_
    refine lv_aload_n hx hb jd_iol_16 rfl (lv_at hl 1 rfl) ?_
    refine va_tlen hx hb ((jt hE).1 i hi).2.2.2 hS1 (jf_1 i hi) jd_iol_17 ?_
    refine va_mmin hx hb (hml.trans hl.1.symm) hown (hts _ jw_465) (hts _ jw_354) (hts _ jw_82) (hts _ jw_355) (by omega) (by show 0 + 13 ≤ _; omega) (Nat.zero_le _) (Nat.zero_le _) jd_iol_18 ?_
    rw [ite_self]
    refine lv_istore_n (lv' := [(3, .int (Int32.ofInt (jL i))), (2, .int (Int32.ofInt 0)), (0, .ref (jv K i)), (1, .int (Int32.ofInt x))]) hx hb jd_iol_21 rfl hl (by decide) rfl (fun ls hl => ?_)
    refine lv_iload_n hx hb jd_iol_22 rfl (lv_at hl 1 rfl) ?_
    refine lv_iload_n hx hb jd_iol_23 rfl (lv_at hl 0 rfl) ?_
    refine lv_icmp_lt (tgt := 29) hx hb jd_iol_24 rfl (fun _ => ?_) (fun h => absurd ((mu_lt (by decide) (by decide) (by omega) (by omega)).mpr h6.1) h)
    refine lv_aload_n hx hb jd_iol_29 rfl (lv_at hl 2 rfl) ?_
    refine lv_iload_n hx hb jd_iol_30 rfl (lv_at hl 3 rfl) ?_
    refine lv_iload_n hx hb jd_iol_31 rfl (lv_at hl 1 rfl) ?_
    refine lv_iload_n hx hb jd_iol_32 rfl (lv_at hl 0 rfl) ?_
    refine jm_callS (vs := [.ref (jv K i), .int (Int32.ofInt x), .int (Int32.ofInt 0), .int (Int32.ofInt (jL i))]) (rest := []) hx hb (hml.trans hl.1.symm) hown hts hE hS1 (jm_ioc hi hc.1 hc.2) (by omega) (by omega) (by decide) jw_466 jw_467 jw_89 jw_468 (n := 4) (by decide +kernel) rfl (Nat.le_of_ble_eq_true rfl) (Nat.zero_le _) (Nat.zero_le _) jd_iol_33 (fun locs2 hS2 => ?_)
    exact hret _ _ _ hS2 jd_iol_36
  · refine jm_callS (vs := [.int (Int32.ofInt x)]) (rest := []) hx hb (hml.trans hl.1.symm) hown hts hE hS (jm_can0 h0 h1 hc) (by omega) (by omega) (by decide) jw_461 jw_462 jw_89 jw_463 (n := 1) (by decide +kernel) rfl (Nat.le_of_ble_eq_true rfl) (Nat.zero_le _) (Nat.zero_le _) jd_iol_1 (fun locs1 hS1 => ?_)
    refine lv_if_ne (tgt := 9) hx hb jd_iol_4 rfl (fun h => absurd rfl h) (fun _ => ?_)
    refine lv_iconst (v := Int32.ofInt (jx i x (mu_str i).length 0)) hx hb jd_iol_7 (by rw [jx_out hi hc _ 0 (Int.le_refl _) (by unfold jL; omega)]) ?_
    exact hret _ _ _ hS1 jd_iol_8
theorem jm_io2 (hi : i < 5) {x : Int} (h0 : -2147483648 ≤ x) (h1 : x ≤ 2147483647) : jm_I K l jn_io2 prog_17_method_80_code 3 .int 2 [.ref (jk K i), .int (Int32.ofInt x), .int (Int32.ofInt 0)] H0 (Int32.ofInt (jx i x (mu_str i).length 0)) := by
  refine jm_ofI (by decide +kernel) (Nat.le_of_ble_eq_true rfl) rfl ?_
  intro p e R s m args below meth c Q ls C hS hl hret
  obtain ⟨hx, hb, hml, hown, hts, hE, hf, hlo⟩ := C
  have hl : lv_has ls 3 [(0, .ref (jk K i)), (1, .int (Int32.ofInt x)), (2, .int (Int32.ofInt 0))] := hl
  refine lv_aload_n hx hb jd_io2_0 rfl (lv_at hl 0 rfl) ?_
  refine jm_callV (vs := []) (rest := []) hx hb (hml.trans hl.1.symm) hown hts hE hS (vk_recv (jt hE) hi hS) (jm_isL hi) (by omega) (by omega) (by decide) jw_387 jw_388 jw_88 jw_390 jw_389 (n := 0) (by decide +kernel) rfl (Nat.le_of_ble_eq_true rfl) (Nat.zero_le _) (Nat.zero_le _) jd_io2_1 (fun locs1 hS1 => ?_)
  refine lv_if_eq (tgt := 23) hx hb jd_io2_4 rfl (fun h => absurd h (by decide)) (fun _ => ?_)
  refine lv_aload_n hx hb jd_io2_7 rfl (lv_at hl 0 rfl) ?_
  refine vk_getf hx hb ((jt hE).1 i hi).2.2.1 hS1 hown (hts _ jw_1512) (fun _ h => h) jd_io2_8 ?_
  refine lv_iload_n hx hb jd_io2_11 rfl (lv_at hl 1 rfl) ?_
  refine lv_iload_n hx hb jd_io2_12 rfl (lv_at hl 2 rfl) ?_
  refine lv_aload_n hx hb jd_io2_13 rfl (lv_at hl 0 rfl) ?_
  refine jm_callV (vs := []) (rest := [.int (Int32.ofInt 0), .int (Int32.ofInt x), .ref (jv K i)]) hx hb (hml.trans hl.1.symm) hown hts hE hS1 (vk_recv (jt hE) hi hS1) (jm_len hi) (by omega) (by omega) (by decide) jw_457 jw_374 jw_88 jw_376 jw_375 (n := 0) (by decide +kernel) rfl (Nat.le_of_ble_eq_true rfl) (Nat.zero_le _) (Nat.zero_le _) jd_io2_14 (fun locs2 hS2 => ?_)
  refine jm_callS (vs := [.ref (jv K i), .int (Int32.ofInt x), .int (Int32.ofInt 0), .int (Int32.ofInt (jL i))]) (rest := []) hx hb (hml.trans hl.1.symm) hown hts hE hS2 (jm_iol hi h0 h1) (by omega) (by omega) (by decide) jw_458 jw_459 jw_89 jw_460 (n := 4) (by decide +kernel) rfl (Nat.le_of_ble_eq_true rfl) (Nat.zero_le _) (Nat.zero_le _) jd_io2_17 (fun locs3 hS3 => ?_)
  refine lv_goto (tgt := 36) hx hb jd_io2_20 rfl ?_
  exact hret _ _ _ hS3 jd_io2_36
theorem jm_io1 (hi : i < 5) {x : Int} (h0 : -2147483648 ≤ x) (h1 : x ≤ 2147483647) : jm_I K l jn_io1 prog_17_method_79_code 2 .int 3 [.ref (jk K i), .int (Int32.ofInt x)] H0 (Int32.ofInt (jx i x (mu_str i).length 0)) := by
  refine jm_ofI (by decide +kernel) (Nat.le_of_ble_eq_true rfl) rfl ?_
  intro p e R s m args below meth c Q ls C hS hl hret
  obtain ⟨hx, hb, hml, hown, hts, hE, hf, hlo⟩ := C
  have hl : lv_has ls 2 [(0, .ref (jk K i)), (1, .int (Int32.ofInt x))] := hl
  refine lv_aload_n hx hb jd_io1_0 rfl (lv_at hl 0 rfl) ?_
  refine lv_iload_n hx hb jd_io1_1 rfl (lv_at hl 1 rfl) ?_
  refine lv_iconst (v := Int32.ofInt 0) hx hb jd_io1_2 rfl ?_
  refine jm_callV (vs := [.int (Int32.ofInt x), .int (Int32.ofInt 0)]) (rest := []) hx hb (hml.trans hl.1.symm) hown hts hE hS (vk_recv (jt hE) hi hS) (jm_io2 hi h0 h1) (by omega) (by omega) (by decide) jw_453 jw_454 jw_88 jw_456 jw_455 (n := 2) (by decide +kernel) rfl (Nat.le_of_ble_eq_true rfl) (Nat.zero_le _) (Nat.zero_le _) jd_io1_3 (fun locs1 hS1 => ?_)
  exact hret _ _ _ hS1 jd_io1_6
end
/-- which text a cell of shape 50 is -/
theorem mu_text {K : mu_K} {G : mu_G} {I : mu_M} {H : Heap} {a : Int} (hR : mu_Rel K G I H) (h : (sh G a).1 = 50) : ∃ i : Nat, i < 5 ∧ a = -10 - (i : Int) ∧ (sh G a).2 = jL i ∧ ∀ j : Int, I a j = (mu_str i).getD j.toNat 0 := by
  have hr : ¬ (0 ≤ a ∧ a < gz G) := by
    intro q
    have := (hR.2.2.1 a q.1 q.2).1
    unfold mu_okS at this
    omega
  have e := hR.2.2.2.1 a (by omega)
  have ha : a ≤ -10 ∧ -14 ≤ a := by
    rw [e] at h
    unfold mu_xs at h
    split at h
    · exact absurd h (show ¬ (100 : Int) = 50 by decide)
    · split at h
      · exact absurd h (show ¬ (100 : Int) = 50 by decide)
      · split at h
        · assumption
        · exact absurd h (show ¬ (-1 : Int) = 50 by decide)
  have e2 : mu_xs K a = (50, ((mu_str (-10 - a).toNat).length : Int)) := by
    unfold mu_xs
    rw [if_neg (by omega), if_neg (by omega), if_pos ha]
  refine ⟨(-10 - a).toNat, by omega, by omega, by rw [e, e2]; rfl, fun j => ?_⟩
  rw [hR.2.2.2.2.1 a j (by omega)]
  unfold mu_xi
  rw [if_neg (by omega), if_neg (by omega), if_pos ha]
theorem jm_rv {K : mu_K} {i : Nat} : mu_rv K (-10 - (i : Int)) = .ref (jk K i) := by
  rw [mu_rv_ext (by omega), mu_ad_ext (by omega)]
  rfl
theorem sim_slen {own nm : String} {cc : ByteArray} {mx pc : Nat} {rt : Option FieldType} {lg : Bool} {ix : Nat} (h : decode cc pc = .ok (.invokevirtual ix, 3)) (hw : Cond.methodLink own ix ⟨"java/lang/String", "length", "()I"⟩ ∈ mu_tb) : mu_Sim own cc mx rt nm lg pc (s_slen (pc + 3)) := by
  refine ⟨fun L st G I => ⟨fun fr G1 I1 h => ?_, fun g fr G1 I1 h hg => ?_⟩, ?_⟩
  · unfold s_slen at h; (try split at h) <;> (try split at h) <;> (try split at h) <;> first | (cases h; done) | (cases h; exact ⟨Int.le_refl _, Int.le_refl _⟩) | (obtain ⟨-, h⟩ := mu_bif h; cases h; done) | (obtain ⟨-, h⟩ := mu_bif h; cases h; exact ⟨Int.le_refl _, Int.le_refl _⟩)
  · unfold s_slen at h; (try split at h) <;> (try split at h) <;> (try split at h) <;> first | (cases h; done) | (cases h; exact ⟨Int.le_refl _, Int.le_refl _⟩) | (obtain ⟨-, h⟩ := mu_bif h; cases h; done) | (obtain ⟨-, h⟩ := mu_bif h; cases h; exact ⟨Int.le_refl _, Int.le_refl _⟩)
  intro K p l e R s m args below meth c Q z0 u0 d C L st G I sr hs hok H locs ls hR hS hl hL hst hz hu
  unfold s_slen at hs
  split at hs
  · rename_i a st1
    cases hb : Nat.ble (mu_len st1) 4 with
    | false => rw [hb] at hs; cases hs
    | true =>
    rw [hb] at hs
    cases hs
    obtain ⟨g, r1, r2, kk⟩ := hok
    have hts := C.2.2.2.2.1
    have hE := C.2.2.2.2.2.1
    have hd := C.2.2.2.2.2.2.2.2.2
    obtain ⟨i, hi, rfl, hn, -⟩ := mu_text hR g
    rw [hn] at kk
    have h6 := jf_7 i hi
    show W p l e R s m args below meth c H locs _ _ Q (F0 m pc ls (mu_rv K (-10 - (i : Int)) :: st1.map (mu_cv K)))
    rw [jm_rv]
    refine jm_callV (vs := []) (rest := st1.map (mu_cv K)) C.1 C.2.1 (by rw [C.2.2.1]; exact hl.1.symm) C.2.2.2.1 hts hE hS (vk_recv (jt hE) hi hS) (jm_len hi) (by omega) (by omega) (by decide) hw jw_374 jw_88 jw_376 jw_375 (n := 0) (by decide +kernel) rfl (mu_sum hb) r1 r2 h (fun locs1 hS1 => ?_)
    exact kk H locs1 ls hR hS1 hl hL (mu_okc (v := (0, jL i)) ⟨by omega, by omega⟩ (mu_okt hst)) hz hu
  · cases hs
theorem sim_sat {own nm : String} {cc : ByteArray} {mx pc : Nat} {rt : Option FieldType} {lg : Bool} {ix : Nat} (h : decode cc pc = .ok (.invokevirtual ix, 3)) (hw : Cond.methodLink own ix ⟨"java/lang/String", "charAt", "(I)C"⟩ ∈ mu_tb) : mu_Sim own cc mx rt nm lg pc (s_sat (pc + 3)) := by
  refine ⟨fun L st G I => ⟨fun fr G1 I1 h => ?_, fun g fr G1 I1 h hg => ?_⟩, ?_⟩
  · unfold s_sat at h; (try split at h) <;> (try split at h) <;> (try split at h) <;> first | (cases h; done) | (cases h; exact ⟨Int.le_refl _, Int.le_refl _⟩) | (obtain ⟨-, h⟩ := mu_bif h; cases h; done) | (obtain ⟨-, h⟩ := mu_bif h; cases h; exact ⟨Int.le_refl _, Int.le_refl _⟩)
  · unfold s_sat at h; (try split at h) <;> (try split at h) <;> (try split at h) <;> first | (cases h; done) | (cases h; exact ⟨Int.le_refl _, Int.le_refl _⟩) | (obtain ⟨-, h⟩ := mu_bif h; cases h; done) | (obtain ⟨-, h⟩ := mu_bif h; cases h; exact ⟨Int.le_refl _, Int.le_refl _⟩)
  intro K p l e R s m args below meth c Q z0 u0 d C L st G I sr hs hok H locs ls hR hS hl hL hst hz hu
  unfold s_sat at hs
  split at hs
  · rename_i j a st1
    cases hb : Nat.ble (mu_len st1) 4 with
    | false => rw [hb] at hs; cases hs
    | true =>
    rw [hb] at hs
    cases hs
    obtain ⟨⟨g, j0, j1⟩, r1, r2, kk⟩ := hok
    have hts := C.2.2.2.2.1
    have hE := C.2.2.2.2.2.1
    have hd := C.2.2.2.2.2.2.2.2.2
    obtain ⟨i, hi, rfl, hn, hv⟩ := mu_text hR g
    rw [hn] at j1
    rw [hv j] at kk
    have h6 := jf_7 i hi
    have h5 := jf_5 i hi j.toNat (by unfold jL at j1; omega)
    show W p l e R s m args below meth c H locs _ _ Q (F0 m pc ls (.int (Int32.ofInt j) :: mu_rv K (-10 - (i : Int)) :: st1.map (mu_cv K)))
    rw [jm_rv]
    refine jm_callV (vs := [.int (Int32.ofInt j)]) (rest := st1.map (mu_cv K)) C.1 C.2.1 (by rw [C.2.2.1]; exact hl.1.symm) C.2.2.2.1 hts hE hS (vk_recv (jt hE) hi hS) (jm_at hi j0 j1) (by omega) (by omega) (by decide) hw jw_384 jw_88 jw_386 jw_385 (n := 1) (by decide +kernel) rfl (mu_sum hb) r1 r2 h (fun locs1 hS1 => ?_)
    exact kk H locs1 ls hR hS1 hl hL (mu_okc (v := (0, (mu_str i).getD j.toNat 0)) ⟨by omega, by omega⟩ (mu_okt (mu_okt hst))) hz hu
  · cases hs
theorem jx_rng {i : Nat} {x : Int} : ∀ (n : Nat) (k : Int), -1 ≤ k → k + n ≤ 100 → -1 ≤ jx i x n k ∧ jx i x n k ≤ 100 := by
  intro n
  induction n with
  | zero => intro k _ _; exact ⟨Int.le_refl _, by show (-1 : Int) ≤ 100; decide⟩
  | succ n ih =>
    intro k hk hn
    have e : jx i x (n + 1) k = if (mu_str i).getD k.toNat 0 = x then k else jx i x n (k + 1) := rfl
    rw [e]
    split
    · omega
    · exact ih (k + 1) (by omega) (by omega)
theorem sim_six {own nm : String} {cc : ByteArray} {mx pc : Nat} {rt : Option FieldType} {lg : Bool} {ix : Nat} (h : decode cc pc = .ok (.invokevirtual ix, 3)) (hw : Cond.methodLink own ix ⟨"java/lang/String", "indexOf", "(I)I"⟩ ∈ mu_tb) : mu_Sim own cc mx rt nm lg pc (s_six (pc + 3)) := by
  refine ⟨fun L st G I => ⟨fun fr G1 I1 h => ?_, fun g fr G1 I1 h hg => ?_⟩, ?_⟩
  · unfold s_six at h; (try split at h) <;> (try split at h) <;> (try split at h) <;> first | (cases h; done) | (cases h; exact ⟨Int.le_refl _, Int.le_refl _⟩) | (obtain ⟨-, h⟩ := mu_bif h; cases h; done) | (obtain ⟨-, h⟩ := mu_bif h; cases h; exact ⟨Int.le_refl _, Int.le_refl _⟩)
  · unfold s_six at h; (try split at h) <;> (try split at h) <;> (try split at h) <;> first | (cases h; done) | (cases h; exact ⟨Int.le_refl _, Int.le_refl _⟩) | (obtain ⟨-, h⟩ := mu_bif h; cases h; done) | (obtain ⟨-, h⟩ := mu_bif h; cases h; exact ⟨Int.le_refl _, Int.le_refl _⟩)
  intro K p l e R s m args below meth c Q z0 u0 d C L st G I sr hs hok H locs ls hR hS hl hL hst hz hu
  unfold s_six at hs
  split at hs
  · rename_i x a st1
    cases hb : Nat.ble (mu_len st1) 4 with
    | false => rw [hb] at hs; cases hs
    | true =>
    rw [hb] at hs
    cases hs
    obtain ⟨g, r1, r2, kk⟩ := hok
    have hts := C.2.2.2.2.1
    have hE := C.2.2.2.2.2.1
    have hd := C.2.2.2.2.2.2.2.2.2
    obtain ⟨i, hi, rfl, hn, hv⟩ := mu_text hR g
    have ox := mu_okh hst
    have h6 := jf_7 i hi
    have e1 : mu_ixF (I (-10 - (i : Int))) x (sh G (-10 - (i : Int))).2.toNat 0 = jx i x (mu_str i).length 0 := by
      rw [hn, show I (-10 - (i : Int)) = (fun j => (mu_str i).getD j.toNat 0) from funext hv]
      rfl
    rw [e1] at kk
    have hg := jx_rng (i := i) (x := x) (mu_str i).length 0 (by decide) (by have := (jf_3 i hi).2.1; omega)
    show W p l e R s m args below meth c H locs _ _ Q (F0 m pc ls (.int (Int32.ofInt x) :: mu_rv K (-10 - (i : Int)) :: st1.map (mu_cv K)))
    rw [jm_rv]
    refine jm_callV (vs := [.int (Int32.ofInt x)]) (rest := st1.map (mu_cv K)) C.1 C.2.1 (by rw [C.2.2.1]; exact hl.1.symm) C.2.2.2.1 hts hE hS (vk_recv (jt hE) hi hS) (jm_io1 hi ox.1 ox.2) (by omega) (by omega) (by decide) hw jw_450 jw_88 jw_452 jw_451 (n := 1) (by decide +kernel) rfl (mu_sum hb) r1 r2 h (fun locs1 hS1 => ?_)
    exact kk H locs1 ls hR hS1 hl hL (mu_okc (v := (0, jx i x (mu_str i).length 0)) ⟨by omega, by omega⟩ (mu_okt (mu_okt hst))) hz hu
  · cases hs

