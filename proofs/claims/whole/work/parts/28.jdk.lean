theorem dJ0_length_8abf5_0 : decode cJ0_length_8abf5 0 = .ok (.aload_n 0, 1) := by decide +kernel
theorem dJ0_length_8abf5_1 : decode cJ0_length_8abf5 1 = .ok (.getfield 9, 3) := by decide +kernel
theorem dJ0_length_8abf5_4 : decode cJ0_length_8abf5 4 = .ok (.arraylength, 1) := by decide +kernel
theorem dJ0_length_8abf5_5 : decode cJ0_length_8abf5 5 = .ok (.aload_n 0, 1) := by decide +kernel
theorem dJ0_length_8abf5_6 : decode cJ0_length_8abf5 6 = .ok (.invokevirtual 335, 3) := by decide +kernel
theorem dJ0_length_8abf5_9 : decode cJ0_length_8abf5 9 = .ok (.ishr, 1) := by decide +kernel
theorem dJ0_length_8abf5_10 : decode cJ0_length_8abf5 10 = .ok (.ireturn, 1) := by decide +kernel
theorem dJ0_charAt_5068e_0 : decode cJ0_charAt_5068e 0 = .ok (.aload_n 0, 1) := by decide +kernel
theorem dJ0_charAt_5068e_1 : decode cJ0_charAt_5068e 1 = .ok (.invokevirtual 492, 3) := by decide +kernel
theorem dJ0_charAt_5068e_4 : decode cJ0_charAt_5068e 4 = .ok (.ifCond .eq 12, 3) := by decide +kernel
theorem dJ0_charAt_5068e_7 : decode cJ0_charAt_5068e 7 = .ok (.aload_n 0, 1) := by decide +kernel
theorem dJ0_charAt_5068e_8 : decode cJ0_charAt_5068e 8 = .ok (.getfield 9, 3) := by decide +kernel
theorem dJ0_charAt_5068e_11 : decode cJ0_charAt_5068e 11 = .ok (.iload_n 1, 1) := by decide +kernel
theorem dJ0_charAt_5068e_12 : decode cJ0_charAt_5068e 12 = .ok (.invokestatic 495, 3) := by decide +kernel
theorem dJ0_charAt_5068e_15 : decode cJ0_charAt_5068e 15 = .ok (.ireturn, 1) := by decide +kernel
theorem dJ0_charAt_5068e_16 : decode cJ0_charAt_5068e 16 = .ok (.aload_n 0, 1) := by decide +kernel
theorem dJ0_charAt_5068e_17 : decode cJ0_charAt_5068e 17 = .ok (.getfield 9, 3) := by decide +kernel
theorem dJ0_charAt_5068e_20 : decode cJ0_charAt_5068e 20 = .ok (.iload_n 1, 1) := by decide +kernel
theorem dJ0_charAt_5068e_21 : decode cJ0_charAt_5068e 21 = .ok (.invokestatic 498, 3) := by decide +kernel
theorem dJ0_charAt_5068e_24 : decode cJ0_charAt_5068e 24 = .ok (.ireturn, 1) := by decide +kernel
theorem dJ0_indexOf_0f7a4_0 : decode cJ0_indexOf_0f7a4 0 = .ok (.aload_n 0, 1) := by decide +kernel
theorem dJ0_indexOf_0f7a4_1 : decode cJ0_indexOf_0f7a4 1 = .ok (.iload_n 1, 1) := by decide +kernel
theorem dJ0_indexOf_0f7a4_2 : decode cJ0_indexOf_0f7a4 2 = .ok (.iconst 0, 1) := by decide +kernel
theorem dJ0_indexOf_0f7a4_3 : decode cJ0_indexOf_0f7a4 3 = .ok (.invokevirtual 633, 3) := by decide +kernel
theorem dJ0_indexOf_0f7a4_6 : decode cJ0_indexOf_0f7a4 6 = .ok (.ireturn, 1) := by decide +kernel
theorem dJ0_indexOf_7cf53_0 : decode cJ0_indexOf_7cf53 0 = .ok (.aload_n 0, 1) := by decide +kernel
theorem dJ0_indexOf_7cf53_1 : decode cJ0_indexOf_7cf53 1 = .ok (.invokevirtual 492, 3) := by decide +kernel
theorem dJ0_indexOf_7cf53_4 : decode cJ0_indexOf_7cf53 4 = .ok (.ifCond .eq 19, 3) := by decide +kernel
theorem dJ0_indexOf_7cf53_7 : decode cJ0_indexOf_7cf53 7 = .ok (.aload_n 0, 1) := by decide +kernel
theorem dJ0_indexOf_7cf53_8 : decode cJ0_indexOf_7cf53 8 = .ok (.getfield 9, 3) := by decide +kernel
theorem dJ0_indexOf_7cf53_11 : decode cJ0_indexOf_7cf53 11 = .ok (.iload_n 1, 1) := by decide +kernel
theorem dJ0_indexOf_7cf53_12 : decode cJ0_indexOf_7cf53 12 = .ok (.iload_n 2, 1) := by decide +kernel
theorem dJ0_indexOf_7cf53_13 : decode cJ0_indexOf_7cf53 13 = .ok (.aload_n 0, 1) := by decide +kernel
theorem dJ0_indexOf_7cf53_14 : decode cJ0_indexOf_7cf53 14 = .ok (.invokevirtual 505, 3) := by decide +kernel
theorem dJ0_indexOf_7cf53_17 : decode cJ0_indexOf_7cf53 17 = .ok (.invokestatic 637, 3) := by decide +kernel
theorem dJ0_indexOf_7cf53_20 : decode cJ0_indexOf_7cf53 20 = .ok (.goto 16, 3) := by decide +kernel
theorem dJ0_indexOf_7cf53_23 : decode cJ0_indexOf_7cf53 23 = .ok (.aload_n 0, 1) := by decide +kernel
theorem dJ0_indexOf_7cf53_24 : decode cJ0_indexOf_7cf53 24 = .ok (.getfield 9, 3) := by decide +kernel
theorem dJ0_indexOf_7cf53_27 : decode cJ0_indexOf_7cf53 27 = .ok (.iload_n 1, 1) := by decide +kernel
theorem dJ0_indexOf_7cf53_28 : decode cJ0_indexOf_7cf53 28 = .ok (.iload_n 2, 1) := by decide +kernel
theorem dJ0_indexOf_7cf53_29 : decode cJ0_indexOf_7cf53 29 = .ok (.aload_n 0, 1) := by decide +kernel
theorem dJ0_indexOf_7cf53_30 : decode cJ0_indexOf_7cf53 30 = .ok (.invokevirtual 505, 3) := by decide +kernel
theorem dJ0_indexOf_7cf53_33 : decode cJ0_indexOf_7cf53 33 = .ok (.invokestatic 640, 3) := by decide +kernel
theorem dJ0_indexOf_7cf53_36 : decode cJ0_indexOf_7cf53 36 = .ok (.ireturn, 1) := by decide +kernel
theorem dJ0_coder_7d493_0 : decode cJ0_coder_7d493 0 = .ok (.getstatic 38, 3) := by decide +kernel
theorem dJ0_coder_7d493_3 : decode cJ0_coder_7d493 3 = .ok (.ifCond .eq 10, 3) := by decide +kernel
theorem dJ0_coder_7d493_6 : decode cJ0_coder_7d493 6 = .ok (.aload_n 0, 1) := by decide +kernel
theorem dJ0_coder_7d493_7 : decode cJ0_coder_7d493 7 = .ok (.getfield 15, 3) := by decide +kernel
theorem dJ0_coder_7d493_10 : decode cJ0_coder_7d493 10 = .ok (.goto 4, 3) := by decide +kernel
theorem dJ0_coder_7d493_13 : decode cJ0_coder_7d493 13 = .ok (.iconst 1, 1) := by decide +kernel
theorem dJ0_coder_7d493_14 : decode cJ0_coder_7d493 14 = .ok (.ireturn, 1) := by decide +kernel
theorem dJ0_isLatin1_aae02_0 : decode cJ0_isLatin1_aae02 0 = .ok (.getstatic 38, 3) := by decide +kernel
theorem dJ0_isLatin1_aae02_3 : decode cJ0_isLatin1_aae02 3 = .ok (.ifCond .eq 14, 3) := by decide +kernel
theorem dJ0_isLatin1_aae02_6 : decode cJ0_isLatin1_aae02 6 = .ok (.aload_n 0, 1) := by decide +kernel
theorem dJ0_isLatin1_aae02_7 : decode cJ0_isLatin1_aae02 7 = .ok (.getfield 15, 3) := by decide +kernel
theorem dJ0_isLatin1_aae02_10 : decode cJ0_isLatin1_aae02 10 = .ok (.ifCond .ne 7, 3) := by decide +kernel
theorem dJ0_isLatin1_aae02_13 : decode cJ0_isLatin1_aae02 13 = .ok (.iconst 1, 1) := by decide +kernel
theorem dJ0_isLatin1_aae02_14 : decode cJ0_isLatin1_aae02 14 = .ok (.goto 4, 3) := by decide +kernel
theorem dJ0_isLatin1_aae02_17 : decode cJ0_isLatin1_aae02 17 = .ok (.iconst 0, 1) := by decide +kernel
theorem dJ0_isLatin1_aae02_18 : decode cJ0_isLatin1_aae02 18 = .ok (.ireturn, 1) := by decide +kernel
theorem dJ0_checkIndex_df160_0 : decode cJ0_checkIndex_df160 0 = .ok (.iload_n 0, 1) := by decide +kernel
theorem dJ0_checkIndex_df160_1 : decode cJ0_checkIndex_df160 1 = .ok (.iload_n 1, 1) := by decide +kernel
theorem dJ0_checkIndex_df160_2 : decode cJ0_checkIndex_df160 2 = .ok (.getstatic 1053, 3) := by decide +kernel
theorem dJ0_checkIndex_df160_5 : decode cJ0_checkIndex_df160 5 = .ok (.invokestatic 1059, 3) := by decide +kernel
theorem dJ0_checkIndex_df160_8 : decode cJ0_checkIndex_df160 8 = .ok (.pop, 1) := by decide +kernel
theorem dJ0_checkIndex_df160_9 : decode cJ0_checkIndex_df160 9 = .ok (.return_, 1) := by decide +kernel
theorem dJ1_charAt_3b067_0 : decode cJ1_charAt_3b067 0 = .ok (.iload_n 1, 1) := by decide +kernel
theorem dJ1_charAt_3b067_1 : decode cJ1_charAt_3b067 1 = .ok (.aload_n 0, 1) := by decide +kernel
theorem dJ1_charAt_3b067_2 : decode cJ1_charAt_3b067 2 = .ok (.arraylength, 1) := by decide +kernel
theorem dJ1_charAt_3b067_3 : decode cJ1_charAt_3b067 3 = .ok (.invokestatic 9, 3) := by decide +kernel
theorem dJ1_charAt_3b067_6 : decode cJ1_charAt_3b067 6 = .ok (.aload_n 0, 1) := by decide +kernel
theorem dJ1_charAt_3b067_7 : decode cJ1_charAt_3b067 7 = .ok (.iload_n 1, 1) := by decide +kernel
theorem dJ1_charAt_3b067_8 : decode cJ1_charAt_3b067 8 = .ok (.baload, 1) := by decide +kernel
theorem dJ1_charAt_3b067_9 : decode cJ1_charAt_3b067 9 = .ok (.sipush 255, 3) := by decide +kernel
theorem dJ1_charAt_3b067_12 : decode cJ1_charAt_3b067 12 = .ok (.iand, 1) := by decide +kernel
theorem dJ1_charAt_3b067_13 : decode cJ1_charAt_3b067 13 = .ok (.i2c, 1) := by decide +kernel
theorem dJ1_charAt_3b067_14 : decode cJ1_charAt_3b067 14 = .ok (.ireturn, 1) := by decide +kernel
theorem dJ1_canEncode_9a6ad_0 : decode cJ1_canEncode_9a6ad 0 = .ok (.iload_n 0, 1) := by decide +kernel
theorem dJ1_canEncode_9a6ad_1 : decode cJ1_canEncode_9a6ad 1 = .ok (.ifCond .lt 14, 3) := by decide +kernel
theorem dJ1_canEncode_9a6ad_4 : decode cJ1_canEncode_9a6ad 4 = .ok (.iload_n 0, 1) := by decide +kernel
theorem dJ1_canEncode_9a6ad_5 : decode cJ1_canEncode_9a6ad 5 = .ok (.sipush 255, 3) := by decide +kernel
theorem dJ1_canEncode_9a6ad_8 : decode cJ1_canEncode_9a6ad 8 = .ok (.if_icmp .gt 7, 3) := by decide +kernel
theorem dJ1_canEncode_9a6ad_11 : decode cJ1_canEncode_9a6ad 11 = .ok (.iconst 1, 1) := by decide +kernel
theorem dJ1_canEncode_9a6ad_12 : decode cJ1_canEncode_9a6ad 12 = .ok (.goto 4, 3) := by decide +kernel
theorem dJ1_canEncode_9a6ad_15 : decode cJ1_canEncode_9a6ad 15 = .ok (.iconst 0, 1) := by decide +kernel
theorem dJ1_canEncode_9a6ad_16 : decode cJ1_canEncode_9a6ad 16 = .ok (.ireturn, 1) := by decide +kernel
theorem dJ1_indexOf_4cfef_0 : decode cJ1_indexOf_4cfef 0 = .ok (.iload_n 1, 1) := by decide +kernel
theorem dJ1_indexOf_4cfef_1 : decode cJ1_indexOf_4cfef 1 = .ok (.invokestatic 88, 3) := by decide +kernel
theorem dJ1_indexOf_4cfef_4 : decode cJ1_indexOf_4cfef 4 = .ok (.ifCond .ne 5, 3) := by decide +kernel
theorem dJ1_indexOf_4cfef_7 : decode cJ1_indexOf_4cfef 7 = .ok (.iconst (-1), 1) := by decide +kernel
theorem dJ1_indexOf_4cfef_8 : decode cJ1_indexOf_4cfef 8 = .ok (.ireturn, 1) := by decide +kernel
theorem dJ1_indexOf_4cfef_9 : decode cJ1_indexOf_4cfef 9 = .ok (.iload_n 2, 1) := by decide +kernel
theorem dJ1_indexOf_4cfef_10 : decode cJ1_indexOf_4cfef 10 = .ok (.iconst 0, 1) := by decide +kernel
theorem dJ1_indexOf_4cfef_11 : decode cJ1_indexOf_4cfef 11 = .ok (.invokestatic 92, 3) := by decide +kernel
theorem dJ1_indexOf_4cfef_14 : decode cJ1_indexOf_4cfef 14 = .ok (.istore_n 2, 1) := by decide +kernel
theorem dJ1_indexOf_4cfef_15 : decode cJ1_indexOf_4cfef 15 = .ok (.iload_n 3, 1) := by decide +kernel
theorem dJ1_indexOf_4cfef_16 : decode cJ1_indexOf_4cfef 16 = .ok (.aload_n 0, 1) := by decide +kernel
theorem dJ1_indexOf_4cfef_17 : decode cJ1_indexOf_4cfef 17 = .ok (.arraylength, 1) := by decide +kernel
theorem dJ1_indexOf_4cfef_18 : decode cJ1_indexOf_4cfef 18 = .ok (.invokestatic 38, 3) := by decide +kernel
theorem dJ1_indexOf_4cfef_21 : decode cJ1_indexOf_4cfef 21 = .ok (.istore_n 3, 1) := by decide +kernel
theorem dJ1_indexOf_4cfef_22 : decode cJ1_indexOf_4cfef 22 = .ok (.iload_n 2, 1) := by decide +kernel
theorem dJ1_indexOf_4cfef_23 : decode cJ1_indexOf_4cfef 23 = .ok (.iload_n 3, 1) := by decide +kernel
theorem dJ1_indexOf_4cfef_24 : decode cJ1_indexOf_4cfef 24 = .ok (.if_icmp .lt 5, 3) := by decide +kernel
theorem dJ1_indexOf_4cfef_27 : decode cJ1_indexOf_4cfef 27 = .ok (.iconst (-1), 1) := by decide +kernel
theorem dJ1_indexOf_4cfef_28 : decode cJ1_indexOf_4cfef 28 = .ok (.ireturn, 1) := by decide +kernel
theorem dJ1_indexOf_4cfef_29 : decode cJ1_indexOf_4cfef 29 = .ok (.aload_n 0, 1) := by decide +kernel
theorem dJ1_indexOf_4cfef_30 : decode cJ1_indexOf_4cfef 30 = .ok (.iload_n 1, 1) := by decide +kernel
theorem dJ1_indexOf_4cfef_31 : decode cJ1_indexOf_4cfef 31 = .ok (.iload_n 2, 1) := by decide +kernel
theorem dJ1_indexOf_4cfef_32 : decode cJ1_indexOf_4cfef 32 = .ok (.iload_n 3, 1) := by decide +kernel
theorem dJ1_indexOf_4cfef_33 : decode cJ1_indexOf_4cfef 33 = .ok (.invokestatic 95, 3) := by decide +kernel
theorem dJ1_indexOf_4cfef_36 : decode cJ1_indexOf_4cfef 36 = .ok (.ireturn, 1) := by decide +kernel
theorem dJ1_indexOfChar_4cfef_0 : decode cJ1_indexOfChar_4cfef 0 = .ok (.iload_n 1, 1) := by decide +kernel
theorem dJ1_indexOfChar_4cfef_1 : decode cJ1_indexOfChar_4cfef 1 = .ok (.i2b, 1) := by decide +kernel
theorem dJ1_indexOfChar_4cfef_2 : decode cJ1_indexOfChar_4cfef 2 = .ok (.istore 4, 2) := by decide +kernel
theorem dJ1_indexOfChar_4cfef_4 : decode cJ1_indexOfChar_4cfef 4 = .ok (.iload_n 2, 1) := by decide +kernel
theorem dJ1_indexOfChar_4cfef_5 : decode cJ1_indexOfChar_4cfef 5 = .ok (.istore 5, 2) := by decide +kernel
theorem dJ1_indexOfChar_4cfef_7 : decode cJ1_indexOfChar_4cfef 7 = .ok (.iload 5, 2) := by decide +kernel
theorem dJ1_indexOfChar_4cfef_9 : decode cJ1_indexOfChar_4cfef 9 = .ok (.iload_n 3, 1) := by decide +kernel
theorem dJ1_indexOfChar_4cfef_10 : decode cJ1_indexOfChar_4cfef 10 = .ok (.if_icmp .ge 21, 3) := by decide +kernel
theorem dJ1_indexOfChar_4cfef_13 : decode cJ1_indexOfChar_4cfef 13 = .ok (.aload_n 0, 1) := by decide +kernel
theorem dJ1_indexOfChar_4cfef_14 : decode cJ1_indexOfChar_4cfef 14 = .ok (.iload 5, 2) := by decide +kernel
theorem dJ1_indexOfChar_4cfef_16 : decode cJ1_indexOfChar_4cfef 16 = .ok (.baload, 1) := by decide +kernel
theorem dJ1_indexOfChar_4cfef_17 : decode cJ1_indexOfChar_4cfef 17 = .ok (.iload 4, 2) := by decide +kernel
theorem dJ1_indexOfChar_4cfef_19 : decode cJ1_indexOfChar_4cfef 19 = .ok (.if_icmp .ne 6, 3) := by decide +kernel
theorem dJ1_indexOfChar_4cfef_22 : decode cJ1_indexOfChar_4cfef 22 = .ok (.iload 5, 2) := by decide +kernel
theorem dJ1_indexOfChar_4cfef_24 : decode cJ1_indexOfChar_4cfef 24 = .ok (.ireturn, 1) := by decide +kernel
theorem dJ1_indexOfChar_4cfef_25 : decode cJ1_indexOfChar_4cfef 25 = .ok (.iinc 5 1, 3) := by decide +kernel
theorem dJ1_indexOfChar_4cfef_28 : decode cJ1_indexOfChar_4cfef 28 = .ok (.goto (-21), 3) := by decide +kernel
theorem dJ1_indexOfChar_4cfef_31 : decode cJ1_indexOfChar_4cfef 31 = .ok (.iconst (-1), 1) := by decide +kernel
theorem dJ1_indexOfChar_4cfef_32 : decode cJ1_indexOfChar_4cfef 32 = .ok (.ireturn, 1) := by decide +kernel
theorem dJ3_checkIndex_8e157_0 : decode cJ3_checkIndex_8e157 0 = .ok (.iload_n 0, 1) := by decide +kernel
theorem dJ3_checkIndex_8e157_1 : decode cJ3_checkIndex_8e157 1 = .ok (.ifCond .lt 8, 3) := by decide +kernel
theorem dJ3_checkIndex_8e157_4 : decode cJ3_checkIndex_8e157 4 = .ok (.iload_n 0, 1) := by decide +kernel
theorem dJ3_checkIndex_8e157_5 : decode cJ3_checkIndex_8e157 5 = .ok (.iload_n 1, 1) := by decide +kernel
theorem dJ3_checkIndex_8e157_6 : decode cJ3_checkIndex_8e157 6 = .ok (.if_icmp .lt 10, 3) := by decide +kernel
theorem dJ3_checkIndex_8e157_9 : decode cJ3_checkIndex_8e157 9 = .ok (.aload_n 2, 1) := by decide +kernel
theorem dJ3_checkIndex_8e157_10 : decode cJ3_checkIndex_8e157 10 = .ok (.iload_n 0, 1) := by decide +kernel
theorem dJ3_checkIndex_8e157_11 : decode cJ3_checkIndex_8e157 11 = .ok (.iload_n 1, 1) := by decide +kernel
theorem dJ3_checkIndex_8e157_12 : decode cJ3_checkIndex_8e157 12 = .ok (.invokestatic 95, 3) := by decide +kernel
theorem dJ3_checkIndex_8e157_15 : decode cJ3_checkIndex_8e157 15 = .ok (.athrow, 1) := by decide +kernel
theorem dJ3_checkIndex_8e157_16 : decode cJ3_checkIndex_8e157 16 = .ok (.iload_n 0, 1) := by decide +kernel
theorem dJ3_checkIndex_8e157_17 : decode cJ3_checkIndex_8e157 17 = .ok (.ireturn, 1) := by decide +kernel
theorem js_value : Cond.fieldLink RJ0 9 "java/lang/String" "value" "[B" ∈ GW := gw 8 213 (by decide +kernel)
theorem js_coder : Cond.fieldLink RJ0 15 "java/lang/String" "coder" "B" ∈ GW := gw 8 214 (by decide +kernel)
theorem js_comp : Cond.fieldLink RJ0 38 "java/lang/String" "COMPACT_STRINGS" "Z" ∈ GW := gw 3 152 (by decide +kernel)
theorem js_fmt : Cond.fieldLink RJ0 1053 "jdk/internal/util/Preconditions" "SIOOBE_FORMATTER" "Ljava/util/function/BiFunction;" ∈ GW := gw 3 168 (by decide +kernel)
abbrev vTx (en : En) (s : Nat) : Value := .ref (en.2.2.2.1 s)
abbrev vB (en : En) (s : Nat) : Value := .ref (en.2.2.2.2 s)
abbrev CtX (l : Launch) (en : En) (y : MethodName) (cc : ByteArray) (nL f q : Nat) (As : List Value) (μ : Mem) (ret : FieldType) (r : Int) : Prop := Tr l en y cc nL (rmN f q) As nCells μ (some ret, some (vI r), nCells, μ, 0, 0, True)
theorem lok_R {L : Lo} {i a : Nat} (h : L i = some (Value.ref a)) : lok L i (Value.ref a) := ⟨h, (fun q => by cases q), (fun q => by simp [Value.category] at q)⟩
section JDK
variable {ini : Bool} {res : Option Rs} {l : Launch} {en : En} {cc : ByteArray} {own : String} {nL : Nat} {R : Room} {K : KT} {z : Zt} {pc i s : Nat} {L : Lo} {st stk : List Value} {μ : Mem}
theorem j_aload (Ra : Ru ini res l en cc own nL R K) {k : Fin 4} {a : Nat} (hd : decode cc pc = .ok (.aload_n k, 1)) (hi : (k : Nat) = i) (hv : L i = some (.ref a)) (kk : K z (pc + 1) L (.ref a :: st) μ) : K z pc L st μ := by
  obtain ⟨p, e, s, m, args, below, meth, c, Q, hx, hb, hml, hown, hts, hTB, hA, hni, hres, rfl⟩ := Ra
  intro H locs ls hP hS hl
  exact lv_aload_n hx hb hd hi (hl.2.2 _ _ (lok_R hv)) (kk H locs ls hP hS hl)
theorem j_value (Ra : Ru ini res l en cc RJ0 nL R K) (hs : s < 2) (hd : decode cc pc = .ok (.getfield 9, 3)) (kk : K z (pc + 3) L (vB en s :: st) μ) : K z pc L (vTx en s :: st) μ := by
  obtain ⟨p, e, s9, m, args, below, meth, c, Q, hx, hb, hml, hown, hts, hTB, hA, hni, hres, rfl⟩ := Ra
  intro H locs ls hP hS hl
  exact vk_getf hx hb (hTB.2.2.2.2.2.1.1 s hs).2.2.1 hS hown (hts _ js_value) (fun _ h => h) hd (kk H locs ls hP hS hl)
theorem j_coder (Ra : Ru ini res l en cc RJ0 nL R K) (hs : s < 2) (hd : decode cc pc = .ok (.getfield 15, 3)) (kk : K z (pc + 3) L (vI 0 :: st) μ) : K z pc L (vTx en s :: st) μ := by
  obtain ⟨p, e, s9, m, args, below, meth, c, Q, hx, hb, hml, hown, hts, hTB, hA, hni, hres, rfl⟩ := Ra
  intro H locs ls hP hS hl
  exact vk_getf hx hb (hTB.2.2.2.2.2.1.1 s hs).2.1 hS hown (hts _ js_coder) (fun _ h => h) hd (kk H locs ls hP hS hl)
theorem j_comp (Ra : Ru ini res l en cc RJ0 nL R K) (hd : decode cc pc = .ok (.getstatic 38, 3)) (kk : K z (pc + 3) L (vI 1 :: st) μ) : K z pc L st μ := by
  obtain ⟨p, e, s9, m, args, below, meth, c, Q, hx, hb, hml, hown, hts, hTB, hA, hni, hres, rfl⟩ := Ra
  intro H locs ls hP hS hl
  exact va_gets hx hb hTB.2.2.2.2.2.2.1 hS hown (hts _ js_comp) (fun _ h => h) hd (kk H locs ls hP hS hl)
theorem j_fmt (Ra : Ru ini res l en cc RJ0 nL R K) (hd : decode cc pc = .ok (.getstatic 1053, 3)) (kk : ∀ v : Value, (v = .null ∨ ∃ a : Nat, v = .ref a) → K z (pc + 3) L (v :: st) μ) : K z pc L st μ := by
  obtain ⟨p, e, s9, m, args, below, meth, c, Q, hx, hb, hml, hown, hts, hTB, hA, hni, hres, rfl⟩ := Ra
  intro H locs ls hP hS hl
  rcases hTB.2.2.2.2.2.2.2 with h | ⟨t, h⟩
  · exact va_gets hx hb h hS hown (hts _ js_fmt) (fun _ h => h) hd (kk _ (Or.inl rfl) H locs ls hP hS hl)
  · exact va_gets hx hb h hS hown (hts _ js_fmt) (fun _ h => h) hd (kk _ (Or.inr ⟨t, rfl⟩) H locs ls hP hS hl)
theorem j_blen (Ra : Ru ini res l en cc own nL R K) (hs : s < 2) (hd : decode cc pc = .ok (.arraylength, 1)) (kk : K z (pc + 1) L (vI ((txLen.getD s 0 : Nat) : Int) :: st) μ) : K z pc L (vB en s :: st) μ := by
  obtain ⟨p, e, s9, m, args, below, meth, c, Q, hx, hb, hml, hown, hts, hTB, hA, hni, hres, rfl⟩ := Ra
  intro H locs ls hP hS hl
  exact va_tlen hx hb (hTB.2.2.2.2.2.1.1 s hs).2.2.2 hS Int32.ofInt_eq_ofNat.symm hd (kk H locs ls hP hS hl)
theorem tx_small {s : Nat} : txLen.getD s 0 ≤ 109 := by
  unfold txLen
  match s with
  | 0 => decide
  | 1 => decide
  | s + 2 => show (0 : Nat) ≤ 109; decide
theorem j_bald (Ra : Ru ini res l en cc own nL R K) {k : Int} (hs : s < 2) (hk : 0 ≤ k ∧ k < ((txLen.getD s 0 : Nat) : Int)) (hd : decode cc pc = .ok (.baload, 1)) (kk : K z (pc + 1) L (vI (txc s k) :: st) μ) : K z pc L (vI k :: vB en s :: st) μ := by
  obtain ⟨p, e, s9, m, args, below, meth, c, Q, hx, hb, hml, hown, hts, hTB, hA, hni, hres, rfl⟩ := Ra
  intro H locs ls hP hS hl
  have h9 := tx_small (s := s)
  have hi : (Int32.ofInt k).toNatClampNeg = k.toNat := idx_eq hk.1 (by omega)
  refine va_tb hx hb (hTB.2.2.2.2.2.1.1 s hs).2.2.2 hS (i := Int32.ofInt k) (v := vI (txc s k)) ?_ ?_ hd (kk H locs ls hP hS hl)
  · rintro (h | h)
    · have := (lt32 (x := k) (y := 0) ⟨by omega, by omega⟩ ⟨by decide, by decide⟩).mp h
      omega
    · rw [hi] at h
      omega
  · rw [hi]
    show Value.int _ = Value.int (Int32.ofInt (txc s k))
    unfold txc
    rw [of32]
theorem j_ret {x : Int} {fty : FieldType} {cnt mc ms : Nat} (Ra : Ru ini (some (some fty, some (vI x), cnt, μ, mc, ms, True)) l en cc own nL R K) (hn : narrow fty (vI x) = vI x) (hd : decode cc pc = .ok (.ireturn, 1)) : K (cnt, mc, ms) pc L [vI x] μ := by
  obtain ⟨p, e, s, m, args, below, meth, c, Q, hx, hb, hml, hown, hts, hTB, hA, hni, hres, rfl⟩ := Ra
  obtain ⟨hr, hlocks, rfl⟩ := hres _ rfl
  intro H locs ls hP hS hl
  exact W.zret hx hb hr hn (fun t ht hW => ⟨⟨⟨rfl, trivial⟩, by rw [ht]; exact hP⟩, hS.F ht⟩) hS.2.2 hd
theorem j_callV {y : MethodName} {ccY : ByteArray} {nLY n : Nat} {rmY : Room} {As : List Value} {ρ : Rs} (Ra : Ru ini res l en cc own nL R K) (hs : s < 2) (hM : Tr l en y ccY nLY rmY (vTx en s :: As) z.1 μ ρ) (hw : Mw y ccY nLY ρ.1 n) (hi : Mi y) (hC : y.cls = "java/lang/String") (hn : As.length = n) (hstk : stk = As.reverse ++ vTx en s :: st) (hlk : Cond.methodLink own i y ∈ GW) (hrm : rmY.cells = ρ.2.2.2.2.1 ∧ rmY.slots = ρ.2.2.2.2.2.1 ∧ rmY.frames + 1 ≤ R.frames ∧ 8 + (nLY + 11) + rmY.locals ≤ R.locals) (hf : z.2.1 + ρ.2.2.2.2.1 ≤ R.cells ∧ z.2.2 + ρ.2.2.2.2.2.1 ≤ R.slots) (hst : (st.map fun v => v.category).sum ≤ 8) (hd : decode cc pc = .ok (.invokevirtual i, 3)) (kk : ρ.2.2.2.2.2.2 → K (ρ.2.2.1, z.2.1 + ρ.2.2.2.2.1, z.2.2 + ρ.2.2.2.2.2.1) (pc + 3) L (ρ.2.1.toList ++ st) ρ.2.2.2.1) : K z pc L stk μ := by
  obtain ⟨p, e, s9, m, args, below, meth, c, Q, hx, hb, hml, hown, hts, hTB, hA, hni, hres, rfl⟩ := Ra
  intro H locs ls hP hS hl
  have hG : GoodIn GW (wsM y ccY nLY ρ.1) := gwIn hw.1 (fun x hx => hx)
  have cb := callB_of (own := own) (index := i) (args := args) (R := R) n hts hG rfl hrm.1 hrm.2.1 (hts _ hw.2.1) (hts _ hlk) ⟨hw.2.2.1, hw.2.2.2.1, hw.2.2.2.2⟩ ⟨hrm.2.2.1, hrm.2.2.2⟩
  have hPc : ∀ U : State, U.heap = H → s9.WarmedH U.vm → va_Pc (vTx en s :: As) (Pw en z.1 μ) (vTx en s :: As).toArray U := fun U hU hW => ⟨rfl, by rw [hU]; exact hP, hTB.warm hW hS hU⟩
  have hrecv : ∃ cell : Cell, H[en.2.2.2.1 s]? = some cell ∧ cell.vm.isStatics = false ∧ s9.vm.findClass y.cls = some cell.cls := by
    rw [hC]
    exact vk_recv hTB.2.2.2.2.2.1 hs hS
  have hrun := va_runV (As := As) (rest := st) (H := H) (locs := locs) (cells := z.2.1) (slots := z.2.2) (e := e) (below := below) (meth := meth) (g := F0 m pc ls stk) ⟨hx, hb, hml, hown, hts⟩ hM ⟨cb, hts _ hi.1, hts _ hi.2⟩ ⟨Pw.blind, hrecv, hPc⟩ rfl hn hl.1 hstk (lv_room hst) hd hf
  intro T hT X
  obtain ⟨v, st₀, t9, T', L9, h0, X', hL, e1, e2, ⟨⟨⟨hv, hok⟩, hWd⟩, hz, hk⟩, sp⟩ := hrun T hT X
  cases hv
  rw [h0] at hz hk
  have hS1 : va_S (eA en) s9.heap T'.heap (locs ++ L9) := ⟨Nat.le_trans hS.1 (by rw [e1]; exact hz), fun q h1 h2 => by rw [e1, hk q (Nat.lt_of_lt_of_le h1 hS.1) h2]; exact hS.2.1 q h1 h2, fun q hq => by
      rcases List.mem_append.mp hq with h | h
      · exact hS.2.2 q h
      · exact hL q h⟩
  obtain ⟨t2, a1, b1⟩ := kk hok T'.heap (locs ++ L9) ls (by rw [e1]; exact hWd) hS1 hl T' rfl X'
  exact ⟨t2, sp t2 a1, b1⟩
end JDK
theorem cj_coder {l : Launch} {en : En} {μ : Mem} {s : Nat} (hs : s < 2) : CtX l en yJ0_coder_7d493 cJ0_coder_7d493 1 0 0 [vTx en s] μ .byte 0 := by
  refine Tr.ofF false (fun h => by cases h) (by decide) (Nat.le_of_ble_eq_true rfl) (fun K Ra => ?_)
  refine j_comp Ra dJ0_coder_7d493_0 ?_
  refine r_if_eq Ra 13 dJ0_coder_7d493_3 ⟨by decide, by decide⟩ rfl (fun h => absurd h (by decide)) (fun _ => ?_)
  refine j_aload Ra (i := 0) dJ0_coder_7d493_6 rfl rfl ?_
  refine j_coder Ra hs dJ0_coder_7d493_7 ?_
  refine r_goto Ra 14 dJ0_coder_7d493_10 rfl ?_
  exact j_ret Ra rfl dJ0_coder_7d493_14
theorem cj_isLatin1 {l : Launch} {en : En} {μ : Mem} {s : Nat} (hs : s < 2) : CtX l en yJ0_isLatin1_aae02 cJ0_isLatin1_aae02 1 0 0 [vTx en s] μ .boolean 1 := by
  refine Tr.ofF false (fun h => by cases h) (by decide) (Nat.le_of_ble_eq_true rfl) (fun K Ra => ?_)
  refine j_comp Ra dJ0_isLatin1_aae02_0 ?_
  refine r_if_eq Ra 17 dJ0_isLatin1_aae02_3 ⟨by decide, by decide⟩ rfl (fun h => absurd h (by decide)) (fun _ => ?_)
  refine j_aload Ra (i := 0) dJ0_isLatin1_aae02_6 rfl rfl ?_
  refine j_coder Ra hs dJ0_isLatin1_aae02_7 ?_
  refine r_if_ne Ra 17 dJ0_isLatin1_aae02_10 ⟨by decide, by decide⟩ rfl (fun h => absurd rfl h) (fun _ => ?_)
  refine r_iconst Ra dJ0_isLatin1_aae02_13 ?_
  refine r_goto Ra 18 dJ0_isLatin1_aae02_14 rfl ?_
  exact j_ret Ra rfl dJ0_isLatin1_aae02_18
theorem shr_0 {x : Int} (h : inR x) : shr32 x 0 = x := by
  unfold shr32
  rw [show Int32.ofInt 0 &&& 31 = 0 from rfl]
  rw [show Int32.ofInt x >>> (0 : Int32) = Int32.ofInt x by simp]
  exact to32 h
theorem cj_length {l : Launch} {en : En} {μ : Mem} {s : Nat} (hs : s < 2) : CtX l en yJ0_length_8abf5 cJ0_length_8abf5 1 1 20 [vTx en s] μ .int ((txLen.getD s 0 : Nat) : Int) := by
  refine Tr.ofF false (fun h => by cases h) (by decide) (Nat.le_of_ble_eq_true rfl) (fun K Ra => ?_)
  have h9 := tx_small (s := s)
  refine j_aload Ra (i := 0) dJ0_length_8abf5_0 rfl rfl ?_
  refine j_value Ra hs dJ0_length_8abf5_1 ?_
  refine j_blen Ra hs dJ0_length_8abf5_4 ?_
  refine j_aload Ra (i := 0) dJ0_length_8abf5_5 rfl rfl ?_
  refine j_callV (z := ZN) (As := []) Ra hs (cj_coder hs) mw_J0_coder_7d493 mi_J0_coder_7d493 rfl rfl rfl k_J0_335 ⟨rfl, rfl, Nat.le_of_ble_eq_true rfl, Nat.le_of_ble_eq_true rfl⟩ ⟨Nat.le_refl 0, Nat.le_refl 0⟩ (Nat.le_of_ble_eq_true rfl) dJ0_length_8abf5_6 (fun _ => ?_)
  refine r_ishr Ra dJ0_length_8abf5_9 ?_
  rw [shr_0 (x := ((txLen.getD s 0 : Nat) : Int)) ⟨by omega, by omega⟩]
  exact j_ret Ra rfl dJ0_length_8abf5_10
theorem cj_ckI {l : Launch} {en : En} {μ : Mem} {k n : Int} {v : Value} (hv : v = .null ∨ ∃ a : Nat, v = .ref a) (hk : 0 ≤ k ∧ k < n) (hn : inR n) : CtX l en yJ3_checkIndex_8e157 cJ3_checkIndex_8e157 3 0 0 [vI k, vI n, v] μ .int k := by
  have hkR : inR k := ⟨by omega, by have := hn.2; omega⟩
  have h1 : (lg_sl [vI k, vI n, v]).length ≤ 3 := by rcases hv with rfl | ⟨a, rfl⟩ <;> exact Nat.le_of_ble_eq_true rfl
  refine Tr.ofF false (fun h => by cases h) (by decide) h1 (fun K Ra => ?_)
  refine r_iload_n Ra (i := 0) dJ3_checkIndex_8e157_0 rfl rfl ?_
  refine r_if_lt Ra 9 dJ3_checkIndex_8e157_1 hkR rfl (fun h => absurd h (by omega)) (fun _ => ?_)
  refine r_iload_n Ra (i := 0) dJ3_checkIndex_8e157_4 rfl rfl ?_
  refine r_iload_n Ra (i := 1) dJ3_checkIndex_8e157_5 rfl rfl ?_
  refine r_icmp_lt Ra 16 dJ3_checkIndex_8e157_6 hkR hn rfl (fun _ => ?_) (fun h => absurd hk.2 h)
  refine r_iload_n Ra (i := 0) dJ3_checkIndex_8e157_16 rfl rfl ?_
  exact j_ret Ra rfl dJ3_checkIndex_8e157_17
