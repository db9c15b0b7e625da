/-! THE TWO TEXTS of the reader: which one, their length, their signs -/
def vT (en : En) (s : Nat) : Value := .ref (en.2.2.2.1 s)
def txc (s : Nat) (k : Int) : Int := (((txByt.getD s []).getD k.toNat 0 : Int32)).toInt
def txi (s : Nat) (c : Int) : Int := match (txByt.getD s []).findIdx? (fun b => b.toInt == c) with
  | some k => (k : Int)
  | none => -1
theorem dJ0_length_8abf5_0 : decode cJ0_length_8abf5 0 = .ok (.aload_n 0, 1) := by decide +kernel
theorem dJ0_length_8abf5_1 : decode cJ0_length_8abf5 1 = .ok (.getfield 9, 3) := by decide +kernel
theorem dJ0_length_8abf5_4 : decode cJ0_length_8abf5 4 = .ok (.arraylength, 1) := by decide +kernel
theorem dJ0_length_8abf5_5 : decode cJ0_length_8abf5 5 = .ok (.aload_n 0, 1) := by decide +kernel
theorem dJ0_length_8abf5_6 : decode cJ0_length_8abf5 6 = .ok (.invokevirtual 335, 3) := by decide +kernel
theorem dJ0_length_8abf5_9 : decode cJ0_length_8abf5 9 = .ok (.ishr, 1) := by decide +kernel
theorem dJ0_length_8abf5_10 : decode cJ0_length_8abf5 10 = .ok (.ireturn, 1) := by decide +kernel
theorem dJ0_charAt_5068e_0 : decode cJ0_charAt_5068e 0 = .ok (.aload_n 0, 1) := by decide +kernel
theorem dJ0_charAt_5068e_1 : decode cJ0_charAt_5068e 1 = .ok (.invokevirtual 492, 3) := by decide +kernel
theorem dJ0_charAt_5068e_4 : decode cJ0_charAt_5068e 4 = .ok (.ifCond .eq 12, 3) := by decide +kernel
theorem dJ0_charAt_5068e_7 : decode cJ0_charAt_5068e 7 = .ok (.aload_n 0, 1) := by decide +kernel
theorem dJ0_charAt_5068e_8 : decode cJ0_charAt_5068e 8 = .ok (.getfield 9, 3) := by decide +kernel
theorem dJ0_charAt_5068e_11 : decode cJ0_charAt_5068e 11 = .ok (.iload_n 1, 1) := by decide +kernel
theorem dJ0_charAt_5068e_12 : decode cJ0_charAt_5068e 12 = .ok (.invokestatic 495, 3) := by decide +kernel
theorem dJ0_charAt_5068e_15 : decode cJ0_charAt_5068e 15 = .ok (.ireturn, 1) := by decide +kernel
theorem dJ0_charAt_5068e_16 : decode cJ0_charAt_5068e 16 = .ok (.aload_n 0, 1) := by decide +kernel
theorem dJ0_charAt_5068e_17 : decode cJ0_charAt_5068e 17 = .ok (.getfield 9, 3) := by decide +kernel
theorem dJ0_charAt_5068e_20 : decode cJ0_charAt_5068e 20 = .ok (.iload_n 1, 1) := by decide +kernel
theorem dJ0_charAt_5068e_21 : decode cJ0_charAt_5068e 21 = .ok (.invokestatic 498, 3) := by decide +kernel
theorem dJ0_charAt_5068e_24 : decode cJ0_charAt_5068e 24 = .ok (.ireturn, 1) := by decide +kernel
theorem dJ0_indexOf_0f7a4_0 : decode cJ0_indexOf_0f7a4 0 = .ok (.aload_n 0, 1) := by decide +kernel
theorem dJ0_indexOf_0f7a4_1 : decode cJ0_indexOf_0f7a4 1 = .ok (.iload_n 1, 1) := by decide +kernel
theorem dJ0_indexOf_0f7a4_2 : decode cJ0_indexOf_0f7a4 2 = .ok (.iconst 0, 1) := by decide +kernel
theorem dJ0_indexOf_0f7a4_3 : decode cJ0_indexOf_0f7a4 3 = .ok (.invokevirtual 633, 3) := by decide +kernel
theorem dJ0_indexOf_0f7a4_6 : decode cJ0_indexOf_0f7a4 6 = .ok (.ireturn, 1) := by decide +kernel
theorem dJ0_indexOf_7cf53_0 : decode cJ0_indexOf_7cf53 0 = .ok (.aload_n 0, 1) := by decide +kernel
theorem dJ0_indexOf_7cf53_1 : decode cJ0_indexOf_7cf53 1 = .ok (.invokevirtual 492, 3) := by decide +kernel
theorem dJ0_indexOf_7cf53_4 : decode cJ0_indexOf_7cf53 4 = .ok (.ifCond .eq 19, 3) := by decide +kernel
theorem dJ0_indexOf_7cf53_7 : decode cJ0_indexOf_7cf53 7 = .ok (.aload_n 0, 1) := by decide +kernel
theorem dJ0_indexOf_7cf53_8 : decode cJ0_indexOf_7cf53 8 = .ok (.getfield 9, 3) := by decide +kernel
theorem dJ0_indexOf_7cf53_11 : decode cJ0_indexOf_7cf53 11 = .ok (.iload_n 1, 1) := by decide +kernel
theorem dJ0_indexOf_7cf53_12 : decode cJ0_indexOf_7cf53 12 = .ok (.iload_n 2, 1) := by decide +kernel
theorem dJ0_indexOf_7cf53_13 : decode cJ0_indexOf_7cf53 13 = .ok (.aload_n 0, 1) := by decide +kernel
theorem dJ0_indexOf_7cf53_14 : decode cJ0_indexOf_7cf53 14 = .ok (.invokevirtual 505, 3) := by decide +kernel
theorem dJ0_indexOf_7cf53_17 : decode cJ0_indexOf_7cf53 17 = .ok (.invokestatic 637, 3) := by decide +kernel
theorem dJ0_indexOf_7cf53_20 : decode cJ0_indexOf_7cf53 20 = .ok (.goto 16, 3) := by decide +kernel
theorem dJ0_indexOf_7cf53_23 : decode cJ0_indexOf_7cf53 23 = .ok (.aload_n 0, 1) := by decide +kernel
theorem dJ0_indexOf_7cf53_24 : decode cJ0_indexOf_7cf53 24 = .ok (.getfield 9, 3) := by decide +kernel
theorem dJ0_indexOf_7cf53_27 : decode cJ0_indexOf_7cf53 27 = .ok (.iload_n 1, 1) := by decide +kernel
theorem dJ0_indexOf_7cf53_28 : decode cJ0_indexOf_7cf53 28 = .ok (.iload_n 2, 1) := by decide +kernel
theorem dJ0_indexOf_7cf53_29 : decode cJ0_indexOf_7cf53 29 = .ok (.aload_n 0, 1) := by decide +kernel
theorem dJ0_indexOf_7cf53_30 : decode cJ0_indexOf_7cf53 30 = .ok (.invokevirtual 505, 3) := by decide +kernel
theorem dJ0_indexOf_7cf53_33 : decode cJ0_indexOf_7cf53 33 = .ok (.invokestatic 640, 3) := by decide +kernel
theorem dJ0_indexOf_7cf53_36 : decode cJ0_indexOf_7cf53 36 = .ok (.ireturn, 1) := by decide +kernel
theorem dJ0_coder_7d493_0 : decode cJ0_coder_7d493 0 = .ok (.getstatic 38, 3) := by decide +kernel
theorem dJ0_coder_7d493_3 : decode cJ0_coder_7d493 3 = .ok (.ifCond .eq 10, 3) := by decide +kernel
theorem dJ0_coder_7d493_6 : decode cJ0_coder_7d493 6 = .ok (.aload_n 0, 1) := by decide +kernel
theorem dJ0_coder_7d493_7 : decode cJ0_coder_7d493 7 = .ok (.getfield 15, 3) := by decide +kernel
theorem dJ0_coder_7d493_10 : decode cJ0_coder_7d493 10 = .ok (.goto 4, 3) := by decide +kernel
theorem dJ0_coder_7d493_13 : decode cJ0_coder_7d493 13 = .ok (.iconst 1, 1) := by decide +kernel
theorem dJ0_coder_7d493_14 : decode cJ0_coder_7d493 14 = .ok (.ireturn, 1) := by decide +kernel
theorem dJ0_isLatin1_aae02_0 : decode cJ0_isLatin1_aae02 0 = .ok (.getstatic 38, 3) := by decide +kernel
theorem dJ0_isLatin1_aae02_3 : decode cJ0_isLatin1_aae02 3 = .ok (.ifCond .eq 14, 3) := by decide +kernel
theorem dJ0_isLatin1_aae02_6 : decode cJ0_isLatin1_aae02 6 = .ok (.aload_n 0, 1) := by decide +kernel
theorem dJ0_isLatin1_aae02_7 : decode cJ0_isLatin1_aae02 7 = .ok (.getfield 15, 3) := by decide +kernel
theorem dJ0_isLatin1_aae02_10 : decode cJ0_isLatin1_aae02 10 = .ok (.ifCond .ne 7, 3) := by decide +kernel
theorem dJ0_isLatin1_aae02_13 : decode cJ0_isLatin1_aae02 13 = .ok (.iconst 1, 1) := by decide +kernel
theorem dJ0_isLatin1_aae02_14 : decode cJ0_isLatin1_aae02 14 = .ok (.goto 4, 3) := by decide +kernel
theorem dJ0_isLatin1_aae02_17 : decode cJ0_isLatin1_aae02 17 = .ok (.iconst 0, 1) := by decide +kernel
theorem dJ0_isLatin1_aae02_18 : decode cJ0_isLatin1_aae02 18 = .ok (.ireturn, 1) := by decide +kernel
theorem dJ0_checkIndex_df160_0 : decode cJ0_checkIndex_df160 0 = .ok (.iload_n 0, 1) := by decide +kernel
theorem dJ0_checkIndex_df160_1 : decode cJ0_checkIndex_df160 1 = .ok (.iload_n 1, 1) := by decide +kernel
theorem dJ0_checkIndex_df160_2 : decode cJ0_checkIndex_df160 2 = .ok (.getstatic 1053, 3) := by decide +kernel
theorem dJ0_checkIndex_df160_5 : decode cJ0_checkIndex_df160 5 = .ok (.invokestatic 1059, 3) := by decide +kernel
theorem dJ0_checkIndex_df160_8 : decode cJ0_checkIndex_df160 8 = .ok (.pop, 1) := by decide +kernel
theorem dJ0_checkIndex_df160_9 : decode cJ0_checkIndex_df160 9 = .ok (.return_, 1) := by decide +kernel
theorem dJ1_charAt_3b067_0 : decode cJ1_charAt_3b067 0 = .ok (.iload_n 1, 1) := by decide +kernel
theorem dJ1_charAt_3b067_1 : decode cJ1_charAt_3b067 1 = .ok (.aload_n 0, 1) := by decide +kernel
theorem dJ1_charAt_3b067_2 : decode cJ1_charAt_3b067 2 = .ok (.arraylength, 1) := by decide +kernel
theorem dJ1_charAt_3b067_3 : decode cJ1_charAt_3b067 3 = .ok (.invokestatic 9, 3) := by decide +kernel
theorem dJ1_charAt_3b067_6 : decode cJ1_charAt_3b067 6 = .ok (.aload_n 0, 1) := by decide +kernel
theorem dJ1_charAt_3b067_7 : decode cJ1_charAt_3b067 7 = .ok (.iload_n 1, 1) := by decide +kernel
theorem dJ1_charAt_3b067_8 : decode cJ1_charAt_3b067 8 = .ok (.baload, 1) := by decide +kernel
theorem dJ1_charAt_3b067_9 : decode cJ1_charAt_3b067 9 = .ok (.sipush 255, 3) := by decide +kernel
theorem dJ1_charAt_3b067_12 : decode cJ1_charAt_3b067 12 = .ok (.iand, 1) := by decide +kernel
theorem dJ1_charAt_3b067_13 : decode cJ1_charAt_3b067 13 = .ok (.i2c, 1) := by decide +kernel
theorem dJ1_charAt_3b067_14 : decode cJ1_charAt_3b067 14 = .ok (.ireturn, 1) := by decide +kernel
theorem dJ1_canEncode_9a6ad_0 : decode cJ1_canEncode_9a6ad 0 = .ok (.iload_n 0, 1) := by decide +kernel
theorem dJ1_canEncode_9a6ad_1 : decode cJ1_canEncode_9a6ad 1 = .ok (.ifCond .lt 14, 3) := by decide +kernel
theorem dJ1_canEncode_9a6ad_4 : decode cJ1_canEncode_9a6ad 4 = .ok (.iload_n 0, 1) := by decide +kernel
theorem dJ1_canEncode_9a6ad_5 : decode cJ1_canEncode_9a6ad 5 = .ok (.sipush 255, 3) := by decide +kernel
theorem dJ1_canEncode_9a6ad_8 : decode cJ1_canEncode_9a6ad 8 = .ok (.if_icmp .gt 7, 3) := by decide +kernel
theorem dJ1_canEncode_9a6ad_11 : decode cJ1_canEncode_9a6ad 11 = .ok (.iconst 1, 1) := by decide +kernel
theorem dJ1_canEncode_9a6ad_12 : decode cJ1_canEncode_9a6ad 12 = .ok (.goto 4, 3) := by decide +kernel
theorem dJ1_canEncode_9a6ad_15 : decode cJ1_canEncode_9a6ad 15 = .ok (.iconst 0, 1) := by decide +kernel
theorem dJ1_canEncode_9a6ad_16 : decode cJ1_canEncode_9a6ad 16 = .ok (.ireturn, 1) := by decide +kernel
theorem dJ1_indexOf_4cfef_0 : decode cJ1_indexOf_4cfef 0 = .ok (.iload_n 1, 1) := by decide +kernel
theorem dJ1_indexOf_4cfef_1 : decode cJ1_indexOf_4cfef 1 = .ok (.invokestatic 88, 3) := by decide +kernel
theorem dJ1_indexOf_4cfef_4 : decode cJ1_indexOf_4cfef 4 = .ok (.ifCond .ne 5, 3) := by decide +kernel
theorem dJ1_indexOf_4cfef_7 : decode cJ1_indexOf_4cfef 7 = .ok (.iconst (-1), 1) := by decide +kernel
theorem dJ1_indexOf_4cfef_8 : decode cJ1_indexOf_4cfef 8 = .ok (.ireturn, 1) := by decide +kernel
theorem dJ1_indexOf_4cfef_9 : decode cJ1_indexOf_4cfef 9 = .ok (.iload_n 2, 1) := by decide +kernel
theorem dJ1_indexOf_4cfef_10 : decode cJ1_indexOf_4cfef 10 = .ok (.iconst 0, 1) := by decide +kernel
theorem dJ1_indexOf_4cfef_11 : decode cJ1_indexOf_4cfef 11 = .ok (.invokestatic 92, 3) := by decide +kernel
theorem dJ1_indexOf_4cfef_14 : decode cJ1_indexOf_4cfef 14 = .ok (.istore_n 2, 1) := by decide +kernel
theorem dJ1_indexOf_4cfef_15 : decode cJ1_indexOf_4cfef 15 = .ok (.iload_n 3, 1) := by decide +kernel
theorem dJ1_indexOf_4cfef_16 : decode cJ1_indexOf_4cfef 16 = .ok (.aload_n 0, 1) := by decide +kernel
theorem dJ1_indexOf_4cfef_17 : decode cJ1_indexOf_4cfef 17 = .ok (.arraylength, 1) := by decide +kernel
theorem dJ1_indexOf_4cfef_18 : decode cJ1_indexOf_4cfef 18 = .ok (.invokestatic 38, 3) := by decide +kernel
theorem dJ1_indexOf_4cfef_21 : decode cJ1_indexOf_4cfef 21 = .ok (.istore_n 3, 1) := by decide +kernel
theorem dJ1_indexOf_4cfef_22 : decode cJ1_indexOf_4cfef 22 = .ok (.iload_n 2, 1) := by decide +kernel
theorem dJ1_indexOf_4cfef_23 : decode cJ1_indexOf_4cfef 23 = .ok (.iload_n 3, 1) := by decide +kernel
theorem dJ1_indexOf_4cfef_24 : decode cJ1_indexOf_4cfef 24 = .ok (.if_icmp .lt 5, 3) := by decide +kernel
theorem dJ1_indexOf_4cfef_27 : decode cJ1_indexOf_4cfef 27 = .ok (.iconst (-1), 1) := by decide +kernel
theorem dJ1_indexOf_4cfef_28 : decode cJ1_indexOf_4cfef 28 = .ok (.ireturn, 1) := by decide +kernel
theorem dJ1_indexOf_4cfef_29 : decode cJ1_indexOf_4cfef 29 = .ok (.aload_n 0, 1) := by decide +kernel
theorem dJ1_indexOf_4cfef_30 : decode cJ1_indexOf_4cfef 30 = .ok (.iload_n 1, 1) := by decide +kernel
theorem dJ1_indexOf_4cfef_31 : decode cJ1_indexOf_4cfef 31 = .ok (.iload_n 2, 1) := by decide +kernel
theorem dJ1_indexOf_4cfef_32 : decode cJ1_indexOf_4cfef 32 = .ok (.iload_n 3, 1) := by decide +kernel
theorem dJ1_indexOf_4cfef_33 : decode cJ1_indexOf_4cfef 33 = .ok (.invokestatic 95, 3) := by decide +kernel
theorem dJ1_indexOf_4cfef_36 : decode cJ1_indexOf_4cfef 36 = .ok (.ireturn, 1) := by decide +kernel
theorem dJ1_indexOfChar_4cfef_0 : decode cJ1_indexOfChar_4cfef 0 = .ok (.iload_n 1, 1) := by decide +kernel
theorem dJ1_indexOfChar_4cfef_1 : decode cJ1_indexOfChar_4cfef 1 = .ok (.i2b, 1) := by decide +kernel
theorem dJ1_indexOfChar_4cfef_2 : decode cJ1_indexOfChar_4cfef 2 = .ok (.istore 4, 2) := by decide +kernel
theorem dJ1_indexOfChar_4cfef_4 : decode cJ1_indexOfChar_4cfef 4 = .ok (.iload_n 2, 1) := by decide +kernel
theorem dJ1_indexOfChar_4cfef_5 : decode cJ1_indexOfChar_4cfef 5 = .ok (.istore 5, 2) := by decide +kernel
theorem dJ1_indexOfChar_4cfef_7 : decode cJ1_indexOfChar_4cfef 7 = .ok (.iload 5, 2) := by decide +kernel
theorem dJ1_indexOfChar_4cfef_9 : decode cJ1_indexOfChar_4cfef 9 = .ok (.iload_n 3, 1) := by decide +kernel
theorem dJ1_indexOfChar_4cfef_10 : decode cJ1_indexOfChar_4cfef 10 = .ok (.if_icmp .ge 21, 3) := by decide +kernel
theorem dJ1_indexOfChar_4cfef_13 : decode cJ1_indexOfChar_4cfef 13 = .ok (.aload_n 0, 1) := by decide +kernel
theorem dJ1_indexOfChar_4cfef_14 : decode cJ1_indexOfChar_4cfef 14 = .ok (.iload 5, 2) := by decide +kernel
theorem dJ1_indexOfChar_4cfef_16 : decode cJ1_indexOfChar_4cfef 16 = .ok (.baload, 1) := by decide +kernel
theorem dJ1_indexOfChar_4cfef_17 : decode cJ1_indexOfChar_4cfef 17 = .ok (.iload 4, 2) := by decide +kernel
theorem dJ1_indexOfChar_4cfef_19 : decode cJ1_indexOfChar_4cfef 19 = .ok (.if_icmp .ne 6, 3) := by decide +kernel
theorem dJ1_indexOfChar_4cfef_22 : decode cJ1_indexOfChar_4cfef 22 = .ok (.iload 5, 2) := by decide +kernel
theorem dJ1_indexOfChar_4cfef_24 : decode cJ1_indexOfChar_4cfef 24 = .ok (.ireturn, 1) := by decide +kernel
theorem dJ1_indexOfChar_4cfef_25 : decode cJ1_indexOfChar_4cfef 25 = .ok (.iinc 5 1, 3) := by decide +kernel
theorem dJ1_indexOfChar_4cfef_28 : decode cJ1_indexOfChar_4cfef 28 = .ok (.goto (-21), 3) := by decide +kernel
theorem dJ1_indexOfChar_4cfef_31 : decode cJ1_indexOfChar_4cfef 31 = .ok (.iconst (-1), 1) := by decide +kernel
theorem dJ1_indexOfChar_4cfef_32 : decode cJ1_indexOfChar_4cfef 32 = .ok (.ireturn, 1) := by decide +kernel
theorem dJ3_checkIndex_8e157_0 : decode cJ3_checkIndex_8e157 0 = .ok (.iload_n 0, 1) := by decide +kernel
theorem dJ3_checkIndex_8e157_1 : decode cJ3_checkIndex_8e157 1 = .ok (.ifCond .lt 8, 3) := by decide +kernel
theorem dJ3_checkIndex_8e157_4 : decode cJ3_checkIndex_8e157 4 = .ok (.iload_n 0, 1) := by decide +kernel
theorem dJ3_checkIndex_8e157_5 : decode cJ3_checkIndex_8e157 5 = .ok (.iload_n 1, 1) := by decide +kernel
theorem dJ3_checkIndex_8e157_6 : decode cJ3_checkIndex_8e157 6 = .ok (.if_icmp .lt 10, 3) := by decide +kernel
theorem dJ3_checkIndex_8e157_9 : decode cJ3_checkIndex_8e157 9 = .ok (.aload_n 2, 1) := by decide +kernel
theorem dJ3_checkIndex_8e157_10 : decode cJ3_checkIndex_8e157 10 = .ok (.iload_n 0, 1) := by decide +kernel
theorem dJ3_checkIndex_8e157_11 : decode cJ3_checkIndex_8e157 11 = .ok (.iload_n 1, 1) := by decide +kernel
theorem dJ3_checkIndex_8e157_12 : decode cJ3_checkIndex_8e157 12 = .ok (.invokestatic 95, 3) := by decide +kernel
theorem dJ3_checkIndex_8e157_15 : decode cJ3_checkIndex_8e157 15 = .ok (.athrow, 1) := by decide +kernel
theorem dJ3_checkIndex_8e157_16 : decode cJ3_checkIndex_8e157 16 = .ok (.iload_n 0, 1) := by decide +kernel
theorem dJ3_checkIndex_8e157_17 : decode cJ3_checkIndex_8e157 17 = .ok (.ireturn, 1) := by decide +kernel
theorem js_value : Cond.fieldLink RJ0 9 "java/lang/String" "value" "[B" ∈ GW := gw 8 217 (by decide +kernel)
theorem js_coder : Cond.fieldLink RJ0 15 "java/lang/String" "coder" "B" ∈ GW := gw 8 218 (by decide +kernel)
theorem js_comp : Cond.fieldLink RJ0 38 "java/lang/String" "COMPACT_STRINGS" "Z" ∈ GW := gw 3 152 (by decide +kernel)
theorem js_fmt : Cond.fieldLink RJ0 1053 "jdk/internal/util/Preconditions" "SIOOBE_FORMATTER" "Ljava/util/function/BiFunction;" ∈ GW := gw 3 168 (by decide +kernel)
abbrev vTx (en : En) (s : Nat) : Value := .ref (en.2.2.2.1 s)
abbrev vB (en : En) (s : Nat) : Value := .ref (en.2.2.2.2 s)
abbrev CtX (l : Launch) (en : En) (y : MethodName) (cc : ByteArray) (nL f q : Nat) (As : List Value) (μ : Mem) (ret : FieldType) (r : Int) : Prop := Tr l en y cc nL (rmN f q) As nCells μ (some ret, some (vI r), nCells, μ, 0, 0, True)
theorem lok_R {L : Lo} {i a : Nat} (h : L i = some (Value.ref a)) : lok L i (Value.ref a) := ⟨h, (fun q => by cases q), (fun q => by simp [Value.category] at q)⟩
section JDK
variable {ini : Bool} {res : Option Rs} {l : Launch} {en : En} {cc : ByteArray} {own : String} {nL : Nat} {R : Room} {K : KT} {z : Zt} {pc i s : Nat} {L : Lo} {st stk : List Value} {μ : Mem}
theorem j_aload (Ra : Ru ini res l en cc own nL R K) {k : Fin 4} {a : Nat} (hd : decode cc pc = .ok (.aload_n k, 1)) (hi : (k : Nat) = i) (hv : L i = some (.ref a)) (kk : K z (pc + 1) L (.ref a :: st) μ) : K z pc L st μ := by
  obtain ⟨p, e, s, m, args, below, meth, c, Q, hx, hb, hml, hown, hts, hTB, hA, hni, hres, rfl⟩ := Ra
  intro H locs ls hP hS hl
  exact lv_aload_n hx hb hd hi (hl.2.2 _ _ (lok_R hv)) (kk H locs ls hP hS hl)
theorem j_value (Ra : Ru ini res l en cc RJ0 nL R K) (hs : s < 2) (hd : decode cc pc = .ok (.getfield 9, 3)) (kk : K z (pc + 3) L (vB en s :: st) μ) : K z pc L (vTx en s :: st) μ := by
  obtain ⟨p, e, s9, m, args, below, meth, c, Q, hx, hb, hml, hown, hts, hTB, hA, hni, hres, rfl⟩ := Ra
  intro H locs ls hP hS hl
  exact vk_getf hx hb (hTB.2.2.2.2.2.1.1 s hs).2.2.1 hS hown (hts _ js_value) (fun _ h => h) hd (kk H locs ls hP hS hl)
theorem j_coder (Ra : Ru ini res l en cc RJ0 nL R K) (hs : s < 2) (hd : decode cc pc = .ok (.getfield 15, 3)) (kk : K z (pc + 3) L (vI 0 :: st) μ) : K z pc L (vTx en s :: st) μ := by
  obtain ⟨p, e, s9, m, args, below, meth, c, Q, hx, hb, hml, hown, hts, hTB, hA, hni, hres, rfl⟩ := Ra
  intro H locs ls hP hS hl
  exact vk_getf hx hb (hTB.2.2.2.2.2.1.1 s hs).2.1 hS hown (hts _ js_coder) (fun _ h => h) hd (kk H locs ls hP hS hl)
theorem j_comp (Ra : Ru ini res l en cc RJ0 nL R K) (hd : decode cc pc = .ok (.getstatic 38, 3)) (kk : K z (pc + 3) L (vI 1 :: st) μ) : K z pc L st μ := by
  obtain ⟨p, e, s9, m, args, below, meth, c, Q, hx, hb, hml, hown, hts, hTB, hA, hni, hres, rfl⟩ := Ra
  intro H locs ls hP hS hl
  exact va_gets hx hb hTB.2.2.2.2.2.2.1 hS hown (hts _ js_comp) (fun _ h => h) hd (kk H locs ls hP hS hl)
theorem j_fmt (Ra : Ru ini res l en cc RJ0 nL R K) (hd : decode cc pc = .ok (.getstatic 1053, 3)) (kk : ∀ v : Value, (v = .null ∨ ∃ a : Nat, v = .ref a) → K z (pc + 3) L (v :: st) μ) : K z pc L st μ := by
  obtain ⟨p, e, s9, m, args, below, meth, c, Q, hx, hb, hml, hown, hts, hTB, hA, hni, hres, rfl⟩ := Ra
  intro H locs ls hP hS hl
  rcases hTB.2.2.2.2.2.2.2 with h | ⟨t, h⟩
  · exact va_gets hx hb h hS hown (hts _ js_fmt) (fun _ h => h) hd (kk _ (Or.inl rfl) H locs ls hP hS hl)
  · exact va_gets hx hb h hS hown (hts _ js_fmt) (fun _ h => h) hd (kk _ (Or.inr ⟨t, rfl⟩) H locs ls hP hS hl)
theorem j_blen (Ra : Ru ini res l en cc own nL R K) (hs : s < 2) (hd : decode cc pc = .ok (.arraylength, 1)) (kk : K z (pc + 1) L (vI ((txLen.getD s 0 : Nat) : Int) :: st) μ) : K z pc L (vB en s :: st) μ := by
  obtain ⟨p, e, s9, m, args, below, meth, c, Q, hx, hb, hml, hown, hts, hTB, hA, hni, hres, rfl⟩ := Ra
  intro H locs ls hP hS hl
  exact va_tlen hx hb (hTB.2.2.2.2.2.1.1 s hs).2.2.2 hS Int32.ofInt_eq_ofNat.symm hd (kk H locs ls hP hS hl)
theorem tx_small {s : Nat} : txLen.getD s 0 ≤ 109 := by
  unfold txLen
  match s with
  | 0 => decide
  | 1 => decide
  | s + 2 => show (0 : Nat) ≤ 109; decide
theorem j_bald (Ra : Ru ini res l en cc own nL R K) {k : Int} (hs : s < 2) (hk : 0 ≤ k ∧ k < ((txLen.getD s 0 : Nat) : Int)) (hd : decode cc pc = .ok (.baload, 1)) (kk : K z (pc + 1) L (vI (txc s k) :: st) μ) : K z pc L (vI k :: vB en s :: st) μ := by
  obtain ⟨p, e, s9, m, args, below, meth, c, Q, hx, hb, hml, hown, hts, hTB, hA, hni, hres, rfl⟩ := Ra
  intro H locs ls hP hS hl
  have h9 := tx_small (s := s)
  have hi : (Int32.ofInt k).toNatClampNeg = k.toNat := idx_eq hk.1 (by omega)
  refine va_tb hx hb (hTB.2.2.2.2.2.1.1 s hs).2.2.2 hS (i := Int32.ofInt k) (v := vI (txc s k)) ?_ ?_ hd (kk H locs ls hP hS hl)
  · rintro (h | h)
    · have := (lt32 (x := k) (y := 0) ⟨by omega, by omega⟩ ⟨by decide, by decide⟩).mp h
      omega
    · rw [hi] at h
      omega
  · rw [hi]
    show Value.int _ = Value.int (Int32.ofInt (txc s k))
    unfold txc
    rw [of32]
theorem j_ret {x : Int} {fty : FieldType} {cnt mc ms : Nat} (Ra : Ru ini (some (some fty, some (vI x), cnt, μ, mc, ms, True)) l en cc own nL R K) (hn : narrow fty (vI x) = vI x) (hd : decode cc pc = .ok (.ireturn, 1)) : K (cnt, mc, ms) pc L [vI x] μ := by
  obtain ⟨p, e, s, m, args, below, meth, c, Q, hx, hb, hml, hown, hts, hTB, hA, hni, hres, rfl⟩ := Ra
  obtain ⟨hr, hlocks, rfl⟩ := hres _ rfl
  intro H locs ls hP hS hl
  exact W.zret hx hb hr hn (fun t ht hW => ⟨⟨⟨rfl, trivial⟩, by rw [ht]; exact hP⟩, hS.F ht⟩) hS.2.2 hd
theorem j_callV {y : MethodName} {ccY : ByteArray} {nLY n : Nat} {rmY : Room} {As : List Value} {ρ : Rs} (Ra : Ru ini res l en cc own nL R K) (hs : s < 2) (hM : Tr l en y ccY nLY rmY (vTx en s :: As) z.1 μ ρ) (hw : Mw y ccY nLY ρ.1 n) (hi : Mi y) (hC : y.cls = "java/lang/String") (hn : As.length = n) (hstk : stk = As.reverse ++ vTx en s :: st) (hlk : Cond.methodLink own i y ∈ GW) (hrm : rmY.cells = ρ.2.2.2.2.1 ∧ rmY.slots = ρ.2.2.2.2.2.1 ∧ rmY.frames + 1 ≤ R.frames ∧ 8 + (nLY + 11) + rmY.locals ≤ R.locals) (hf : z.2.1 + ρ.2.2.2.2.1 ≤ R.cells ∧ z.2.2 + ρ.2.2.2.2.2.1 ≤ R.slots) (hst : (st.map fun v => v.category).sum ≤ 8) (hd : decode cc pc = .ok (.invokevirtual i, 3)) (kk : ρ.2.2.2.2.2.2 → K (ρ.2.2.1, z.2.1 + ρ.2.2.2.2.1, z.2.2 + ρ.2.2.2.2.2.1) (pc + 3) L (ρ.2.1.toList ++ st) ρ.2.2.2.1) : K z pc L stk μ := by
  obtain ⟨p, e, s9, m, args, below, meth, c, Q, hx, hb, hml, hown, hts, hTB, hA, hni, hres, rfl⟩ := Ra
  intro H locs ls hP hS hl
  have hG : GoodIn GW (wsM y ccY nLY ρ.1) := gwIn hw.1 (fun x hx => hx)
  have cb := callB_of (own := own) (index := i) (args := args) (R := R) n hts hG rfl hrm.1 hrm.2.1 (hts _ hw.2.1) (hts _ hlk) ⟨hw.2.2.1, hw.2.2.2.1, hw.2.2.2.2⟩ ⟨hrm.2.2.1, hrm.2.2.2⟩
  have hPc : ∀ U : State, U.heap = H → s9.WarmedH U.vm → va_Pc (vTx en s :: As) (Pw en z.1 μ) (vTx en s :: As).toArray U := fun U hU hW => ⟨rfl, by rw [hU]; exact hP, hTB.warm hW hS hU⟩
  have hrecv : ∃ cell : Cell, H[en.2.2.2.1 s]? = some cell ∧ cell.vm.isStatics = false ∧ s9.vm.findClass y.cls = some cell.cls := by
    rw [hC]
    exact vk_recv hTB.2.2.2.2.2.1 hs hS
  have hrun := va_runV (As := As) (rest := st) (H := H) (locs := locs) (cells := z.2.1) (slots := z.2.2) (e := e) (below := below) (meth := meth) (g := F0 m pc ls stk) ⟨hx, hb, hml, hown, hts⟩ hM ⟨cb, hts _ hi.1, hts _ hi.2⟩ ⟨Pw.blind, hrecv, hPc⟩ rfl hn hl.1 hstk (lv_room hst) hd hf
  intro T hT X
  obtain ⟨v, st₀, t9, T', L9, h0, X', hL, e1, e2, ⟨⟨⟨hv, hok⟩, hWd⟩, hz, hk⟩, sp⟩ := hrun T hT X
  cases hv
  rw [h0] at hz hk
  have hS1 : va_S (eA en) s9.heap T'.heap (locs ++ L9) := ⟨Nat.le_trans hS.1 (by rw [e1]; exact hz), fun q h1 h2 => by rw [e1, hk q (Nat.lt_of_lt_of_le h1 hS.1) h2]; exact hS.2.1 q h1 h2, fun q hq => by
      rcases List.mem_append.mp hq with h | h
      · exact hS.2.2 q h
      · exact hL q h⟩
  obtain ⟨t2, a1, b1⟩ := kk hok T'.heap (locs ++ L9) ls (by rw [e1]; exact hWd) hS1 hl T' rfl X'
  exact ⟨t2, sp t2 a1, b1⟩
end JDK
theorem cj_coder {l : Launch} {en : En} {μ : Mem} {s : Nat} (hs : s < 2) : CtX l en yJ0_coder_7d493 cJ0_coder_7d493 1 0 0 [vTx en s] μ .byte 0 := by
  refine Tr.ofF false (fun h => by cases h) (by decide) (Nat.le_of_ble_eq_true rfl) (fun K Ra => ?_)
  refine j_comp Ra dJ0_coder_7d493_0 ?_
  refine r_if_eq Ra 13 dJ0_coder_7d493_3 ⟨by decide, by decide⟩ rfl (fun h => absurd h (by decide)) (fun _ => ?_)
  refine j_aload Ra (i := 0) dJ0_coder_7d493_6 rfl rfl ?_
  refine j_coder Ra hs dJ0_coder_7d493_7 ?_
  refine r_goto Ra 14 dJ0_coder_7d493_10 rfl ?_
  exact j_ret Ra rfl dJ0_coder_7d493_14
theorem cj_isLatin1 {l : Launch} {en : En} {μ : Mem} {s : Nat} (hs : s < 2) : CtX l en yJ0_isLatin1_aae02 cJ0_isLatin1_aae02 1 0 0 [vTx en s] μ .boolean 1 := by
  refine Tr.ofF false (fun h => by cases h) (by decide) (Nat.le_of_ble_eq_true rfl) (fun K Ra => ?_)
  refine j_comp Ra dJ0_isLatin1_aae02_0 ?_
  refine r_if_eq Ra 17 dJ0_isLatin1_aae02_3 ⟨by decide, by decide⟩ rfl (fun h => absurd h (by decide)) (fun _ => ?_)
  refine j_aload Ra (i := 0) dJ0_isLatin1_aae02_6 rfl rfl ?_
  refine j_coder Ra hs dJ0_isLatin1_aae02_7 ?_
  refine r_if_ne Ra 17 dJ0_isLatin1_aae02_10 ⟨by decide, by decide⟩ rfl (fun h => absurd rfl h) (fun _ => ?_)
  refine r_iconst Ra dJ0_isLatin1_aae02_13 ?_
  refine r_goto Ra 18 dJ0_isLatin1_aae02_14 rfl ?_
  exact j_ret Ra rfl dJ0_isLatin1_aae02_18
theorem shr_0 {x : Int} (h : inR x) : shr32 x 0 = x := by
  unfold shr32
  rw [show Int32.ofInt 0 &&& 31 = 0 from rfl]
  rw [show Int32.ofInt x >>> (0 : Int32) = Int32.ofInt x by simp]
  exact to32 h
theorem cj_length {l : Launch} {en : En} {μ : Mem} {s : Nat} (hs : s < 2) : CtX l en yJ0_length_8abf5 cJ0_length_8abf5 1 1 20 [vTx en s] μ .int ((txLen.getD s 0 : Nat) : Int) := by
  refine Tr.ofF false (fun h => by cases h) (by decide) (Nat.le_of_ble_eq_true rfl) (fun K Ra => ?_)
  have h9 := tx_small (s := s)
  refine j_aload Ra (i := 0) dJ0_length_8abf5_0 rfl rfl ?_
  refine j_value Ra hs dJ0_length_8abf5_1 ?_
  refine j_blen Ra hs dJ0_length_8abf5_4 ?_
  refine j_aload Ra (i := 0) dJ0_length_8abf5_5 rfl rfl ?_
  refine j_callV (z := ZN) (As := []) Ra hs (cj_coder hs) mw_J0_coder_7d493 mi_J0_coder_7d493 rfl rfl rfl k_J0_335 ⟨rfl, rfl, Nat.le_of_ble_eq_true rfl, Nat.le_of_ble_eq_true rfl⟩ ⟨Nat.le_refl 0, Nat.le_refl 0⟩ (Nat.le_of_ble_eq_true rfl) dJ0_length_8abf5_6 (fun _ => ?_)
  refine r_ishr Ra dJ0_length_8abf5_9 ?_
  rw [shr_0 (x := ((txLen.getD s 0 : Nat) : Int)) ⟨by omega, by omega⟩]
  exact j_ret Ra rfl dJ0_length_8abf5_10
theorem cj_ckI {l : Launch} {en : En} {μ : Mem} {k n : Int} {v : Value} (hv : v = .null ∨ ∃ a : Nat, v = .ref a) (hk : 0 ≤ k ∧ k < n) (hn : inR n) : CtX l en yJ3_checkIndex_8e157 cJ3_checkIndex_8e157 3 0 0 [vI k, vI n, v] μ .int k := by
  have hkR : inR k := ⟨by omega, by have := hn.2; omega⟩
  have h1 : (lg_sl [vI k, vI n, v]).length ≤ 3 := by rcases hv with rfl | ⟨a, rfl⟩ <;> exact Nat.le_of_ble_eq_true rfl
  refine Tr.ofF false (fun h => by cases h) (by decide) h1 (fun K Ra => ?_)
  refine r_iload_n Ra (i := 0) dJ3_checkIndex_8e157_0 rfl rfl ?_
  refine r_if_lt Ra 9 dJ3_checkIndex_8e157_1 hkR rfl (fun h => absurd h (by omega)) (fun _ => ?_)
  refine r_iload_n Ra (i := 0) dJ3_checkIndex_8e157_4 rfl rfl ?_
  refine r_iload_n Ra (i := 1) dJ3_checkIndex_8e157_5 rfl rfl ?_
  refine r_icmp_lt Ra 16 dJ3_checkIndex_8e157_6 hkR hn rfl (fun _ => ?_) (fun h => absurd hk.2 h)
  refine r_iload_n Ra (i := 0) dJ3_checkIndex_8e157_16 rfl rfl ?_
  exact j_ret Ra rfl dJ3_checkIndex_8e157_17
theorem gD {α : Type} {l : List α} {n : Nat} {d : α} (h : n < l.length) : l.getD n d = l[n] := by rw [List.getD_eq_getElem?_getD, List.getElem?_eq_getElem h]; rfl
theorem gDn {α : Type} {l : List α} {n : Nat} {d : α} (h : l.length ≤ n) : l.getD n d = d := by rw [List.getD_eq_getElem?_getD, List.getElem?_eq_none h]; rfl
theorem tx_len (s : Nat) : (txByt.getD s []).length = txLen.getD s 0 := by
  match s with
  | 0 => decide +kernel
  | 1 => decide +kernel
  | s + 2 => rfl
theorem tx_asc0 : ∀ b ∈ txByt.getD 0 [], 0 ≤ b.toInt ∧ b.toInt < 128 := by decide +kernel
theorem tx_asc1 : ∀ b ∈ txByt.getD 1 [], 0 ≤ b.toInt ∧ b.toInt < 128 := by decide +kernel
theorem tx_asc {s : Nat} (hs : s < 2) : ∀ b ∈ txByt.getD s [], 0 ≤ b.toInt ∧ b.toInt < 128 := by
  rcases (show s = 0 ∨ s = 1 by omega) with rfl | rfl
  · exact tx_asc0
  · exact tx_asc1
theorem txc_asc {s : Nat} (hs : s < 2) (k : Int) : 0 ≤ txc s k ∧ txc s k < 128 := by
  unfold txc
  by_cases hk : k.toNat < (txByt.getD s []).length
  · rw [gD hk]
    exact tx_asc hs _ (List.getElem_mem hk)
  · rw [gDn (by omega)]
    exact ⟨by decide, by decide⟩
theorem txi_hit {s : Nat} {c j : Int} (h0 : 0 ≤ j ∧ j < ((txLen.getD s 0 : Nat) : Int)) (hc : txc s j = c) (hb : ∀ i : Int, 0 ≤ i → i < j → txc s i ≠ c) : txi s c = j := by
  have hl := tx_len s
  unfold txi
  have h1 : (txByt.getD s []).findIdx? (fun b => b.toInt == c) = some j.toNat := by
    rw [List.findIdx?_eq_some_iff_getElem]
    refine ⟨by omega, ?_, fun i hi => ?_⟩
    · have h2 := hc
      unfold txc at h2
      rw [gD (by omega)] at h2
      simpa using h2
    · have h2 := hb (i : Int) (by omega) (by omega)
      unfold txc at h2
      rw [Int.toNat_natCast, gD (by omega)] at h2
      simpa using h2
  rw [h1]
  show ((j.toNat : Nat) : Int) = j
  omega
theorem txi_miss {s : Nat} {c : Int} (hb : ∀ i : Int, 0 ≤ i → i < ((txLen.getD s 0 : Nat) : Int) → txc s i ≠ c) : txi s c = -1 := by
  have hl := tx_len s
  unfold txi
  have h1 : (txByt.getD s []).findIdx? (fun b => b.toInt == c) = none := by
    rw [List.findIdx?_eq_none_iff]
    intro x hx
    obtain ⟨i, hi, rfl⟩ := List.getElem_of_mem hx
    have h2 := hb (i : Int) (by omega) (by omega)
    unfold txc at h2
    rw [Int.toNat_natCast, gD hi] at h2
    simpa using h2
  rw [h1]
theorem inR_txi' (s : Nat) (c : Int) : inR (txi s c) := by
  have hl := tx_len s
  have h9 := tx_small (s := s)
  unfold txi
  cases h : (txByt.getD s []).findIdx? (fun b => b.toInt == c) with
  | none => exact ⟨by decide, by decide⟩
  | some k =>
    rw [List.findIdx?_eq_some_iff_getElem] at h
    obtain ⟨h1, -⟩ := h
    exact ⟨by show (-2147483648 : Int) ≤ (k : Int); omega, by show (k : Int) < 2147483648; omega⟩
def b8 (x : Int) : Int := (Int32.ofInt x).toInt8.toInt32.toInt
theorem b8_lo : ∀ n : Nat, n < 128 → b8 (n : Int) = (n : Int) := by decide +kernel
theorem b8_hi : ∀ n : Nat, n < 128 → b8 ((n + 128 : Nat) : Int) = (n : Int) - 128 := by decide +kernel
theorem ch_lo : ∀ n : Nat, n < 128 → c16 (a32 (n : Int) 255) = (n : Int) := by decide +kernel
theorem ch_id {x : Int} (h : 0 ≤ x ∧ x < 128) : c16 (a32 x 255) = x := by
  have := ch_lo x.toNat (by omega)
  rw [Int.toNat_of_nonneg h.1] at this
  exact this
theorem nar_lo : ∀ n : Nat, n < 128 → narrow .char (vI (n : Int)) = vI (n : Int) := by decide +kernel
theorem nar_id {x : Int} (h : 0 ≤ x ∧ x < 128) : narrow .char (vI x) = vI x := by
  have := nar_lo x.toNat (by omega)
  rw [Int.toNat_of_nonneg h.1] at this
  exact this
section JDK2
variable {ini : Bool} {res : Option Rs} {l : Launch} {en : En} {cc : ByteArray} {own : String} {nL : Nat} {R : Room} {K : KT} {z : Zt} {pc i s : Nat} {L : Lo} {st stk : List Value} {μ : Mem}
theorem r_i2b (Ra : Ru ini res l en cc own nL R K) {x : Int} (hd : decode cc pc = .ok (.i2b, 1)) (k : K z (pc + 1) L (vI (b8 x) :: st) μ) : K z pc L (vI x :: st) μ := by
  obtain ⟨p, e, s, m, args, below, meth, c, Q, hx, hb, hml, hown, hts, hTB, hA, hni, hres, rfl⟩ := Ra
  intro H locs ls hP hS hl
  exact lv_i2b hx hb hd (eq_of32 (x := b8 x) rfl) (k H locs ls hP hS hl)
theorem j_popV (Ra : Ru ini res l en cc own nL R K) {x : Int} (hd : decode cc pc = .ok (.pop, 1)) (k : K z (pc + 1) L st μ) : K z pc L (vI x :: st) μ := r_popI Ra hd k
end JDK2
theorem cj_ck {l : Launch} {en : En} {μ : Mem} {k n : Int} (hk : 0 ≤ k ∧ k < n) (hn : inR n) : CtV l en yJ0_checkIndex_df160 cJ0_checkIndex_df160 2 1 22 [vI k, vI n] μ μ True := by
  refine Tr.ofF false (fun h => by cases h) (by decide) (Nat.le_of_ble_eq_true rfl) (fun K Ra => ?_)
  refine r_iload_n Ra (i := 0) dJ0_checkIndex_df160_0 rfl rfl ?_
  refine r_iload_n Ra (i := 1) dJ0_checkIndex_df160_1 rfl rfl ?_
  refine j_fmt Ra dJ0_checkIndex_df160_2 (fun v hv => ?_)
  refine r_callS (z := ZN) (As := [vI k, vI n, v]) Ra (cj_ckI hv hk hn) mw_J3_checkIndex_8e157 ms_J3_checkIndex_8e157 rfl rfl k_J0_1059 ⟨rfl, rfl, Nat.le_of_ble_eq_true rfl, Nat.le_of_ble_eq_true rfl⟩ ⟨Nat.le_refl 0, Nat.le_refl 0⟩ (Nat.le_of_ble_eq_true rfl) dJ0_checkIndex_df160_5 (fun _ => ?_)
  refine j_popV Ra dJ0_checkIndex_df160_8 ?_
  exact r_vret Ra trivial dJ0_checkIndex_df160_9
theorem cj_ch1 {l : Launch} {en : En} {μ : Mem} {s : Nat} {k : Int} (hs : s < 2) (hk : 0 ≤ k ∧ k < ((txLen.getD s 0 : Nat) : Int)) : CtX l en yJ1_charAt_3b067 cJ1_charAt_3b067 2 2 43 [vB en s, vI k] μ .char (txc s k) := by
  refine Tr.ofF false (fun h => by cases h) (by decide) (Nat.le_of_ble_eq_true rfl) (fun K Ra => ?_)
  have h9 := tx_small (s := s)
  refine r_iload_n Ra (i := 1) dJ1_charAt_3b067_0 rfl rfl ?_
  refine j_aload Ra (i := 0) dJ1_charAt_3b067_1 rfl rfl ?_
  refine j_blen Ra hs dJ1_charAt_3b067_2 ?_
  refine r_callS (z := ZN) (As := [vI k, vI ((txLen.getD s 0 : Nat) : Int)]) Ra (cj_ck hk ⟨by omega, by omega⟩) mw_J0_checkIndex_df160 ms_J0_checkIndex_df160 rfl rfl k_J1_9 ⟨rfl, rfl, Nat.le_of_ble_eq_true rfl, Nat.le_of_ble_eq_true rfl⟩ ⟨Nat.le_refl 0, Nat.le_refl 0⟩ (Nat.le_of_ble_eq_true rfl) dJ1_charAt_3b067_3 (fun _ => ?_)
  refine j_aload Ra (i := 0) dJ1_charAt_3b067_6 rfl rfl ?_
  refine r_iload_n Ra (i := 1) dJ1_charAt_3b067_7 rfl rfl ?_
  refine j_bald Ra hs hk dJ1_charAt_3b067_8 ?_
  refine r_sipush Ra dJ1_charAt_3b067_9 rfl ?_
  refine r_iand Ra dJ1_charAt_3b067_12 ?_
  refine r_i2c Ra dJ1_charAt_3b067_13 ?_
  rw [ch_id (txc_asc hs k)]
  exact j_ret Ra (nar_id (txc_asc hs k)) dJ1_charAt_3b067_14
theorem cj_ch0 {l : Launch} {en : En} {μ : Mem} {s : Nat} {k : Int} (hs : s < 2) (hk : 0 ≤ k ∧ k < ((txLen.getD s 0 : Nat) : Int)) : CtX l en yJ0_charAt_5068e cJ0_charAt_5068e 2 3 64 [vTx en s, vI k] μ .char (txc s k) := by
  refine Tr.ofF false (fun h => by cases h) (by decide) (Nat.le_of_ble_eq_true rfl) (fun K Ra => ?_)
  refine j_aload Ra (i := 0) dJ0_charAt_5068e_0 rfl rfl ?_
  refine j_callV (z := ZN) (As := []) Ra hs (cj_isLatin1 hs) mw_J0_isLatin1_aae02 mi_J0_isLatin1_aae02 rfl rfl rfl k_J0_492 ⟨rfl, rfl, Nat.le_of_ble_eq_true rfl, Nat.le_of_ble_eq_true rfl⟩ ⟨Nat.le_refl 0, Nat.le_refl 0⟩ (Nat.le_of_ble_eq_true rfl) dJ0_charAt_5068e_1 (fun _ => ?_)
  refine r_if_eq Ra 16 dJ0_charAt_5068e_4 ⟨by decide, by decide⟩ rfl (fun h => absurd h (by decide)) (fun _ => ?_)
  refine j_aload Ra (i := 0) dJ0_charAt_5068e_7 rfl rfl ?_
  refine j_value Ra hs dJ0_charAt_5068e_8 ?_
  refine r_iload_n Ra (i := 1) dJ0_charAt_5068e_11 rfl rfl ?_
  refine r_callS (z := ZN) (As := [vB en s, vI k]) Ra (cj_ch1 hs hk) mw_J1_charAt_3b067 ms_J1_charAt_3b067 rfl rfl k_J0_495 ⟨rfl, rfl, Nat.le_of_ble_eq_true rfl, Nat.le_of_ble_eq_true rfl⟩ ⟨Nat.le_refl 0, Nat.le_refl 0⟩ (Nat.le_of_ble_eq_true rfl) dJ0_charAt_5068e_12 (fun _ => ?_)
  exact j_ret Ra (nar_id (txc_asc hs k)) dJ0_charAt_5068e_15
theorem cj_can {l : Launch} {en : En} {μ : Mem} {k : Int} (hk : inR k) : CtX l en yJ1_canEncode_9a6ad cJ1_canEncode_9a6ad 1 0 0 [vI k] μ .boolean (if 0 ≤ k ∧ k ≤ 255 then 1 else 0) := by
  refine Tr.ofF false (fun h => by cases h) (by decide) (Nat.le_of_ble_eq_true rfl) (fun K Ra => ?_)
  have hno : ¬ (0 ≤ k ∧ k ≤ 255) → K ZN 15 (lo0 [vI k]) [] μ := fun h => by
    rw [if_neg h] at Ra
    refine r_iconst Ra dJ1_canEncode_9a6ad_15 ?_
    exact j_ret Ra rfl dJ1_canEncode_9a6ad_16
  refine r_iload_n Ra (i := 0) dJ1_canEncode_9a6ad_0 rfl rfl ?_
  refine r_if_lt Ra 15 dJ1_canEncode_9a6ad_1 hk rfl (fun h => hno (by omega)) (fun h1 => ?_)
  refine r_iload_n Ra (i := 0) dJ1_canEncode_9a6ad_4 rfl rfl ?_
  refine r_sipush Ra dJ1_canEncode_9a6ad_5 rfl ?_
  refine r_icmp_gt Ra 15 dJ1_canEncode_9a6ad_8 hk ⟨by decide, by decide⟩ rfl (fun h => hno (by omega)) (fun h2 => ?_)
  rw [if_pos (show 0 ≤ k ∧ k ≤ 255 by omega)] at Ra
  refine r_iconst Ra dJ1_canEncode_9a6ad_11 ?_
  refine r_goto Ra 16 dJ1_canEncode_9a6ad_12 rfl ?_
  exact j_ret Ra rfl dJ1_canEncode_9a6ad_16
theorem txi_b8 {s : Nat} {k : Int} (hs : s < 2) (hk : 0 ≤ k ∧ k ≤ 255) (i : Int) : txc s i = b8 k ↔ txc s i = k := by
  have h1 := txc_asc hs i
  by_cases h : k < 128
  · have := b8_lo k.toNat (by omega)
    rw [Int.toNat_of_nonneg hk.1] at this
    rw [this]
  · have := b8_hi (k.toNat - 128) (by omega)
    rw [show (((k.toNat - 128 + 128 : Nat)) : Int) = k by omega] at this
    rw [this]
    omega
theorem cj_ixc {l : Launch} {en : En} {μ : Mem} {s : Nat} {k : Int} (hs : s < 2) (hk : 0 ≤ k ∧ k ≤ 255) : CtX l en yJ1_indexOfChar_4cfef cJ1_indexOfChar_4cfef 6 0 0 [vB en s, vI k, vI 0, vI ((txLen.getD s 0 : Nat) : Int)] μ .int (txi s k) := by
  have hm := tx_small (s := s)
  have hr := inR_txi' s k
  refine Tr.ofF false (fun h => by cases h) (by decide) (Nat.le_of_ble_eq_true rfl) (fun K Ra => ?_)
  have loop : ∀ (n : Nat) (j : Int) (L : Lo), L 0 = some (vB en s) → L 3 = some (vI ((txLen.getD s 0 : Nat) : Int)) → L 4 = some (vI (b8 k)) → L 5 = some (vI j) → 0 ≤ j → j + n = ((txLen.getD s 0 : Nat) : Int) → (∀ i : Int, 0 ≤ i → i < j → txc s i ≠ k) → K ZN 7 L [] μ := by
    intro n
    induction n with
    | zero =>
      intro j L h0 h3 h4 h5 hj hn hb
      refine r_iload Ra dJ1_indexOfChar_4cfef_7 h5 ?_
      refine r_iload_n Ra (i := 3) dJ1_indexOfChar_4cfef_9 rfl h3 ?_
      refine r_icmp_ge Ra 31 dJ1_indexOfChar_4cfef_10 ⟨by omega, by omega⟩ ⟨by omega, by omega⟩ rfl (fun _ => ?_) (fun h => absurd h (by omega))
      rw [txi_miss (fun i h1 h2 => hb i h1 (by omega))] at Ra
      refine r_iconst Ra dJ1_indexOfChar_4cfef_31 ?_
      exact j_ret Ra rfl dJ1_indexOfChar_4cfef_32
    | succ n ih =>
      intro j L h0 h3 h4 h5 hj hn hb
      have ha := txc_asc hs j
      have hbR : inR (b8 k) := inR_32 _
      refine r_iload Ra dJ1_indexOfChar_4cfef_7 h5 ?_
      refine r_iload_n Ra (i := 3) dJ1_indexOfChar_4cfef_9 rfl h3 ?_
      refine r_icmp_ge Ra 31 dJ1_indexOfChar_4cfef_10 ⟨by omega, by omega⟩ ⟨by omega, by omega⟩ rfl (fun h => absurd h (by omega)) (fun _ => ?_)
      refine j_aload Ra (i := 0) dJ1_indexOfChar_4cfef_13 rfl h0 ?_
      refine r_iload Ra dJ1_indexOfChar_4cfef_14 h5 ?_
      refine j_bald Ra hs ⟨hj, by omega⟩ dJ1_indexOfChar_4cfef_16 ?_
      refine r_iload Ra dJ1_indexOfChar_4cfef_17 h4 ?_
      refine r_icmp_ne Ra 25 dJ1_indexOfChar_4cfef_19 ⟨by omega, by omega⟩ hbR rfl (fun h => ?_) (fun h => ?_)
      · refine r_iinc Ra dJ1_indexOfChar_4cfef_25 h5 ?_
        refine r_goto Ra 7 dJ1_indexOfChar_4cfef_28 rfl ?_
        rw [w32_id (x := j + 1) ⟨by omega, by omega⟩]
        refine ih (j + 1) _ h0 h3 h4 rfl (by omega) (by omega) (fun i h1 h2 => ?_)
        by_cases hij : i = j
        · rw [hij]; exact fun q => h ((txi_b8 hs hk j).mpr q)
        · exact hb i h1 (by omega)
      · refine r_iload Ra dJ1_indexOfChar_4cfef_22 h5 ?_
        rw [txi_hit ⟨hj, by omega⟩ ((txi_b8 hs hk j).mp h) hb] at Ra
        exact j_ret Ra rfl dJ1_indexOfChar_4cfef_24
  refine r_iload_n Ra (i := 1) dJ1_indexOfChar_4cfef_0 rfl rfl ?_
  refine r_i2b Ra dJ1_indexOfChar_4cfef_1 ?_
  refine r_istore Ra dJ1_indexOfChar_4cfef_2 (by decide) ?_
  refine r_iload_n Ra (i := 2) dJ1_indexOfChar_4cfef_4 rfl rfl ?_
  refine r_istore Ra dJ1_indexOfChar_4cfef_5 (by decide) ?_
  exact loop (txLen.getD s 0) 0 _ rfl rfl rfl rfl (by decide) (by omega) (fun i h1 h2 => absurd h2 (by omega))
theorem tx_pos {s : Nat} (hs : s < 2) : 0 < txLen.getD s 0 := by
  match s, hs with
  | 0, _ => decide
  | 1, _ => decide
theorem cj_ix1 {l : Launch} {en : En} {μ : Mem} {s : Nat} {k : Int} (hs : s < 2) (hk : inR k) : CtX l en yJ1_indexOf_4cfef cJ1_indexOf_4cfef 4 1 30 [vB en s, vI k, vI 0, vI ((txLen.getD s 0 : Nat) : Int)] μ .int (txi s k) := by
  have hm := tx_small (s := s)
  have hp := tx_pos hs
  have hr := inR_txi' s k
  refine Tr.ofF false (fun h => by cases h) (by decide) (Nat.le_of_ble_eq_true rfl) (fun K Ra => ?_)
  refine r_iload_n Ra (i := 1) dJ1_indexOf_4cfef_0 rfl rfl ?_
  refine r_callS (z := ZN) (As := [vI k]) Ra (cj_can hk) mw_J1_canEncode_9a6ad ms_J1_canEncode_9a6ad rfl rfl k_J1_88 ⟨rfl, rfl, Nat.le_of_ble_eq_true rfl, Nat.le_of_ble_eq_true rfl⟩ ⟨Nat.le_refl 0, Nat.le_refl 0⟩ (Nat.le_of_ble_eq_true rfl) dJ1_indexOf_4cfef_1 (fun _ => ?_)
  show K ZN 4 _ [vI (if 0 ≤ k ∧ k ≤ 255 then 1 else 0)] μ
  by_cases h255 : 0 ≤ k ∧ k ≤ 255
  · rw [if_pos h255]
    refine r_if_ne Ra 9 dJ1_indexOf_4cfef_4 ⟨by decide, by decide⟩ rfl (fun _ => ?_) (fun h => absurd h (by decide))
    refine r_iload_n Ra (i := 2) dJ1_indexOf_4cfef_9 rfl rfl ?_
    refine r_iconst Ra dJ1_indexOf_4cfef_10 ?_
    refine q_mmax Ra (x := 0) (y := 0) ⟨by decide, by decide⟩ ⟨by decide, by decide⟩ k_J1_92 rfl rfl dJ1_indexOf_4cfef_11 ?_
    refine r_istore_n Ra (i := 2) dJ1_indexOf_4cfef_14 rfl (by decide) ?_
    refine r_iload_n Ra (i := 3) dJ1_indexOf_4cfef_15 rfl rfl ?_
    refine j_aload Ra (i := 0) dJ1_indexOf_4cfef_16 rfl rfl ?_
    refine j_blen Ra hs dJ1_indexOf_4cfef_17 ?_
    refine q_mmin Ra ⟨by omega, by omega⟩ ⟨by omega, by omega⟩ k_J1_38 rfl rfl dJ1_indexOf_4cfef_18 ?_
    rw [show min ((txLen.getD s 0 : Nat) : Int) ((txLen.getD s 0 : Nat) : Int) = ((txLen.getD s 0 : Nat) : Int) by omega]
    refine r_istore_n Ra (i := 3) dJ1_indexOf_4cfef_21 rfl (by decide) ?_
    refine r_iload_n Ra (i := 2) (x := 0) dJ1_indexOf_4cfef_22 rfl rfl ?_
    refine r_iload_n Ra (i := 3) dJ1_indexOf_4cfef_23 rfl rfl ?_
    refine r_icmp_lt Ra 29 dJ1_indexOf_4cfef_24 ⟨by omega, by omega⟩ ⟨by omega, by omega⟩ rfl (fun _ => ?_) (fun h => absurd h (by omega))
    refine j_aload Ra (i := 0) dJ1_indexOf_4cfef_29 rfl rfl ?_
    refine r_iload_n Ra (i := 1) dJ1_indexOf_4cfef_30 rfl rfl ?_
    refine r_iload_n Ra (i := 2) (x := 0) dJ1_indexOf_4cfef_31 rfl rfl ?_
    refine r_iload_n Ra (i := 3) dJ1_indexOf_4cfef_32 rfl rfl ?_
    refine r_callS (z := ZN) (As := [vB en s, vI k, vI 0, vI ((txLen.getD s 0 : Nat) : Int)]) Ra (cj_ixc hs h255) mw_J1_indexOfChar_4cfef ms_J1_indexOfChar_4cfef rfl rfl k_J1_95 ⟨rfl, rfl, Nat.le_of_ble_eq_true rfl, Nat.le_of_ble_eq_true rfl⟩ ⟨Nat.le_refl 0, Nat.le_refl 0⟩ (Nat.le_of_ble_eq_true rfl) dJ1_indexOf_4cfef_33 (fun _ => ?_)
    exact j_ret Ra rfl dJ1_indexOf_4cfef_36
  · rw [if_neg h255]
    rw [txi_miss (fun i h1 h2 q => by have := txc_asc hs i; omega)] at Ra
    refine r_if_ne Ra 9 dJ1_indexOf_4cfef_4 ⟨by decide, by decide⟩ rfl (fun h => absurd rfl h) (fun _ => ?_)
    refine r_iconst Ra dJ1_indexOf_4cfef_7 ?_
    exact j_ret Ra rfl dJ1_indexOf_4cfef_8
theorem cj_ix2 {l : Launch} {en : En} {μ : Mem} {s : Nat} {k : Int} (hs : s < 2) (hk : inR k) : CtX l en yJ0_indexOf_7cf53 cJ0_indexOf_7cf53 3 2 60 [vTx en s, vI k, vI 0] μ .int (txi s k) := by
  have hr := inR_txi' s k
  refine Tr.ofF false (fun h => by cases h) (by decide) (Nat.le_of_ble_eq_true rfl) (fun K Ra => ?_)
  refine j_aload Ra (i := 0) dJ0_indexOf_7cf53_0 rfl rfl ?_
  refine j_callV (z := ZN) (As := []) Ra hs (cj_isLatin1 hs) mw_J0_isLatin1_aae02 mi_J0_isLatin1_aae02 rfl rfl rfl k_J0_492 ⟨rfl, rfl, Nat.le_of_ble_eq_true rfl, Nat.le_of_ble_eq_true rfl⟩ ⟨Nat.le_refl 0, Nat.le_refl 0⟩ (Nat.le_of_ble_eq_true rfl) dJ0_indexOf_7cf53_1 (fun _ => ?_)
  refine r_if_eq Ra 23 dJ0_indexOf_7cf53_4 ⟨by decide, by decide⟩ rfl (fun h => absurd h (by decide)) (fun _ => ?_)
  refine j_aload Ra (i := 0) dJ0_indexOf_7cf53_7 rfl rfl ?_
  refine j_value Ra hs dJ0_indexOf_7cf53_8 ?_
  refine r_iload_n Ra (i := 1) dJ0_indexOf_7cf53_11 rfl rfl ?_
  refine r_iload_n Ra (i := 2) dJ0_indexOf_7cf53_12 rfl rfl ?_
  refine j_aload Ra (i := 0) dJ0_indexOf_7cf53_13 rfl rfl ?_
  refine j_callV (z := ZN) (As := []) Ra hs (cj_length hs) mw_J0_length_8abf5 mi_J0_length_8abf5 rfl rfl rfl k_J0_505 ⟨rfl, rfl, Nat.le_of_ble_eq_true rfl, Nat.le_of_ble_eq_true rfl⟩ ⟨Nat.le_refl 0, Nat.le_refl 0⟩ (Nat.le_of_ble_eq_true rfl) dJ0_indexOf_7cf53_14 (fun _ => ?_)
  refine r_callS (z := ZN) (As := [vB en s, vI k, vI 0, vI ((txLen.getD s 0 : Nat) : Int)]) Ra (cj_ix1 hs hk) mw_J1_indexOf_4cfef ms_J1_indexOf_4cfef rfl rfl k_J0_637 ⟨rfl, rfl, Nat.le_of_ble_eq_true rfl, Nat.le_of_ble_eq_true rfl⟩ ⟨Nat.le_refl 0, Nat.le_refl 0⟩ (Nat.le_of_ble_eq_true rfl) dJ0_indexOf_7cf53_17 (fun _ => ?_)
  refine r_goto Ra 36 dJ0_indexOf_7cf53_20 rfl ?_
  exact j_ret Ra rfl dJ0_indexOf_7cf53_36
theorem cj_ix0 {l : Launch} {en : En} {μ : Mem} {s : Nat} {k : Int} (hs : s < 2) (hk : inR k) : CtX l en yJ0_indexOf_0f7a4 cJ0_indexOf_0f7a4 2 3 90 [vTx en s, vI k] μ .int (txi s k) := by
  refine Tr.ofF false (fun h => by cases h) (by decide) (Nat.le_of_ble_eq_true rfl) (fun K Ra => ?_)
  refine j_aload Ra (i := 0) dJ0_indexOf_0f7a4_0 rfl rfl ?_
  refine r_iload_n Ra (i := 1) dJ0_indexOf_0f7a4_1 rfl rfl ?_
  refine r_iconst Ra dJ0_indexOf_0f7a4_2 ?_
  refine j_callV (z := ZN) (As := [vI k, vI 0]) Ra hs (cj_ix2 hs hk) mw_J0_indexOf_7cf53 mi_J0_indexOf_7cf53 rfl rfl rfl k_J0_633 ⟨rfl, rfl, Nat.le_of_ble_eq_true rfl, Nat.le_of_ble_eq_true rfl⟩ ⟨Nat.le_refl 0, Nat.le_refl 0⟩ (Nat.le_of_ble_eq_true rfl) dJ0_indexOf_0f7a4_3 (fun _ => ?_)
  exact j_ret Ra rfl dJ0_indexOf_0f7a4_6
section JQ
variable {ini : Bool} {res : Option Rs} {l : Launch} {en : En} {cc : ByteArray} {own : String} {nL : Nat} {f0 q0 : Nat} {K : KT} {pc : Nat} {L : Lo} {st stk : List Value} {μ : Mem}
theorem q_strlen' (Ra : Ru ini res l en cc own nL (rmN f0 q0) K) {s i : Nat} (hs : s < 2) (hlk : Cond.methodLink own i yJ0_length_8abf5 ∈ GW) (hst : Nat.ble ((st.map fun v => v.category).sum) 8 = true) (hr1 : Nat.ble 3 f0 = true) (hr2 : Nat.ble 100 q0 = true) (hd : decode cc pc = .ok (.invokevirtual i, 3)) (kk : K ZN (pc + 3) L (vI ((txLen.getD s 0 : Nat) : Int) :: st) μ) : K ZN pc L (vT en s :: st) μ :=
  j_callV (z := ZN) (As := []) Ra hs (cj_length hs) mw_J0_length_8abf5 mi_J0_length_8abf5 rfl rfl rfl hlk ⟨rfl, rfl, Nat.le_trans (by decide) (Nat.le_of_ble_eq_true hr1), Nat.le_trans (by decide) (Nat.le_of_ble_eq_true hr2)⟩ ⟨Nat.le_refl 0, Nat.le_refl 0⟩ (Nat.le_of_ble_eq_true hst) hd (fun _ => kk)
theorem q_charAt' (Ra : Ru ini res l en cc own nL (rmN f0 q0) K) {s i : Nat} {k : Int} (hs : s < 2) (hk : 0 ≤ k ∧ k < ((txLen.getD s 0 : Nat) : Int)) (hlk : Cond.methodLink own i yJ0_charAt_5068e ∈ GW) (hst : Nat.ble ((st.map fun v => v.category).sum) 8 = true) (hr1 : Nat.ble 6 f0 = true) (hr2 : Nat.ble 300 q0 = true) (hd : decode cc pc = .ok (.invokevirtual i, 3)) (kk : K ZN (pc + 3) L (vI (txc s k) :: st) μ) : K ZN pc L (vI k :: vT en s :: st) μ :=
  j_callV (z := ZN) (As := [vI k]) Ra hs (cj_ch0 hs hk) mw_J0_charAt_5068e mi_J0_charAt_5068e rfl rfl rfl hlk ⟨rfl, rfl, Nat.le_trans (by decide) (Nat.le_of_ble_eq_true hr1), Nat.le_trans (by decide) (Nat.le_of_ble_eq_true hr2)⟩ ⟨Nat.le_refl 0, Nat.le_refl 0⟩ (Nat.le_of_ble_eq_true hst) hd (fun _ => kk)
theorem q_indexOf' (Ra : Ru ini res l en cc own nL (rmN f0 q0) K) {s i : Nat} {k : Int} (hs : s < 2) (hk : inR k) (hlk : Cond.methodLink own i yJ0_indexOf_0f7a4 ∈ GW) (hst : Nat.ble ((st.map fun v => v.category).sum) 8 = true) (hr1 : Nat.ble 6 f0 = true) (hr2 : Nat.ble 300 q0 = true) (hd : decode cc pc = .ok (.invokevirtual i, 3)) (kk : K ZN (pc + 3) L (vI (txi s k) :: st) μ) : K ZN pc L (vI k :: vT en s :: st) μ :=
  j_callV (z := ZN) (As := [vI k]) Ra hs (cj_ix0 hs hk) mw_J0_indexOf_0f7a4 mi_J0_indexOf_0f7a4 rfl rfl rfl hlk ⟨rfl, rfl, Nat.le_trans (by decide) (Nat.le_of_ble_eq_true hr1), Nat.le_trans (by decide) (Nat.le_of_ble_eq_true hr2)⟩ ⟨Nat.le_refl 0, Nat.le_refl 0⟩ (Nat.le_of_ble_eq_true hst) hd (fun _ => kk)
end JQ
