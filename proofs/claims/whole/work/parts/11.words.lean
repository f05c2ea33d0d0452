/-! ===== the program: words, methods (printed by wip/whole/gen/table.py) ===== -/
theorem zt_1 {i : Nat} {w : Cond} (h : tables_1_1[i]? = some w) (g : goodWord w = true) : w ∈ zTB := List.mem_filter.mpr ⟨List.mem_append_right _ (show w ∈ tables_1 from List.mem_append_left _ (List.mem_of_getElem? h)), g⟩
theorem zt_2 {i : Nat} {w : Cond} (h : tables_1_2[i]? = some w) (g : goodWord w = true) : w ∈ zTB := List.mem_filter.mpr ⟨List.mem_append_right _ (show w ∈ tables_1 from List.mem_append_right _ (List.mem_append_left _ (List.mem_of_getElem? h))), g⟩
theorem zt_3 {i : Nat} {w : Cond} (h : tables_1_3[i]? = some w) (g : goodWord w = true) : w ∈ zTB := List.mem_filter.mpr ⟨List.mem_append_right _ (show w ∈ tables_1 from List.mem_append_right _ (List.mem_append_right _ (List.mem_append_left _ (List.mem_of_getElem? h)))), g⟩
theorem zt_4 {i : Nat} {w : Cond} (h : tables_1_4[i]? = some w) (g : goodWord w = true) : w ∈ zTB := List.mem_filter.mpr ⟨List.mem_append_right _ (show w ∈ tables_1 from List.mem_append_right _ (List.mem_append_right _ (List.mem_append_right _ (List.mem_append_left _ (List.mem_of_getElem? h))))), g⟩
theorem zt_5 {i : Nat} {w : Cond} (h : tables_1_5[i]? = some w) (g : goodWord w = true) : w ∈ zTB := List.mem_filter.mpr ⟨List.mem_append_right _ (show w ∈ tables_1 from List.mem_append_right _ (List.mem_append_right _ (List.mem_append_right _ (List.mem_append_right _ (List.mem_append_left _ (List.mem_of_getElem? h)))))), g⟩
theorem zt_6 {i : Nat} {w : Cond} (h : tables_1_6[i]? = some w) (g : goodWord w = true) : w ∈ zTB := List.mem_filter.mpr ⟨List.mem_append_right _ (show w ∈ tables_1 from List.mem_append_right _ (List.mem_append_right _ (List.mem_append_right _ (List.mem_append_right _ (List.mem_append_right _ ((List.mem_of_getElem? h))))))), g⟩
theorem zt_p1 {i : Nat} {q : MethodName × Nat} (h : lw_privs_1[i]? = some q) : Cond.selects q.1.cls q.1 q.1 ∈ zTB := List.mem_filter.mpr ⟨List.mem_append_left _ (List.mem_map.mpr ⟨q, (show q ∈ lw_privs from List.mem_append_left _ (List.mem_of_getElem? h)), rfl⟩), rfl⟩
theorem zt_p2 {i : Nat} {q : MethodName × Nat} (h : lw_privs_2[i]? = some q) : Cond.selects q.1.cls q.1 q.1 ∈ zTB := List.mem_filter.mpr ⟨List.mem_append_left _ (List.mem_map.mpr ⟨q, (show q ∈ lw_privs from List.mem_append_right _ (List.mem_append_left _ (List.mem_of_getElem? h))), rfl⟩), rfl⟩
theorem zt_p3 {i : Nat} {q : MethodName × Nat} (h : lw_privs_3[i]? = some q) : Cond.selects q.1.cls q.1 q.1 ∈ zTB := List.mem_filter.mpr ⟨List.mem_append_left _ (List.mem_map.mpr ⟨q, (show q ∈ lw_privs from List.mem_append_right _ (List.mem_append_right _ (List.mem_append_left _ (List.mem_of_getElem? h)))), rfl⟩), rfl⟩
theorem zt_p4 {i : Nat} {q : MethodName × Nat} (h : lw_privs_4[i]? = some q) : Cond.selects q.1.cls q.1 q.1 ∈ zTB := List.mem_filter.mpr ⟨List.mem_append_left _ (List.mem_map.mpr ⟨q, (show q ∈ lw_privs from List.mem_append_right _ (List.mem_append_right _ (List.mem_append_right _ (List.mem_append_left _ (List.mem_of_getElem? h))))), rfl⟩), rfl⟩
theorem zt_p5 {i : Nat} {q : MethodName × Nat} (h : lw_privs_5[i]? = some q) : Cond.selects q.1.cls q.1 q.1 ∈ zTB := List.mem_filter.mpr ⟨List.mem_append_left _ (List.mem_map.mpr ⟨q, (show q ∈ lw_privs from List.mem_append_right _ (List.mem_append_right _ (List.mem_append_right _ (List.mem_append_right _ ((List.mem_of_getElem? h)))))), rfl⟩), rfl⟩
theorem zs_none {G : zG} {own : String} {cc : ByteArray} {nL : Nat} {ini : Bool} {pc : Nat} : zSnd G own cc nL ini pc o_none := by
  intro ls st h pc' ls' st' h' he
  cases he
theorem znr_i {ty : FieldType} (hty : ty = .int := by rfl) (x : Int32) (_ : x = x) : narrow ty (.int x) = .int x ∧ fits ty (.int x) = true := by
  subst hty
  exact ⟨rfl, rfl⟩
theorem znr_z0 (x : Int32) (h : x &&& 1 = x) : x = 0 ∨ x = 1 := by
  have h2 : x.toBitVec &&& 1#32 = x.toBitVec := congrArg Int32.toBitVec h
  have h3 := congrArg BitVec.toNat h2
  rw [BitVec.toNat_and, show (1#32).toNat = 1 from rfl, Nat.and_one_is_mod] at h3
  have h4 : x.toBitVec.toNat = 0 ∨ x.toBitVec.toNat = 1 := by omega
  rcases h4 with e | e
  · exact Or.inl (Int32.toBitVec_inj.mp (BitVec.eq_of_toNat_eq e))
  · exact Or.inr (Int32.toBitVec_inj.mp (BitVec.eq_of_toNat_eq e))
theorem znr_z {ty : FieldType} (hty : ty = .boolean := by rfl) (x : Int32) (h : x &&& 1 = x) : narrow ty (.int x) = .int x ∧ fits ty (.int x) = true := by
  subst hty
  refine ⟨congrArg Value.int h, ?_⟩
  rcases znr_z0 x h with rfl | rfl <;> rfl
theorem znr_b {ty : FieldType} (hty : ty = .byte := by rfl) (x : Int32) (h : x.toInt8.toInt32 = x) : narrow ty (.int x) = .int x ∧ fits ty (.int x) = true := by
  subst hty
  refine ⟨congrArg Value.int h, ?_⟩
  have h1 := Int8.le_toInt x.toInt8
  have h2 := Int8.toInt_lt x.toInt8
  have h3 : x.toInt = x.toInt8.toInt := by
    conv => lhs; rw [← h]
    exact Int8.toInt_toInt32 _
  show (decide (-128 ≤ x) && decide (x ≤ 127)) = true
  rw [Bool.and_eq_true, decide_eq_true_iff, decide_eq_true_iff, Int32.le_iff_toInt_le, Int32.le_iff_toInt_le, h3]
  have e1 : (-128 : Int32).toInt = -128 := by decide
  have e2 : (127 : Int32).toInt = 127 := by decide
  omega
theorem ztsw {pc : Nat} {offs : Array Int} {ts : List Nat} (h : offs.toList.map (fun o => (pc : Int) + o) = ts.map Int.ofNat) : ∀ (i : Nat) (t : Nat), ts[i]? = some t → ∃ off, offs[i]? = some off ∧ (pc : Int) + off = (t : Int) := by
  intro i t ht
  have h2 := congrArg (fun l => l[i]?) h
  simp only [List.getElem?_map, ht, Array.getElem?_toList] at h2
  cases ho : offs[i]? with
  | none => rw [ho] at h2; cases h2
  | some off => rw [ho] at h2; exact ⟨off, rfl, Option.some.inj h2⟩
theorem zif_lt {G : zG} {M : Nat → zMI} {Mc : zMI} {pc m : Nat} {a b : zOp} (ha : zOkOp G M Mc pc a) (hb : zOkOp G M Mc pc b) : zOkOp G M Mc pc (if pc < m then a else b) := by
  by_cases h : pc < m
  · rw [if_pos h]; exact ha
  · rw [if_neg h]; exact hb
theorem zif_eq {G : zG} {M : Nat → zMI} {Mc : zMI} {pc m : Nat} {a : zOp} (ha : zOkOp G M Mc m a) : zOkOp G M Mc pc (if pc = m then a else o_none) := by
  by_cases h : pc = m
  · rw [if_pos h, h]; exact ha
  · rw [if_neg h]; exact Or.inl ⟨gk_none, zs_none⟩
theorem zif_y {G : zG} {M : Nat → zMI} {y m : Nat} {a b : Nat → zOp} (ha : ∀ pc, zOkOp G M (M y) pc (a pc)) (hb : ∀ pc, zOkOp G M (M y) pc (b pc)) : ∀ pc, zOkOp G M (M y) pc ((if y < m then a else b) pc) := by
  by_cases h : y < m
  · rw [if_pos h]; exact ha
  · rw [if_neg h]; exact hb
theorem zif_z {G : zG} {M : Nat → zMI} {y m : Nat} {Mc : zMI} {a : Nat → zOp} (hM : M m = Mc) (ha : ∀ pc, zOkOp G M Mc pc (a pc)) : ∀ pc, zOkOp G M (M y) pc ((if y = m then a else fun _ => o_none) pc) := by
  by_cases h : y = m
  · rw [if_pos h, h, hM]; exact ha
  · rw [if_neg h]; exact fun pc => Or.inl ⟨gk_none, zs_none⟩
theorem zw_3_183 : Cond.constantLong "java/lang/Long" 314 (6148914691236517205) ∈ zTB := zt_3 (i := 183) rfl rfl
theorem zw_3_184 : Cond.constantLong "java/lang/Long" 316 (3689348814741910323) ∈ zTB := zt_3 (i := 184) rfl rfl
theorem zw_3_185 : Cond.constantLong "java/lang/Long" 318 (1085102592571150095) ∈ zTB := zt_3 (i := 185) rfl rfl
theorem zw_2_143 : Cond.instanceMethod yJ0_init_bb550 ∈ zTB := zt_2 (i := 143) rfl rfl
theorem zw_2_142 : Cond.methodLink "java/lang/String" 27 yJ0_init_bb550 ∈ zTB := zt_2 (i := 142) rfl rfl
theorem zw_2_145 : Cond.methodLink "java/lang/String" 1 Lib.objectInit ∈ zTB := zt_2 (i := 145) rfl rfl
theorem zw_1_31 : Cond.instanceMethod Lib.objectInit ∈ zTB := zt_1 (i := 31) rfl rfl
theorem zw_1_32 : Cond.code Lib.objectInit ⟨#[0xb1]⟩ 1 none ∈ zTB := zt_1 (i := 32) rfl rfl
theorem zw_2_198 : Cond.fieldLink "java/lang/String" 9 "java/lang/String" "value" "[B" ∈ zTB := zt_2 (i := 198) rfl rfl
theorem zw_2_199 : Cond.fieldLink "java/lang/String" 15 "java/lang/String" "coder" "B" ∈ zTB := zt_2 (i := 199) rfl rfl
theorem zw_2_147 : Cond.fieldLink "java/lang/String" 38 "java/lang/String" "COMPACT_STRINGS" "Z" ∈ zTB := zt_2 (i := 147) rfl rfl
theorem zw_2_149 : Cond.methodLink "java/lang/String" 177 yJ2_compress_dfd3c ∈ zTB := zt_2 (i := 149) rfl rfl
theorem zw_2_150 : Cond.static yJ2_compress_dfd3c ∈ zTB := zt_2 (i := 150) rfl rfl
theorem zw_2_194 : Cond.methodLink "java/lang/String" 47 yJ2_coderFromArrayLen_85cad ∈ zTB := zt_2 (i := 194) rfl rfl
theorem zw_2_195 : Cond.static yJ2_coderFromArrayLen_85cad ∈ zTB := zt_2 (i := 195) rfl rfl
theorem zw_2_228 : Cond.instanceMethod yJ0_coder_7d493 ∈ zTB := zt_2 (i := 228) rfl rfl
theorem zw_2_227 : Cond.methodLink "java/lang/String" 335 yJ0_coder_7d493 ∈ zTB := zt_2 (i := 227) rfl rfl
theorem zw_2_229 : Cond.selects "java/lang/String" yJ0_coder_7d493 yJ0_coder_7d493 ∈ zTB := zt_2 (i := 229) rfl rfl
theorem zw_2_236 : Cond.instanceMethod yJ0_isLatin1_aae02 ∈ zTB := zt_2 (i := 236) rfl rfl
theorem zw_2_235 : Cond.methodLink "java/lang/String" 492 yJ0_isLatin1_aae02 ∈ zTB := zt_2 (i := 235) rfl rfl
theorem zw_2_237 : Cond.selects "java/lang/String" yJ0_isLatin1_aae02 yJ0_isLatin1_aae02 ∈ zTB := zt_2 (i := 237) rfl rfl
theorem zw_2_239 : Cond.methodLink "java/lang/String" 495 yJ1_charAt_3b067 ∈ zTB := zt_2 (i := 239) rfl rfl
theorem zw_3_0 : Cond.static yJ1_charAt_3b067 ∈ zTB := zt_3 (i := 0) rfl rfl
theorem zw_3_55 : Cond.instanceMethod yJ0_indexOf_7cf53 ∈ zTB := zt_3 (i := 55) rfl rfl
theorem zw_3_54 : Cond.methodLink "java/lang/String" 633 yJ0_indexOf_7cf53 ∈ zTB := zt_3 (i := 54) rfl rfl
theorem zw_3_56 : Cond.selects "java/lang/String" yJ0_indexOf_7cf53 yJ0_indexOf_7cf53 ∈ zTB := zt_3 (i := 56) rfl rfl
theorem zw_2_224 : Cond.instanceMethod yJ0_length_8abf5 ∈ zTB := zt_2 (i := 224) rfl rfl
theorem zw_3_58 : Cond.methodLink "java/lang/String" 505 yJ0_length_8abf5 ∈ zTB := zt_3 (i := 58) rfl rfl
theorem zw_2_225 : Cond.selects "java/lang/String" yJ0_length_8abf5 yJ0_length_8abf5 ∈ zTB := zt_2 (i := 225) rfl rfl
theorem zw_3_59 : Cond.methodLink "java/lang/String" 637 yJ1_indexOf_4cfef ∈ zTB := zt_3 (i := 59) rfl rfl
theorem zw_3_60 : Cond.static yJ1_indexOf_4cfef ∈ zTB := zt_3 (i := 60) rfl rfl
theorem zw_2_189 : Cond.fieldLink "java/lang/String" 1053 "jdk/internal/util/Preconditions" "SIOOBE_FORMATTER" "Ljava/util/function/BiFunction;" ∈ zTB := zt_2 (i := 189) rfl rfl
theorem zw_3_5 : Cond.methodLink "java/lang/String" 1059 yJ3_checkIndex_8e157 ∈ zTB := zt_3 (i := 5) rfl rfl
theorem zw_3_6 : Cond.static yJ3_checkIndex_8e157 ∈ zTB := zt_3 (i := 6) rfl rfl
theorem zw_3_2 : Cond.methodLink "java/lang/StringLatin1" 9 yJ0_checkIndex_df160 ∈ zTB := zt_3 (i := 2) rfl rfl
theorem zw_3_3 : Cond.static yJ0_checkIndex_df160 ∈ zTB := zt_3 (i := 3) rfl rfl
theorem zw_3_62 : Cond.methodLink "java/lang/StringLatin1" 88 yJ1_canEncode_9a6ad ∈ zTB := zt_3 (i := 62) rfl rfl
theorem zw_3_63 : Cond.static yJ1_canEncode_9a6ad ∈ zTB := zt_3 (i := 63) rfl rfl
theorem zw_3_65 : Cond.methodLink "java/lang/StringLatin1" 92 Lib.Math.max.name ∈ zTB := zt_3 (i := 65) rfl rfl
theorem zw_3_66 : Cond.static Lib.Math.max.name ∈ zTB := zt_3 (i := 66) rfl rfl
theorem zw_3_67 : Cond.code Lib.Math.max.name Lib.Math.max.code 2 (some .int) ∈ zTB := zt_3 (i := 67) rfl rfl
theorem zw_1_20 : Cond.initialized "java/lang/Math" ∈ zTB := zt_1 (i := 20) rfl rfl
theorem zw_3_68 : Cond.methodLink "java/lang/StringLatin1" 38 Lib.Math.min.name ∈ zTB := zt_3 (i := 68) rfl rfl
theorem zw_3_69 : Cond.static Lib.Math.min.name ∈ zTB := zt_3 (i := 69) rfl rfl
theorem zw_3_70 : Cond.code Lib.Math.min.name Lib.Math.min.code 2 (some .int) ∈ zTB := zt_3 (i := 70) rfl rfl
theorem zw_3_71 : Cond.methodLink "java/lang/StringLatin1" 95 yJ1_indexOfChar_4cfef ∈ zTB := zt_3 (i := 71) rfl rfl
theorem zw_3_72 : Cond.static yJ1_indexOfChar_4cfef ∈ zTB := zt_3 (i := 72) rfl rfl
theorem zw_2_209 : Cond.arrayClass .byte ∈ zTB := zt_2 (i := 209) rfl rfl
theorem zw_2_152 : Cond.methodLink "java/lang/StringUTF16" 115 yJ2_compress_fe38e ∈ zTB := zt_2 (i := 152) rfl rfl
theorem zw_2_153 : Cond.static yJ2_compress_fe38e ∈ zTB := zt_2 (i := 153) rfl rfl
theorem zw_2_84 : Cond.methodLink "MailSessions$Command" 1 Lib.objectInit ∈ zTB := zt_2 (i := 84) rfl rfl
theorem zw_1_39 : Cond.methodLink "MailSessions$Mailbox" 3 Lib.objectInit ∈ zTB := zt_1 (i := 39) rfl rfl
theorem zw_1_40 : Cond.classLink "MailSessions$Mailbox" 9 "MailSessions$Message" ∈ zTB := zt_1 (i := 40) rfl rfl
theorem zw_1_42 : Cond.fieldLink "MailSessions$Mailbox" 11 "MailSessions$Mailbox" "row" "[LMailSessions$Message;" ∈ zTB := zt_1 (i := 42) rfl rfl
theorem zw_1_45 : Cond.fieldLink "MailSessions$Mailbox" 17 "MailSessions$Mailbox" "there" "Z" ∈ zTB := zt_1 (i := 45) rfl rfl
theorem zw_1_47 : Cond.fieldLink "MailSessions$Mailbox" 21 "MailSessions$Mailbox" "validity" "I" ∈ zTB := zt_1 (i := 47) rfl rfl
theorem zw_1_49 : Cond.fieldLink "MailSessions$Mailbox" 25 "MailSessions$Mailbox" "next" "I" ∈ zTB := zt_1 (i := 49) rfl rfl
theorem zw_1_51 : Cond.fieldLink "MailSessions$Mailbox" 28 "MailSessions$Mailbox" "count" "I" ∈ zTB := zt_1 (i := 51) rfl rfl
theorem zw_3_194 : Cond.instantiable "MailSessions$Message" 4 ∈ zTB := zt_3 (i := 194) rfl rfl
theorem zw_1_23 : Cond.initialized "MailSessions$Message" ∈ zTB := zt_1 (i := 23) rfl rfl
theorem zw_3_196 : Cond.instanceMethod yX3_init ∈ zTB := zt_3 (i := 196) rfl rfl
theorem zw_3_195 : Cond.methodLink "MailSessions$Mailbox" 31 yX3_init ∈ zTB := zt_3 (i := 195) rfl rfl
theorem zw_3_209 : Cond.fieldLink "MailSessions$Mailbox" 34 "MailSessions$Message" "flags" "I" ∈ zTB := zt_3 (i := 209) rfl rfl
theorem zw_3_212 : Cond.fieldLink "MailSessions$Mailbox" 37 "MailSessions$Message" "gone" "Z" ∈ zTB := zt_3 (i := 212) rfl rfl
theorem zw_3_198 : Cond.methodLink "MailSessions$Message" 1 Lib.objectInit ∈ zTB := zt_3 (i := 198) rfl rfl
theorem zw_3_199 : Cond.fieldLink "MailSessions$Message" 7 "MailSessions$Message" "number" "I" ∈ zTB := zt_3 (i := 199) rfl rfl
theorem zw_3_207 : Cond.fieldLink "MailSessions$Message" 13 "MailSessions$Message" "flags" "I" ∈ zTB := zt_3 (i := 207) rfl rfl
theorem zw_3_203 : Cond.fieldLink "MailSessions$Message" 16 "MailSessions$Message" "text" "Ljava/lang/String;" ∈ zTB := zt_3 (i := 203) rfl rfl
theorem zw_2_55 : Cond.methodLink "MailSessions$Reader" 3 Lib.objectInit ∈ zTB := zt_2 (i := 55) rfl rfl
theorem zw_2_56 : Cond.fieldLink "MailSessions$Reader" 9 "MailSessions$Reader" "line" "[C" ∈ zTB := zt_2 (i := 56) rfl rfl
theorem zw_2_57 : Cond.fieldLink "MailSessions$Reader" 15 "MailSessions$Reader" "length" "I" ∈ zTB := zt_2 (i := 57) rfl rfl
theorem zw_2_58 : Cond.fieldLink "MailSessions$Reader" 19 "MailSessions$Reader" "view" "LMailSessions$View;" ∈ zTB := zt_2 (i := 58) rfl rfl
theorem zw_2_79 : Cond.classLink "MailSessions$Reader" 23 "MailSessions$Command" ∈ zTB := zt_2 (i := 79) rfl rfl
theorem zw_2_80 : Cond.instantiable "MailSessions$Command" 10 ∈ zTB := zt_2 (i := 80) rfl rfl
theorem zw_1_14 : Cond.initialized "MailSessions$Command" ∈ zTB := zt_1 (i := 14) rfl rfl
theorem zw_2_82 : Cond.instanceMethod yX1_init ∈ zTB := zt_2 (i := 82) rfl rfl
theorem zw_2_131 : Cond.instanceMethod yX4_readLetters ∈ zTB := zt_2 (i := 131) rfl rfl
theorem zw_2_129 : Cond.methodLink "MailSessions$Reader" 26 yX4_readLetters ∈ zTB := zt_2 (i := 129) rfl rfl
theorem zw_p1_4 : Cond.selects "MailSessions$Reader" yX4_readLetters yX4_readLetters ∈ zTB := zt_p1 (i := 4) rfl
theorem zw_2_85 : Cond.fieldLink "MailSessions$Reader" 30 "MailSessions$Command" "tag" "Ljava/lang/String;" ∈ zTB := zt_2 (i := 85) rfl rfl
theorem zw_2_212 : Cond.instanceMethod yX4_need ∈ zTB := zt_2 (i := 212) rfl rfl
theorem zw_2_210 : Cond.methodLink "MailSessions$Reader" 34 yX4_need ∈ zTB := zt_2 (i := 210) rfl rfl
theorem zw_p1_6 : Cond.selects "MailSessions$Reader" yX4_need yX4_need ∈ zTB := zt_p1 (i := 6) rfl
theorem zw_2_221 : Cond.instanceMethod yX4_takeWord ∈ zTB := zt_2 (i := 221) rfl rfl
theorem zw_2_219 : Cond.methodLink "MailSessions$Reader" 40 yX4_takeWord ∈ zTB := zt_2 (i := 219) rfl rfl
theorem zw_p1_8 : Cond.selects "MailSessions$Reader" yX4_takeWord yX4_takeWord ∈ zTB := zt_p1 (i := 8) rfl
theorem zw_2_89 : Cond.fieldLink "MailSessions$Reader" 44 "MailSessions$Command" "uid" "Z" ∈ zTB := zt_2 (i := 89) rfl rfl
theorem zw_3_17 : Cond.instanceMethod yX4_readVerb ∈ zTB := zt_3 (i := 17) rfl rfl
theorem zw_3_15 : Cond.methodLink "MailSessions$Reader" 48 yX4_readVerb ∈ zTB := zt_3 (i := 15) rfl rfl
theorem zw_p1_9 : Cond.selects "MailSessions$Reader" yX4_readVerb yX4_readVerb ∈ zTB := zt_p1 (i := 9) rfl
theorem zw_2_87 : Cond.fieldLink "MailSessions$Reader" 52 "MailSessions$Command" "verb" "LMailSessions$Verb;" ∈ zTB := zt_2 (i := 87) rfl rfl
theorem zw_6_52 : Cond.fieldLink "MailSessions$Reader" 56 "MailSessions$Verb" "takesUid" "Z" ∈ zTB := zt_6 (i := 52) rfl rfl
theorem zw_3_23 : Cond.instanceMethod yX4_readRest ∈ zTB := zt_3 (i := 23) rfl rfl
theorem zw_3_21 : Cond.methodLink "MailSessions$Reader" 61 yX4_readRest ∈ zTB := zt_3 (i := 21) rfl rfl
theorem zw_p1_10 : Cond.selects "MailSessions$Reader" yX4_readRest yX4_readRest ∈ zTB := zt_p1 (i := 10) rfl
theorem zw_2_61 : Cond.fieldLink "MailSessions$Reader" 65 "MailSessions$Reader" "wrong" "Z" ∈ zTB := zt_2 (i := 61) rfl rfl
theorem zw_2_106 : Cond.fieldLink "MailSessions$Reader" 68 "MailSessions$Command" "wrong" "Z" ∈ zTB := zt_2 (i := 106) rfl rfl
theorem zw_2_60 : Cond.fieldLink "MailSessions$Reader" 69 "MailSessions$Reader" "bad" "Z" ∈ zTB := zt_2 (i := 60) rfl rfl
theorem zw_2_59 : Cond.fieldLink "MailSessions$Reader" 72 "MailSessions$Reader" "at" "I" ∈ zTB := zt_2 (i := 59) rfl rfl
theorem zw_6_51 : Cond.fieldLink "MailSessions$Reader" 79 "MailSessions$Verb" "word" "Ljava/lang/String;" ∈ zTB := zt_6 (i := 51) rfl rfl
theorem zw_3_25 : Cond.fieldLink "MailSessions$Reader" 82 "MailSessions$1" "$SwitchMap$MailSessions$Verb" "[I" ∈ zTB := zt_3 (i := 25) rfl rfl
theorem zw_3_27 : Cond.methodLink "MailSessions$Reader" 88 ⟨"MailSessions$Verb", "ordinal", "()I"⟩ ∈ zTB := zt_3 (i := 27) rfl rfl
theorem zw_3_28 : Cond.sameMethod "MailSessions$Verb" "java/lang/Enum" "ordinal" "()I" ∈ zTB := zt_3 (i := 28) rfl rfl
theorem zw_3_30 : Cond.selects "MailSessions$Verb" ⟨"MailSessions$Verb", "ordinal", "()I"⟩ yJx29ce0_ordinal_8abf5 ∈ zTB := zt_3 (i := 30) rfl rfl
theorem zw_3_31 : Cond.instanceMethod yJx29ce0_ordinal_8abf5 ∈ zTB := zt_3 (i := 31) rfl rfl
theorem zw_6_53 : Cond.fieldLink "java/lang/Enum" 7 "java/lang/Enum" "ordinal" "I" ∈ zTB := zt_6 (i := 53) rfl rfl
theorem zw_3_32 : Cond.code yJx29ce0_ordinal_8abf5 cJx29ce0_ordinal_8abf5 1 (some .int) ∈ zTB := zt_3 (i := 32) rfl rfl
theorem zw_3_35 : Cond.instanceMethod yX4_readMailbox ∈ zTB := zt_3 (i := 35) rfl rfl
theorem zw_3_33 : Cond.methodLink "MailSessions$Reader" 92 yX4_readMailbox ∈ zTB := zt_3 (i := 33) rfl rfl
theorem zw_p1_11 : Cond.selects "MailSessions$Reader" yX4_readMailbox yX4_readMailbox ∈ zTB := zt_p1 (i := 11) rfl
theorem zw_2_92 : Cond.fieldLink "MailSessions$Reader" 95 "MailSessions$Command" "mailbox" "I" ∈ zTB := zt_2 (i := 92) rfl rfl
theorem zw_3_43 : Cond.instanceMethod yX4_readFlags ∈ zTB := zt_3 (i := 43) rfl rfl
theorem zw_3_41 : Cond.methodLink "MailSessions$Reader" 98 yX4_readFlags ∈ zTB := zt_3 (i := 41) rfl rfl
theorem zw_p1_13 : Cond.selects "MailSessions$Reader" yX4_readFlags yX4_readFlags ∈ zTB := zt_p1 (i := 13) rfl
theorem zw_2_94 : Cond.fieldLink "MailSessions$Reader" 101 "MailSessions$Command" "flags" "I" ∈ zTB := zt_2 (i := 94) rfl rfl
theorem zw_2_97 : Cond.fieldLink "MailSessions$Reader" 104 "MailSessions$Command" "text" "Ljava/lang/String;" ∈ zTB := zt_2 (i := 97) rfl rfl
theorem zw_3_111 : Cond.instanceMethod yX4_readSet ∈ zTB := zt_3 (i := 111) rfl rfl
theorem zw_3_109 : Cond.methodLink "MailSessions$Reader" 107 yX4_readSet ∈ zTB := zt_3 (i := 109) rfl rfl
theorem zw_p1_15 : Cond.selects "MailSessions$Reader" yX4_readSet yX4_readSet ∈ zTB := zt_p1 (i := 15) rfl
theorem zw_2_103 : Cond.fieldLink "MailSessions$Reader" 111 "MailSessions$Command" "places" "J" ∈ zTB := zt_2 (i := 103) rfl rfl
theorem zw_3_129 : Cond.instanceMethod yX4_readChange ∈ zTB := zt_3 (i := 129) rfl rfl
theorem zw_3_127 : Cond.methodLink "MailSessions$Reader" 115 yX4_readChange ∈ zTB := zt_3 (i := 127) rfl rfl
theorem zw_p2_1 : Cond.selects "MailSessions$Reader" yX4_readChange yX4_readChange ∈ zTB := zt_p2 (i := 1) rfl
theorem zw_2_99 : Cond.fieldLink "MailSessions$Reader" 118 "MailSessions$Command" "change" "I" ∈ zTB := zt_2 (i := 99) rfl rfl
theorem zw_3_133 : Cond.instanceMethod yX4_readItem ∈ zTB := zt_3 (i := 133) rfl rfl
theorem zw_3_131 : Cond.methodLink "MailSessions$Reader" 121 yX4_readItem ∈ zTB := zt_3 (i := 131) rfl rfl
theorem zw_p2_2 : Cond.selects "MailSessions$Reader" yX4_readItem yX4_readItem ∈ zTB := zt_p2 (i := 2) rfl
theorem zw_2_101 : Cond.fieldLink "MailSessions$Reader" 124 "MailSessions$Command" "item" "I" ∈ zTB := zt_2 (i := 101) rfl rfl
theorem zw_3_140 : Cond.instanceMethod yX4_readSearch ∈ zTB := zt_3 (i := 140) rfl rfl
theorem zw_3_138 : Cond.methodLink "MailSessions$Reader" 127 yX4_readSearch ∈ zTB := zt_3 (i := 138) rfl rfl
theorem zw_p2_3 : Cond.selects "MailSessions$Reader" yX4_readSearch yX4_readSearch ∈ zTB := zt_p2 (i := 3) rfl
theorem zw_3_39 : Cond.instanceMethod yX4_sign ∈ zTB := zt_3 (i := 39) rfl rfl
theorem zw_3_37 : Cond.methodLink "MailSessions$Reader" 131 yX4_sign ∈ zTB := zt_3 (i := 37) rfl rfl
theorem zw_p1_12 : Cond.selects "MailSessions$Reader" yX4_sign yX4_sign ∈ zTB := zt_p1 (i := 12) rfl
theorem zw_2_216 : Cond.instanceMethod yX4_takeSign ∈ zTB := zt_2 (i := 216) rfl rfl
theorem zw_2_214 : Cond.methodLink "MailSessions$Reader" 135 yX4_takeSign ∈ zTB := zt_2 (i := 214) rfl rfl
theorem zw_p1_7 : Cond.selects "MailSessions$Reader" yX4_takeSign yX4_takeSign ∈ zTB := zt_p1 (i := 7) rfl
theorem zw_3_47 : Cond.instanceMethod yX4_readFlag ∈ zTB := zt_3 (i := 47) rfl rfl
theorem zw_3_45 : Cond.methodLink "MailSessions$Reader" 145 yX4_readFlag ∈ zTB := zt_3 (i := 45) rfl rfl
theorem zw_p1_14 : Cond.selects "MailSessions$Reader" yX4_readFlag yX4_readFlag ∈ zTB := zt_p1 (i := 14) rfl
theorem zw_3_51 : Cond.instanceMethod yJ0_indexOf_0f7a4 ∈ zTB := zt_3 (i := 51) rfl rfl
theorem zw_3_50 : Cond.methodLink "MailSessions$Reader" 150 yJ0_indexOf_0f7a4 ∈ zTB := zt_3 (i := 50) rfl rfl
theorem zw_3_52 : Cond.selects "java/lang/String" yJ0_indexOf_0f7a4 yJ0_indexOf_0f7a4 ∈ zTB := zt_3 (i := 52) rfl rfl
theorem zw_2_135 : Cond.instanceMethod yX4_isLetter ∈ zTB := zt_2 (i := 135) rfl rfl
theorem zw_2_133 : Cond.methodLink "MailSessions$Reader" 156 yX4_isLetter ∈ zTB := zt_2 (i := 133) rfl rfl
theorem zw_p1_5 : Cond.selects "MailSessions$Reader" yX4_isLetter yX4_isLetter ∈ zTB := zt_p1 (i := 5) rfl
theorem zw_1_88 : Cond.arrayClass .char ∈ zTB := zt_1 (i := 88) rfl rfl
theorem zw_2_137 : Cond.classLink "MailSessions$Reader" 151 "java/lang/String" ∈ zTB := zt_2 (i := 137) rfl rfl
theorem zw_2_138 : Cond.instantiable "java/lang/String" 4 ∈ zTB := zt_2 (i := 138) rfl rfl
theorem zw_1_15 : Cond.initialized "java/lang/String" ∈ zTB := zt_1 (i := 15) rfl rfl
theorem zw_2_140 : Cond.instanceMethod yJ0_init_905df ∈ zTB := zt_2 (i := 140) rfl rfl
theorem zw_2_139 : Cond.methodLink "MailSessions$Reader" 160 yJ0_init_905df ∈ zTB := zt_2 (i := 139) rfl rfl
theorem zw_3_144 : Cond.instanceMethod yX4_readKey ∈ zTB := zt_3 (i := 144) rfl rfl
theorem zw_3_142 : Cond.methodLink "MailSessions$Reader" 163 yX4_readKey ∈ zTB := zt_3 (i := 142) rfl rfl
theorem zw_p2_4 : Cond.selects "MailSessions$Reader" yX4_readKey yX4_readKey ∈ zTB := zt_p2 (i := 4) rfl
theorem zw_3_148 : Cond.instanceMethod yX8_present ∈ zTB := zt_3 (i := 148) rfl rfl
theorem zw_3_147 : Cond.methodLink "MailSessions$Reader" 168 yX8_present ∈ zTB := zt_3 (i := 147) rfl rfl
theorem zw_3_149 : Cond.selects "MailSessions$View" yX8_present yX8_present ∈ zTB := zt_3 (i := 149) rfl rfl
theorem zw_3_154 : Cond.instanceMethod yX8_withFlag ∈ zTB := zt_3 (i := 154) rfl rfl
theorem zw_3_153 : Cond.methodLink "MailSessions$Reader" 176 yX8_withFlag ∈ zTB := zt_3 (i := 153) rfl rfl
theorem zw_3_155 : Cond.selects "MailSessions$View" yX8_withFlag yX8_withFlag ∈ zTB := zt_3 (i := 155) rfl rfl
theorem zw_3_159 : Cond.instanceMethod yX8_withText ∈ zTB := zt_3 (i := 159) rfl rfl
theorem zw_3_158 : Cond.methodLink "MailSessions$Reader" 181 yX8_withText ∈ zTB := zt_3 (i := 158) rfl rfl
theorem zw_3_160 : Cond.selects "MailSessions$View" yX8_withText yX8_withText ∈ zTB := zt_3 (i := 160) rfl rfl
theorem zw_3_168 : Cond.constantLong "MailSessions$Reader" 187 (-1) ∈ zTB := zt_3 (i := 168) rfl rfl
theorem zw_3_115 : Cond.instanceMethod yX4_readPoint ∈ zTB := zt_3 (i := 115) rfl rfl
theorem zw_3_113 : Cond.methodLink "MailSessions$Reader" 191 yX4_readPoint ∈ zTB := zt_3 (i := 113) rfl rfl
theorem zw_p2_0 : Cond.selects "MailSessions$Reader" yX4_readPoint yX4_readPoint ∈ zTB := zt_p2 (i := 0) rfl
theorem zw_3_121 : Cond.methodLink "MailSessions$Reader" 195 Lib.Math.min.name ∈ zTB := zt_3 (i := 121) rfl rfl
theorem zw_3_122 : Cond.methodLink "MailSessions$Reader" 201 Lib.Math.max.name ∈ zTB := zt_3 (i := 122) rfl rfl
theorem zw_3_124 : Cond.instanceMethod yX8_between ∈ zTB := zt_3 (i := 124) rfl rfl
theorem zw_3_123 : Cond.methodLink "MailSessions$Reader" 204 yX8_between ∈ zTB := zt_3 (i := 123) rfl rfl
theorem zw_3_125 : Cond.selects "MailSessions$View" yX8_between yX8_between ∈ zTB := zt_3 (i := 125) rfl rfl
theorem zw_3_118 : Cond.instanceMethod yX8_last ∈ zTB := zt_3 (i := 118) rfl rfl
theorem zw_3_117 : Cond.methodLink "MailSessions$Reader" 208 yX8_last ∈ zTB := zt_3 (i := 117) rfl rfl
theorem zw_3_119 : Cond.selects "MailSessions$View" yX8_last yX8_last ∈ zTB := zt_3 (i := 119) rfl rfl
theorem zw_1_103 : Cond.fieldLink "MailSessions$Reader" 211 "MailSessions$View" "count" "I" ∈ zTB := zt_1 (i := 103) rfl rfl
theorem zw_2_223 : Cond.methodLink "MailSessions$Reader" 214 yJ0_length_8abf5 ∈ zTB := zt_2 (i := 223) rfl rfl
theorem zw_2_232 : Cond.instanceMethod yJ0_charAt_5068e ∈ zTB := zt_2 (i := 232) rfl rfl
theorem zw_2_231 : Cond.methodLink "MailSessions$Reader" 216 yJ0_charAt_5068e ∈ zTB := zt_2 (i := 231) rfl rfl
theorem zw_2_233 : Cond.selects "java/lang/String" yJ0_charAt_5068e yJ0_charAt_5068e ∈ zTB := zt_2 (i := 233) rfl rfl
theorem zw_1_78 : Cond.methodLink "MailSessions$Reply" 3 Lib.objectInit ∈ zTB := zt_1 (i := 78) rfl rfl
theorem zw_1_79 : Cond.fieldLink "MailSessions$Reply" 9 "MailSessions$Reply" "signs" "[C" ∈ zTB := zt_1 (i := 79) rfl rfl
theorem zw_1_81 : Cond.fieldLink "MailSessions$Reply" 15 "MailSessions$Reply" "length" "I" ∈ zTB := zt_1 (i := 81) rfl rfl
theorem zw_4_10 : Cond.methodLink "MailSessions$Reply" 19 yJ0_length_8abf5 ∈ zTB := zt_4 (i := 10) rfl rfl
theorem zw_4_11 : Cond.methodLink "MailSessions$Reply" 24 yJ0_charAt_5068e ∈ zTB := zt_4 (i := 11) rfl rfl
theorem zw_4_13 : Cond.instanceMethod yX5_putSign ∈ zTB := zt_4 (i := 13) rfl rfl
theorem zw_4_12 : Cond.methodLink "MailSessions$Reply" 28 yX5_putSign ∈ zTB := zt_4 (i := 12) rfl rfl
theorem zw_4_14 : Cond.selects "MailSessions$Reply" yX5_putSign yX5_putSign ∈ zTB := zt_4 (i := 14) rfl rfl
theorem zw_4_20 : Cond.constant "MailSessions$Reply" 32 (1000000000) ∈ zTB := zt_4 (i := 20) rfl rfl
theorem zw_4_7 : Cond.instanceMethod yX5_putText ∈ zTB := zt_4 (i := 7) rfl rfl
theorem zw_4_6 : Cond.methodLink "MailSessions$Reply" 35 yX5_putText ∈ zTB := zt_4 (i := 6) rfl rfl
theorem zw_4_8 : Cond.selects "MailSessions$Reply" yX5_putText yX5_putText ∈ zTB := zt_4 (i := 8) rfl rfl
theorem zw_4_17 : Cond.instanceMethod yX5_putNumber ∈ zTB := zt_4 (i := 17) rfl rfl
theorem zw_4_16 : Cond.methodLink "MailSessions$Reply" 39 yX5_putNumber ∈ zTB := zt_4 (i := 16) rfl rfl
theorem zw_4_18 : Cond.selects "MailSessions$Reply" yX5_putNumber yX5_putNumber ∈ zTB := zt_4 (i := 18) rfl rfl
theorem zw_4_2 : Cond.instanceMethod yX5_startLine ∈ zTB := zt_4 (i := 2) rfl rfl
theorem zw_4_1 : Cond.methodLink "MailSessions$Reply" 43 yX5_startLine ∈ zTB := zt_4 (i := 1) rfl rfl
theorem zw_4_3 : Cond.selects "MailSessions$Reply" yX5_startLine yX5_startLine ∈ zTB := zt_4 (i := 3) rfl rfl
theorem zw_1_72 : Cond.methodLink "MailSessions$Session" 3 Lib.objectInit ∈ zTB := zt_1 (i := 72) rfl rfl
theorem zw_1_115 : Cond.fieldLink "MailSessions$Session" 9 "MailSessions$Session" "line" "[C" ∈ zTB := zt_1 (i := 115) rfl rfl
theorem zw_1_73 : Cond.classLink "MailSessions$Session" 15 "MailSessions$Reply" ∈ zTB := zt_1 (i := 73) rfl rfl
theorem zw_1_74 : Cond.instantiable "MailSessions$Reply" 2 ∈ zTB := zt_1 (i := 74) rfl rfl
theorem zw_1_4 : Cond.initialized "MailSessions$Reply" ∈ zTB := zt_1 (i := 4) rfl rfl
theorem zw_1_76 : Cond.instanceMethod yX5_init ∈ zTB := zt_1 (i := 76) rfl rfl
theorem zw_1_117 : Cond.fieldLink "MailSessions$Session" 18 "MailSessions$Session" "reply" "LMailSessions$Reply;" ∈ zTB := zt_1 (i := 117) rfl rfl
theorem zw_1_89 : Cond.classLink "MailSessions$Session" 22 "MailSessions$View" ∈ zTB := zt_1 (i := 89) rfl rfl
theorem zw_1_90 : Cond.instantiable "MailSessions$View" 4 ∈ zTB := zt_1 (i := 90) rfl rfl
theorem zw_1_5 : Cond.initialized "MailSessions$View" ∈ zTB := zt_1 (i := 5) rfl rfl
theorem zw_1_92 : Cond.instanceMethod yX8_init ∈ zTB := zt_1 (i := 92) rfl rfl
theorem zw_1_119 : Cond.fieldLink "MailSessions$Session" 25 "MailSessions$Session" "view" "LMailSessions$View;" ∈ zTB := zt_1 (i := 119) rfl rfl
theorem zw_1_123 : Cond.fieldLink "MailSessions$Session" 29 "MailSessions$Session" "selected" "LMailSessions$Mailbox;" ∈ zTB := zt_1 (i := 123) rfl rfl
theorem zw_1_125 : Cond.fieldLink "MailSessions$Session" 33 "MailSessions$Session" "writes" "Z" ∈ zTB := zt_1 (i := 125) rfl rfl
theorem zw_3_229 : Cond.instanceMethod yX8_empty ∈ zTB := zt_3 (i := 229) rfl rfl
theorem zw_3_228 : Cond.methodLink "MailSessions$Session" 37 yX8_empty ∈ zTB := zt_3 (i := 228) rfl rfl
theorem zw_3_230 : Cond.selects "MailSessions$View" yX8_empty yX8_empty ∈ zTB := zt_3 (i := 230) rfl rfl
theorem zw_3_233 : Cond.instanceMethod yX8_takeNew ∈ zTB := zt_3 (i := 233) rfl rfl
theorem zw_3_232 : Cond.methodLink "MailSessions$Session" 40 yX8_takeNew ∈ zTB := zt_3 (i := 232) rfl rfl
theorem zw_3_234 : Cond.selects "MailSessions$View" yX8_takeNew yX8_takeNew ∈ zTB := zt_3 (i := 234) rfl rfl
theorem zw_1_52 : Cond.fieldLink "MailSessions$Session" 44 "MailSessions$Mailbox" "count" "I" ∈ zTB := zt_1 (i := 52) rfl rfl
theorem zw_3_238 : Cond.instanceMethod yX5_putLine ∈ zTB := zt_3 (i := 238) rfl rfl
theorem zw_3_237 : Cond.methodLink "MailSessions$Session" 52 yX5_putLine ∈ zTB := zt_3 (i := 237) rfl rfl
theorem zw_3_239 : Cond.selects "MailSessions$Reply" yX5_putLine yX5_putLine ∈ zTB := zt_3 (i := 239) rfl rfl
theorem zw_1_48 : Cond.fieldLink "MailSessions$Session" 56 "MailSessions$Mailbox" "validity" "I" ∈ zTB := zt_1 (i := 48) rfl rfl
theorem zw_1_50 : Cond.fieldLink "MailSessions$Session" 61 "MailSessions$Mailbox" "next" "I" ∈ zTB := zt_1 (i := 50) rfl rfl
theorem zw_4_28 : Cond.instanceMethod yX2_expunge ∈ zTB := zt_4 (i := 28) rfl rfl
theorem zw_4_27 : Cond.methodLink "MailSessions$Session" 66 yX2_expunge ∈ zTB := zt_4 (i := 27) rfl rfl
theorem zw_4_29 : Cond.selects "MailSessions$Mailbox" yX2_expunge yX2_expunge ∈ zTB := zt_4 (i := 29) rfl rfl
theorem zw_1_101 : Cond.fieldLink "MailSessions$Session" 69 "MailSessions$View" "count" "I" ∈ zTB := zt_1 (i := 101) rfl rfl
theorem zw_2_104 : Cond.fieldLink "MailSessions$Session" 70 "MailSessions$Command" "places" "J" ∈ zTB := zt_2 (i := 104) rfl rfl
theorem zw_1_97 : Cond.fieldLink "MailSessions$Session" 76 "MailSessions$View" "row" "[LMailSessions$Message;" ∈ zTB := zt_1 (i := 97) rfl rfl
theorem zw_2_100 : Cond.fieldLink "MailSessions$Session" 80 "MailSessions$Command" "change" "I" ∈ zTB := zt_2 (i := 100) rfl rfl
theorem zw_3_210 : Cond.fieldLink "MailSessions$Session" 83 "MailSessions$Message" "flags" "I" ∈ zTB := zt_3 (i := 210) rfl rfl
theorem zw_2_95 : Cond.fieldLink "MailSessions$Session" 88 "MailSessions$Command" "flags" "I" ∈ zTB := zt_2 (i := 95) rfl rfl
theorem zw_4_41 : Cond.instanceMethod yX6_tellFlags ∈ zTB := zt_4 (i := 41) rfl rfl
theorem zw_4_39 : Cond.methodLink "MailSessions$Session" 89 yX6_tellFlags ∈ zTB := zt_4 (i := 39) rfl rfl
theorem zw_p2_8 : Cond.selects "MailSessions$Session" yX6_tellFlags yX6_tellFlags ∈ zTB := zt_p2 (i := 8) rfl
theorem zw_2_102 : Cond.fieldLink "MailSessions$Session" 93 "MailSessions$Command" "item" "I" ∈ zTB := zt_2 (i := 102) rfl rfl
theorem zw_4_44 : Cond.methodLink "MailSessions$Session" 98 yX5_startLine ∈ zTB := zt_4 (i := 44) rfl rfl
theorem zw_3_201 : Cond.fieldLink "MailSessions$Session" 101 "MailSessions$Message" "number" "I" ∈ zTB := zt_3 (i := 201) rfl rfl
theorem zw_4_55 : Cond.methodLink "MailSessions$Session" 104 yX5_putNumber ∈ zTB := zt_4 (i := 55) rfl rfl
theorem zw_4_50 : Cond.methodLink "MailSessions$Session" 107 yX5_putSign ∈ zTB := zt_4 (i := 50) rfl rfl
theorem zw_3_204 : Cond.fieldLink "MailSessions$Session" 111 "MailSessions$Message" "text" "Ljava/lang/String;" ∈ zTB := zt_3 (i := 204) rfl rfl
theorem zw_4_56 : Cond.methodLink "MailSessions$Session" 115 yX5_putText ∈ zTB := zt_4 (i := 56) rfl rfl
theorem zw_3_191 : Cond.instanceMethod yX2_add ∈ zTB := zt_3 (i := 191) rfl rfl
theorem zw_4_61 : Cond.methodLink "MailSessions$Session" 119 yX2_add ∈ zTB := zt_4 (i := 61) rfl rfl
theorem zw_3_192 : Cond.selects "MailSessions$Mailbox" yX2_add yX2_add ∈ zTB := zt_3 (i := 192) rfl rfl
theorem zw_2_91 : Cond.fieldLink "MailSessions$Session" 124 "MailSessions$Command" "uid" "Z" ∈ zTB := zt_2 (i := 91) rfl rfl
theorem zw_4_73 : Cond.instanceMethod yX6_tellGone ∈ zTB := zt_4 (i := 73) rfl rfl
theorem zw_4_71 : Cond.methodLink "MailSessions$Session" 127 yX6_tellGone ∈ zTB := zt_4 (i := 71) rfl rfl
theorem zw_p2_9 : Cond.selects "MailSessions$Session" yX6_tellGone yX6_tellGone ∈ zTB := zt_p2 (i := 9) rfl
theorem zw_3_214 : Cond.fieldLink "MailSessions$Session" 130 "MailSessions$Message" "gone" "Z" ∈ zTB := zt_3 (i := 214) rfl rfl
theorem zw_1_99 : Cond.fieldLink "MailSessions$Session" 133 "MailSessions$View" "told" "[I" ∈ zTB := zt_1 (i := 99) rfl rfl
theorem zw_4_46 : Cond.instanceMethod yX5_putFlags ∈ zTB := zt_4 (i := 46) rfl rfl
theorem zw_4_45 : Cond.methodLink "MailSessions$Session" 139 yX5_putFlags ∈ zTB := zt_4 (i := 45) rfl rfl
theorem zw_4_47 : Cond.selects "MailSessions$Reply" yX5_putFlags yX5_putFlags ∈ zTB := zt_4 (i := 47) rfl rfl
theorem zw_1_94 : Cond.methodLink "MailSessions$View" 3 Lib.objectInit ∈ zTB := zt_1 (i := 94) rfl rfl
theorem zw_1_95 : Cond.classLink "MailSessions$View" 9 "MailSessions$Message" ∈ zTB := zt_1 (i := 95) rfl rfl
theorem zw_1_96 : Cond.fieldLink "MailSessions$View" 11 "MailSessions$View" "row" "[LMailSessions$Message;" ∈ zTB := zt_1 (i := 96) rfl rfl
theorem zw_1_114 : Cond.arrayClass .int ∈ zTB := zt_1 (i := 114) rfl rfl
theorem zw_1_98 : Cond.fieldLink "MailSessions$View" 17 "MailSessions$View" "told" "[I" ∈ zTB := zt_1 (i := 98) rfl rfl
theorem zw_1_100 : Cond.fieldLink "MailSessions$View" 21 "MailSessions$View" "count" "I" ∈ zTB := zt_1 (i := 100) rfl rfl
theorem zw_1_104 : Cond.fieldLink "MailSessions$View" 25 "MailSessions$View" "newest" "I" ∈ zTB := zt_1 (i := 104) rfl rfl
theorem zw_1_53 : Cond.fieldLink "MailSessions$View" 28 "MailSessions$Mailbox" "count" "I" ∈ zTB := zt_1 (i := 53) rfl rfl
theorem zw_1_43 : Cond.fieldLink "MailSessions$View" 31 "MailSessions$Mailbox" "row" "[LMailSessions$Message;" ∈ zTB := zt_1 (i := 43) rfl rfl
theorem zw_3_200 : Cond.fieldLink "MailSessions$View" 32 "MailSessions$Message" "number" "I" ∈ zTB := zt_3 (i := 200) rfl rfl
theorem zw_3_208 : Cond.fieldLink "MailSessions$View" 35 "MailSessions$Message" "flags" "I" ∈ zTB := zt_3 (i := 208) rfl rfl
theorem zw_3_151 : Cond.methodLink "MailSessions$View" 38 yX8_between ∈ zTB := zt_3 (i := 151) rfl rfl
theorem zw_3_213 : Cond.fieldLink "MailSessions$View" 42 "MailSessions$Message" "gone" "Z" ∈ zTB := zt_3 (i := 213) rfl rfl
theorem zw_3_205 : Cond.fieldLink "MailSessions$View" 46 "MailSessions$Message" "text" "Ljava/lang/String;" ∈ zTB := zt_3 (i := 205) rfl rfl
theorem zw_3_162 : Cond.methodLink "MailSessions$View" 50 yX8_contains ∈ zTB := zt_3 (i := 162) rfl rfl
theorem zw_3_163 : Cond.static yX8_contains ∈ zTB := zt_3 (i := 163) rfl rfl
theorem zw_3_165 : Cond.methodLink "MailSessions$View" 54 yJ0_length_8abf5 ∈ zTB := zt_3 (i := 165) rfl rfl
theorem zw_3_166 : Cond.methodLink "MailSessions$View" 60 yJ0_charAt_5068e ∈ zTB := zt_3 (i := 166) rfl rfl
theorem zw_1_30 : Cond.methodLink "MailSessions" 1 Lib.objectInit ∈ zTB := zt_1 (i := 30) rfl rfl
theorem zw_1_33 : Cond.classLink "MailSessions" 9 "MailSessions$Mailbox" ∈ zTB := zt_1 (i := 33) rfl rfl
theorem zw_1_146 : Cond.fieldLink "MailSessions" 11 "MailSessions" "mailboxes" "[LMailSessions$Mailbox;" ∈ zTB := zt_1 (i := 146) rfl rfl
theorem zw_1_35 : Cond.instantiable "MailSessions$Mailbox" 5 ∈ zTB := zt_1 (i := 35) rfl rfl
theorem zw_1_2 : Cond.initialized "MailSessions$Mailbox" ∈ zTB := zt_1 (i := 2) rfl rfl
theorem zw_1_37 : Cond.instanceMethod yX2_init ∈ zTB := zt_1 (i := 37) rfl rfl
theorem zw_1_66 : Cond.classLink "MailSessions" 16 "MailSessions$Session" ∈ zTB := zt_1 (i := 66) rfl rfl
theorem zw_1_147 : Cond.fieldLink "MailSessions" 18 "MailSessions" "sessions" "[LMailSessions$Session;" ∈ zTB := zt_1 (i := 147) rfl rfl
theorem zw_1_68 : Cond.instantiable "MailSessions$Session" 7 ∈ zTB := zt_1 (i := 68) rfl rfl
theorem zw_1_3 : Cond.initialized "MailSessions$Session" ∈ zTB := zt_1 (i := 3) rfl rfl
theorem zw_1_70 : Cond.instanceMethod yX6_init ∈ zTB := zt_1 (i := 70) rfl rfl
theorem zw_1_148 : Cond.fieldLink "MailSessions" 23 "MailSessions" "latestValidity" "I" ∈ zTB := zt_1 (i := 148) rfl rfl
theorem zw_1_143 : Cond.instanceMethod yX2_create ∈ zTB := zt_1 (i := 143) rfl rfl
theorem zw_1_142 : Cond.methodLink "MailSessions" 27 yX2_create ∈ zTB := zt_1 (i := 142) rfl rfl
theorem zw_1_144 : Cond.selects "MailSessions$Mailbox" yX2_create yX2_create ∈ zTB := zt_1 (i := 144) rfl rfl
theorem zw_1_121 : Cond.fieldLink "MailSessions" 31 "MailSessions$Session" "connected" "Z" ∈ zTB := zt_1 (i := 121) rfl rfl
theorem zw_1_180 : Cond.instanceMethod yX9_connectedSession ∈ zTB := zt_1 (i := 180) rfl rfl
theorem zw_1_178 : Cond.methodLink "MailSessions" 35 yX9_connectedSession ∈ zTB := zt_1 (i := 178) rfl rfl
theorem zw_p1_1 : Cond.selects "MailSessions" yX9_connectedSession yX9_connectedSession ∈ zTB := zt_p1 (i := 1) rfl
theorem zw_2_25 : Cond.methodLink "MailSessions" 39 yX9_byteOf ∈ zTB := zt_2 (i := 25) rfl rfl
theorem zw_2_26 : Cond.static yX9_byteOf ∈ zTB := zt_2 (i := 26) rfl rfl
theorem zw_2_28 : Cond.classLink "MailSessions" 43 "java/lang/IllegalArgumentException" ∈ zTB := zt_2 (i := 28) rfl rfl
theorem zw_1_12 : Cond.initialized "java/lang/IllegalArgumentException" ∈ zTB := zt_1 (i := 12) rfl rfl
theorem zw_1_122 : Cond.fieldLink "MailSessions" 46 "MailSessions$Session" "typed" "I" ∈ zTB := zt_1 (i := 122) rfl rfl
theorem zw_1_116 : Cond.fieldLink "MailSessions" 49 "MailSessions$Session" "line" "[C" ∈ zTB := zt_1 (i := 116) rfl rfl
theorem zw_2_50 : Cond.classLink "MailSessions" 53 "MailSessions$Reader" ∈ zTB := zt_2 (i := 50) rfl rfl
theorem zw_2_51 : Cond.instantiable "MailSessions$Reader" 6 ∈ zTB := zt_2 (i := 51) rfl rfl
theorem zw_1_13 : Cond.initialized "MailSessions$Reader" ∈ zTB := zt_1 (i := 13) rfl rfl
theorem zw_1_120 : Cond.fieldLink "MailSessions" 55 "MailSessions$Session" "view" "LMailSessions$View;" ∈ zTB := zt_1 (i := 120) rfl rfl
theorem zw_2_53 : Cond.instanceMethod yX4_init ∈ zTB := zt_2 (i := 53) rfl rfl
theorem zw_2_52 : Cond.methodLink "MailSessions" 59 yX4_init ∈ zTB := zt_2 (i := 52) rfl rfl
theorem zw_2_76 : Cond.instanceMethod yX4_readCommand ∈ zTB := zt_2 (i := 76) rfl rfl
theorem zw_2_75 : Cond.methodLink "MailSessions" 62 yX4_readCommand ∈ zTB := zt_2 (i := 75) rfl rfl
theorem zw_2_77 : Cond.selects "MailSessions$Reader" yX4_readCommand yX4_readCommand ∈ zTB := zt_2 (i := 77) rfl rfl
theorem zw_1_118 : Cond.fieldLink "MailSessions" 66 "MailSessions$Session" "reply" "LMailSessions$Reply;" ∈ zTB := zt_1 (i := 118) rfl rfl
theorem zw_1_82 : Cond.fieldLink "MailSessions" 70 "MailSessions$Reply" "length" "I" ∈ zTB := zt_1 (i := 82) rfl rfl
theorem zw_3_172 : Cond.instanceMethod yX9_isRefused ∈ zTB := zt_3 (i := 172) rfl rfl
theorem zw_3_170 : Cond.methodLink "MailSessions" 75 yX9_isRefused ∈ zTB := zt_3 (i := 170) rfl rfl
theorem zw_p2_5 : Cond.selects "MailSessions" yX9_isRefused yX9_isRefused ∈ zTB := zt_p2 (i := 5) rfl
theorem zw_3_188 : Cond.instanceMethod yX9_perform ∈ zTB := zt_3 (i := 188) rfl rfl
theorem zw_3_186 : Cond.methodLink "MailSessions" 79 yX9_perform ∈ zTB := zt_3 (i := 186) rfl rfl
theorem zw_p2_7 : Cond.selects "MailSessions" yX9_perform yX9_perform ∈ zTB := zt_p2 (i := 7) rfl
theorem zw_2_88 : Cond.fieldLink "MailSessions" 83 "MailSessions$Command" "verb" "LMailSessions$Verb;" ∈ zTB := zt_2 (i := 88) rfl rfl
theorem zw_6_56 : Cond.fieldLink "MailSessions" 89 "MailSessions$Verb" "keepsPlaces" "Z" ∈ zTB := zt_6 (i := 56) rfl rfl
theorem zw_2_90 : Cond.fieldLink "MailSessions" 94 "MailSessions$Command" "uid" "Z" ∈ zTB := zt_2 (i := 90) rfl rfl
theorem zw_4_68 : Cond.instanceMethod yX6_tellChanges ∈ zTB := zt_4 (i := 68) rfl rfl
theorem zw_4_67 : Cond.methodLink "MailSessions" 97 yX6_tellChanges ∈ zTB := zt_4 (i := 67) rfl rfl
theorem zw_4_69 : Cond.selects "MailSessions$Session" yX6_tellChanges yX6_tellChanges ∈ zTB := zt_4 (i := 69) rfl rfl
theorem zw_2_86 : Cond.fieldLink "MailSessions" 101 "MailSessions$Command" "tag" "Ljava/lang/String;" ∈ zTB := zt_2 (i := 86) rfl rfl
theorem zw_4_76 : Cond.methodLink "MailSessions" 105 yX5_putText ∈ zTB := zt_4 (i := 76) rfl rfl
theorem zw_1_184 : Cond.instanceMethod yX9_anySession ∈ zTB := zt_1 (i := 184) rfl rfl
theorem zw_1_182 : Cond.methodLink "MailSessions" 113 yX9_anySession ∈ zTB := zt_1 (i := 182) rfl rfl
theorem zw_p1_2 : Cond.selects "MailSessions" yX9_anySession yX9_anySession ∈ zTB := zt_p1 (i := 2) rfl
theorem zw_2_10 : Cond.classLink "MailSessions" 116 "java/lang/IllegalStateException" ∈ zTB := zt_2 (i := 10) rfl rfl
theorem zw_1_11 : Cond.initialized "java/lang/IllegalStateException" ∈ zTB := zt_1 (i := 11) rfl rfl
theorem zw_1_186 : Cond.classLink "MailSessions" 119 "java/lang/IndexOutOfBoundsException" ∈ zTB := zt_1 (i := 186) rfl rfl
theorem zw_1_10 : Cond.initialized "java/lang/IndexOutOfBoundsException" ∈ zTB := zt_1 (i := 10) rfl rfl
theorem zw_1_80 : Cond.fieldLink "MailSessions" 122 "MailSessions$Reply" "signs" "[C" ∈ zTB := zt_1 (i := 80) rfl rfl
theorem zw_1_124 : Cond.fieldLink "MailSessions" 125 "MailSessions$Session" "selected" "LMailSessions$Mailbox;" ∈ zTB := zt_1 (i := 124) rfl rfl
theorem zw_1_102 : Cond.fieldLink "MailSessions" 129 "MailSessions$View" "count" "I" ∈ zTB := zt_1 (i := 102) rfl rfl
theorem zw_1_166 : Cond.instanceMethod yX9_isThere ∈ zTB := zt_1 (i := 166) rfl rfl
theorem zw_1_164 : Cond.methodLink "MailSessions" 134 yX9_isThere ∈ zTB := zt_1 (i := 164) rfl rfl
theorem zw_p1_0 : Cond.selects "MailSessions" yX9_isThere yX9_isThere ∈ zTB := zt_p1 (i := 0) rfl
theorem zw_1_54 : Cond.fieldLink "MailSessions" 138 "MailSessions$Mailbox" "count" "I" ∈ zTB := zt_1 (i := 54) rfl rfl
theorem zw_4_108 : Cond.classLink "MailSessions" 139 "java/util/NoSuchElementException" ∈ zTB := zt_4 (i := 108) rfl rfl
theorem zw_1_24 : Cond.initialized "java/util/NoSuchElementException" ∈ zTB := zt_1 (i := 24) rfl rfl
theorem zw_1_44 : Cond.fieldLink "MailSessions" 142 "MailSessions$Mailbox" "row" "[LMailSessions$Message;" ∈ zTB := zt_1 (i := 44) rfl rfl
theorem zw_3_202 : Cond.fieldLink "MailSessions" 146 "MailSessions$Message" "number" "I" ∈ zTB := zt_3 (i := 202) rfl rfl
theorem zw_3_211 : Cond.fieldLink "MailSessions" 151 "MailSessions$Message" "flags" "I" ∈ zTB := zt_3 (i := 211) rfl rfl
theorem zw_3_206 : Cond.fieldLink "MailSessions" 154 "MailSessions$Message" "text" "Ljava/lang/String;" ∈ zTB := zt_3 (i := 206) rfl rfl
theorem zw_4_123 : Cond.methodLink "MailSessions" 157 yJ0_length_8abf5 ∈ zTB := zt_4 (i := 123) rfl rfl
theorem zw_1_46 : Cond.fieldLink "MailSessions" 162 "MailSessions$Mailbox" "there" "Z" ∈ zTB := zt_1 (i := 46) rfl rfl
theorem zw_6_54 : Cond.fieldLink "MailSessions" 165 "MailSessions$Verb" "needsSelected" "Z" ∈ zTB := zt_6 (i := 54) rfl rfl
theorem zw_6_55 : Cond.fieldLink "MailSessions" 168 "MailSessions$Verb" "needsWrite" "Z" ∈ zTB := zt_6 (i := 55) rfl rfl
theorem zw_1_126 : Cond.fieldLink "MailSessions" 171 "MailSessions$Session" "writes" "Z" ∈ zTB := zt_1 (i := 126) rfl rfl
theorem zw_2_107 : Cond.fieldLink "MailSessions" 174 "MailSessions$Command" "wrong" "Z" ∈ zTB := zt_2 (i := 107) rfl rfl
theorem zw_2_93 : Cond.fieldLink "MailSessions" 177 "MailSessions$Command" "mailbox" "I" ∈ zTB := zt_2 (i := 93) rfl rfl
theorem zw_3_174 : Cond.fieldLink "MailSessions" 180 "MailSessions$1" "$SwitchMap$MailSessions$Verb" "[I" ∈ zTB := zt_3 (i := 174) rfl rfl
theorem zw_3_175 : Cond.methodLink "MailSessions" 186 ⟨"MailSessions$Verb", "ordinal", "()I"⟩ ∈ zTB := zt_3 (i := 175) rfl rfl
theorem zw_3_178 : Cond.instanceMethod yX9_isSelected ∈ zTB := zt_3 (i := 178) rfl rfl
theorem zw_3_176 : Cond.methodLink "MailSessions" 189 yX9_isSelected ∈ zTB := zt_3 (i := 176) rfl rfl
theorem zw_p2_6 : Cond.selects "MailSessions" yX9_isSelected yX9_isSelected ∈ zTB := zt_p2 (i := 6) rfl
theorem zw_2_105 : Cond.fieldLink "MailSessions" 193 "MailSessions$Command" "places" "J" ∈ zTB := zt_2 (i := 105) rfl rfl
theorem zw_3_180 : Cond.methodLink "MailSessions" 197 yJ13_bitCount_95d88 ∈ zTB := zt_3 (i := 180) rfl rfl
theorem zw_3_181 : Cond.static yJ13_bitCount_95d88 ∈ zTB := zt_3 (i := 181) rfl rfl
theorem zw_2_96 : Cond.fieldLink "MailSessions" 203 "MailSessions$Command" "flags" "I" ∈ zTB := zt_2 (i := 96) rfl rfl
theorem zw_2_98 : Cond.fieldLink "MailSessions" 204 "MailSessions$Command" "text" "Ljava/lang/String;" ∈ zTB := zt_2 (i := 98) rfl rfl
theorem zw_3_190 : Cond.methodLink "MailSessions" 205 yX2_add ∈ zTB := zt_3 (i := 190) rfl rfl
theorem zw_3_225 : Cond.instanceMethod yX6_select ∈ zTB := zt_3 (i := 225) rfl rfl
theorem zw_3_224 : Cond.methodLink "MailSessions" 209 yX6_select ∈ zTB := zt_3 (i := 224) rfl rfl
theorem zw_3_226 : Cond.selects "MailSessions$Session" yX6_select yX6_select ∈ zTB := zt_3 (i := 226) rfl rfl
theorem zw_4_24 : Cond.instanceMethod yX6_expunge ∈ zTB := zt_4 (i := 24) rfl rfl
theorem zw_4_23 : Cond.methodLink "MailSessions" 213 yX6_expunge ∈ zTB := zt_4 (i := 23) rfl rfl
theorem zw_4_25 : Cond.selects "MailSessions$Session" yX6_expunge yX6_expunge ∈ zTB := zt_4 (i := 25) rfl rfl
theorem zw_4_32 : Cond.instanceMethod yX6_unselect ∈ zTB := zt_4 (i := 32) rfl rfl
theorem zw_4_31 : Cond.methodLink "MailSessions" 216 yX6_unselect ∈ zTB := zt_4 (i := 31) rfl rfl
theorem zw_4_33 : Cond.selects "MailSessions$Session" yX6_unselect yX6_unselect ∈ zTB := zt_4 (i := 33) rfl rfl
theorem zw_4_36 : Cond.instanceMethod yX6_store ∈ zTB := zt_4 (i := 36) rfl rfl
theorem zw_4_35 : Cond.methodLink "MailSessions" 219 yX6_store ∈ zTB := zt_4 (i := 35) rfl rfl
theorem zw_4_37 : Cond.selects "MailSessions$Session" yX6_store yX6_store ∈ zTB := zt_4 (i := 37) rfl rfl
theorem zw_4_52 : Cond.instanceMethod yX6_fetch ∈ zTB := zt_4 (i := 52) rfl rfl
theorem zw_4_51 : Cond.methodLink "MailSessions" 223 yX6_fetch ∈ zTB := zt_4 (i := 51) rfl rfl
theorem zw_4_53 : Cond.selects "MailSessions$Session" yX6_fetch yX6_fetch ∈ zTB := zt_4 (i := 53) rfl rfl
theorem zw_4_58 : Cond.instanceMethod yX6_copy ∈ zTB := zt_4 (i := 58) rfl rfl
theorem zw_4_57 : Cond.methodLink "MailSessions" 226 yX6_copy ∈ zTB := zt_4 (i := 57) rfl rfl
theorem zw_4_59 : Cond.selects "MailSessions$Session" yX6_copy yX6_copy ∈ zTB := zt_4 (i := 59) rfl rfl
theorem zw_4_63 : Cond.instanceMethod yX6_search ∈ zTB := zt_4 (i := 63) rfl rfl
theorem zw_4_62 : Cond.methodLink "MailSessions" 230 yX6_search ∈ zTB := zt_4 (i := 62) rfl rfl
theorem zw_4_64 : Cond.selects "MailSessions$Session" yX6_search yX6_search ∈ zTB := zt_4 (i := 64) rfl rfl
theorem zw_4_129 : Cond.methodLink "MailSessionsModel" 1 Lib.objectInit ∈ zTB := zt_4 (i := 129) rfl rfl
theorem zw_5_8 : Cond.arrayClass .boolean ∈ zTB := zt_5 (i := 8) rfl rfl
theorem zw_4_131 : Cond.fieldLink "MailSessionsModel" 7 "MailSessionsModel" "there" "[Z" ∈ zTB := zt_4 (i := 131) rfl rfl
theorem zw_4_132 : Cond.fieldLink "MailSessionsModel" 13 "MailSessionsModel" "validity" "[I" ∈ zTB := zt_4 (i := 132) rfl rfl
theorem zw_4_133 : Cond.fieldLink "MailSessionsModel" 17 "MailSessionsModel" "next" "[I" ∈ zTB := zt_4 (i := 133) rfl rfl
theorem zw_4_134 : Cond.fieldLink "MailSessionsModel" 20 "MailSessionsModel" "count" "[I" ∈ zTB := zt_4 (i := 134) rfl rfl
theorem zw_4_135 : Cond.fieldLink "MailSessionsModel" 23 "MailSessionsModel" "numbers" "[I" ∈ zTB := zt_4 (i := 135) rfl rfl
theorem zw_4_136 : Cond.fieldLink "MailSessionsModel" 26 "MailSessionsModel" "flags" "[I" ∈ zTB := zt_4 (i := 136) rfl rfl
theorem zw_4_137 : Cond.fieldLink "MailSessionsModel" 29 "MailSessionsModel" "lengths" "[I" ∈ zTB := zt_4 (i := 137) rfl rfl
theorem zw_4_138 : Cond.fieldLink "MailSessionsModel" 32 "MailSessionsModel" "texts" "[I" ∈ zTB := zt_4 (i := 138) rfl rfl
theorem zw_4_139 : Cond.fieldLink "MailSessionsModel" 35 "MailSessionsModel" "created" "I" ∈ zTB := zt_4 (i := 139) rfl rfl
theorem zw_4_140 : Cond.fieldLink "MailSessionsModel" 39 "MailSessionsModel" "connected" "[Z" ∈ zTB := zt_4 (i := 140) rfl rfl
theorem zw_4_141 : Cond.fieldLink "MailSessionsModel" 42 "MailSessionsModel" "selected" "[I" ∈ zTB := zt_4 (i := 141) rfl rfl
theorem zw_4_142 : Cond.fieldLink "MailSessionsModel" 45 "MailSessionsModel" "writes" "[Z" ∈ zTB := zt_4 (i := 142) rfl rfl
theorem zw_4_143 : Cond.fieldLink "MailSessionsModel" 48 "MailSessionsModel" "places" "[I" ∈ zTB := zt_4 (i := 143) rfl rfl
theorem zw_4_144 : Cond.fieldLink "MailSessionsModel" 51 "MailSessionsModel" "viewed" "[I" ∈ zTB := zt_4 (i := 144) rfl rfl
theorem zw_4_145 : Cond.fieldLink "MailSessionsModel" 54 "MailSessionsModel" "told" "[I" ∈ zTB := zt_4 (i := 145) rfl rfl
theorem zw_4_146 : Cond.fieldLink "MailSessionsModel" 57 "MailSessionsModel" "lines" "[I" ∈ zTB := zt_4 (i := 146) rfl rfl
theorem zw_4_147 : Cond.fieldLink "MailSessionsModel" 60 "MailSessionsModel" "lineLength" "[I" ∈ zTB := zt_4 (i := 147) rfl rfl
theorem zw_4_148 : Cond.fieldLink "MailSessionsModel" 63 "MailSessionsModel" "replies" "[I" ∈ zTB := zt_4 (i := 148) rfl rfl
theorem zw_4_149 : Cond.fieldLink "MailSessionsModel" 66 "MailSessionsModel" "replyLength" "[I" ∈ zTB := zt_4 (i := 149) rfl rfl
theorem zw_4_166 : Cond.fieldLink "MailSessionsModel" 69 "MailSessionsModel" "kinds" "[I" ∈ zTB := zt_4 (i := 166) rfl rfl
theorem zw_4_167 : Cond.fieldLink "MailSessionsModel" 72 "MailSessionsModel" "done" "[I" ∈ zTB := zt_4 (i := 167) rfl rfl
theorem zw_4_168 : Cond.fieldLink "MailSessionsModel" 75 "MailSessionsModel" "holds" "[Z" ∈ zTB := zt_4 (i := 168) rfl rfl
theorem zw_4_130 : Cond.fieldLink "MailSessionsModel" 78 "MailSessionsModel" "thrown" "I" ∈ zTB := zt_4 (i := 130) rfl rfl
theorem zw_5_53 : Cond.constantLong "MailSessionsModel" 81 (64) ∈ zTB := zt_5 (i := 53) rfl rfl
theorem zw_5_50 : Cond.methodLink "MailSessionsModel" 83 yX10_letter ∈ zTB := zt_5 (i := 50) rfl rfl
theorem zw_5_51 : Cond.static yX10_letter ∈ zTB := zt_5 (i := 51) rfl rfl
theorem zw_5_49 : Cond.constantLong "MailSessionsModel" 87 (32) ∈ zTB := zt_5 (i := 49) rfl rfl
theorem zw_4_150 : Cond.fieldLink "MailSessionsModel" 89 "MailSessionsModel" "s" "I" ∈ zTB := zt_4 (i := 150) rfl rfl
theorem zw_4_151 : Cond.fieldLink "MailSessionsModel" 92 "MailSessionsModel" "at" "I" ∈ zTB := zt_4 (i := 151) rfl rfl
theorem zw_5_30 : Cond.instanceMethod yX10_look ∈ zTB := zt_5 (i := 30) rfl rfl
theorem zw_5_28 : Cond.methodLink "MailSessionsModel" 95 yX10_look ∈ zTB := zt_5 (i := 28) rfl rfl
theorem zw_p2_11 : Cond.selects "MailSessionsModel" yX10_look yX10_look ∈ zTB := zt_p2 (i := 11) rfl
theorem zw_5_46 : Cond.methodLink "MailSessionsModel" 99 yX10_isLarge ∈ zTB := zt_5 (i := 46) rfl rfl
theorem zw_5_47 : Cond.static yX10_isLarge ∈ zTB := zt_5 (i := 47) rfl rfl
theorem zw_5_54 : Cond.constantLong "MailSessionsModel" 103 (-1) ∈ zTB := zt_5 (i := 54) rfl rfl
theorem zw_4_152 : Cond.fieldLink "MailSessionsModel" 105 "MailSessionsModel" "bad" "Z" ∈ zTB := zt_4 (i := 152) rfl rfl
theorem zw_4_156 : Cond.fieldLink "MailSessionsModel" 109 "MailSessionsModel" "box" "I" ∈ zTB := zt_4 (i := 156) rfl rfl
theorem zw_5_40 : Cond.instanceMethod yX10_need ∈ zTB := zt_5 (i := 40) rfl rfl
theorem zw_5_38 : Cond.methodLink "MailSessionsModel" 112 yX10_need ∈ zTB := zt_5 (i := 38) rfl rfl
theorem zw_p2_12 : Cond.selects "MailSessionsModel" yX10_need yX10_need ∈ zTB := zt_p2 (i := 12) rfl
theorem zw_4_159 : Cond.fieldLink "MailSessionsModel" 116 "MailSessionsModel" "mask" "I" ∈ zTB := zt_4 (i := 159) rfl rfl
theorem zw_5_114 : Cond.methodLink "MailSessionsModel" 119 yX10_bitOf ∈ zTB := zt_5 (i := 114) rfl rfl
theorem zw_5_115 : Cond.static yX10_bitOf ∈ zTB := zt_5 (i := 115) rfl rfl
theorem zw_4_161 : Cond.fieldLink "MailSessionsModel" 122 "MailSessionsModel" "textAt" "I" ∈ zTB := zt_4 (i := 161) rfl rfl
theorem zw_5_32 : Cond.methodLink "MailSessionsModel" 125 yX10_isSmall ∈ zTB := zt_5 (i := 32) rfl rfl
theorem zw_5_33 : Cond.static yX10_isSmall ∈ zTB := zt_5 (i := 33) rfl rfl
theorem zw_4_162 : Cond.fieldLink "MailSessionsModel" 128 "MailSessionsModel" "textLength" "I" ∈ zTB := zt_4 (i := 162) rfl rfl
theorem zw_5_35 : Cond.methodLink "MailSessionsModel" 131 yX10_isDigit ∈ zTB := zt_5 (i := 35) rfl rfl
theorem zw_5_36 : Cond.static yX10_isDigit ∈ zTB := zt_5 (i := 36) rfl rfl
theorem zw_4_157 : Cond.fieldLink "MailSessionsModel" 134 "MailSessionsModel" "setAt" "I" ∈ zTB := zt_4 (i := 157) rfl rfl
theorem zw_5_88 : Cond.instanceMethod yX10_readPoint ∈ zTB := zt_5 (i := 88) rfl rfl
theorem zw_5_86 : Cond.methodLink "MailSessionsModel" 137 yX10_readPoint ∈ zTB := zt_5 (i := 86) rfl rfl
theorem zw_p3_5 : Cond.selects "MailSessionsModel" yX10_readPoint yX10_readPoint ∈ zTB := zt_p3 (i := 5) rfl
theorem zw_4_158 : Cond.fieldLink "MailSessionsModel" 140 "MailSessionsModel" "setEnd" "I" ∈ zTB := zt_4 (i := 158) rfl rfl
theorem zw_5_96 : Cond.instanceMethod yX10_valueAt ∈ zTB := zt_5 (i := 96) rfl rfl
theorem zw_5_94 : Cond.methodLink "MailSessionsModel" 143 yX10_valueAt ∈ zTB := zt_5 (i := 94) rfl rfl
theorem zw_p3_7 : Cond.selects "MailSessionsModel" yX10_valueAt yX10_valueAt ∈ zTB := zt_p3 (i := 7) rfl
theorem zw_5_100 : Cond.instanceMethod yX10_behindPoint ∈ zTB := zt_5 (i := 100) rfl rfl
theorem zw_5_98 : Cond.methodLink "MailSessionsModel" 147 yX10_behindPoint ∈ zTB := zt_5 (i := 98) rfl rfl
theorem zw_p3_8 : Cond.selects "MailSessionsModel" yX10_behindPoint yX10_behindPoint ∈ zTB := zt_p3 (i := 8) rfl
theorem zw_5_108 : Cond.instanceMethod yX10_greatest ∈ zTB := zt_5 (i := 108) rfl rfl
theorem zw_5_106 : Cond.methodLink "MailSessionsModel" 150 yX10_greatest ∈ zTB := zt_5 (i := 106) rfl rfl
theorem zw_p3_10 : Cond.selects "MailSessionsModel" yX10_greatest yX10_greatest ∈ zTB := zt_p3 (i := 10) rfl
theorem zw_5_112 : Cond.instanceMethod yX10_covers ∈ zTB := zt_5 (i := 112) rfl rfl
theorem zw_5_110 : Cond.methodLink "MailSessionsModel" 154 yX10_covers ∈ zTB := zt_5 (i := 110) rfl rfl
theorem zw_p3_11 : Cond.selects "MailSessionsModel" yX10_covers yX10_covers ∈ zTB := zt_p3 (i := 11) rfl
theorem zw_5_84 : Cond.instanceMethod yX10_readSet ∈ zTB := zt_5 (i := 84) rfl rfl
theorem zw_5_82 : Cond.methodLink "MailSessionsModel" 158 yX10_readSet ∈ zTB := zt_5 (i := 82) rfl rfl
theorem zw_p3_4 : Cond.selects "MailSessionsModel" yX10_readSet yX10_readSet ∈ zTB := zt_p3 (i := 4) rfl
theorem zw_4_153 : Cond.fieldLink "MailSessionsModel" 161 "MailSessionsModel" "wrong" "Z" ∈ zTB := zt_4 (i := 153) rfl rfl
theorem zw_5_92 : Cond.instanceMethod yX10_isWrong ∈ zTB := zt_5 (i := 92) rfl rfl
theorem zw_5_90 : Cond.methodLink "MailSessionsModel" 164 yX10_isWrong ∈ zTB := zt_5 (i := 90) rfl rfl
theorem zw_p3_6 : Cond.selects "MailSessionsModel" yX10_isWrong yX10_isWrong ∈ zTB := zt_p3 (i := 6) rfl
theorem zw_5_104 : Cond.instanceMethod yX10_inSet ∈ zTB := zt_5 (i := 104) rfl rfl
theorem zw_5_102 : Cond.methodLink "MailSessionsModel" 168 yX10_inSet ∈ zTB := zt_5 (i := 102) rfl rfl
theorem zw_p3_9 : Cond.selects "MailSessionsModel" yX10_inSet yX10_inSet ∈ zTB := zt_p3 (i := 9) rfl
theorem zw_5_44 : Cond.instanceMethod yX10_readWord ∈ zTB := zt_5 (i := 44) rfl rfl
theorem zw_5_42 : Cond.methodLink "MailSessionsModel" 172 yX10_readWord ∈ zTB := zt_5 (i := 42) rfl rfl
theorem zw_p2_13 : Cond.selects "MailSessionsModel" yX10_readWord yX10_readWord ∈ zTB := zt_p2 (i := 13) rfl
theorem zw_5_55 : Cond.methodLink "MailSessionsModel" 176 yX10_word ∈ zTB := zt_5 (i := 55) rfl rfl
theorem zw_5_56 : Cond.static yX10_word ∈ zTB := zt_5 (i := 56) rfl rfl
theorem zw_5_119 : Cond.instanceMethod yX10_messageAt ∈ zTB := zt_5 (i := 119) rfl rfl
theorem zw_5_117 : Cond.methodLink "MailSessionsModel" 180 yX10_messageAt ∈ zTB := zt_5 (i := 117) rfl rfl
theorem zw_p3_12 : Cond.selects "MailSessionsModel" yX10_messageAt yX10_messageAt ∈ zTB := zt_p3 (i := 12) rfl
theorem zw_5_123 : Cond.instanceMethod yX10_readText ∈ zTB := zt_5 (i := 123) rfl rfl
theorem zw_5_121 : Cond.methodLink "MailSessionsModel" 183 yX10_readText ∈ zTB := zt_5 (i := 121) rfl rfl
theorem zw_p3_13 : Cond.selects "MailSessionsModel" yX10_readText yX10_readText ∈ zTB := zt_p3 (i := 13) rfl
theorem zw_5_127 : Cond.instanceMethod yX10_within ∈ zTB := zt_5 (i := 127) rfl rfl
theorem zw_5_125 : Cond.methodLink "MailSessionsModel" 186 yX10_within ∈ zTB := zt_5 (i := 125) rfl rfl
theorem zw_p3_14 : Cond.selects "MailSessionsModel" yX10_within yX10_within ∈ zTB := zt_p3 (i := 14) rfl
theorem zw_4_165 : Cond.fieldLink "MailSessionsModel" 189 "MailSessionsModel" "top" "I" ∈ zTB := zt_4 (i := 165) rfl rfl
theorem zw_5_72 : Cond.instanceMethod yX10_push ∈ zTB := zt_5 (i := 72) rfl rfl
theorem zw_5_70 : Cond.methodLink "MailSessionsModel" 192 yX10_push ∈ zTB := zt_5 (i := 70) rfl rfl
theorem zw_p3_1 : Cond.selects "MailSessionsModel" yX10_push yX10_push ∈ zTB := zt_p3 (i := 1) rfl
theorem zw_4_164 : Cond.fieldLink "MailSessionsModel" 195 "MailSessionsModel" "searchAt" "I" ∈ zTB := zt_4 (i := 164) rfl rfl
theorem zw_5_76 : Cond.instanceMethod yX10_descend ∈ zTB := zt_5 (i := 76) rfl rfl
theorem zw_5_74 : Cond.methodLink "MailSessionsModel" 198 yX10_descend ∈ zTB := zt_5 (i := 74) rfl rfl
theorem zw_p3_2 : Cond.selects "MailSessionsModel" yX10_descend yX10_descend ∈ zTB := zt_p3 (i := 2) rfl
theorem zw_5_80 : Cond.instanceMethod yX10_leaf ∈ zTB := zt_5 (i := 80) rfl rfl
theorem zw_5_78 : Cond.methodLink "MailSessionsModel" 201 yX10_leaf ∈ zTB := zt_5 (i := 78) rfl rfl
theorem zw_p3_3 : Cond.selects "MailSessionsModel" yX10_leaf yX10_leaf ∈ zTB := zt_p3 (i := 3) rfl
theorem zw_5_131 : Cond.instanceMethod yX10_rise ∈ zTB := zt_5 (i := 131) rfl rfl
theorem zw_5_129 : Cond.methodLink "MailSessionsModel" 204 yX10_rise ∈ zTB := zt_5 (i := 129) rfl rfl
theorem zw_p3_15 : Cond.selects "MailSessionsModel" yX10_rise yX10_rise ∈ zTB := zt_p3 (i := 15) rfl
theorem zw_5_68 : Cond.instanceMethod yX10_search ∈ zTB := zt_5 (i := 68) rfl rfl
theorem zw_5_66 : Cond.methodLink "MailSessionsModel" 208 yX10_search ∈ zTB := zt_5 (i := 66) rfl rfl
theorem zw_p3_0 : Cond.selects "MailSessionsModel" yX10_search yX10_search ∈ zTB := zt_p3 (i := 0) rfl
theorem zw_4_160 : Cond.fieldLink "MailSessionsModel" 211 "MailSessionsModel" "sign" "I" ∈ zTB := zt_4 (i := 160) rfl rfl
theorem zw_5_135 : Cond.instanceMethod yX10_readFlags ∈ zTB := zt_5 (i := 135) rfl rfl
theorem zw_5_133 : Cond.methodLink "MailSessionsModel" 214 yX10_readFlags ∈ zTB := zt_5 (i := 133) rfl rfl
theorem zw_p4_0 : Cond.selects "MailSessionsModel" yX10_readFlags yX10_readFlags ∈ zTB := zt_p4 (i := 0) rfl
theorem zw_4_163 : Cond.fieldLink "MailSessionsModel" 217 "MailSessionsModel" "what" "J" ∈ zTB := zt_4 (i := 163) rfl rfl
theorem zw_5_139 : Cond.instanceMethod yX10_readBox ∈ zTB := zt_5 (i := 139) rfl rfl
theorem zw_5_137 : Cond.methodLink "MailSessionsModel" 221 yX10_readBox ∈ zTB := zt_5 (i := 137) rfl rfl
theorem zw_p4_1 : Cond.selects "MailSessionsModel" yX10_readBox yX10_readBox ∈ zTB := zt_p4 (i := 1) rfl
theorem zw_4_155 : Cond.fieldLink "MailSessionsModel" 224 "MailSessionsModel" "uid" "Z" ∈ zTB := zt_4 (i := 155) rfl rfl
theorem zw_4_154 : Cond.fieldLink "MailSessionsModel" 227 "MailSessionsModel" "tags" "I" ∈ zTB := zt_4 (i := 154) rfl rfl
theorem zw_5_60 : Cond.instanceMethod yX10_commandOf ∈ zTB := zt_5 (i := 60) rfl rfl
theorem zw_5_58 : Cond.methodLink "MailSessionsModel" 230 yX10_commandOf ∈ zTB := zt_5 (i := 58) rfl rfl
theorem zw_p2_14 : Cond.selects "MailSessionsModel" yX10_commandOf yX10_commandOf ∈ zTB := zt_p2 (i := 14) rfl
theorem zw_5_64 : Cond.instanceMethod yX10_readRest ∈ zTB := zt_5 (i := 64) rfl rfl
theorem zw_5_62 : Cond.methodLink "MailSessionsModel" 234 yX10_readRest ∈ zTB := zt_5 (i := 62) rfl rfl
theorem zw_p2_15 : Cond.selects "MailSessionsModel" yX10_readRest yX10_readRest ∈ zTB := zt_p2 (i := 15) rfl
theorem zw_5_183 : Cond.instanceMethod yX10_say ∈ zTB := zt_5 (i := 183) rfl rfl
theorem zw_5_181 : Cond.methodLink "MailSessionsModel" 237 yX10_say ∈ zTB := zt_5 (i := 181) rfl rfl
theorem zw_p4_12 : Cond.selects "MailSessionsModel" yX10_say yX10_say ∈ zTB := zt_p4 (i := 12) rfl
theorem zw_5_187 : Cond.instanceMethod yX10_sayNumber ∈ zTB := zt_5 (i := 187) rfl rfl
theorem zw_5_185 : Cond.methodLink "MailSessionsModel" 240 yX10_sayNumber ∈ zTB := zt_5 (i := 185) rfl rfl
theorem zw_p4_13 : Cond.selects "MailSessionsModel" yX10_sayNumber yX10_sayNumber ∈ zTB := zt_p4 (i := 13) rfl
theorem zw_5_191 : Cond.instanceMethod yX10_sayLetters ∈ zTB := zt_5 (i := 191) rfl rfl
theorem zw_5_189 : Cond.methodLink "MailSessionsModel" 243 yX10_sayLetters ∈ zTB := zt_5 (i := 189) rfl rfl
theorem zw_p4_14 : Cond.selects "MailSessionsModel" yX10_sayLetters yX10_sayLetters ∈ zTB := zt_p4 (i := 14) rfl
theorem zw_5_179 : Cond.instanceMethod yX10_sayCount ∈ zTB := zt_5 (i := 179) rfl rfl
theorem zw_5_177 : Cond.methodLink "MailSessionsModel" 247 yX10_sayCount ∈ zTB := zt_5 (i := 177) rfl rfl
theorem zw_p4_11 : Cond.selects "MailSessionsModel" yX10_sayCount yX10_sayCount ∈ zTB := zt_p4 (i := 11) rfl
theorem zw_5_219 : Cond.instanceMethod yX10_sayFlags ∈ zTB := zt_5 (i := 219) rfl rfl
theorem zw_5_217 : Cond.methodLink "MailSessionsModel" 251 yX10_sayFlags ∈ zTB := zt_5 (i := 217) rfl rfl
theorem zw_p5_5 : Cond.selects "MailSessionsModel" yX10_sayFlags yX10_sayFlags ∈ zTB := zt_p5 (i := 5) rfl
theorem zw_5_155 : Cond.instanceMethod yX10_meant ∈ zTB := zt_5 (i := 155) rfl rfl
theorem zw_5_153 : Cond.methodLink "MailSessionsModel" 254 yX10_meant ∈ zTB := zt_5 (i := 153) rfl rfl
theorem zw_p4_5 : Cond.selects "MailSessionsModel" yX10_meant yX10_meant ∈ zTB := zt_p4 (i := 5) rfl
theorem zw_5_147 : Cond.instanceMethod yX10_isSelected ∈ zTB := zt_5 (i := 147) rfl rfl
theorem zw_5_145 : Cond.methodLink "MailSessionsModel" 257 yX10_isSelected ∈ zTB := zt_5 (i := 145) rfl rfl
theorem zw_p4_3 : Cond.selects "MailSessionsModel" yX10_isSelected yX10_isSelected ∈ zTB := zt_p4 (i := 3) rfl
theorem zw_5_151 : Cond.instanceMethod yX10_meantPlaces ∈ zTB := zt_5 (i := 151) rfl rfl
theorem zw_5_149 : Cond.methodLink "MailSessionsModel" 260 yX10_meantPlaces ∈ zTB := zt_5 (i := 149) rfl rfl
theorem zw_p4_4 : Cond.selects "MailSessionsModel" yX10_meantPlaces yX10_meantPlaces ∈ zTB := zt_p4 (i := 4) rfl
theorem zw_5_215 : Cond.instanceMethod yX10_sayFetched ∈ zTB := zt_5 (i := 215) rfl rfl
theorem zw_5_213 : Cond.methodLink "MailSessionsModel" 263 yX10_sayFetched ∈ zTB := zt_5 (i := 213) rfl rfl
theorem zw_p5_4 : Cond.selects "MailSessionsModel" yX10_sayFetched yX10_sayFetched ∈ zTB := zt_p5 (i := 4) rfl
theorem zw_5_171 : Cond.instanceMethod yX10_bring ∈ zTB := zt_5 (i := 171) rfl rfl
theorem zw_5_169 : Cond.methodLink "MailSessionsModel" 267 yX10_bring ∈ zTB := zt_5 (i := 169) rfl rfl
theorem zw_p4_9 : Cond.selects "MailSessionsModel" yX10_bring yX10_bring ∈ zTB := zt_p4 (i := 9) rfl
theorem zw_5_211 : Cond.instanceMethod yX10_store ∈ zTB := zt_5 (i := 211) rfl rfl
theorem zw_5_209 : Cond.methodLink "MailSessionsModel" 270 yX10_store ∈ zTB := zt_5 (i := 209) rfl rfl
theorem zw_p5_3 : Cond.selects "MailSessionsModel" yX10_store yX10_store ∈ zTB := zt_p5 (i := 3) rfl
theorem zw_5_223 : Cond.instanceMethod yX10_fetch ∈ zTB := zt_5 (i := 223) rfl rfl
theorem zw_5_221 : Cond.methodLink "MailSessionsModel" 273 yX10_fetch ∈ zTB := zt_5 (i := 221) rfl rfl
theorem zw_p5_6 : Cond.selects "MailSessionsModel" yX10_fetch yX10_fetch ∈ zTB := zt_p5 (i := 6) rfl
theorem zw_5_227 : Cond.instanceMethod yX10_copyTo ∈ zTB := zt_5 (i := 227) rfl rfl
theorem zw_5_225 : Cond.methodLink "MailSessionsModel" 276 yX10_copyTo ∈ zTB := zt_5 (i := 225) rfl rfl
theorem zw_p5_7 : Cond.selects "MailSessionsModel" yX10_copyTo yX10_copyTo ∈ zTB := zt_p5 (i := 7) rfl
theorem zw_5_163 : Cond.instanceMethod yX10_create ∈ zTB := zt_5 (i := 163) rfl rfl
theorem zw_5_161 : Cond.methodLink "MailSessionsModel" 279 yX10_create ∈ zTB := zt_5 (i := 161) rfl rfl
theorem zw_p4_7 : Cond.selects "MailSessionsModel" yX10_create yX10_create ∈ zTB := zt_p4 (i := 7) rfl
theorem zw_5_167 : Cond.instanceMethod yX10_append ∈ zTB := zt_5 (i := 167) rfl rfl
theorem zw_5_165 : Cond.methodLink "MailSessionsModel" 282 yX10_append ∈ zTB := zt_5 (i := 165) rfl rfl
theorem zw_p4_8 : Cond.selects "MailSessionsModel" yX10_append yX10_append ∈ zTB := zt_p4 (i := 8) rfl
theorem zw_5_175 : Cond.instanceMethod yX10_select ∈ zTB := zt_5 (i := 175) rfl rfl
theorem zw_5_173 : Cond.methodLink "MailSessionsModel" 285 yX10_select ∈ zTB := zt_5 (i := 173) rfl rfl
theorem zw_p4_10 : Cond.selects "MailSessionsModel" yX10_select yX10_select ∈ zTB := zt_p4 (i := 10) rfl
theorem zw_5_195 : Cond.instanceMethod yX10_clean ∈ zTB := zt_5 (i := 195) rfl rfl
theorem zw_5_193 : Cond.methodLink "MailSessionsModel" 289 yX10_clean ∈ zTB := zt_5 (i := 193) rfl rfl
theorem zw_p4_15 : Cond.selects "MailSessionsModel" yX10_clean yX10_clean ∈ zTB := zt_p4 (i := 15) rfl
theorem zw_5_199 : Cond.instanceMethod yX10_leave ∈ zTB := zt_5 (i := 199) rfl rfl
theorem zw_5_197 : Cond.methodLink "MailSessionsModel" 292 yX10_leave ∈ zTB := zt_5 (i := 197) rfl rfl
theorem zw_p5_0 : Cond.selects "MailSessionsModel" yX10_leave yX10_leave ∈ zTB := zt_p5 (i := 0) rfl
theorem zw_5_203 : Cond.instanceMethod yX10_find ∈ zTB := zt_5 (i := 203) rfl rfl
theorem zw_5_201 : Cond.methodLink "MailSessionsModel" 295 yX10_find ∈ zTB := zt_5 (i := 201) rfl rfl
theorem zw_p5_1 : Cond.selects "MailSessionsModel" yX10_find yX10_find ∈ zTB := zt_p5 (i := 1) rfl
theorem zw_5_207 : Cond.instanceMethod yX10_overSet ∈ zTB := zt_5 (i := 207) rfl rfl
theorem zw_5_205 : Cond.methodLink "MailSessionsModel" 298 yX10_overSet ∈ zTB := zt_5 (i := 205) rfl rfl
theorem zw_p5_2 : Cond.selects "MailSessionsModel" yX10_overSet yX10_overSet ∈ zTB := zt_p5 (i := 2) rfl
theorem zw_5_235 : Cond.instanceMethod yX10_dropGone ∈ zTB := zt_5 (i := 235) rfl rfl
theorem zw_5_233 : Cond.methodLink "MailSessionsModel" 301 yX10_dropGone ∈ zTB := zt_5 (i := 233) rfl rfl
theorem zw_p5_9 : Cond.selects "MailSessionsModel" yX10_dropGone yX10_dropGone ∈ zTB := zt_p5 (i := 9) rfl
theorem zw_5_239 : Cond.instanceMethod yX10_isViewed ∈ zTB := zt_5 (i := 239) rfl rfl
theorem zw_5_237 : Cond.methodLink "MailSessionsModel" 304 yX10_isViewed ∈ zTB := zt_5 (i := 237) rfl rfl
theorem zw_p5_10 : Cond.selects "MailSessionsModel" yX10_isViewed yX10_isViewed ∈ zTB := zt_p5 (i := 10) rfl
theorem zw_5_17 : Cond.methodLink "MailSessionsModel" 307 yX10_isSession ∈ zTB := zt_5 (i := 17) rfl rfl
theorem zw_5_18 : Cond.static yX10_isSession ∈ zTB := zt_5 (i := 18) rfl rfl
theorem zw_5_26 : Cond.instanceMethod yX10_read ∈ zTB := zt_5 (i := 26) rfl rfl
theorem zw_5_24 : Cond.methodLink "MailSessionsModel" 310 yX10_read ∈ zTB := zt_5 (i := 24) rfl rfl
theorem zw_p2_10 : Cond.selects "MailSessionsModel" yX10_read yX10_read ∈ zTB := zt_p2 (i := 10) rfl
theorem zw_5_143 : Cond.instanceMethod yX10_refused ∈ zTB := zt_5 (i := 143) rfl rfl
theorem zw_5_141 : Cond.methodLink "MailSessionsModel" 313 yX10_refused ∈ zTB := zt_5 (i := 141) rfl rfl
theorem zw_p4_2 : Cond.selects "MailSessionsModel" yX10_refused yX10_refused ∈ zTB := zt_p4 (i := 2) rfl
theorem zw_5_159 : Cond.instanceMethod yX10_perform ∈ zTB := zt_5 (i := 159) rfl rfl
theorem zw_5_157 : Cond.methodLink "MailSessionsModel" 316 yX10_perform ∈ zTB := zt_5 (i := 157) rfl rfl
theorem zw_p4_6 : Cond.selects "MailSessionsModel" yX10_perform yX10_perform ∈ zTB := zt_p4 (i := 6) rfl
theorem zw_5_231 : Cond.instanceMethod yX10_tell ∈ zTB := zt_5 (i := 231) rfl rfl
theorem zw_5_229 : Cond.methodLink "MailSessionsModel" 319 yX10_tell ∈ zTB := zt_5 (i := 229) rfl rfl
theorem zw_p5_8 : Cond.selects "MailSessionsModel" yX10_tell yX10_tell ∈ zTB := zt_p5 (i := 8) rfl
theorem zw_6_3 : Cond.instanceMethod yX10_close ∈ zTB := zt_6 (i := 3) rfl rfl
theorem zw_6_1 : Cond.methodLink "MailSessionsModel" 322 yX10_close ∈ zTB := zt_6 (i := 1) rfl rfl
theorem zw_p5_11 : Cond.selects "MailSessionsModel" yX10_close yX10_close ∈ zTB := zt_p5 (i := 11) rfl
theorem zw_6_27 : Cond.instanceMethod yX10_isBox ∈ zTB := zt_6 (i := 27) rfl rfl
theorem zw_6_25 : Cond.methodLink "MailSessionsModel" 325 yX10_isBox ∈ zTB := zt_6 (i := 25) rfl rfl
theorem zw_p5_12 : Cond.selects "MailSessionsModel" yX10_isBox yX10_isBox ∈ zTB := zt_p5 (i := 12) rfl
theorem zw_1_175 : Cond.instanceMethod yX9_type ∈ zTB := zt_1 (i := 175) rfl rfl
theorem zw_1_174 : Cond.methodLink "MailSessionsLaw" 7 yX9_type ∈ zTB := zt_1 (i := 174) rfl rfl
theorem zw_1_176 : Cond.selects "MailSessions" yX9_type yX9_type ∈ zTB := zt_1 (i := 176) rfl rfl
theorem zw_2_47 : Cond.instanceMethod yX9_enter ∈ zTB := zt_2 (i := 47) rfl rfl
theorem zw_2_46 : Cond.methodLink "MailSessionsLaw" 19 yX9_enter ∈ zTB := zt_2 (i := 46) rfl rfl
theorem zw_2_48 : Cond.selects "MailSessions" yX9_enter yX9_enter ∈ zTB := zt_2 (i := 48) rfl rfl
theorem zw_4_83 : Cond.instanceMethod yX9_connect ∈ zTB := zt_4 (i := 83) rfl rfl
theorem zw_4_82 : Cond.methodLink "MailSessionsLaw" 23 yX9_connect ∈ zTB := zt_4 (i := 82) rfl rfl
theorem zw_4_84 : Cond.selects "MailSessions" yX9_connect yX9_connect ∈ zTB := zt_4 (i := 84) rfl rfl
theorem zw_4_90 : Cond.instanceMethod yX9_replied ∈ zTB := zt_4 (i := 90) rfl rfl
theorem zw_4_89 : Cond.methodLink "MailSessionsLaw" 27 yX9_replied ∈ zTB := zt_4 (i := 89) rfl rfl
theorem zw_4_91 : Cond.selects "MailSessions" yX9_replied yX9_replied ∈ zTB := zt_4 (i := 91) rfl rfl
theorem zw_4_97 : Cond.instanceMethod yX9_reply ∈ zTB := zt_4 (i := 97) rfl rfl
theorem zw_4_96 : Cond.methodLink "MailSessionsLaw" 30 yX9_reply ∈ zTB := zt_4 (i := 96) rfl rfl
theorem zw_4_98 : Cond.selects "MailSessions" yX9_reply yX9_reply ∈ zTB := zt_4 (i := 98) rfl rfl
theorem zw_4_105 : Cond.instanceMethod yX9_message ∈ zTB := zt_4 (i := 105) rfl rfl
theorem zw_4_104 : Cond.methodLink "MailSessionsLaw" 34 yX9_message ∈ zTB := zt_4 (i := 104) rfl rfl
theorem zw_4_106 : Cond.selects "MailSessions" yX9_message yX9_message ∈ zTB := zt_4 (i := 106) rfl rfl
theorem zw_1_25 : Cond.classLink "MailSessionsLaw" 8 "MailSessions" ∈ zTB := zt_1 (i := 25) rfl rfl
theorem zw_1_26 : Cond.instantiable "MailSessions" 3 ∈ zTB := zt_1 (i := 26) rfl rfl
theorem zw_1_1 : Cond.initialized "MailSessions" ∈ zTB := zt_1 (i := 1) rfl rfl
theorem zw_1_28 : Cond.instanceMethod yX9_init ∈ zTB := zt_1 (i := 28) rfl rfl
theorem zw_1_27 : Cond.methodLink "MailSessionsLaw" 40 yX9_init ∈ zTB := zt_1 (i := 27) rfl rfl
theorem zw_4_124 : Cond.classLink "MailSessionsLaw" 41 "MailSessionsModel" ∈ zTB := zt_4 (i := 124) rfl rfl
theorem zw_4_125 : Cond.instantiable "MailSessionsModel" 39 ∈ zTB := zt_4 (i := 125) rfl rfl
theorem zw_1_6 : Cond.initialized "MailSessionsModel" ∈ zTB := zt_1 (i := 6) rfl rfl
theorem zw_4_127 : Cond.instanceMethod yX10_init ∈ zTB := zt_4 (i := 127) rfl rfl
theorem zw_4_126 : Cond.methodLink "MailSessionsLaw" 43 yX10_init ∈ zTB := zt_4 (i := 126) rfl rfl
theorem zw_6_33 : Cond.arrayClass .long ∈ zTB := zt_6 (i := 33) rfl rfl
theorem zw_1_168 : Cond.methodLink "MailSessionsLaw" 44 yL_type ∈ zTB := zt_1 (i := 168) rfl rfl
theorem zw_1_169 : Cond.static yL_type ∈ zTB := zt_1 (i := 169) rfl rfl
theorem zw_5_14 : Cond.instanceMethod yX10_type ∈ zTB := zt_5 (i := 14) rfl rfl
theorem zw_5_13 : Cond.methodLink "MailSessionsLaw" 49 yX10_type ∈ zTB := zt_5 (i := 13) rfl rfl
theorem zw_5_15 : Cond.selects "MailSessionsModel" yX10_type yX10_type ∈ zTB := zt_5 (i := 15) rfl rfl
theorem zw_5_10 : Cond.instanceMethod yX10_thrown ∈ zTB := zt_5 (i := 10) rfl rfl
theorem zw_5_9 : Cond.methodLink "MailSessionsLaw" 50 yX10_thrown ∈ zTB := zt_5 (i := 9) rfl rfl
theorem zw_5_11 : Cond.selects "MailSessionsModel" yX10_thrown yX10_thrown ∈ zTB := zt_5 (i := 11) rfl rfl
theorem zw_2_43 : Cond.methodLink "MailSessionsLaw" 54 yL_enter ∈ zTB := zt_2 (i := 43) rfl rfl
theorem zw_2_44 : Cond.static yL_enter ∈ zTB := zt_2 (i := 44) rfl rfl
theorem zw_5_21 : Cond.instanceMethod yX10_enter ∈ zTB := zt_5 (i := 21) rfl rfl
theorem zw_5_20 : Cond.methodLink "MailSessionsLaw" 57 yX10_enter ∈ zTB := zt_5 (i := 20) rfl rfl
theorem zw_5_22 : Cond.selects "MailSessionsModel" yX10_enter yX10_enter ∈ zTB := zt_5 (i := 22) rfl rfl
theorem zw_4_79 : Cond.methodLink "MailSessionsLaw" 58 yL_connect ∈ zTB := zt_4 (i := 79) rfl rfl
theorem zw_4_80 : Cond.static yL_connect ∈ zTB := zt_4 (i := 80) rfl rfl
theorem zw_6_6 : Cond.instanceMethod yX10_connect ∈ zTB := zt_6 (i := 6) rfl rfl
theorem zw_6_5 : Cond.methodLink "MailSessionsLaw" 61 yX10_connect ∈ zTB := zt_6 (i := 5) rfl rfl
theorem zw_6_7 : Cond.selects "MailSessionsModel" yX10_connect yX10_connect ∈ zTB := zt_6 (i := 7) rfl rfl
theorem zw_4_86 : Cond.methodLink "MailSessionsLaw" 62 yL_replied ∈ zTB := zt_4 (i := 86) rfl rfl
theorem zw_4_87 : Cond.static yL_replied ∈ zTB := zt_4 (i := 87) rfl rfl
theorem zw_6_10 : Cond.instanceMethod yX10_replied ∈ zTB := zt_6 (i := 10) rfl rfl
theorem zw_6_9 : Cond.methodLink "MailSessionsLaw" 64 yX10_replied ∈ zTB := zt_6 (i := 9) rfl rfl
theorem zw_6_11 : Cond.selects "MailSessionsModel" yX10_replied yX10_replied ∈ zTB := zt_6 (i := 11) rfl rfl
theorem zw_4_93 : Cond.methodLink "MailSessionsLaw" 65 yL_reply ∈ zTB := zt_4 (i := 93) rfl rfl
theorem zw_4_94 : Cond.static yL_reply ∈ zTB := zt_4 (i := 94) rfl rfl
theorem zw_6_14 : Cond.instanceMethod yX10_reply ∈ zTB := zt_6 (i := 14) rfl rfl
theorem zw_6_13 : Cond.methodLink "MailSessionsLaw" 67 yX10_reply ∈ zTB := zt_6 (i := 13) rfl rfl
theorem zw_6_15 : Cond.selects "MailSessionsModel" yX10_reply yX10_reply ∈ zTB := zt_6 (i := 15) rfl rfl
theorem zw_1_157 : Cond.instanceMethod yX9_view ∈ zTB := zt_1 (i := 157) rfl rfl
theorem zw_1_156 : Cond.methodLink "MailSessionsLaw" 68 yX9_view ∈ zTB := zt_1 (i := 156) rfl rfl
theorem zw_1_158 : Cond.selects "MailSessions" yX9_view yX9_view ∈ zTB := zt_1 (i := 158) rfl rfl
theorem zw_6_18 : Cond.instanceMethod yX10_view ∈ zTB := zt_6 (i := 18) rfl rfl
theorem zw_6_17 : Cond.methodLink "MailSessionsLaw" 71 yX10_view ∈ zTB := zt_6 (i := 17) rfl rfl
theorem zw_6_19 : Cond.selects "MailSessionsModel" yX10_view yX10_view ∈ zTB := zt_6 (i := 19) rfl rfl
theorem zw_1_161 : Cond.instanceMethod yX9_messages ∈ zTB := zt_1 (i := 161) rfl rfl
theorem zw_1_160 : Cond.methodLink "MailSessionsLaw" 72 yX9_messages ∈ zTB := zt_1 (i := 160) rfl rfl
theorem zw_1_162 : Cond.selects "MailSessions" yX9_messages yX9_messages ∈ zTB := zt_1 (i := 162) rfl rfl
theorem zw_6_22 : Cond.instanceMethod yX10_messages ∈ zTB := zt_6 (i := 22) rfl rfl
theorem zw_6_21 : Cond.methodLink "MailSessionsLaw" 75 yX10_messages ∈ zTB := zt_6 (i := 21) rfl rfl
theorem zw_6_23 : Cond.selects "MailSessionsModel" yX10_messages yX10_messages ∈ zTB := zt_6 (i := 23) rfl rfl
theorem zw_4_100 : Cond.methodLink "MailSessionsLaw" 76 yL_message ∈ zTB := zt_4 (i := 100) rfl rfl
theorem zw_4_101 : Cond.static yL_message ∈ zTB := zt_4 (i := 101) rfl rfl
theorem zw_6_30 : Cond.instanceMethod yX10_message ∈ zTB := zt_6 (i := 30) rfl rfl
theorem zw_6_29 : Cond.methodLink "MailSessionsLaw" 79 yX10_message ∈ zTB := zt_6 (i := 29) rfl rfl
theorem zw_6_31 : Cond.selects "MailSessionsModel" yX10_message yX10_message ∈ zTB := zt_6 (i := 31) rfl rfl
theorem zw_3_182 : Cond.code yJ13_bitCount_95d88 cJ13_bitCount_95d88 2 (some .int) ∈ zTB := zt_3 (i := 182) rfl rfl
theorem zw_1_22 : Cond.initialized "java/lang/Long" ∈ zTB := zt_1 (i := 22) rfl rfl
theorem zw_2_141 : Cond.code yJ0_init_905df cJ0_init_905df 2 (none) ∈ zTB := zt_2 (i := 141) rfl rfl
theorem zw_2_144 : Cond.code yJ0_init_bb550 cJ0_init_bb550 6 (none) ∈ zTB := zt_2 (i := 144) rfl rfl
theorem zw_2_226 : Cond.code yJ0_length_8abf5 cJ0_length_8abf5 1 (some .int) ∈ zTB := zt_2 (i := 226) rfl rfl
theorem zw_2_234 : Cond.code yJ0_charAt_5068e cJ0_charAt_5068e 2 (some .char) ∈ zTB := zt_2 (i := 234) rfl rfl
theorem zw_3_53 : Cond.code yJ0_indexOf_0f7a4 cJ0_indexOf_0f7a4 2 (some .int) ∈ zTB := zt_3 (i := 53) rfl rfl
theorem zw_3_57 : Cond.code yJ0_indexOf_7cf53 cJ0_indexOf_7cf53 3 (some .int) ∈ zTB := zt_3 (i := 57) rfl rfl
theorem zw_2_230 : Cond.code yJ0_coder_7d493 cJ0_coder_7d493 1 (some .byte) ∈ zTB := zt_2 (i := 230) rfl rfl
theorem zw_2_238 : Cond.code yJ0_isLatin1_aae02 cJ0_isLatin1_aae02 1 (some .boolean) ∈ zTB := zt_2 (i := 238) rfl rfl
theorem zw_3_4 : Cond.code yJ0_checkIndex_df160 cJ0_checkIndex_df160 2 (none) ∈ zTB := zt_3 (i := 4) rfl rfl
theorem zw_3_1 : Cond.code yJ1_charAt_3b067 cJ1_charAt_3b067 2 (some .char) ∈ zTB := zt_3 (i := 1) rfl rfl
theorem zw_1_18 : Cond.initialized "java/lang/StringLatin1" ∈ zTB := zt_1 (i := 18) rfl rfl
theorem zw_3_64 : Cond.code yJ1_canEncode_9a6ad cJ1_canEncode_9a6ad 1 (some .boolean) ∈ zTB := zt_3 (i := 64) rfl rfl
theorem zw_3_61 : Cond.code yJ1_indexOf_4cfef cJ1_indexOf_4cfef 4 (some .int) ∈ zTB := zt_3 (i := 61) rfl rfl
theorem zw_3_73 : Cond.code yJ1_indexOfChar_4cfef cJ1_indexOfChar_4cfef 6 (some .int) ∈ zTB := zt_3 (i := 73) rfl rfl
theorem zw_2_151 : Cond.code yJ2_compress_dfd3c cJ2_compress_dfd3c 6 (some (.array .byte)) ∈ zTB := zt_2 (i := 151) rfl rfl
theorem zw_1_16 : Cond.initialized "java/lang/StringUTF16" ∈ zTB := zt_1 (i := 16) rfl rfl
theorem zw_2_154 : Cond.code yJ2_compress_fe38e cJ2_compress_fe38e 7 (some .int) ∈ zTB := zt_2 (i := 154) rfl rfl
theorem zw_2_196 : Cond.code yJ2_coderFromArrayLen_85cad cJ2_coderFromArrayLen_85cad 2 (some .byte) ∈ zTB := zt_2 (i := 196) rfl rfl
theorem zw_3_7 : Cond.code yJ3_checkIndex_8e157 cJ3_checkIndex_8e157 3 (some .int) ∈ zTB := zt_3 (i := 7) rfl rfl
theorem zw_1_17 : Cond.initialized "jdk/internal/util/Preconditions" ∈ zTB := zt_1 (i := 17) rfl rfl
theorem zw_2_83 : Cond.code yX1_init cX1_init 1 (none) ∈ zTB := zt_2 (i := 83) rfl rfl
theorem zw_1_38 : Cond.code yX2_init cX2_init 1 (none) ∈ zTB := zt_1 (i := 38) rfl rfl
theorem zw_1_145 : Cond.code yX2_create cX2_create 2 (none) ∈ zTB := zt_1 (i := 145) rfl rfl
theorem zw_3_193 : Cond.code yX2_add cX2_add 3 (none) ∈ zTB := zt_3 (i := 193) rfl rfl
theorem zw_4_30 : Cond.code yX2_expunge cX2_expunge 4 (none) ∈ zTB := zt_4 (i := 30) rfl rfl
theorem zw_3_197 : Cond.code yX3_init cX3_init 4 (none) ∈ zTB := zt_3 (i := 197) rfl rfl
theorem zw_2_54 : Cond.code yX4_init cX4_init 4 (none) ∈ zTB := zt_2 (i := 54) rfl rfl
theorem zw_2_78 : Cond.code yX4_readCommand cX4_readCommand 2 (some (.object "MailSessions$Command")) ∈ zTB := zt_2 (i := 78) rfl rfl
theorem zw_3_18 : Cond.code yX4_readVerb cX4_readVerb 2 (some (.object "MailSessions$Verb")) ∈ zTB := zt_3 (i := 18) rfl rfl
theorem zw_3_24 : Cond.code yX4_readRest cX4_readRest 2 (none) ∈ zTB := zt_3 (i := 24) rfl rfl
theorem zw_3_36 : Cond.code yX4_readMailbox cX4_readMailbox 2 (some .int) ∈ zTB := zt_3 (i := 36) rfl rfl
theorem zw_3_130 : Cond.code yX4_readChange cX4_readChange 1 (some .int) ∈ zTB := zt_3 (i := 130) rfl rfl
theorem zw_3_134 : Cond.code yX4_readItem cX4_readItem 1 (some .int) ∈ zTB := zt_3 (i := 134) rfl rfl
theorem zw_3_44 : Cond.code yX4_readFlags cX4_readFlags 3 (some .int) ∈ zTB := zt_3 (i := 44) rfl rfl
theorem zw_3_48 : Cond.code yX4_readFlag cX4_readFlag 2 (some .int) ∈ zTB := zt_3 (i := 48) rfl rfl
theorem zw_2_132 : Cond.code yX4_readLetters cX4_readLetters 6 (some (.object "java/lang/String")) ∈ zTB := zt_2 (i := 132) rfl rfl
theorem zw_2_136 : Cond.code yX4_isLetter cX4_isLetter 4 (some .boolean) ∈ zTB := zt_2 (i := 136) rfl rfl
theorem zw_3_141 : Cond.code yX4_readSearch cX4_readSearch 5 (some .long) ∈ zTB := zt_3 (i := 141) rfl rfl
theorem zw_3_145 : Cond.code yX4_readKey cX4_readKey 4 (some .long) ∈ zTB := zt_3 (i := 145) rfl rfl
theorem zw_3_112 : Cond.code yX4_readSet cX4_readSet 8 (some .long) ∈ zTB := zt_3 (i := 112) rfl rfl
theorem zw_3_116 : Cond.code yX4_readPoint cX4_readPoint 5 (some .int) ∈ zTB := zt_3 (i := 116) rfl rfl
theorem zw_3_40 : Cond.code yX4_sign cX4_sign 1 (some .char) ∈ zTB := zt_3 (i := 40) rfl rfl
theorem zw_2_217 : Cond.code yX4_takeSign cX4_takeSign 2 (some .boolean) ∈ zTB := zt_2 (i := 217) rfl rfl
theorem zw_2_213 : Cond.code yX4_need cX4_need 2 (none) ∈ zTB := zt_2 (i := 213) rfl rfl
theorem zw_2_222 : Cond.code yX4_takeWord cX4_takeWord 3 (some .boolean) ∈ zTB := zt_2 (i := 222) rfl rfl
theorem zw_1_77 : Cond.code yX5_init cX5_init 1 (none) ∈ zTB := zt_1 (i := 77) rfl rfl
theorem zw_4_15 : Cond.code yX5_putSign cX5_putSign 2 (none) ∈ zTB := zt_4 (i := 15) rfl rfl
theorem zw_4_9 : Cond.code yX5_putText cX5_putText 3 (none) ∈ zTB := zt_4 (i := 9) rfl rfl
theorem zw_4_19 : Cond.code yX5_putNumber cX5_putNumber 3 (none) ∈ zTB := zt_4 (i := 19) rfl rfl
theorem zw_4_4 : Cond.code yX5_startLine cX5_startLine 3 (none) ∈ zTB := zt_4 (i := 4) rfl rfl
theorem zw_4_0 : Cond.code yX5_putLine cX5_putLine 3 (none) ∈ zTB := zt_4 (i := 0) rfl rfl
theorem zw_4_48 : Cond.code yX5_putFlags cX5_putFlags 3 (none) ∈ zTB := zt_4 (i := 48) rfl rfl
theorem zw_1_71 : Cond.code yX6_init cX6_init 1 (none) ∈ zTB := zt_1 (i := 71) rfl rfl
theorem zw_3_227 : Cond.code yX6_select cX6_select 3 (none) ∈ zTB := zt_3 (i := 227) rfl rfl
theorem zw_4_34 : Cond.code yX6_unselect cX6_unselect 1 (none) ∈ zTB := zt_4 (i := 34) rfl rfl
theorem zw_4_26 : Cond.code yX6_expunge cX6_expunge 1 (none) ∈ zTB := zt_4 (i := 26) rfl rfl
theorem zw_4_38 : Cond.code yX6_store cX6_store 4 (none) ∈ zTB := zt_4 (i := 38) rfl rfl
theorem zw_4_54 : Cond.code yX6_fetch cX6_fetch 4 (none) ∈ zTB := zt_4 (i := 54) rfl rfl
theorem zw_4_60 : Cond.code yX6_copy cX6_copy 5 (none) ∈ zTB := zt_4 (i := 60) rfl rfl
theorem zw_4_65 : Cond.code yX6_search cX6_search 3 (none) ∈ zTB := zt_4 (i := 65) rfl rfl
theorem zw_4_70 : Cond.code yX6_tellChanges cX6_tellChanges 3 (none) ∈ zTB := zt_4 (i := 70) rfl rfl
theorem zw_4_74 : Cond.code yX6_tellGone cX6_tellGone 3 (none) ∈ zTB := zt_4 (i := 74) rfl rfl
theorem zw_4_42 : Cond.code yX6_tellFlags cX6_tellFlags 2 (none) ∈ zTB := zt_4 (i := 42) rfl rfl
theorem zw_1_93 : Cond.code yX8_init cX8_init 1 (none) ∈ zTB := zt_1 (i := 93) rfl rfl
theorem zw_3_231 : Cond.code yX8_empty cX8_empty 1 (none) ∈ zTB := zt_3 (i := 231) rfl rfl
theorem zw_3_235 : Cond.code yX8_takeNew cX8_takeNew 5 (some .boolean) ∈ zTB := zt_3 (i := 235) rfl rfl
theorem zw_3_120 : Cond.code yX8_last cX8_last 2 (some .int) ∈ zTB := zt_3 (i := 120) rfl rfl
theorem zw_3_150 : Cond.code yX8_present cX8_present 1 (some .long) ∈ zTB := zt_3 (i := 150) rfl rfl
theorem zw_3_126 : Cond.code yX8_between cX8_between 8 (some .long) ∈ zTB := zt_3 (i := 126) rfl rfl
theorem zw_3_156 : Cond.code yX8_withFlag cX8_withFlag 5 (some .long) ∈ zTB := zt_3 (i := 156) rfl rfl
theorem zw_3_161 : Cond.code yX8_withText cX8_withText 5 (some .long) ∈ zTB := zt_3 (i := 161) rfl rfl
theorem zw_3_164 : Cond.code yX8_contains cX8_contains 4 (some .boolean) ∈ zTB := zt_3 (i := 164) rfl rfl
theorem zw_1_29 : Cond.code yX9_init cX9_init 2 (none) ∈ zTB := zt_1 (i := 29) rfl rfl
theorem zw_1_177 : Cond.code yX9_type cX9_type 6 (some .boolean) ∈ zTB := zt_1 (i := 177) rfl rfl
theorem zw_2_49 : Cond.code yX9_enter cX9_enter 6 (some .int) ∈ zTB := zt_2 (i := 49) rfl rfl
theorem zw_4_85 : Cond.code yX9_connect cX9_connect 3 (none) ∈ zTB := zt_4 (i := 85) rfl rfl
theorem zw_4_92 : Cond.code yX9_replied cX9_replied 2 (some .int) ∈ zTB := zt_4 (i := 92) rfl rfl
theorem zw_4_99 : Cond.code yX9_reply cX9_reply 4 (some .char) ∈ zTB := zt_4 (i := 99) rfl rfl
theorem zw_1_159 : Cond.code yX9_view cX9_view 2 (some .int) ∈ zTB := zt_1 (i := 159) rfl rfl
theorem zw_1_163 : Cond.code yX9_messages cX9_messages 2 (some .int) ∈ zTB := zt_1 (i := 163) rfl rfl
theorem zw_4_107 : Cond.code yX9_message cX9_message 5 (some .int) ∈ zTB := zt_4 (i := 107) rfl rfl
theorem zw_1_185 : Cond.code yX9_anySession cX9_anySession 2 (some (.object "MailSessions$Session")) ∈ zTB := zt_1 (i := 185) rfl rfl
theorem zw_1_181 : Cond.code yX9_connectedSession cX9_connectedSession 3 (some (.object "MailSessions$Session")) ∈ zTB := zt_1 (i := 181) rfl rfl
theorem zw_1_167 : Cond.code yX9_isThere cX9_isThere 2 (some .boolean) ∈ zTB := zt_1 (i := 167) rfl rfl
theorem zw_2_27 : Cond.code yX9_byteOf cX9_byteOf 2 (some .int) ∈ zTB := zt_2 (i := 27) rfl rfl
theorem zw_3_173 : Cond.code yX9_isRefused cX9_isRefused 5 (some .boolean) ∈ zTB := zt_3 (i := 173) rfl rfl
theorem zw_3_179 : Cond.code yX9_isSelected cX9_isSelected 3 (some .boolean) ∈ zTB := zt_3 (i := 179) rfl rfl
theorem zw_3_189 : Cond.code yX9_perform cX9_perform 4 (none) ∈ zTB := zt_3 (i := 189) rfl rfl
theorem zw_4_128 : Cond.code yX10_init cX10_init 2 (none) ∈ zTB := zt_4 (i := 128) rfl rfl
theorem zw_5_12 : Cond.code yX10_thrown cX10_thrown 1 (some .int) ∈ zTB := zt_5 (i := 12) rfl rfl
theorem zw_5_19 : Cond.code yX10_isSession cX10_isSession 1 (some .boolean) ∈ zTB := zt_5 (i := 19) rfl rfl
theorem zw_5_52 : Cond.code yX10_letter cX10_letter 1 (some .long) ∈ zTB := zt_5 (i := 52) rfl rfl
theorem zw_5_57 : Cond.code yX10_word cX10_word 9 (some .long) ∈ zTB := zt_5 (i := 57) rfl rfl
theorem zw_5_31 : Cond.code yX10_look cX10_look 2 (some .int) ∈ zTB := zt_5 (i := 31) rfl rfl
theorem zw_5_37 : Cond.code yX10_isDigit cX10_isDigit 1 (some .boolean) ∈ zTB := zt_5 (i := 37) rfl rfl
theorem zw_5_34 : Cond.code yX10_isSmall cX10_isSmall 1 (some .boolean) ∈ zTB := zt_5 (i := 34) rfl rfl
theorem zw_5_48 : Cond.code yX10_isLarge cX10_isLarge 1 (some .boolean) ∈ zTB := zt_5 (i := 48) rfl rfl
theorem zw_5_45 : Cond.code yX10_readWord cX10_readWord 5 (some .long) ∈ zTB := zt_5 (i := 45) rfl rfl
theorem zw_5_41 : Cond.code yX10_need cX10_need 2 (none) ∈ zTB := zt_5 (i := 41) rfl rfl
theorem zw_5_140 : Cond.code yX10_readBox cX10_readBox 2 (none) ∈ zTB := zt_5 (i := 140) rfl rfl
theorem zw_5_116 : Cond.code yX10_bitOf cX10_bitOf 1 (some .int) ∈ zTB := zt_5 (i := 116) rfl rfl
theorem zw_5_136 : Cond.code yX10_readFlags cX10_readFlags 1 (none) ∈ zTB := zt_5 (i := 136) rfl rfl
theorem zw_5_124 : Cond.code yX10_readText cX10_readText 1 (none) ∈ zTB := zt_5 (i := 124) rfl rfl
theorem zw_5_89 : Cond.code yX10_readPoint cX10_readPoint 2 (none) ∈ zTB := zt_5 (i := 89) rfl rfl
theorem zw_5_85 : Cond.code yX10_readSet cX10_readSet 2 (none) ∈ zTB := zt_5 (i := 85) rfl rfl
theorem zw_5_97 : Cond.code yX10_valueAt cX10_valueAt 5 (some .int) ∈ zTB := zt_5 (i := 97) rfl rfl
theorem zw_5_101 : Cond.code yX10_behindPoint cX10_behindPoint 3 (some .int) ∈ zTB := zt_5 (i := 101) rfl rfl
theorem zw_5_113 : Cond.code yX10_covers cX10_covers 9 (some .boolean) ∈ zTB := zt_5 (i := 113) rfl rfl
theorem zw_5_93 : Cond.code yX10_isWrong cX10_isWrong 6 (some .boolean) ∈ zTB := zt_5 (i := 93) rfl rfl
theorem zw_5_109 : Cond.code yX10_greatest cX10_greatest 1 (some .int) ∈ zTB := zt_5 (i := 109) rfl rfl
theorem zw_5_105 : Cond.code yX10_inSet cX10_inSet 5 (some .boolean) ∈ zTB := zt_5 (i := 105) rfl rfl
theorem zw_5_120 : Cond.code yX10_messageAt cX10_messageAt 4 (some .int) ∈ zTB := zt_5 (i := 120) rfl rfl
theorem zw_5_128 : Cond.code yX10_within cX10_within 6 (some .boolean) ∈ zTB := zt_5 (i := 128) rfl rfl
theorem zw_5_81 : Cond.code yX10_leaf cX10_leaf 5 (some .boolean) ∈ zTB := zt_5 (i := 81) rfl rfl
theorem zw_5_73 : Cond.code yX10_push cX10_push 2 (none) ∈ zTB := zt_5 (i := 73) rfl rfl
theorem zw_5_77 : Cond.code yX10_descend cX10_descend 5 (none) ∈ zTB := zt_5 (i := 77) rfl rfl
theorem zw_5_132 : Cond.code yX10_rise cX10_rise 4 (some .boolean) ∈ zTB := zt_5 (i := 132) rfl rfl
theorem zw_5_69 : Cond.code yX10_search cX10_search 4 (some .boolean) ∈ zTB := zt_5 (i := 69) rfl rfl
theorem zw_5_61 : Cond.code yX10_commandOf cX10_commandOf 3 (some .int) ∈ zTB := zt_5 (i := 61) rfl rfl
theorem zw_5_65 : Cond.code yX10_readRest cX10_readRest 2 (none) ∈ zTB := zt_5 (i := 65) rfl rfl
theorem zw_5_27 : Cond.code yX10_read cX10_read 4 (some .int) ∈ zTB := zt_5 (i := 27) rfl rfl
theorem zw_5_184 : Cond.code yX10_say cX10_say 2 (none) ∈ zTB := zt_5 (i := 184) rfl rfl
theorem zw_5_188 : Cond.code yX10_sayNumber cX10_sayNumber 2 (none) ∈ zTB := zt_5 (i := 188) rfl rfl
theorem zw_5_192 : Cond.code yX10_sayLetters cX10_sayLetters 5 (none) ∈ zTB := zt_5 (i := 192) rfl rfl
theorem zw_5_220 : Cond.code yX10_sayFlags cX10_sayFlags 2 (none) ∈ zTB := zt_5 (i := 220) rfl rfl
theorem zw_5_180 : Cond.code yX10_sayCount cX10_sayCount 4 (none) ∈ zTB := zt_5 (i := 180) rfl rfl
theorem zw_5_216 : Cond.code yX10_sayFetched cX10_sayFetched 3 (none) ∈ zTB := zt_5 (i := 216) rfl rfl
theorem zw_6_4 : Cond.code yX10_close cX10_close 4 (none) ∈ zTB := zt_6 (i := 4) rfl rfl
theorem zw_5_148 : Cond.code yX10_isSelected cX10_isSelected 4 (some .boolean) ∈ zTB := zt_5 (i := 148) rfl rfl
theorem zw_5_156 : Cond.code yX10_meant cX10_meant 2 (some .boolean) ∈ zTB := zt_5 (i := 156) rfl rfl
theorem zw_5_152 : Cond.code yX10_meantPlaces cX10_meantPlaces 3 (some .int) ∈ zTB := zt_5 (i := 152) rfl rfl
theorem zw_5_144 : Cond.code yX10_refused cX10_refused 4 (some .boolean) ∈ zTB := zt_5 (i := 144) rfl rfl
theorem zw_5_172 : Cond.code yX10_bring cX10_bring 4 (some .int) ∈ zTB := zt_5 (i := 172) rfl rfl
theorem zw_5_196 : Cond.code yX10_clean cX10_clean 7 (none) ∈ zTB := zt_5 (i := 196) rfl rfl
theorem zw_5_176 : Cond.code yX10_select cX10_select 3 (none) ∈ zTB := zt_5 (i := 176) rfl rfl
theorem zw_5_212 : Cond.code yX10_store cX10_store 3 (none) ∈ zTB := zt_5 (i := 212) rfl rfl
theorem zw_5_224 : Cond.code yX10_fetch cX10_fetch 4 (none) ∈ zTB := zt_5 (i := 224) rfl rfl
theorem zw_5_228 : Cond.code yX10_copyTo cX10_copyTo 5 (none) ∈ zTB := zt_5 (i := 228) rfl rfl
theorem zw_5_168 : Cond.code yX10_append cX10_append 3 (none) ∈ zTB := zt_5 (i := 168) rfl rfl
theorem zw_5_204 : Cond.code yX10_find cX10_find 2 (none) ∈ zTB := zt_5 (i := 204) rfl rfl
theorem zw_5_208 : Cond.code yX10_overSet cX10_overSet 4 (none) ∈ zTB := zt_5 (i := 208) rfl rfl
theorem zw_5_164 : Cond.code yX10_create cX10_create 1 (none) ∈ zTB := zt_5 (i := 164) rfl rfl
theorem zw_5_200 : Cond.code yX10_leave cX10_leave 1 (none) ∈ zTB := zt_5 (i := 200) rfl rfl
theorem zw_5_160 : Cond.code yX10_perform cX10_perform 2 (none) ∈ zTB := zt_5 (i := 160) rfl rfl
theorem zw_5_236 : Cond.code yX10_dropGone cX10_dropGone 3 (none) ∈ zTB := zt_5 (i := 236) rfl rfl
theorem zw_6_0 : Cond.code yX10_isViewed cX10_isViewed 4 (some .boolean) ∈ zTB := zt_6 (i := 0) rfl rfl
theorem zw_5_232 : Cond.code yX10_tell cX10_tell 7 (none) ∈ zTB := zt_5 (i := 232) rfl rfl
theorem zw_5_16 : Cond.code yX10_type cX10_type 7 (some .boolean) ∈ zTB := zt_5 (i := 16) rfl rfl
theorem zw_5_23 : Cond.code yX10_enter cX10_enter 5 (some .int) ∈ zTB := zt_5 (i := 23) rfl rfl
theorem zw_6_8 : Cond.code yX10_connect cX10_connect 2 (none) ∈ zTB := zt_6 (i := 8) rfl rfl
theorem zw_6_12 : Cond.code yX10_replied cX10_replied 2 (some .int) ∈ zTB := zt_6 (i := 12) rfl rfl
theorem zw_6_16 : Cond.code yX10_reply cX10_reply 3 (some .char) ∈ zTB := zt_6 (i := 16) rfl rfl
theorem zw_6_20 : Cond.code yX10_view cX10_view 2 (some .int) ∈ zTB := zt_6 (i := 20) rfl rfl
theorem zw_6_28 : Cond.code yX10_isBox cX10_isBox 2 (some .boolean) ∈ zTB := zt_6 (i := 28) rfl rfl
theorem zw_6_24 : Cond.code yX10_messages cX10_messages 2 (some .int) ∈ zTB := zt_6 (i := 24) rfl rfl
theorem zw_6_32 : Cond.code yX10_message cX10_message 5 (some .int) ∈ zTB := zt_6 (i := 32) rfl rfl
theorem zw_1_170 : Cond.codeWith yL_type cL_type 5 (some .int) [(0, 17, 20, 13), (0, 17, 24, 15), (0, 17, 28, 17)] ∈ zTB := zt_1 (i := 170) rfl rfl
theorem zw_1_0 : Cond.initialized "MailSessionsLaw" ∈ zTB := zt_1 (i := 0) rfl rfl
theorem zw_2_45 : Cond.codeWith yL_enter cL_enter 4 (some .int) [(0, 9, 12, 13), (0, 9, 15, 15), (0, 9, 18, 17)] ∈ zTB := zt_2 (i := 45) rfl rfl
theorem zw_4_81 : Cond.codeWith yL_connect cL_connect 3 (some .int) [(0, 5, 8, 13), (0, 5, 11, 15)] ∈ zTB := zt_4 (i := 81) rfl rfl
theorem zw_4_88 : Cond.codeWith yL_replied cL_replied 4 (some .int) [(0, 9, 12, 13)] ∈ zTB := zt_4 (i := 88) rfl rfl
theorem zw_4_95 : Cond.codeWith yL_reply cL_reply 5 (some .int) [(0, 10, 13, 13)] ∈ zTB := zt_4 (i := 95) rfl rfl
theorem zw_4_102 : Cond.codeWith yL_message cL_message 6 (some .int) [(0, 12, 15, 38)] ∈ zTB := zt_4 (i := 102) rfl rfl
theorem zw_2_200 : Cond.laysFinal "java/lang/String" "java/lang/String" "value" "[B" ∈ zTB := zt_2 (i := 200) rfl rfl
theorem zw_2_202 : Cond.laysFinal "java/lang/String" "java/lang/String" "coder" "B" ∈ zTB := zt_2 (i := 202) rfl rfl
theorem zw_2_204 : Cond.lays "java/lang/String" "java/lang/String" "hash" "I" ∈ zTB := zt_2 (i := 204) rfl rfl
theorem zw_2_206 : Cond.lays "java/lang/String" "java/lang/String" "hashIsZero" "Z" ∈ zTB := zt_2 (i := 206) rfl rfl
theorem zw_2_108 : Cond.lays "MailSessions$Command" "MailSessions$Command" "tag" "Ljava/lang/String;" ∈ zTB := zt_2 (i := 108) rfl rfl
theorem zw_2_110 : Cond.lays "MailSessions$Command" "MailSessions$Command" "verb" "LMailSessions$Verb;" ∈ zTB := zt_2 (i := 110) rfl rfl
theorem zw_2_112 : Cond.lays "MailSessions$Command" "MailSessions$Command" "uid" "Z" ∈ zTB := zt_2 (i := 112) rfl rfl
theorem zw_2_114 : Cond.lays "MailSessions$Command" "MailSessions$Command" "mailbox" "I" ∈ zTB := zt_2 (i := 114) rfl rfl
theorem zw_2_116 : Cond.lays "MailSessions$Command" "MailSessions$Command" "flags" "I" ∈ zTB := zt_2 (i := 116) rfl rfl
theorem zw_2_118 : Cond.lays "MailSessions$Command" "MailSessions$Command" "text" "Ljava/lang/String;" ∈ zTB := zt_2 (i := 118) rfl rfl
theorem zw_2_120 : Cond.lays "MailSessions$Command" "MailSessions$Command" "change" "I" ∈ zTB := zt_2 (i := 120) rfl rfl
theorem zw_2_122 : Cond.lays "MailSessions$Command" "MailSessions$Command" "item" "I" ∈ zTB := zt_2 (i := 122) rfl rfl
theorem zw_2_124 : Cond.lays "MailSessions$Command" "MailSessions$Command" "places" "J" ∈ zTB := zt_2 (i := 124) rfl rfl
theorem zw_2_126 : Cond.lays "MailSessions$Command" "MailSessions$Command" "wrong" "Z" ∈ zTB := zt_2 (i := 126) rfl rfl
theorem zw_1_55 : Cond.laysFinal "MailSessions$Mailbox" "MailSessions$Mailbox" "row" "[LMailSessions$Message;" ∈ zTB := zt_1 (i := 55) rfl rfl
theorem zw_1_57 : Cond.lays "MailSessions$Mailbox" "MailSessions$Mailbox" "there" "Z" ∈ zTB := zt_1 (i := 57) rfl rfl
theorem zw_1_59 : Cond.lays "MailSessions$Mailbox" "MailSessions$Mailbox" "validity" "I" ∈ zTB := zt_1 (i := 59) rfl rfl
theorem zw_1_61 : Cond.lays "MailSessions$Mailbox" "MailSessions$Mailbox" "next" "I" ∈ zTB := zt_1 (i := 61) rfl rfl
theorem zw_1_63 : Cond.lays "MailSessions$Mailbox" "MailSessions$Mailbox" "count" "I" ∈ zTB := zt_1 (i := 63) rfl rfl
theorem zw_3_215 : Cond.laysFinal "MailSessions$Message" "MailSessions$Message" "number" "I" ∈ zTB := zt_3 (i := 215) rfl rfl
theorem zw_3_217 : Cond.laysFinal "MailSessions$Message" "MailSessions$Message" "text" "Ljava/lang/String;" ∈ zTB := zt_3 (i := 217) rfl rfl
theorem zw_3_219 : Cond.lays "MailSessions$Message" "MailSessions$Message" "flags" "I" ∈ zTB := zt_3 (i := 219) rfl rfl
theorem zw_3_221 : Cond.lays "MailSessions$Message" "MailSessions$Message" "gone" "Z" ∈ zTB := zt_3 (i := 221) rfl rfl
theorem zw_2_62 : Cond.laysFinal "MailSessions$Reader" "MailSessions$Reader" "line" "[C" ∈ zTB := zt_2 (i := 62) rfl rfl
theorem zw_2_64 : Cond.laysFinal "MailSessions$Reader" "MailSessions$Reader" "length" "I" ∈ zTB := zt_2 (i := 64) rfl rfl
theorem zw_2_66 : Cond.laysFinal "MailSessions$Reader" "MailSessions$Reader" "view" "LMailSessions$View;" ∈ zTB := zt_2 (i := 66) rfl rfl
theorem zw_2_68 : Cond.lays "MailSessions$Reader" "MailSessions$Reader" "at" "I" ∈ zTB := zt_2 (i := 68) rfl rfl
theorem zw_2_70 : Cond.lays "MailSessions$Reader" "MailSessions$Reader" "bad" "Z" ∈ zTB := zt_2 (i := 70) rfl rfl
theorem zw_2_72 : Cond.lays "MailSessions$Reader" "MailSessions$Reader" "wrong" "Z" ∈ zTB := zt_2 (i := 72) rfl rfl
theorem zw_1_83 : Cond.laysFinal "MailSessions$Reply" "MailSessions$Reply" "signs" "[C" ∈ zTB := zt_1 (i := 83) rfl rfl
theorem zw_1_85 : Cond.lays "MailSessions$Reply" "MailSessions$Reply" "length" "I" ∈ zTB := zt_1 (i := 85) rfl rfl
theorem zw_1_127 : Cond.laysFinal "MailSessions$Session" "MailSessions$Session" "line" "[C" ∈ zTB := zt_1 (i := 127) rfl rfl
theorem zw_1_129 : Cond.laysFinal "MailSessions$Session" "MailSessions$Session" "reply" "LMailSessions$Reply;" ∈ zTB := zt_1 (i := 129) rfl rfl
theorem zw_1_131 : Cond.laysFinal "MailSessions$Session" "MailSessions$Session" "view" "LMailSessions$View;" ∈ zTB := zt_1 (i := 131) rfl rfl
theorem zw_1_133 : Cond.lays "MailSessions$Session" "MailSessions$Session" "connected" "Z" ∈ zTB := zt_1 (i := 133) rfl rfl
theorem zw_1_135 : Cond.lays "MailSessions$Session" "MailSessions$Session" "typed" "I" ∈ zTB := zt_1 (i := 135) rfl rfl
theorem zw_1_137 : Cond.lays "MailSessions$Session" "MailSessions$Session" "selected" "LMailSessions$Mailbox;" ∈ zTB := zt_1 (i := 137) rfl rfl
theorem zw_1_139 : Cond.lays "MailSessions$Session" "MailSessions$Session" "writes" "Z" ∈ zTB := zt_1 (i := 139) rfl rfl
theorem zw_1_105 : Cond.laysFinal "MailSessions$View" "MailSessions$View" "row" "[LMailSessions$Message;" ∈ zTB := zt_1 (i := 105) rfl rfl
theorem zw_1_107 : Cond.laysFinal "MailSessions$View" "MailSessions$View" "told" "[I" ∈ zTB := zt_1 (i := 107) rfl rfl
theorem zw_1_109 : Cond.lays "MailSessions$View" "MailSessions$View" "count" "I" ∈ zTB := zt_1 (i := 109) rfl rfl
theorem zw_1_111 : Cond.lays "MailSessions$View" "MailSessions$View" "newest" "I" ∈ zTB := zt_1 (i := 111) rfl rfl
theorem zw_1_149 : Cond.laysFinal "MailSessions" "MailSessions" "mailboxes" "[LMailSessions$Mailbox;" ∈ zTB := zt_1 (i := 149) rfl rfl
theorem zw_1_151 : Cond.laysFinal "MailSessions" "MailSessions" "sessions" "[LMailSessions$Session;" ∈ zTB := zt_1 (i := 151) rfl rfl
theorem zw_1_153 : Cond.lays "MailSessions" "MailSessions" "latestValidity" "I" ∈ zTB := zt_1 (i := 153) rfl rfl
theorem zw_4_169 : Cond.lays "MailSessionsModel" "MailSessionsModel" "thrown" "I" ∈ zTB := zt_4 (i := 169) rfl rfl
theorem zw_4_171 : Cond.laysFinal "MailSessionsModel" "MailSessionsModel" "there" "[Z" ∈ zTB := zt_4 (i := 171) rfl rfl
theorem zw_4_173 : Cond.laysFinal "MailSessionsModel" "MailSessionsModel" "validity" "[I" ∈ zTB := zt_4 (i := 173) rfl rfl
theorem zw_4_175 : Cond.laysFinal "MailSessionsModel" "MailSessionsModel" "next" "[I" ∈ zTB := zt_4 (i := 175) rfl rfl
theorem zw_4_177 : Cond.laysFinal "MailSessionsModel" "MailSessionsModel" "count" "[I" ∈ zTB := zt_4 (i := 177) rfl rfl
theorem zw_4_179 : Cond.laysFinal "MailSessionsModel" "MailSessionsModel" "numbers" "[I" ∈ zTB := zt_4 (i := 179) rfl rfl
theorem zw_4_181 : Cond.laysFinal "MailSessionsModel" "MailSessionsModel" "flags" "[I" ∈ zTB := zt_4 (i := 181) rfl rfl
theorem zw_4_183 : Cond.laysFinal "MailSessionsModel" "MailSessionsModel" "lengths" "[I" ∈ zTB := zt_4 (i := 183) rfl rfl
theorem zw_4_185 : Cond.laysFinal "MailSessionsModel" "MailSessionsModel" "texts" "[I" ∈ zTB := zt_4 (i := 185) rfl rfl
theorem zw_4_187 : Cond.lays "MailSessionsModel" "MailSessionsModel" "created" "I" ∈ zTB := zt_4 (i := 187) rfl rfl
theorem zw_4_189 : Cond.laysFinal "MailSessionsModel" "MailSessionsModel" "connected" "[Z" ∈ zTB := zt_4 (i := 189) rfl rfl
theorem zw_4_191 : Cond.laysFinal "MailSessionsModel" "MailSessionsModel" "selected" "[I" ∈ zTB := zt_4 (i := 191) rfl rfl
theorem zw_4_193 : Cond.laysFinal "MailSessionsModel" "MailSessionsModel" "writes" "[Z" ∈ zTB := zt_4 (i := 193) rfl rfl
theorem zw_4_195 : Cond.laysFinal "MailSessionsModel" "MailSessionsModel" "places" "[I" ∈ zTB := zt_4 (i := 195) rfl rfl
theorem zw_4_197 : Cond.laysFinal "MailSessionsModel" "MailSessionsModel" "viewed" "[I" ∈ zTB := zt_4 (i := 197) rfl rfl
theorem zw_4_199 : Cond.laysFinal "MailSessionsModel" "MailSessionsModel" "told" "[I" ∈ zTB := zt_4 (i := 199) rfl rfl
theorem zw_4_201 : Cond.laysFinal "MailSessionsModel" "MailSessionsModel" "lines" "[I" ∈ zTB := zt_4 (i := 201) rfl rfl
theorem zw_4_203 : Cond.laysFinal "MailSessionsModel" "MailSessionsModel" "lineLength" "[I" ∈ zTB := zt_4 (i := 203) rfl rfl
theorem zw_4_205 : Cond.laysFinal "MailSessionsModel" "MailSessionsModel" "replies" "[I" ∈ zTB := zt_4 (i := 205) rfl rfl
theorem zw_4_207 : Cond.laysFinal "MailSessionsModel" "MailSessionsModel" "replyLength" "[I" ∈ zTB := zt_4 (i := 207) rfl rfl
theorem zw_4_209 : Cond.lays "MailSessionsModel" "MailSessionsModel" "s" "I" ∈ zTB := zt_4 (i := 209) rfl rfl
theorem zw_4_211 : Cond.lays "MailSessionsModel" "MailSessionsModel" "at" "I" ∈ zTB := zt_4 (i := 211) rfl rfl
theorem zw_4_213 : Cond.lays "MailSessionsModel" "MailSessionsModel" "bad" "Z" ∈ zTB := zt_4 (i := 213) rfl rfl
theorem zw_4_215 : Cond.lays "MailSessionsModel" "MailSessionsModel" "wrong" "Z" ∈ zTB := zt_4 (i := 215) rfl rfl
theorem zw_4_217 : Cond.lays "MailSessionsModel" "MailSessionsModel" "tags" "I" ∈ zTB := zt_4 (i := 217) rfl rfl
theorem zw_4_219 : Cond.lays "MailSessionsModel" "MailSessionsModel" "uid" "Z" ∈ zTB := zt_4 (i := 219) rfl rfl
theorem zw_4_221 : Cond.lays "MailSessionsModel" "MailSessionsModel" "box" "I" ∈ zTB := zt_4 (i := 221) rfl rfl
theorem zw_4_223 : Cond.lays "MailSessionsModel" "MailSessionsModel" "setAt" "I" ∈ zTB := zt_4 (i := 223) rfl rfl
theorem zw_4_225 : Cond.lays "MailSessionsModel" "MailSessionsModel" "setEnd" "I" ∈ zTB := zt_4 (i := 225) rfl rfl
theorem zw_4_227 : Cond.lays "MailSessionsModel" "MailSessionsModel" "mask" "I" ∈ zTB := zt_4 (i := 227) rfl rfl
theorem zw_4_229 : Cond.lays "MailSessionsModel" "MailSessionsModel" "sign" "I" ∈ zTB := zt_4 (i := 229) rfl rfl
theorem zw_4_231 : Cond.lays "MailSessionsModel" "MailSessionsModel" "textAt" "I" ∈ zTB := zt_4 (i := 231) rfl rfl
theorem zw_4_233 : Cond.lays "MailSessionsModel" "MailSessionsModel" "textLength" "I" ∈ zTB := zt_4 (i := 233) rfl rfl
theorem zw_4_235 : Cond.lays "MailSessionsModel" "MailSessionsModel" "what" "J" ∈ zTB := zt_4 (i := 235) rfl rfl
theorem zw_4_237 : Cond.lays "MailSessionsModel" "MailSessionsModel" "searchAt" "I" ∈ zTB := zt_4 (i := 237) rfl rfl
theorem zw_4_239 : Cond.lays "MailSessionsModel" "MailSessionsModel" "top" "I" ∈ zTB := zt_4 (i := 239) rfl rfl
theorem zw_5_1 : Cond.laysFinal "MailSessionsModel" "MailSessionsModel" "kinds" "[I" ∈ zTB := zt_5 (i := 1) rfl rfl
theorem zw_5_3 : Cond.laysFinal "MailSessionsModel" "MailSessionsModel" "done" "[I" ∈ zTB := zt_5 (i := 3) rfl rfl
theorem zw_5_5 : Cond.laysFinal "MailSessionsModel" "MailSessionsModel" "holds" "[Z" ∈ zTB := zt_5 (i := 5) rfl rfl
theorem zw_1_171 : Cond.classLink "MailSessionsLaw" 13 "java/lang/IndexOutOfBoundsException" ∈ zTB := zt_1 (i := 171) rfl rfl
theorem zw_1_172 : Cond.classLink "MailSessionsLaw" 15 "java/lang/IllegalStateException" ∈ zTB := zt_1 (i := 172) rfl rfl
theorem zw_1_173 : Cond.classLink "MailSessionsLaw" 17 "java/lang/IllegalArgumentException" ∈ zTB := zt_1 (i := 173) rfl rfl
theorem zw_4_103 : Cond.classLink "MailSessionsLaw" 38 "java/util/NoSuchElementException" ∈ zTB := zt_4 (i := 103) rfl rfl
def mi_0 : zMI := (yJ13_bitCount_95d88, cJ13_bitCount_95d88, 2, some .int, [])
def mi_1 : zMI := (yJ0_init_905df, cJ0_init_905df, 2, none, [])
def mi_2 : zMI := (yJ0_init_bb550, cJ0_init_bb550, 6, none, [])
def mi_3 : zMI := (yJ0_length_8abf5, cJ0_length_8abf5, 1, some .int, [])
def mi_4 : zMI := (yJ0_charAt_5068e, cJ0_charAt_5068e, 2, some .char, [])
def mi_5 : zMI := (yJ0_indexOf_0f7a4, cJ0_indexOf_0f7a4, 2, some .int, [])
def mi_6 : zMI := (yJ0_indexOf_7cf53, cJ0_indexOf_7cf53, 3, some .int, [])
def mi_7 : zMI := (yJ0_coder_7d493, cJ0_coder_7d493, 1, some .byte, [])
def mi_8 : zMI := (yJ0_isLatin1_aae02, cJ0_isLatin1_aae02, 1, some .boolean, [])
def mi_9 : zMI := (yJ0_checkIndex_df160, cJ0_checkIndex_df160, 2, none, [])
def mi_10 : zMI := (yJ1_charAt_3b067, cJ1_charAt_3b067, 2, some .char, [])
def mi_11 : zMI := (yJ1_canEncode_9a6ad, cJ1_canEncode_9a6ad, 1, some .boolean, [])
def mi_12 : zMI := (yJ1_indexOf_4cfef, cJ1_indexOf_4cfef, 4, some .int, [])
def mi_13 : zMI := (yJ1_indexOfChar_4cfef, cJ1_indexOfChar_4cfef, 6, some .int, [])
def mi_14 : zMI := (yJ2_compress_dfd3c, cJ2_compress_dfd3c, 6, some (.array .byte), [])
def mi_15 : zMI := (yJ2_compress_fe38e, cJ2_compress_fe38e, 7, some .int, [])
def mi_16 : zMI := (yJ2_coderFromArrayLen_85cad, cJ2_coderFromArrayLen_85cad, 2, some .byte, [])
def mi_17 : zMI := (yJ3_checkIndex_8e157, cJ3_checkIndex_8e157, 3, some .int, [])
def mi_18 : zMI := (yX1_init, cX1_init, 1, none, [])
def mi_19 : zMI := (yX2_init, cX2_init, 1, none, [])
def mi_20 : zMI := (yX2_create, cX2_create, 2, none, [])
def mi_21 : zMI := (yX2_add, cX2_add, 3, none, [])
def mi_22 : zMI := (yX2_expunge, cX2_expunge, 4, none, [])
def mi_23 : zMI := (yX3_init, cX3_init, 4, none, [])
def mi_24 : zMI := (yX4_init, cX4_init, 4, none, [])
def mi_25 : zMI := (yX4_readCommand, cX4_readCommand, 2, some (.object "MailSessions$Command"), [])
def mi_26 : zMI := (yX4_readVerb, cX4_readVerb, 2, some (.object "MailSessions$Verb"), [])
def mi_27 : zMI := (yX4_readRest, cX4_readRest, 2, none, [])
def mi_28 : zMI := (yX4_readMailbox, cX4_readMailbox, 2, some .int, [])
def mi_29 : zMI := (yX4_readChange, cX4_readChange, 1, some .int, [])
def mi_30 : zMI := (yX4_readItem, cX4_readItem, 1, some .int, [])
def mi_31 : zMI := (yX4_readFlags, cX4_readFlags, 3, some .int, [])
def mi_32 : zMI := (yX4_readFlag, cX4_readFlag, 2, some .int, [])
def mi_33 : zMI := (yX4_readLetters, cX4_readLetters, 6, some (.object "java/lang/String"), [])
def mi_34 : zMI := (yX4_isLetter, cX4_isLetter, 4, some .boolean, [])
def mi_35 : zMI := (yX4_readSearch, cX4_readSearch, 5, some .long, [])
def mi_36 : zMI := (yX4_readKey, cX4_readKey, 4, some .long, [])
def mi_37 : zMI := (yX4_readSet, cX4_readSet, 8, some .long, [])
def mi_38 : zMI := (yX4_readPoint, cX4_readPoint, 5, some .int, [])
def mi_39 : zMI := (yX4_sign, cX4_sign, 1, some .char, [])
def mi_40 : zMI := (yX4_takeSign, cX4_takeSign, 2, some .boolean, [])
def mi_41 : zMI := (yX4_need, cX4_need, 2, none, [])
def mi_42 : zMI := (yX4_takeWord, cX4_takeWord, 3, some .boolean, [])
def mi_43 : zMI := (yX5_init, cX5_init, 1, none, [])
def mi_44 : zMI := (yX5_putSign, cX5_putSign, 2, none, [])
def mi_45 : zMI := (yX5_putText, cX5_putText, 3, none, [])
def mi_46 : zMI := (yX5_putNumber, cX5_putNumber, 3, none, [])
def mi_47 : zMI := (yX5_startLine, cX5_startLine, 3, none, [])
def mi_48 : zMI := (yX5_putLine, cX5_putLine, 3, none, [])
def mi_49 : zMI := (yX5_putFlags, cX5_putFlags, 3, none, [])
def mi_50 : zMI := (yX6_init, cX6_init, 1, none, [])
def mi_51 : zMI := (yX6_select, cX6_select, 3, none, [])
def mi_52 : zMI := (yX6_unselect, cX6_unselect, 1, none, [])
def mi_53 : zMI := (yX6_expunge, cX6_expunge, 1, none, [])
def mi_54 : zMI := (yX6_store, cX6_store, 4, none, [])
def mi_55 : zMI := (yX6_fetch, cX6_fetch, 4, none, [])
def mi_56 : zMI := (yX6_copy, cX6_copy, 5, none, [])
def mi_57 : zMI := (yX6_search, cX6_search, 3, none, [])
def mi_58 : zMI := (yX6_tellChanges, cX6_tellChanges, 3, none, [])
def mi_59 : zMI := (yX6_tellGone, cX6_tellGone, 3, none, [])
def mi_60 : zMI := (yX6_tellFlags, cX6_tellFlags, 2, none, [])
def mi_61 : zMI := (yX8_init, cX8_init, 1, none, [])
def mi_62 : zMI := (yX8_empty, cX8_empty, 1, none, [])
def mi_63 : zMI := (yX8_takeNew, cX8_takeNew, 5, some .boolean, [])
def mi_64 : zMI := (yX8_last, cX8_last, 2, some .int, [])
def mi_65 : zMI := (yX8_present, cX8_present, 1, some .long, [])
def mi_66 : zMI := (yX8_between, cX8_between, 8, some .long, [])
def mi_67 : zMI := (yX8_withFlag, cX8_withFlag, 5, some .long, [])
def mi_68 : zMI := (yX8_withText, cX8_withText, 5, some .long, [])
def mi_69 : zMI := (yX8_contains, cX8_contains, 4, some .boolean, [])
def mi_70 : zMI := (yX9_init, cX9_init, 2, none, [])
def mi_71 : zMI := (yX9_type, cX9_type, 6, some .boolean, [])
def mi_72 : zMI := (yX9_enter, cX9_enter, 6, some .int, [])
def mi_73 : zMI := (yX9_connect, cX9_connect, 3, none, [])
def mi_74 : zMI := (yX9_replied, cX9_replied, 2, some .int, [])
def mi_75 : zMI := (yX9_reply, cX9_reply, 4, some .char, [])
def mi_76 : zMI := (yX9_view, cX9_view, 2, some .int, [])
def mi_77 : zMI := (yX9_messages, cX9_messages, 2, some .int, [])
def mi_78 : zMI := (yX9_message, cX9_message, 5, some .int, [])
def mi_79 : zMI := (yX9_anySession, cX9_anySession, 2, some (.object "MailSessions$Session"), [])
def mi_80 : zMI := (yX9_connectedSession, cX9_connectedSession, 3, some (.object "MailSessions$Session"), [])
def mi_81 : zMI := (yX9_isThere, cX9_isThere, 2, some .boolean, [])
def mi_82 : zMI := (yX9_byteOf, cX9_byteOf, 2, some .int, [])
def mi_83 : zMI := (yX9_isRefused, cX9_isRefused, 5, some .boolean, [])
def mi_84 : zMI := (yX9_isSelected, cX9_isSelected, 3, some .boolean, [])
def mi_85 : zMI := (yX9_perform, cX9_perform, 4, none, [])
def mi_86 : zMI := (yX10_init, cX10_init, 2, none, [])
def mi_87 : zMI := (yX10_thrown, cX10_thrown, 1, some .int, [])
def mi_88 : zMI := (yX10_isSession, cX10_isSession, 1, some .boolean, [])
def mi_89 : zMI := (yX10_letter, cX10_letter, 1, some .long, [])
def mi_90 : zMI := (yX10_word, cX10_word, 9, some .long, [])
def mi_91 : zMI := (yX10_look, cX10_look, 2, some .int, [])
def mi_92 : zMI := (yX10_isDigit, cX10_isDigit, 1, some .boolean, [])
def mi_93 : zMI := (yX10_isSmall, cX10_isSmall, 1, some .boolean, [])
def mi_94 : zMI := (yX10_isLarge, cX10_isLarge, 1, some .boolean, [])
def mi_95 : zMI := (yX10_readWord, cX10_readWord, 5, some .long, [])
def mi_96 : zMI := (yX10_need, cX10_need, 2, none, [])
def mi_97 : zMI := (yX10_readBox, cX10_readBox, 2, none, [])
def mi_98 : zMI := (yX10_bitOf, cX10_bitOf, 1, some .int, [])
def mi_99 : zMI := (yX10_readFlags, cX10_readFlags, 1, none, [])
def mi_100 : zMI := (yX10_readText, cX10_readText, 1, none, [])
def mi_101 : zMI := (yX10_readPoint, cX10_readPoint, 2, none, [])
def mi_102 : zMI := (yX10_readSet, cX10_readSet, 2, none, [])
def mi_103 : zMI := (yX10_valueAt, cX10_valueAt, 5, some .int, [])
def mi_104 : zMI := (yX10_behindPoint, cX10_behindPoint, 3, some .int, [])
def mi_105 : zMI := (yX10_covers, cX10_covers, 9, some .boolean, [])
def mi_106 : zMI := (yX10_isWrong, cX10_isWrong, 6, some .boolean, [])
def mi_107 : zMI := (yX10_greatest, cX10_greatest, 1, some .int, [])
def mi_108 : zMI := (yX10_inSet, cX10_inSet, 5, some .boolean, [])
def mi_109 : zMI := (yX10_messageAt, cX10_messageAt, 4, some .int, [])
def mi_110 : zMI := (yX10_within, cX10_within, 6, some .boolean, [])
def mi_111 : zMI := (yX10_leaf, cX10_leaf, 5, some .boolean, [])
def mi_112 : zMI := (yX10_push, cX10_push, 2, none, [])
def mi_113 : zMI := (yX10_descend, cX10_descend, 5, none, [])
def mi_114 : zMI := (yX10_rise, cX10_rise, 4, some .boolean, [])
def mi_115 : zMI := (yX10_search, cX10_search, 4, some .boolean, [])
def mi_116 : zMI := (yX10_commandOf, cX10_commandOf, 3, some .int, [])
def mi_117 : zMI := (yX10_readRest, cX10_readRest, 2, none, [])
def mi_118 : zMI := (yX10_read, cX10_read, 4, some .int, [])
def mi_119 : zMI := (yX10_say, cX10_say, 2, none, [])
def mi_120 : zMI := (yX10_sayNumber, cX10_sayNumber, 2, none, [])
def mi_121 : zMI := (yX10_sayLetters, cX10_sayLetters, 5, none, [])
def mi_122 : zMI := (yX10_sayFlags, cX10_sayFlags, 2, none, [])
def mi_123 : zMI := (yX10_sayCount, cX10_sayCount, 4, none, [])
def mi_124 : zMI := (yX10_sayFetched, cX10_sayFetched, 3, none, [])
def mi_125 : zMI := (yX10_close, cX10_close, 4, none, [])
def mi_126 : zMI := (yX10_isSelected, cX10_isSelected, 4, some .boolean, [])
def mi_127 : zMI := (yX10_meant, cX10_meant, 2, some .boolean, [])
def mi_128 : zMI := (yX10_meantPlaces, cX10_meantPlaces, 3, some .int, [])
def mi_129 : zMI := (yX10_refused, cX10_refused, 4, some .boolean, [])
def mi_130 : zMI := (yX10_bring, cX10_bring, 4, some .int, [])
def mi_131 : zMI := (yX10_clean, cX10_clean, 7, none, [])
def mi_132 : zMI := (yX10_select, cX10_select, 3, none, [])
def mi_133 : zMI := (yX10_store, cX10_store, 3, none, [])
def mi_134 : zMI := (yX10_fetch, cX10_fetch, 4, none, [])
def mi_135 : zMI := (yX10_copyTo, cX10_copyTo, 5, none, [])
def mi_136 : zMI := (yX10_append, cX10_append, 3, none, [])
def mi_137 : zMI := (yX10_find, cX10_find, 2, none, [])
def mi_138 : zMI := (yX10_overSet, cX10_overSet, 4, none, [])
def mi_139 : zMI := (yX10_create, cX10_create, 1, none, [])
def mi_140 : zMI := (yX10_leave, cX10_leave, 1, none, [])
def mi_141 : zMI := (yX10_perform, cX10_perform, 2, none, [])
def mi_142 : zMI := (yX10_dropGone, cX10_dropGone, 3, none, [])
def mi_143 : zMI := (yX10_isViewed, cX10_isViewed, 4, some .boolean, [])
def mi_144 : zMI := (yX10_tell, cX10_tell, 7, none, [])
def mi_145 : zMI := (yX10_type, cX10_type, 7, some .boolean, [])
def mi_146 : zMI := (yX10_enter, cX10_enter, 5, some .int, [])
def mi_147 : zMI := (yX10_connect, cX10_connect, 2, none, [])
def mi_148 : zMI := (yX10_replied, cX10_replied, 2, some .int, [])
def mi_149 : zMI := (yX10_reply, cX10_reply, 3, some .char, [])
def mi_150 : zMI := (yX10_view, cX10_view, 2, some .int, [])
def mi_151 : zMI := (yX10_isBox, cX10_isBox, 2, some .boolean, [])
def mi_152 : zMI := (yX10_messages, cX10_messages, 2, some .int, [])
def mi_153 : zMI := (yX10_message, cX10_message, 5, some .int, [])
def mi_154 : zMI := (yL_type, cL_type, 5, some .int, [(0, 17, 20, 13), (0, 17, 24, 15), (0, 17, 28, 17)])
def mi_155 : zMI := (yL_enter, cL_enter, 4, some .int, [(0, 9, 12, 13), (0, 9, 15, 15), (0, 9, 18, 17)])
def mi_156 : zMI := (yL_connect, cL_connect, 3, some .int, [(0, 5, 8, 13), (0, 5, 11, 15)])
def mi_157 : zMI := (yL_replied, cL_replied, 4, some .int, [(0, 9, 12, 13)])
def mi_158 : zMI := (yL_reply, cL_reply, 5, some .int, [(0, 10, 13, 13)])
def mi_159 : zMI := (yL_message, cL_message, 6, some .int, [(0, 12, 15, 38)])
def mi_160 : zMI := (yL_law, code, 7, some .boolean, [])
def zMl : List zMI := [mi_0, mi_1, mi_2, mi_3, mi_4, mi_5, mi_6, mi_7, mi_8, mi_9, mi_10, mi_11, mi_12, mi_13, mi_14, mi_15, mi_16, mi_17, mi_18, mi_19, mi_20, mi_21, mi_22, mi_23, mi_24, mi_25, mi_26, mi_27, mi_28, mi_29, mi_30, mi_31, mi_32, mi_33, mi_34, mi_35, mi_36, mi_37, mi_38, mi_39, mi_40, mi_41, mi_42, mi_43, mi_44, mi_45, mi_46, mi_47, mi_48, mi_49, mi_50, mi_51, mi_52, mi_53, mi_54, mi_55, mi_56, mi_57, mi_58, mi_59, mi_60, mi_61, mi_62, mi_63, mi_64, mi_65, mi_66, mi_67, mi_68, mi_69, mi_70, mi_71, mi_72, mi_73, mi_74, mi_75, mi_76, mi_77, mi_78, mi_79, mi_80, mi_81, mi_82, mi_83, mi_84, mi_85, mi_86, mi_87, mi_88, mi_89, mi_90, mi_91, mi_92, mi_93, mi_94, mi_95, mi_96, mi_97, mi_98, mi_99, mi_100, mi_101, mi_102, mi_103, mi_104, mi_105, mi_106, mi_107, mi_108, mi_109, mi_110, mi_111, mi_112, mi_113, mi_114, mi_115, mi_116, mi_117, mi_118, mi_119, mi_120, mi_121, mi_122, mi_123, mi_124, mi_125, mi_126, mi_127, mi_128, mi_129, mi_130, mi_131, mi_132, mi_133, mi_134, mi_135, mi_136, mi_137, mi_138, mi_139, mi_140, mi_141, mi_142, mi_143, mi_144, mi_145, mi_146, mi_147, mi_148, mi_149, mi_150, mi_151, mi_152, mi_153, mi_154, mi_155, mi_156, mi_157, mi_158, mi_159, mi_160]
def zM (y : Nat) : zMI := zMl.getD y mi_0
theorem zok_0 : zMok mi_0 := ⟨zw_3_182, zw_1_22, ⟨by decide +kernel, by decide +kernel⟩, by decide, by decide +kernel⟩
theorem zok_1 : zMok mi_1 := ⟨zw_2_141, zw_1_15, ⟨by decide +kernel, by decide +kernel⟩, by decide, by decide +kernel⟩
theorem zni_1 : zini mi_1 = true := by decide +kernel
theorem zok_2 : zMok mi_2 := ⟨zw_2_144, zw_1_15, ⟨by decide +kernel, by decide +kernel⟩, by decide, by decide +kernel⟩
theorem zni_2 : zini mi_2 = true := by decide +kernel
theorem zok_3 : zMok mi_3 := ⟨zw_2_226, zw_1_15, ⟨by decide +kernel, by decide +kernel⟩, by decide, by decide +kernel⟩
theorem zok_4 : zMok mi_4 := ⟨zw_2_234, zw_1_15, ⟨by decide +kernel, by decide +kernel⟩, by decide, by decide +kernel⟩
theorem zok_5 : zMok mi_5 := ⟨zw_3_53, zw_1_15, ⟨by decide +kernel, by decide +kernel⟩, by decide, by decide +kernel⟩
theorem zok_6 : zMok mi_6 := ⟨zw_3_57, zw_1_15, ⟨by decide +kernel, by decide +kernel⟩, by decide, by decide +kernel⟩
theorem zok_7 : zMok mi_7 := ⟨zw_2_230, zw_1_15, ⟨by decide +kernel, by decide +kernel⟩, by decide, by decide +kernel⟩
theorem zok_8 : zMok mi_8 := ⟨zw_2_238, zw_1_15, ⟨by decide +kernel, by decide +kernel⟩, by decide, by decide +kernel⟩
theorem zok_9 : zMok mi_9 := ⟨zw_3_4, zw_1_15, ⟨by decide +kernel, by decide +kernel⟩, by decide, by decide +kernel⟩
theorem zok_10 : zMok mi_10 := ⟨zw_3_1, zw_1_18, ⟨by decide +kernel, by decide +kernel⟩, by decide, by decide +kernel⟩
theorem zok_11 : zMok mi_11 := ⟨zw_3_64, zw_1_18, ⟨by decide +kernel, by decide +kernel⟩, by decide, by decide +kernel⟩
theorem zok_12 : zMok mi_12 := ⟨zw_3_61, zw_1_18, ⟨by decide +kernel, by decide +kernel⟩, by decide, by decide +kernel⟩
theorem zok_13 : zMok mi_13 := ⟨zw_3_73, zw_1_18, ⟨by decide +kernel, by decide +kernel⟩, by decide, by decide +kernel⟩
theorem zok_14 : zMok mi_14 := ⟨zw_2_151, zw_1_16, ⟨by decide +kernel, by decide +kernel⟩, by decide, by decide +kernel⟩
theorem zok_15 : zMok mi_15 := ⟨zw_2_154, zw_1_16, ⟨by decide +kernel, by decide +kernel⟩, by decide, by decide +kernel⟩
theorem zok_16 : zMok mi_16 := ⟨zw_2_196, zw_1_16, ⟨by decide +kernel, by decide +kernel⟩, by decide, by decide +kernel⟩
theorem zok_17 : zMok mi_17 := ⟨zw_3_7, zw_1_17, ⟨by decide +kernel, by decide +kernel⟩, by decide, by decide +kernel⟩
theorem zok_18 : zMok mi_18 := ⟨zw_2_83, zw_1_14, ⟨by decide +kernel, by decide +kernel⟩, by decide, by decide +kernel⟩
theorem zni_18 : zini mi_18 = true := by decide +kernel
theorem zok_19 : zMok mi_19 := ⟨zw_1_38, zw_1_2, ⟨by decide +kernel, by decide +kernel⟩, by decide, by decide +kernel⟩
theorem zni_19 : zini mi_19 = true := by decide +kernel
theorem zok_20 : zMok mi_20 := ⟨zw_1_145, zw_1_2, ⟨by decide +kernel, by decide +kernel⟩, by decide, by decide +kernel⟩
theorem zok_21 : zMok mi_21 := ⟨zw_3_193, zw_1_2, ⟨by decide +kernel, by decide +kernel⟩, by decide, by decide +kernel⟩
theorem zok_22 : zMok mi_22 := ⟨zw_4_30, zw_1_2, ⟨by decide +kernel, by decide +kernel⟩, by decide, by decide +kernel⟩
theorem zok_23 : zMok mi_23 := ⟨zw_3_197, zw_1_23, ⟨by decide +kernel, by decide +kernel⟩, by decide, by decide +kernel⟩
theorem zni_23 : zini mi_23 = true := by decide +kernel
theorem zok_24 : zMok mi_24 := ⟨zw_2_54, zw_1_13, ⟨by decide +kernel, by decide +kernel⟩, by decide, by decide +kernel⟩
theorem zni_24 : zini mi_24 = true := by decide +kernel
theorem zok_25 : zMok mi_25 := ⟨zw_2_78, zw_1_13, ⟨by decide +kernel, by decide +kernel⟩, by decide, by decide +kernel⟩
theorem zok_26 : zMok mi_26 := ⟨zw_3_18, zw_1_13, ⟨by decide +kernel, by decide +kernel⟩, by decide, by decide +kernel⟩
theorem zok_27 : zMok mi_27 := ⟨zw_3_24, zw_1_13, ⟨by decide +kernel, by decide +kernel⟩, by decide, by decide +kernel⟩
theorem zok_28 : zMok mi_28 := ⟨zw_3_36, zw_1_13, ⟨by decide +kernel, by decide +kernel⟩, by decide, by decide +kernel⟩
theorem zok_29 : zMok mi_29 := ⟨zw_3_130, zw_1_13, ⟨by decide +kernel, by decide +kernel⟩, by decide, by decide +kernel⟩
theorem zok_30 : zMok mi_30 := ⟨zw_3_134, zw_1_13, ⟨by decide +kernel, by decide +kernel⟩, by decide, by decide +kernel⟩
theorem zok_31 : zMok mi_31 := ⟨zw_3_44, zw_1_13, ⟨by decide +kernel, by decide +kernel⟩, by decide, by decide +kernel⟩
theorem zok_32 : zMok mi_32 := ⟨zw_3_48, zw_1_13, ⟨by decide +kernel, by decide +kernel⟩, by decide, by decide +kernel⟩
theorem zok_33 : zMok mi_33 := ⟨zw_2_132, zw_1_13, ⟨by decide +kernel, by decide +kernel⟩, by decide, by decide +kernel⟩
theorem zok_34 : zMok mi_34 := ⟨zw_2_136, zw_1_13, ⟨by decide +kernel, by decide +kernel⟩, by decide, by decide +kernel⟩
theorem zok_35 : zMok mi_35 := ⟨zw_3_141, zw_1_13, ⟨by decide +kernel, by decide +kernel⟩, by decide, by decide +kernel⟩
theorem zok_36 : zMok mi_36 := ⟨zw_3_145, zw_1_13, ⟨by decide +kernel, by decide +kernel⟩, by decide, by decide +kernel⟩
theorem zok_37 : zMok mi_37 := ⟨zw_3_112, zw_1_13, ⟨by decide +kernel, by decide +kernel⟩, by decide, by decide +kernel⟩
theorem zok_38 : zMok mi_38 := ⟨zw_3_116, zw_1_13, ⟨by decide +kernel, by decide +kernel⟩, by decide, by decide +kernel⟩
theorem zok_39 : zMok mi_39 := ⟨zw_3_40, zw_1_13, ⟨by decide +kernel, by decide +kernel⟩, by decide, by decide +kernel⟩
theorem zok_40 : zMok mi_40 := ⟨zw_2_217, zw_1_13, ⟨by decide +kernel, by decide +kernel⟩, by decide, by decide +kernel⟩
theorem zok_41 : zMok mi_41 := ⟨zw_2_213, zw_1_13, ⟨by decide +kernel, by decide +kernel⟩, by decide, by decide +kernel⟩
theorem zok_42 : zMok mi_42 := ⟨zw_2_222, zw_1_13, ⟨by decide +kernel, by decide +kernel⟩, by decide, by decide +kernel⟩
theorem zok_43 : zMok mi_43 := ⟨zw_1_77, zw_1_4, ⟨by decide +kernel, by decide +kernel⟩, by decide, by decide +kernel⟩
theorem zni_43 : zini mi_43 = true := by decide +kernel
theorem zok_44 : zMok mi_44 := ⟨zw_4_15, zw_1_4, ⟨by decide +kernel, by decide +kernel⟩, by decide, by decide +kernel⟩
theorem zok_45 : zMok mi_45 := ⟨zw_4_9, zw_1_4, ⟨by decide +kernel, by decide +kernel⟩, by decide, by decide +kernel⟩
theorem zok_46 : zMok mi_46 := ⟨zw_4_19, zw_1_4, ⟨by decide +kernel, by decide +kernel⟩, by decide, by decide +kernel⟩
theorem zok_47 : zMok mi_47 := ⟨zw_4_4, zw_1_4, ⟨by decide +kernel, by decide +kernel⟩, by decide, by decide +kernel⟩
theorem zok_48 : zMok mi_48 := ⟨zw_4_0, zw_1_4, ⟨by decide +kernel, by decide +kernel⟩, by decide, by decide +kernel⟩
theorem zok_49 : zMok mi_49 := ⟨zw_4_48, zw_1_4, ⟨by decide +kernel, by decide +kernel⟩, by decide, by decide +kernel⟩
theorem zok_50 : zMok mi_50 := ⟨zw_1_71, zw_1_3, ⟨by decide +kernel, by decide +kernel⟩, by decide, by decide +kernel⟩
theorem zni_50 : zini mi_50 = true := by decide +kernel
theorem zok_51 : zMok mi_51 := ⟨zw_3_227, zw_1_3, ⟨by decide +kernel, by decide +kernel⟩, by decide, by decide +kernel⟩
theorem zok_52 : zMok mi_52 := ⟨zw_4_34, zw_1_3, ⟨by decide +kernel, by decide +kernel⟩, by decide, by decide +kernel⟩
theorem zok_53 : zMok mi_53 := ⟨zw_4_26, zw_1_3, ⟨by decide +kernel, by decide +kernel⟩, by decide, by decide +kernel⟩
theorem zok_54 : zMok mi_54 := ⟨zw_4_38, zw_1_3, ⟨by decide +kernel, by decide +kernel⟩, by decide, by decide +kernel⟩
theorem zok_55 : zMok mi_55 := ⟨zw_4_54, zw_1_3, ⟨by decide +kernel, by decide +kernel⟩, by decide, by decide +kernel⟩
theorem zok_56 : zMok mi_56 := ⟨zw_4_60, zw_1_3, ⟨by decide +kernel, by decide +kernel⟩, by decide, by decide +kernel⟩
theorem zok_57 : zMok mi_57 := ⟨zw_4_65, zw_1_3, ⟨by decide +kernel, by decide +kernel⟩, by decide, by decide +kernel⟩
theorem zok_58 : zMok mi_58 := ⟨zw_4_70, zw_1_3, ⟨by decide +kernel, by decide +kernel⟩, by decide, by decide +kernel⟩
theorem zok_59 : zMok mi_59 := ⟨zw_4_74, zw_1_3, ⟨by decide +kernel, by decide +kernel⟩, by decide, by decide +kernel⟩
theorem zok_60 : zMok mi_60 := ⟨zw_4_42, zw_1_3, ⟨by decide +kernel, by decide +kernel⟩, by decide, by decide +kernel⟩
theorem zok_61 : zMok mi_61 := ⟨zw_1_93, zw_1_5, ⟨by decide +kernel, by decide +kernel⟩, by decide, by decide +kernel⟩
theorem zni_61 : zini mi_61 = true := by decide +kernel
theorem zok_62 : zMok mi_62 := ⟨zw_3_231, zw_1_5, ⟨by decide +kernel, by decide +kernel⟩, by decide, by decide +kernel⟩
theorem zok_63 : zMok mi_63 := ⟨zw_3_235, zw_1_5, ⟨by decide +kernel, by decide +kernel⟩, by decide, by decide +kernel⟩
theorem zok_64 : zMok mi_64 := ⟨zw_3_120, zw_1_5, ⟨by decide +kernel, by decide +kernel⟩, by decide, by decide +kernel⟩
theorem zok_65 : zMok mi_65 := ⟨zw_3_150, zw_1_5, ⟨by decide +kernel, by decide +kernel⟩, by decide, by decide +kernel⟩
theorem zok_66 : zMok mi_66 := ⟨zw_3_126, zw_1_5, ⟨by decide +kernel, by decide +kernel⟩, by decide, by decide +kernel⟩
theorem zok_67 : zMok mi_67 := ⟨zw_3_156, zw_1_5, ⟨by decide +kernel, by decide +kernel⟩, by decide, by decide +kernel⟩
theorem zok_68 : zMok mi_68 := ⟨zw_3_161, zw_1_5, ⟨by decide +kernel, by decide +kernel⟩, by decide, by decide +kernel⟩
theorem zok_69 : zMok mi_69 := ⟨zw_3_164, zw_1_5, ⟨by decide +kernel, by decide +kernel⟩, by decide, by decide +kernel⟩
theorem zok_70 : zMok mi_70 := ⟨zw_1_29, zw_1_1, ⟨by decide +kernel, by decide +kernel⟩, by decide, by decide +kernel⟩
theorem zni_70 : zini mi_70 = true := by decide +kernel
theorem zok_71 : zMok mi_71 := ⟨zw_1_177, zw_1_1, ⟨by decide +kernel, by decide +kernel⟩, by decide, by decide +kernel⟩
theorem zok_72 : zMok mi_72 := ⟨zw_2_49, zw_1_1, ⟨by decide +kernel, by decide +kernel⟩, by decide, by decide +kernel⟩
theorem zok_73 : zMok mi_73 := ⟨zw_4_85, zw_1_1, ⟨by decide +kernel, by decide +kernel⟩, by decide, by decide +kernel⟩
theorem zok_74 : zMok mi_74 := ⟨zw_4_92, zw_1_1, ⟨by decide +kernel, by decide +kernel⟩, by decide, by decide +kernel⟩
theorem zok_75 : zMok mi_75 := ⟨zw_4_99, zw_1_1, ⟨by decide +kernel, by decide +kernel⟩, by decide, by decide +kernel⟩
theorem zok_76 : zMok mi_76 := ⟨zw_1_159, zw_1_1, ⟨by decide +kernel, by decide +kernel⟩, by decide, by decide +kernel⟩
theorem zok_77 : zMok mi_77 := ⟨zw_1_163, zw_1_1, ⟨by decide +kernel, by decide +kernel⟩, by decide, by decide +kernel⟩
theorem zok_78 : zMok mi_78 := ⟨zw_4_107, zw_1_1, ⟨by decide +kernel, by decide +kernel⟩, by decide, by decide +kernel⟩
theorem zok_79 : zMok mi_79 := ⟨zw_1_185, zw_1_1, ⟨by decide +kernel, by decide +kernel⟩, by decide, by decide +kernel⟩
theorem zok_80 : zMok mi_80 := ⟨zw_1_181, zw_1_1, ⟨by decide +kernel, by decide +kernel⟩, by decide, by decide +kernel⟩
theorem zok_81 : zMok mi_81 := ⟨zw_1_167, zw_1_1, ⟨by decide +kernel, by decide +kernel⟩, by decide, by decide +kernel⟩
theorem zok_82 : zMok mi_82 := ⟨zw_2_27, zw_1_1, ⟨by decide +kernel, by decide +kernel⟩, by decide, by decide +kernel⟩
theorem zok_83 : zMok mi_83 := ⟨zw_3_173, zw_1_1, ⟨by decide +kernel, by decide +kernel⟩, by decide, by decide +kernel⟩
theorem zok_84 : zMok mi_84 := ⟨zw_3_179, zw_1_1, ⟨by decide +kernel, by decide +kernel⟩, by decide, by decide +kernel⟩
theorem zok_85 : zMok mi_85 := ⟨zw_3_189, zw_1_1, ⟨by decide +kernel, by decide +kernel⟩, by decide, by decide +kernel⟩
theorem zok_86 : zMok mi_86 := ⟨zw_4_128, zw_1_6, ⟨by decide +kernel, by decide +kernel⟩, by decide, by decide +kernel⟩
theorem zni_86 : zini mi_86 = true := by decide +kernel
theorem zok_87 : zMok mi_87 := ⟨zw_5_12, zw_1_6, ⟨by decide +kernel, by decide +kernel⟩, by decide, by decide +kernel⟩
theorem zok_88 : zMok mi_88 := ⟨zw_5_19, zw_1_6, ⟨by decide +kernel, by decide +kernel⟩, by decide, by decide +kernel⟩
theorem zok_89 : zMok mi_89 := ⟨zw_5_52, zw_1_6, ⟨by decide +kernel, by decide +kernel⟩, by decide, by decide +kernel⟩
theorem zok_90 : zMok mi_90 := ⟨zw_5_57, zw_1_6, ⟨by decide +kernel, by decide +kernel⟩, by decide, by decide +kernel⟩
theorem zok_91 : zMok mi_91 := ⟨zw_5_31, zw_1_6, ⟨by decide +kernel, by decide +kernel⟩, by decide, by decide +kernel⟩
theorem zok_92 : zMok mi_92 := ⟨zw_5_37, zw_1_6, ⟨by decide +kernel, by decide +kernel⟩, by decide, by decide +kernel⟩
theorem zok_93 : zMok mi_93 := ⟨zw_5_34, zw_1_6, ⟨by decide +kernel, by decide +kernel⟩, by decide, by decide +kernel⟩
theorem zok_94 : zMok mi_94 := ⟨zw_5_48, zw_1_6, ⟨by decide +kernel, by decide +kernel⟩, by decide, by decide +kernel⟩
theorem zok_95 : zMok mi_95 := ⟨zw_5_45, zw_1_6, ⟨by decide +kernel, by decide +kernel⟩, by decide, by decide +kernel⟩
theorem zok_96 : zMok mi_96 := ⟨zw_5_41, zw_1_6, ⟨by decide +kernel, by decide +kernel⟩, by decide, by decide +kernel⟩
theorem zok_97 : zMok mi_97 := ⟨zw_5_140, zw_1_6, ⟨by decide +kernel, by decide +kernel⟩, by decide, by decide +kernel⟩
theorem zok_98 : zMok mi_98 := ⟨zw_5_116, zw_1_6, ⟨by decide +kernel, by decide +kernel⟩, by decide, by decide +kernel⟩
theorem zok_99 : zMok mi_99 := ⟨zw_5_136, zw_1_6, ⟨by decide +kernel, by decide +kernel⟩, by decide, by decide +kernel⟩
theorem zok_100 : zMok mi_100 := ⟨zw_5_124, zw_1_6, ⟨by decide +kernel, by decide +kernel⟩, by decide, by decide +kernel⟩
theorem zok_101 : zMok mi_101 := ⟨zw_5_89, zw_1_6, ⟨by decide +kernel, by decide +kernel⟩, by decide, by decide +kernel⟩
theorem zok_102 : zMok mi_102 := ⟨zw_5_85, zw_1_6, ⟨by decide +kernel, by decide +kernel⟩, by decide, by decide +kernel⟩
theorem zok_103 : zMok mi_103 := ⟨zw_5_97, zw_1_6, ⟨by decide +kernel, by decide +kernel⟩, by decide, by decide +kernel⟩
theorem zok_104 : zMok mi_104 := ⟨zw_5_101, zw_1_6, ⟨by decide +kernel, by decide +kernel⟩, by decide, by decide +kernel⟩
theorem zok_105 : zMok mi_105 := ⟨zw_5_113, zw_1_6, ⟨by decide +kernel, by decide +kernel⟩, by decide, by decide +kernel⟩
theorem zok_106 : zMok mi_106 := ⟨zw_5_93, zw_1_6, ⟨by decide +kernel, by decide +kernel⟩, by decide, by decide +kernel⟩
theorem zok_107 : zMok mi_107 := ⟨zw_5_109, zw_1_6, ⟨by decide +kernel, by decide +kernel⟩, by decide, by decide +kernel⟩
theorem zok_108 : zMok mi_108 := ⟨zw_5_105, zw_1_6, ⟨by decide +kernel, by decide +kernel⟩, by decide, by decide +kernel⟩
theorem zok_109 : zMok mi_109 := ⟨zw_5_120, zw_1_6, ⟨by decide +kernel, by decide +kernel⟩, by decide, by decide +kernel⟩
theorem zok_110 : zMok mi_110 := ⟨zw_5_128, zw_1_6, ⟨by decide +kernel, by decide +kernel⟩, by decide, by decide +kernel⟩
theorem zok_111 : zMok mi_111 := ⟨zw_5_81, zw_1_6, ⟨by decide +kernel, by decide +kernel⟩, by decide, by decide +kernel⟩
theorem zok_112 : zMok mi_112 := ⟨zw_5_73, zw_1_6, ⟨by decide +kernel, by decide +kernel⟩, by decide, by decide +kernel⟩
theorem zok_113 : zMok mi_113 := ⟨zw_5_77, zw_1_6, ⟨by decide +kernel, by decide +kernel⟩, by decide, by decide +kernel⟩
theorem zok_114 : zMok mi_114 := ⟨zw_5_132, zw_1_6, ⟨by decide +kernel, by decide +kernel⟩, by decide, by decide +kernel⟩
theorem zok_115 : zMok mi_115 := ⟨zw_5_69, zw_1_6, ⟨by decide +kernel, by decide +kernel⟩, by decide, by decide +kernel⟩
theorem zok_116 : zMok mi_116 := ⟨zw_5_61, zw_1_6, ⟨by decide +kernel, by decide +kernel⟩, by decide, by decide +kernel⟩
theorem zok_117 : zMok mi_117 := ⟨zw_5_65, zw_1_6, ⟨by decide +kernel, by decide +kernel⟩, by decide, by decide +kernel⟩
theorem zok_118 : zMok mi_118 := ⟨zw_5_27, zw_1_6, ⟨by decide +kernel, by decide +kernel⟩, by decide, by decide +kernel⟩
theorem zok_119 : zMok mi_119 := ⟨zw_5_184, zw_1_6, ⟨by decide +kernel, by decide +kernel⟩, by decide, by decide +kernel⟩
theorem zok_120 : zMok mi_120 := ⟨zw_5_188, zw_1_6, ⟨by decide +kernel, by decide +kernel⟩, by decide, by decide +kernel⟩
theorem zok_121 : zMok mi_121 := ⟨zw_5_192, zw_1_6, ⟨by decide +kernel, by decide +kernel⟩, by decide, by decide +kernel⟩
theorem zok_122 : zMok mi_122 := ⟨zw_5_220, zw_1_6, ⟨by decide +kernel, by decide +kernel⟩, by decide, by decide +kernel⟩
theorem zok_123 : zMok mi_123 := ⟨zw_5_180, zw_1_6, ⟨by decide +kernel, by decide +kernel⟩, by decide, by decide +kernel⟩
theorem zok_124 : zMok mi_124 := ⟨zw_5_216, zw_1_6, ⟨by decide +kernel, by decide +kernel⟩, by decide, by decide +kernel⟩
theorem zok_125 : zMok mi_125 := ⟨zw_6_4, zw_1_6, ⟨by decide +kernel, by decide +kernel⟩, by decide, by decide +kernel⟩
theorem zok_126 : zMok mi_126 := ⟨zw_5_148, zw_1_6, ⟨by decide +kernel, by decide +kernel⟩, by decide, by decide +kernel⟩
theorem zok_127 : zMok mi_127 := ⟨zw_5_156, zw_1_6, ⟨by decide +kernel, by decide +kernel⟩, by decide, by decide +kernel⟩
theorem zok_128 : zMok mi_128 := ⟨zw_5_152, zw_1_6, ⟨by decide +kernel, by decide +kernel⟩, by decide, by decide +kernel⟩
theorem zok_129 : zMok mi_129 := ⟨zw_5_144, zw_1_6, ⟨by decide +kernel, by decide +kernel⟩, by decide, by decide +kernel⟩
theorem zok_130 : zMok mi_130 := ⟨zw_5_172, zw_1_6, ⟨by decide +kernel, by decide +kernel⟩, by decide, by decide +kernel⟩
theorem zok_131 : zMok mi_131 := ⟨zw_5_196, zw_1_6, ⟨by decide +kernel, by decide +kernel⟩, by decide, by decide +kernel⟩
theorem zok_132 : zMok mi_132 := ⟨zw_5_176, zw_1_6, ⟨by decide +kernel, by decide +kernel⟩, by decide, by decide +kernel⟩
theorem zok_133 : zMok mi_133 := ⟨zw_5_212, zw_1_6, ⟨by decide +kernel, by decide +kernel⟩, by decide, by decide +kernel⟩
theorem zok_134 : zMok mi_134 := ⟨zw_5_224, zw_1_6, ⟨by decide +kernel, by decide +kernel⟩, by decide, by decide +kernel⟩
theorem zok_135 : zMok mi_135 := ⟨zw_5_228, zw_1_6, ⟨by decide +kernel, by decide +kernel⟩, by decide, by decide +kernel⟩
theorem zok_136 : zMok mi_136 := ⟨zw_5_168, zw_1_6, ⟨by decide +kernel, by decide +kernel⟩, by decide, by decide +kernel⟩
theorem zok_137 : zMok mi_137 := ⟨zw_5_204, zw_1_6, ⟨by decide +kernel, by decide +kernel⟩, by decide, by decide +kernel⟩
theorem zok_138 : zMok mi_138 := ⟨zw_5_208, zw_1_6, ⟨by decide +kernel, by decide +kernel⟩, by decide, by decide +kernel⟩
theorem zok_139 : zMok mi_139 := ⟨zw_5_164, zw_1_6, ⟨by decide +kernel, by decide +kernel⟩, by decide, by decide +kernel⟩
theorem zok_140 : zMok mi_140 := ⟨zw_5_200, zw_1_6, ⟨by decide +kernel, by decide +kernel⟩, by decide, by decide +kernel⟩
theorem zok_141 : zMok mi_141 := ⟨zw_5_160, zw_1_6, ⟨by decide +kernel, by decide +kernel⟩, by decide, by decide +kernel⟩
theorem zok_142 : zMok mi_142 := ⟨zw_5_236, zw_1_6, ⟨by decide +kernel, by decide +kernel⟩, by decide, by decide +kernel⟩
theorem zok_143 : zMok mi_143 := ⟨zw_6_0, zw_1_6, ⟨by decide +kernel, by decide +kernel⟩, by decide, by decide +kernel⟩
theorem zok_144 : zMok mi_144 := ⟨zw_5_232, zw_1_6, ⟨by decide +kernel, by decide +kernel⟩, by decide, by decide +kernel⟩
theorem zok_145 : zMok mi_145 := ⟨zw_5_16, zw_1_6, ⟨by decide +kernel, by decide +kernel⟩, by decide, by decide +kernel⟩
theorem zok_146 : zMok mi_146 := ⟨zw_5_23, zw_1_6, ⟨by decide +kernel, by decide +kernel⟩, by decide, by decide +kernel⟩
theorem zok_147 : zMok mi_147 := ⟨zw_6_8, zw_1_6, ⟨by decide +kernel, by decide +kernel⟩, by decide, by decide +kernel⟩
theorem zok_148 : zMok mi_148 := ⟨zw_6_12, zw_1_6, ⟨by decide +kernel, by decide +kernel⟩, by decide, by decide +kernel⟩
theorem zok_149 : zMok mi_149 := ⟨zw_6_16, zw_1_6, ⟨by decide +kernel, by decide +kernel⟩, by decide, by decide +kernel⟩
theorem zok_150 : zMok mi_150 := ⟨zw_6_20, zw_1_6, ⟨by decide +kernel, by decide +kernel⟩, by decide, by decide +kernel⟩
theorem zok_151 : zMok mi_151 := ⟨zw_6_28, zw_1_6, ⟨by decide +kernel, by decide +kernel⟩, by decide, by decide +kernel⟩
theorem zok_152 : zMok mi_152 := ⟨zw_6_24, zw_1_6, ⟨by decide +kernel, by decide +kernel⟩, by decide, by decide +kernel⟩
theorem zok_153 : zMok mi_153 := ⟨zw_6_32, zw_1_6, ⟨by decide +kernel, by decide +kernel⟩, by decide, by decide +kernel⟩
theorem zok_154 : zMok mi_154 := ⟨zw_1_170, zw_1_0, ⟨by decide +kernel, by decide +kernel⟩, by decide, by decide +kernel⟩
theorem zok_155 : zMok mi_155 := ⟨zw_2_45, zw_1_0, ⟨by decide +kernel, by decide +kernel⟩, by decide, by decide +kernel⟩
theorem zok_156 : zMok mi_156 := ⟨zw_4_81, zw_1_0, ⟨by decide +kernel, by decide +kernel⟩, by decide, by decide +kernel⟩
theorem zok_157 : zMok mi_157 := ⟨zw_4_88, zw_1_0, ⟨by decide +kernel, by decide +kernel⟩, by decide, by decide +kernel⟩
theorem zok_158 : zMok mi_158 := ⟨zw_4_95, zw_1_0, ⟨by decide +kernel, by decide +kernel⟩, by decide, by decide +kernel⟩
theorem zok_159 : zMok mi_159 := ⟨zw_4_102, zw_1_0, ⟨by decide +kernel, by decide +kernel⟩, by decide, by decide +kernel⟩
theorem zin_0 : ∀ w ∈ u_ws RJ0 TJ0 4, w ∈ zTB := by
  intro w hw
  obtain ⟨j, hj, rfl⟩ := List.mem_map.mp hw
  have hj := List.mem_range.mp hj
  match j, hj with
  | 0, _ => exact zw_2_200
  | 1, _ => exact zw_2_202
  | 2, _ => exact zw_2_204
  | 3, _ => exact zw_2_206
theorem znf_0 : ∀ j, j < 4 → zTy 0 j ≠ .float ∧ zTy 0 j ≠ .double := by decide +kernel
theorem zin_1 : ∀ w ∈ u_ws RX1 TX1 10, w ∈ zTB := by
  intro w hw
  obtain ⟨j, hj, rfl⟩ := List.mem_map.mp hw
  have hj := List.mem_range.mp hj
  match j, hj with
  | 0, _ => exact zw_2_108
  | 1, _ => exact zw_2_110
  | 2, _ => exact zw_2_112
  | 3, _ => exact zw_2_114
  | 4, _ => exact zw_2_116
  | 5, _ => exact zw_2_118
  | 6, _ => exact zw_2_120
  | 7, _ => exact zw_2_122
  | 8, _ => exact zw_2_124
  | 9, _ => exact zw_2_126
theorem znf_1 : ∀ j, j < 10 → zTy 1 j ≠ .float ∧ zTy 1 j ≠ .double := by decide +kernel
theorem zin_2 : ∀ w ∈ u_ws RX2 TX2 5, w ∈ zTB := by
  intro w hw
  obtain ⟨j, hj, rfl⟩ := List.mem_map.mp hw
  have hj := List.mem_range.mp hj
  match j, hj with
  | 0, _ => exact zw_1_55
  | 1, _ => exact zw_1_57
  | 2, _ => exact zw_1_59
  | 3, _ => exact zw_1_61
  | 4, _ => exact zw_1_63
theorem znf_2 : ∀ j, j < 5 → zTy 2 j ≠ .float ∧ zTy 2 j ≠ .double := by decide +kernel
theorem zin_3 : ∀ w ∈ u_ws RX3 TX3 4, w ∈ zTB := by
  intro w hw
  obtain ⟨j, hj, rfl⟩ := List.mem_map.mp hw
  have hj := List.mem_range.mp hj
  match j, hj with
  | 0, _ => exact zw_3_215
  | 1, _ => exact zw_3_217
  | 2, _ => exact zw_3_219
  | 3, _ => exact zw_3_221
theorem znf_3 : ∀ j, j < 4 → zTy 3 j ≠ .float ∧ zTy 3 j ≠ .double := by decide +kernel
theorem zin_4 : ∀ w ∈ u_ws RX4 TX4 6, w ∈ zTB := by
  intro w hw
  obtain ⟨j, hj, rfl⟩ := List.mem_map.mp hw
  have hj := List.mem_range.mp hj
  match j, hj with
  | 0, _ => exact zw_2_62
  | 1, _ => exact zw_2_64
  | 2, _ => exact zw_2_66
  | 3, _ => exact zw_2_68
  | 4, _ => exact zw_2_70
  | 5, _ => exact zw_2_72
theorem znf_4 : ∀ j, j < 6 → zTy 4 j ≠ .float ∧ zTy 4 j ≠ .double := by decide +kernel
theorem zin_5 : ∀ w ∈ u_ws RX5 TX5 2, w ∈ zTB := by
  intro w hw
  obtain ⟨j, hj, rfl⟩ := List.mem_map.mp hw
  have hj := List.mem_range.mp hj
  match j, hj with
  | 0, _ => exact zw_1_83
  | 1, _ => exact zw_1_85
theorem znf_5 : ∀ j, j < 2 → zTy 5 j ≠ .float ∧ zTy 5 j ≠ .double := by decide +kernel
theorem zin_6 : ∀ w ∈ u_ws RX6 TX6 7, w ∈ zTB := by
  intro w hw
  obtain ⟨j, hj, rfl⟩ := List.mem_map.mp hw
  have hj := List.mem_range.mp hj
  match j, hj with
  | 0, _ => exact zw_1_127
  | 1, _ => exact zw_1_129
  | 2, _ => exact zw_1_131
  | 3, _ => exact zw_1_133
  | 4, _ => exact zw_1_135
  | 5, _ => exact zw_1_137
  | 6, _ => exact zw_1_139
theorem znf_6 : ∀ j, j < 7 → zTy 6 j ≠ .float ∧ zTy 6 j ≠ .double := by decide +kernel
theorem zin_7 : ∀ w ∈ u_ws RX8 TX8 4, w ∈ zTB := by
  intro w hw
  obtain ⟨j, hj, rfl⟩ := List.mem_map.mp hw
  have hj := List.mem_range.mp hj
  match j, hj with
  | 0, _ => exact zw_1_105
  | 1, _ => exact zw_1_107
  | 2, _ => exact zw_1_109
  | 3, _ => exact zw_1_111
theorem znf_7 : ∀ j, j < 4 → zTy 7 j ≠ .float ∧ zTy 7 j ≠ .double := by decide +kernel
theorem zin_8 : ∀ w ∈ u_ws RX9 TX9 3, w ∈ zTB := by
  intro w hw
  obtain ⟨j, hj, rfl⟩ := List.mem_map.mp hw
  have hj := List.mem_range.mp hj
  match j, hj with
  | 0, _ => exact zw_1_149
  | 1, _ => exact zw_1_151
  | 2, _ => exact zw_1_153
theorem znf_8 : ∀ j, j < 3 → zTy 8 j ≠ .float ∧ zTy 8 j ≠ .double := by decide +kernel
theorem zin_9 : ∀ w ∈ u_ws RX10 TX10 39, w ∈ zTB := by
  show ∀ w ∈ ([u_lay RX10 TX10 0, u_lay RX10 TX10 1, u_lay RX10 TX10 2, u_lay RX10 TX10 3, u_lay RX10 TX10 4, u_lay RX10 TX10 5, u_lay RX10 TX10 6, u_lay RX10 TX10 7, u_lay RX10 TX10 8, u_lay RX10 TX10 9, u_lay RX10 TX10 10, u_lay RX10 TX10 11, u_lay RX10 TX10 12, u_lay RX10 TX10 13, u_lay RX10 TX10 14, u_lay RX10 TX10 15, u_lay RX10 TX10 16, u_lay RX10 TX10 17, u_lay RX10 TX10 18, u_lay RX10 TX10 19, u_lay RX10 TX10 20, u_lay RX10 TX10 21, u_lay RX10 TX10 22, u_lay RX10 TX10 23, u_lay RX10 TX10 24, u_lay RX10 TX10 25, u_lay RX10 TX10 26, u_lay RX10 TX10 27, u_lay RX10 TX10 28, u_lay RX10 TX10 29, u_lay RX10 TX10 30, u_lay RX10 TX10 31, u_lay RX10 TX10 32, u_lay RX10 TX10 33, u_lay RX10 TX10 34, u_lay RX10 TX10 35, u_lay RX10 TX10 36, u_lay RX10 TX10 37, u_lay RX10 TX10 38] : List Cond), w ∈ zTB
  exact List.forall_mem_cons.mpr ⟨zw_4_169, List.forall_mem_cons.mpr ⟨zw_4_171, List.forall_mem_cons.mpr ⟨zw_4_173, List.forall_mem_cons.mpr ⟨zw_4_175, List.forall_mem_cons.mpr ⟨zw_4_177, List.forall_mem_cons.mpr ⟨zw_4_179, List.forall_mem_cons.mpr ⟨zw_4_181, List.forall_mem_cons.mpr ⟨zw_4_183, List.forall_mem_cons.mpr ⟨zw_4_185, List.forall_mem_cons.mpr ⟨zw_4_187, List.forall_mem_cons.mpr ⟨zw_4_189, List.forall_mem_cons.mpr ⟨zw_4_191, List.forall_mem_cons.mpr ⟨zw_4_193, List.forall_mem_cons.mpr ⟨zw_4_195, List.forall_mem_cons.mpr ⟨zw_4_197, List.forall_mem_cons.mpr ⟨zw_4_199, List.forall_mem_cons.mpr ⟨zw_4_201, List.forall_mem_cons.mpr ⟨zw_4_203, List.forall_mem_cons.mpr ⟨zw_4_205, List.forall_mem_cons.mpr ⟨zw_4_207, List.forall_mem_cons.mpr ⟨zw_4_209, List.forall_mem_cons.mpr ⟨zw_4_211, List.forall_mem_cons.mpr ⟨zw_4_213, List.forall_mem_cons.mpr ⟨zw_4_215, List.forall_mem_cons.mpr ⟨zw_4_217, List.forall_mem_cons.mpr ⟨zw_4_219, List.forall_mem_cons.mpr ⟨zw_4_221, List.forall_mem_cons.mpr ⟨zw_4_223, List.forall_mem_cons.mpr ⟨zw_4_225, List.forall_mem_cons.mpr ⟨zw_4_227, List.forall_mem_cons.mpr ⟨zw_4_229, List.forall_mem_cons.mpr ⟨zw_4_231, List.forall_mem_cons.mpr ⟨zw_4_233, List.forall_mem_cons.mpr ⟨zw_4_235, List.forall_mem_cons.mpr ⟨zw_4_237, List.forall_mem_cons.mpr ⟨zw_4_239, List.forall_mem_cons.mpr ⟨zw_5_1, List.forall_mem_cons.mpr ⟨zw_5_3, List.forall_mem_cons.mpr ⟨zw_5_5, fun _ h => absurd h List.not_mem_nil⟩⟩⟩⟩⟩⟩⟩⟩⟩⟩⟩⟩⟩⟩⟩⟩⟩⟩⟩⟩⟩⟩⟩⟩⟩⟩⟩⟩⟩⟩⟩⟩⟩⟩⟩⟩⟩⟩⟩
theorem znf_9 : ∀ j, j < 39 → zTy 9 j ≠ .float ∧ zTy 9 j ≠ .double := by decide +kernel
theorem zxg_a : ∀ w ∈ (vx_at0 "MailSessions" 45 "java/lang/IllegalArgumentException" ["java/lang/RuntimeException", "java/lang/Exception"]).filter goodWord, w ∈ zTB := fun w hw => List.mem_filter.mpr ⟨(by decide +kernel : ∀ w ∈ (vx_at0 "MailSessions" 45 "java/lang/IllegalArgumentException" ["java/lang/RuntimeException", "java/lang/Exception"]).filter goodWord, w ∈ lw_tbl) w hw, (List.mem_filter.mp hw).2⟩
theorem zxn_a : ∀ w ∈ (vx_at0 "MailSessions" 45 "java/lang/IllegalArgumentException" ["java/lang/RuntimeException", "java/lang/Exception"]).filter (fun w => !goodWord w), w ∈ [Cond.declares ⟨"java/lang/RuntimeException", "<init>", "()V"⟩, .declares ⟨"java/lang/Exception", "<init>", "()V"⟩, .declares ⟨"java/lang/Throwable", "<init>", "()V"⟩, .castable "java/lang/IllegalArgumentException" "java/lang/IllegalArgumentException"] := by decide +kernel
theorem zxo_a : ∀ (ik : Nat), ik = 43 → ∀ w ∈ Cond.classLink "MailSessions" ik "java/lang/IllegalArgumentException" :: Cond.initialized "java/lang/IllegalArgumentException" :: vx_at0 "MailSessions" 45 "java/lang/IllegalArgumentException" ["java/lang/RuntimeException", "java/lang/Exception"], vx_ot w = true := by
  intro ik hk
  subst hk
  decide +kernel
theorem zxg_s : ∀ w ∈ (vx_at0 "MailSessions" 118 "java/lang/IllegalStateException" ["java/lang/RuntimeException", "java/lang/Exception"]).filter goodWord, w ∈ zTB := fun w hw => List.mem_filter.mpr ⟨(by decide +kernel : ∀ w ∈ (vx_at0 "MailSessions" 118 "java/lang/IllegalStateException" ["java/lang/RuntimeException", "java/lang/Exception"]).filter goodWord, w ∈ lw_tbl) w hw, (List.mem_filter.mp hw).2⟩
theorem zxn_s : ∀ w ∈ (vx_at0 "MailSessions" 118 "java/lang/IllegalStateException" ["java/lang/RuntimeException", "java/lang/Exception"]).filter (fun w => !goodWord w), w ∈ [Cond.declares ⟨"java/lang/RuntimeException", "<init>", "()V"⟩, .declares ⟨"java/lang/Exception", "<init>", "()V"⟩, .declares ⟨"java/lang/Throwable", "<init>", "()V"⟩, .castable "java/lang/IllegalStateException" "java/lang/IllegalStateException"] := by decide +kernel
theorem zxo_s : ∀ (ik : Nat), ik = 116 → ∀ w ∈ Cond.classLink "MailSessions" ik "java/lang/IllegalStateException" :: Cond.initialized "java/lang/IllegalStateException" :: vx_at0 "MailSessions" 118 "java/lang/IllegalStateException" ["java/lang/RuntimeException", "java/lang/Exception"], vx_ot w = true := by
  intro ik hk
  subst hk
  decide +kernel
theorem zxg_i : ∀ w ∈ (vx_at0 "MailSessions" 121 "java/lang/IndexOutOfBoundsException" ["java/lang/RuntimeException", "java/lang/Exception"]).filter goodWord, w ∈ zTB := fun w hw => List.mem_filter.mpr ⟨(by decide +kernel : ∀ w ∈ (vx_at0 "MailSessions" 121 "java/lang/IndexOutOfBoundsException" ["java/lang/RuntimeException", "java/lang/Exception"]).filter goodWord, w ∈ lw_tbl) w hw, (List.mem_filter.mp hw).2⟩
theorem zxn_i : ∀ w ∈ (vx_at0 "MailSessions" 121 "java/lang/IndexOutOfBoundsException" ["java/lang/RuntimeException", "java/lang/Exception"]).filter (fun w => !goodWord w), w ∈ [Cond.declares ⟨"java/lang/RuntimeException", "<init>", "()V"⟩, .declares ⟨"java/lang/Exception", "<init>", "()V"⟩, .declares ⟨"java/lang/Throwable", "<init>", "()V"⟩, .castable "java/lang/IndexOutOfBoundsException" "java/lang/IndexOutOfBoundsException"] := by decide +kernel
theorem zxo_i : ∀ (ik : Nat), ik = 119 → ∀ w ∈ Cond.classLink "MailSessions" ik "java/lang/IndexOutOfBoundsException" :: Cond.initialized "java/lang/IndexOutOfBoundsException" :: vx_at0 "MailSessions" 121 "java/lang/IndexOutOfBoundsException" ["java/lang/RuntimeException", "java/lang/Exception"], vx_ot w = true := by
  intro ik hk
  subst hk
  decide +kernel
theorem zxg_n : ∀ w ∈ (vx_at0 "MailSessions" 141 "java/util/NoSuchElementException" ["java/lang/RuntimeException", "java/lang/Exception"]).filter goodWord, w ∈ zTB := fun w hw => List.mem_filter.mpr ⟨(by decide +kernel : ∀ w ∈ (vx_at0 "MailSessions" 141 "java/util/NoSuchElementException" ["java/lang/RuntimeException", "java/lang/Exception"]).filter goodWord, w ∈ lw_tbl) w hw, (List.mem_filter.mp hw).2⟩
theorem zxn_n : ∀ w ∈ (vx_at0 "MailSessions" 141 "java/util/NoSuchElementException" ["java/lang/RuntimeException", "java/lang/Exception"]).filter (fun w => !goodWord w), w ∈ [Cond.declares ⟨"java/lang/RuntimeException", "<init>", "()V"⟩, .declares ⟨"java/lang/Exception", "<init>", "()V"⟩, .declares ⟨"java/lang/Throwable", "<init>", "()V"⟩, .castable "java/util/NoSuchElementException" "java/util/NoSuchElementException"] := by decide +kernel
theorem zxo_n : ∀ (ik : Nat), ik = 139 → ∀ w ∈ Cond.classLink "MailSessions" ik "java/util/NoSuchElementException" :: Cond.initialized "java/util/NoSuchElementException" :: vx_at0 "MailSessions" 141 "java/util/NoSuchElementException" ["java/lang/RuntimeException", "java/lang/Exception"], vx_ot w = true := by
  intro ik hk
  subst hk
  decide +kernel
