/-! ===== what stands at the start and stays: statics, enum constants, literals ===== -/
/-- the enum's constants are 0 .. 12, VERBS 13, the switch's map 14, the script 15, literal k at 20 + k, its bytes at 60 + k -/
def zcT (a : Nat) : Nat := if a < 13 then 40 else if a = 13 then 43 else if a = 14 then 44 else if a = 15 then 45 else if 20 ≤ a ∧ a < 54 then 41 else if 60 ≤ a ∧ a < 94 then 42 else 0
def zVnm : List String := ["NOOP", "CLOSE", "EXPUNGE", "LOGOUT", "CREATE", "DELETE", "SELECT", "EXAMINE", "APPEND", "STORE", "FETCH", "COPY", "SEARCH"]
/-- takesUid, needsSelected, needsWrite, keepsPlaces -/
def zVb (j : Nat) : List Int32 := match j with
  | 0 => [0, 0, 0, 0, 0, 0, 0, 0, 0, 1, 1, 1, 1]
  | 1 => [0, 1, 1, 0, 0, 0, 0, 0, 0, 1, 1, 1, 1]
  | 2 => [0, 0, 1, 0, 0, 0, 0, 0, 0, 1, 0, 0, 0]
  | _ => [0, 0, 0, 0, 0, 0, 0, 0, 0, 1, 1, 0, 1]
def zVf (j : Nat) : String := match j with
  | 0 => "takesUid"
  | 1 => "needsSelected"
  | 2 => "needsWrite"
  | _ => "keepsPlaces"
def zSw : List Int32 := [0, 7, 9, 8, 1, 2, 3, 4, 5, 10, 11, 6, 12]
/-- the literals: class, entry, text -/
def zLit : List (String × Nat × String) := [("MailSessions$Reader", 38, "UID "), ("MailSessions$Reader", 148, "SAFD"), ("MailSessions$Reader", 139, "FLAGS"), ("MailSessions$Reader", 141, "UID"), ("MailSessions$Reader", 143, "TEXT"), ("MailSessions$Reader", 166, "ALL"), ("MailSessions$Reader", 174, "HAS "), ("MailSessions$Reader", 179, "TEXT "), ("MailSessions$Reader", 185, "NOT "), ("MailSessions$Reader", 189, "OR "), ("MailSessions$Session", 50, " EXISTS"), ("MailSessions$Reply", 33, "* "), ("MailSessions$Session", 59, " UIDVALIDITY"), ("MailSessions$Session", 64, " UIDNEXT"), ("MailSessions$Session", 96, " FETCH "), ("MailSessions$Reply", 47, "SAFD"), ("MailSessions$Session", 122, "* SEARCH"), ("MailSessions$Session", 137, " EXPUNGE"), ("MailSessions", 109, " NO"), ("MailSessions", 111, " OK"),
  ("MailSessions$Verb", 79, "NOOP"), ("MailSessions$Verb", 83, "CLOSE"), ("MailSessions$Verb", 84, "EXPUNGE"), ("MailSessions$Verb", 85, "LOGOUT"), ("MailSessions$Verb", 87, "CREATE "), ("MailSessions$Verb", 90, "DELETE "), ("MailSessions$Verb", 93, "SELECT "), ("MailSessions$Verb", 96, "EXAMINE "), ("MailSessions$Verb", 99, "APPEND "), ("MailSessions$Verb", 102, "STORE "), ("MailSessions$Verb", 105, "FETCH "), ("MailSessions$Verb", 108, "COPY "), ("MailSessions$Verb", 111, "SEARCH "), ("java/lang/String", 7, "")]
/-- their characters -/
def zByt : List (List Nat) := [[85, 73, 68, 32], [83, 65, 70, 68], [70, 76, 65, 71, 83], [85, 73, 68], [84, 69, 88, 84], [65, 76, 76], [72, 65, 83, 32], [84, 69, 88, 84, 32], [78, 79, 84, 32], [79, 82, 32], [32, 69, 88, 73, 83, 84, 83], [42, 32], [32, 85, 73, 68, 86, 65, 76, 73, 68, 73, 84, 89], [32, 85, 73, 68, 78, 69, 88, 84], [32, 70, 69, 84, 67, 72, 32], [83, 65, 70, 68], [42, 32, 83, 69, 65, 82, 67, 72], [32, 69, 88, 80, 85, 78, 71, 69], [32, 78, 79], [32, 79, 75],
  [78, 79, 79, 80], [67, 76, 79, 83, 69], [69, 88, 80, 85, 78, 71, 69], [76, 79, 71, 79, 85, 84], [67, 82, 69, 65, 84, 69, 32], [68, 69, 76, 69, 84, 69, 32], [83, 69, 76, 69, 67, 84, 32], [69, 88, 65, 77, 73, 78, 69, 32], [65, 80, 80, 69, 78, 68, 32], [83, 84, 79, 82, 69, 32], [70, 69, 84, 67, 72, 32], [67, 79, 80, 89, 32], [83, 69, 65, 82, 67, 72, 32], []]
def zbl (k : Nat) : Nat := (zByt.getD k []).length
def zbv (k i : Nat) : Int32 := nI ((zByt.getD k []).getD i 0)
abbrev zAb (B0 : Nat) : Nat → Prop := fun q => B0 ≤ q
/-- the facts of a state; cad: where the constants lie, ov the unknown static, the script of L ints xs -/
def zCF (B0 : Nat) (cad : Nat → Nat) (ov : Value) (L : Nat) (xs : Nat → Int32) (s : State) : Prop :=
  (va_Z "MailSessions" "VERBS" "[LMailSessions$Verb;" (.ref (cad 13)) (zAb B0) s s.heap ∧ va_Z "MailSessions$1" "$SwitchMap$MailSessions$Verb" "[I" (.ref (cad 14)) (zAb B0) s s.heap ∧ va_Z "java/lang/String" "COMPACT_STRINGS" "Z" (.int 1) (zAb B0) s s.heap ∧ va_Z "jdk/internal/util/Preconditions" "SIOOBE_FORMATTER" "Ljava/util/function/BiFunction;" ov (zAb B0) s s.heap) ∧
  (va_T (.object "MailSessions$Verb") (cad 13) 13 (fun j => .ref (cad j)) (zAb B0) s s.heap ∧ va_T .int (cad 14) 13 (fun j => .int (zSw.getD j 0)) (zAb B0) s s.heap) ∧
  (∀ i : Nat, i < 13 → va_O "MailSessions$Verb" (cad i) (zAb B0) s s.heap ∧ va_OF "MailSessions$Verb" "word" "Ljava/lang/String;" (.ref (cad (40 + i))) (cad i) (zAb B0) s s.heap ∧ va_OF "java/lang/Enum" "ordinal" "I" (.int (nI i)) (cad i) (zAb B0) s s.heap ∧ ∀ j : Nat, j < 4 → va_OF "MailSessions$Verb" (zVf j) "Z" (.int ((zVb j).getD i 0)) (cad i) (zAb B0) s s.heap) ∧
  (∀ k : Nat, k < 34 → va_O "java/lang/String" (cad (20 + k)) (zAb B0) s s.heap ∧ va_OF "java/lang/String" "coder" "B" (.int 0) (cad (20 + k)) (zAb B0) s s.heap ∧ va_OF "java/lang/String" "value" "[B" (.ref (cad (60 + k))) (cad (20 + k)) (zAb B0) s s.heap ∧ va_T .byte (cad (60 + k)) (zbl k) (fun j => .int (zbv k j)) (zAb B0) s s.heap) ∧
  (∀ k : Nat, ∀ q : String × Nat × String, zLit[k]? = some q → vk_R q.1 q.2.1 q.2.2 (cad (20 + k)) s) ∧
  (va_AO RX3 s ∧ va_AO RX2 s ∧ va_AO RX6 s) ∧
  (va_Nw (.methodLinkNest "MailSessions" 15 ⟨"MailSessions$Mailbox", "<init>", "()V"⟩ "MailSessions") s ∧ va_Nw (.methodLinkNest "MailSessions" 22 ⟨"MailSessions$Session", "<init>", "()V"⟩ "MailSessions") s ∧ va_Nw (.methodLinkNest "MailSessions$Session" 17 ⟨"MailSessions$Reply", "<init>", "()V"⟩ "MailSessions") s ∧ va_Nw (.methodLinkNest "MailSessions$Session" 24 ⟨"MailSessions$View", "<init>", "()V"⟩ "MailSessions") s ∧ va_Nw (.methodLinkNest "MailSessions$Reader" 25 ⟨"MailSessions$Command", "<init>", "()V"⟩ "MailSessions") s ∧ va_Nw (.fieldLinkNest "MailSessions$Reader" 75 "MailSessions" "VERBS" "[LMailSessions$Verb;" "MailSessions") s) ∧
  (∀ x ∈ (["java/lang/RuntimeException", "java/lang/Exception", "java/lang/Throwable"] : List String), va_Nw (.declares ⟨x, "<init>", "()V"⟩) s) ∧
  (∀ x ∈ (["java/lang/IllegalArgumentException", "java/lang/IllegalStateException", "java/lang/IndexOutOfBoundsException", "java/util/NoSuchElementException"] : List String), va_Nw (.castable x x) s) ∧
  (vx_Zq Bundle.tN "UNASSIGNED_STACK" Bundle.steD (zAb B0) s s.heap ∧ vx_Zq Bundle.tN "SUPPRESSED_SENTINEL" Bundle.listD (zAb B0) s s.heap) ∧
  (∀ x ∈ ([("java/lang/IllegalArgumentException", "java/lang/IllegalStateException"), ("java/lang/IllegalArgumentException", "java/lang/IndexOutOfBoundsException"), ("java/lang/IllegalStateException", "java/lang/IndexOutOfBoundsException")] : List (String × String)), va_Nc x.1 x.2 s) ∧
  (va_X (cad 15) L xs s s.heap ∧ cad 15 < s.heap.size ∧ cad 15 < B0)
def zGG (B0 : Nat) (cad : Nat → Nat) (ov : Value) (L : Nat) (xs : Nat → Int32) : zG := (zCF B0 cad ov L xs, B0, cad, zcT, ov)
theorem zGG_st (B0 : Nat) (cad : Nat → Nat) (ov : Value) (L : Nat) (xs : Nat → Int32) : zGst (zGG B0 cad ov L xs) := by
  intro s U hW hz hq h
  have hq : ∀ a : Nat, a < s.heap.size → ¬ zAb B0 a → U.heap[a]? = s.heap[a]? := hq
  have al := hW.alike
  obtain ⟨⟨a1, a2, a3, a4⟩, ⟨b1, b2⟩, c, d, e, ⟨f1, f2, f3⟩, ⟨g1, g2, g3, g4, g5, g6⟩, i, j, ⟨k1, k2⟩, n, ⟨o1, o2, o3⟩⟩ := h
  refine ⟨⟨(va_Z.moved al a1).kept hq, (va_Z.moved al a2).kept hq, (va_Z.moved al a3).kept hq, (va_Z.moved al a4).kept hq⟩, ⟨(va_T.moved al b1).kept hq, (va_T.moved al b2).kept hq⟩, fun i hi => ?_, fun k hk => ?_, fun k q hk => vk_R.warm hW (e k q hk), ⟨va_AO.moved al f1, va_AO.moved al f2, va_AO.moved al f3⟩, ⟨va_Nw.warmM hW g1, va_Nw.warmM hW g2, va_Nw.warmM hW g3, va_Nw.warmM hW g4, va_Nw.warmM hW g5, va_Nw.warmF hW g6⟩, fun x hx => va_Nw.warmD hW (i x hx), fun x hx => va_Nw.warmC hW (j x hx), ⟨(vx_Zq.moved al k1).kept hq, (vx_Zq.moved al k2).kept hq⟩, fun x hx => va_Nc.moved al (n x hx), ⟨(va_X.moved al o1).kept (hq _ o2 (by show ¬ B0 ≤ _; omega)), by omega, o3⟩⟩
  · obtain ⟨c1, c2, c3, c4⟩ := c i hi
    exact ⟨(va_O.moved al c1).kept hq, (va_OF.moved al c2).kept hq, (va_OF.moved al c3).kept hq, fun j hj => (va_OF.moved al (c4 j hj)).kept hq⟩
  · obtain ⟨c1, c2, c3, c4⟩ := d k hk
    exact ⟨(va_O.moved al c1).kept hq, (va_OF.moved al c2).kept hq, (va_OF.moved al c3).kept hq, (va_T.moved al c4).kept hq⟩
/-! the operations on constants -/
/-- a known constant of tag t -/
def o_kref (k t n : Nat) : zOp := fun pc ls st h => if zT h k = t then some (.inl (pc + n, ls, .ref k :: st, h)) else none
/-- a constant's whole number field -/
def o_gfK (t : Nat) (f : Nat → Int32) : zOp := fun pc ls st h => match st with
  | .ref a :: r => if zT h a = t then some (.inl (pc + 3, ls, .int (f a) :: r, h)) else none
  | _ => none
/-- the word of an enum constant -/
def o_gfW : zOp := fun pc ls st h => match st with
  | .ref a :: r => if zT h a = 40 ∧ zT h (40 + a) = 41 then some (.inl (pc + 3, ls, .ref (40 + a) :: r, h)) else none
  | _ => none
/-- a String's value, coder -/
def o_sval : zOp := fun pc ls st h => match st with
  | .ref a :: r => if zT h a = 1 then some (.inl (pc + 3, ls, va_rf (zR h (zgf 0 0) a 0) :: r, h)) else if zT h a = 41 ∧ zT h (40 + a) = 42 then some (.inl (pc + 3, ls, .ref (40 + a) :: r, h)) else none
  | _ => none
def o_scod : zOp := fun pc ls st h => match st with
  | .ref a :: r => if zT h a = 1 then some (.inl (pc + 3, ls, .int (zI h (zgf 0 1) a 0) :: r, h)) else if zT h a = 41 then some (.inl (pc + 3, ls, .int 0 :: r, h)) else none
  | _ => none
/-- bytes of a String: made here, or a literal's -/
def o_bald : zOp := fun pc ls st h => match st with
  | .int i :: .ref a :: r => if zT h a = 24 ∧ ¬ i < 0 ∧ i.toNatClampNeg < zE h a then some (.inl (pc + 1, ls, .int (zI h 0 a i.toNatClampNeg) :: r, h)) else if zT h a = 42 ∧ ¬ i < 0 ∧ i.toNatClampNeg < zbl (a - 60) then some (.inl (pc + 1, ls, .int (zbv (a - 60) i.toNatClampNeg) :: r, h)) else none
  | _ => none
def o_blen : zOp := fun pc ls st h => match st with
  | .ref a :: r => if (20 ≤ zT h a ∧ zT h a ≤ 24) ∨ (31 ≤ zT h a ∧ zT h a ≤ 33) then some (.inl (pc + 1, ls, .int (nI (zE h a)) :: r, h)) else if zT h a = 42 then some (.inl (pc + 1, ls, .int (nI (zbl (a - 60))) :: r, h)) else none
  | _ => none
/-- VERBS: its length, its elements; the switch's map; the script -/
def o_vlen : zOp := fun pc ls st h => match st with
  | .ref a :: r => if zT h a = 43 then some (.inl (pc + 1, ls, .int 13 :: r, h)) else none
  | _ => none
def o_vald : zOp := fun pc ls st h => match st with
  | .int i :: .ref a :: r => if zT h a = 43 ∧ ¬ i < 0 ∧ i.toNatClampNeg < 13 ∧ zT h i.toNatClampNeg = 40 then some (.inl (pc + 1, ls, .ref i.toNatClampNeg :: r, h)) else none
  | _ => none
def o_mald : zOp := fun pc ls st h => match st with
  | .int i :: .ref a :: r => if zT h a = 44 ∧ ¬ i < 0 ∧ i.toNatClampNeg < 13 then some (.inl (pc + 1, ls, .int (zSw.getD i.toNatClampNeg 0) :: r, h)) else none
  | _ => none
def o_xlen (L : Nat) : zOp := fun pc ls st h => match st with
  | .ref a :: r => if zT h a = 45 then some (.inl (pc + 1, ls, .int (nI L) :: r, h)) else none
  | _ => none
def o_sald (L : Nat) (xs : Nat → Int32) : zOp := fun pc ls st h => match st with
  | .int i :: .ref a :: r => if zT h a = 45 ∧ ¬ i < 0 ∧ i.toNatClampNeg < L then some (.inl (pc + 1, ls, .int (xs i.toNatClampNeg) :: r, h)) else none
  | _ => none
theorem zcT_40 {a : Nat} (h : zcT a = 40) : a < 13 := by
  unfold zcT at h
  split at h
  · assumption
  · repeat' split at h
    all_goals omega
theorem zcT_41 {a : Nat} (h : zcT a = 41) : 20 ≤ a ∧ a < 54 := by
  unfold zcT at h
  repeat' split at h
  all_goals first | assumption | omega
theorem zcT_42 {a : Nat} (h : zcT a = 42) : 60 ≤ a ∧ a < 94 := by
  unfold zcT at h
  repeat' split at h
  all_goals first | assumption | omega
theorem zcT_43 {a : Nat} (h : zcT a = 43) : a = 13 := by
  unfold zcT at h
  repeat' split at h
  all_goals first | assumption | omega
theorem zcT_44 {a : Nat} (h : zcT a = 44) : a = 14 := by
  unfold zcT at h
  repeat' split at h
  all_goals first | assumption | omega
theorem zcT_45 {a : Nat} (h : zcT a = 45) : a = 15 := by
  unfold zcT at h
  repeat' split at h
  all_goals first | assumption | omega
/-! soundness of the operations on constants -/
theorem zs_verbs {B0 : Nat} {cad : Nat → Nat} {ov : Value} {L : Nat} {xs : Nat → Int32} {own : String} {cc : ByteArray} {nL : Nat} {ini : Bool} {pc : Nat} (hd : decode cc pc = .ok (.getstatic 75, 3)) (ho2 : own = "MailSessions$Reader") : zSnd (zGG B0 cad ov L xs) own cc nL ini pc (o_kref (13) 43 3) := by
  intro ls st h pc' ls' st' h' he l p e R s m args below meth c D Q cx ad H locs cells slots lsr ok hS hc hs hR kk
  obtain ⟨hx, hb, hml, hown, hts, hK, hlk, hini, hcf, hB, ho⟩ := cx
  obtain ⟨rel, lr, ws⟩ := ok
  have r6 := rel.2.2.2.2.2
  have hcf0 : zCF B0 cad ov L xs s := hcf
  obtain ⟨⟨ca1, ca2, ca3, ca4⟩, ⟨cb1, cb2⟩, cc1, cd1, ce1, -, ⟨-, -, -, -, -, cg6⟩, -, -, -, -, ⟨co1, co2, co3⟩⟩ := hcf0
  unfold o_kref at he
  split at he
  · rename_i hk
    cases he
    have r9 := r6 (13) (by rw [hk]; omega)
    have k2 := kk ad H locs cells slots lsr (fun _ _ => rfl) (Nat.le_refl _) ⟨rel, lr, zw_c r9.1 ws⟩ hS rfl rfl
    rw [List.map_cons, show zmv (zGG B0 cad ov L xs).2.2.2.2 ad (.ref (13)) = .ref (cad (13)) from congrArg Value.ref r9.2.2] at k2
    exact va_getsN hx hb ca1 hS hown (by subst ho2; exact va_Nw.use rfl cg6) (fun _ h9 => h9) hd k2
  · cases he

theorem zs_swmap {B0 : Nat} {cad : Nat → Nat} {ov : Value} {L : Nat} {xs : Nat → Int32} {own : String} {cc : ByteArray} {nL : Nat} {ini : Bool} {pc : Nat} {idx : Nat} (hl : Cond.fieldLink own idx "MailSessions$1" "$SwitchMap$MailSessions$Verb" "[I" ∈ zTB) (hd : decode cc pc = .ok (.getstatic idx, 3)) : zSnd (zGG B0 cad ov L xs) own cc nL ini pc (o_kref (14) 44 3) := by
  intro ls st h pc' ls' st' h' he l p e R s m args below meth c D Q cx ad H locs cells slots lsr ok hS hc hs hR kk
  obtain ⟨hx, hb, hml, hown, hts, hK, hlk, hini, hcf, hB, ho⟩ := cx
  obtain ⟨rel, lr, ws⟩ := ok
  have r6 := rel.2.2.2.2.2
  have hcf0 : zCF B0 cad ov L xs s := hcf
  obtain ⟨⟨ca1, ca2, ca3, ca4⟩, ⟨cb1, cb2⟩, cc1, cd1, ce1, -, ⟨-, -, -, -, -, cg6⟩, -, -, -, -, ⟨co1, co2, co3⟩⟩ := hcf0
  unfold o_kref at he
  split at he
  · rename_i hk
    cases he
    have r9 := r6 (14) (by rw [hk]; omega)
    have k2 := kk ad H locs cells slots lsr (fun _ _ => rfl) (Nat.le_refl _) ⟨rel, lr, zw_c r9.1 ws⟩ hS rfl rfl
    rw [List.map_cons, show zmv (zGG B0 cad ov L xs).2.2.2.2 ad (.ref (14)) = .ref (cad (14)) from congrArg Value.ref r9.2.2] at k2
    exact va_gets hx hb ca2 hS hown (hts _ hl) (fun _ h9 => h9) hd k2
  · cases he

theorem zs_lit {B0 : Nat} {cad : Nat → Nat} {ov : Value} {L : Nat} {xs : Nat → Int32} {own : String} {cc : ByteArray} {nL : Nat} {ini : Bool} {pc : Nat} {k idx : Nat} {tx : String} (hk0 : zLit[k]? = some (own, idx, tx)) (hd : decode cc pc = .ok (.ldc idx, 2)) : zSnd (zGG B0 cad ov L xs) own cc nL ini pc (o_kref (20 + k) 41 2) := by
  intro ls st h pc' ls' st' h' he l p e R s m args below meth c D Q cx ad H locs cells slots lsr ok hS hc hs hR kk
  obtain ⟨hx, hb, hml, hown, hts, hK, hlk, hini, hcf, hB, ho⟩ := cx
  obtain ⟨rel, lr, ws⟩ := ok
  have r6 := rel.2.2.2.2.2
  have hcf0 : zCF B0 cad ov L xs s := hcf
  obtain ⟨⟨ca1, ca2, ca3, ca4⟩, ⟨cb1, cb2⟩, cc1, cd1, ce1, -, ⟨-, -, -, -, -, cg6⟩, -, -, -, -, ⟨co1, co2, co3⟩⟩ := hcf0
  unfold o_kref at he
  split at he
  · rename_i hk
    cases he
    have r9 := r6 (20 + k) (by rw [hk]; omega)
    have k2 := kk ad H locs cells slots lsr (fun _ _ => rfl) (Nat.le_refl _) ⟨rel, lr, zw_c r9.1 ws⟩ hS rfl rfl
    rw [List.map_cons, show zmv (zGG B0 cad ov L xs).2.2.2.2 ad (.ref (20 + k)) = .ref (cad (20 + k)) from congrArg Value.ref r9.2.2] at k2
    exact va_ldcS hx hb hown (ce1 k _ hk0) hd k2
  · cases he

theorem zs_compact {B0 : Nat} {cad : Nat → Nat} {ov : Value} {L : Nat} {xs : Nat → Int32} {own : String} {cc : ByteArray} {nL : Nat} {ini : Bool} {pc : Nat} {idx : Nat} (hl : Cond.fieldLink own idx "java/lang/String" "COMPACT_STRINGS" "Z" ∈ zTB) (hd : decode cc pc = .ok (.getstatic idx, 3)) : zSnd (zGG B0 cad ov L xs) own cc nL ini pc (o_push (.int 1) 3) := by
  intro ls st h pc' ls' st' h' he l p e R s m args below meth c D Q cx ad H locs cells slots lsr ok hS hc hs hR kk
  obtain ⟨hx, hb, hml, hown, hts, hK, hlk, hini, hcf, hB, ho⟩ := cx
  obtain ⟨rel, lr, ws⟩ := ok
  have r6 := rel.2.2.2.2.2
  have hcf0 : zCF B0 cad ov L xs s := hcf
  obtain ⟨⟨ca1, ca2, ca3, ca4⟩, ⟨cb1, cb2⟩, cc1, cd1, ce1, -, ⟨-, -, -, -, -, cg6⟩, -, -, -, -, ⟨co1, co2, co3⟩⟩ := hcf0
  cases he
  exact va_gets hx hb ca3 hS hown (hts _ hl) (fun _ h9 => h9) hd (kk ad H locs cells slots lsr (fun _ _ => rfl) (Nat.le_refl _) ⟨rel, lr, zw_c trivial ws⟩ hS rfl rfl)

theorem zs_sioobe {B0 : Nat} {cad : Nat → Nat} {ov : Value} {L : Nat} {xs : Nat → Int32} {own : String} {cc : ByteArray} {nL : Nat} {ini : Bool} {pc : Nat} {idx : Nat} (hl : Cond.fieldLink own idx "jdk/internal/util/Preconditions" "SIOOBE_FORMATTER" "Ljava/util/function/BiFunction;" ∈ zTB) (hd : decode cc pc = .ok (.getstatic idx, 3)) : zSnd (zGG B0 cad ov L xs) own cc nL ini pc (o_push (.float 0) 3) := by
  intro ls st h pc' ls' st' h' he l p e R s m args below meth c D Q cx ad H locs cells slots lsr ok hS hc hs hR kk
  obtain ⟨hx, hb, hml, hown, hts, hK, hlk, hini, hcf, hB, ho⟩ := cx
  obtain ⟨rel, lr, ws⟩ := ok
  have r6 := rel.2.2.2.2.2
  have hcf0 : zCF B0 cad ov L xs s := hcf
  obtain ⟨⟨ca1, ca2, ca3, ca4⟩, ⟨cb1, cb2⟩, cc1, cd1, ce1, -, ⟨-, -, -, -, -, cg6⟩, -, -, -, -, ⟨co1, co2, co3⟩⟩ := hcf0
  cases he
  exact va_gets hx hb ca4 hS hown (hts _ hl) (fun _ h9 => h9) hd (kk ad H locs cells slots lsr (fun _ _ => rfl) (Nat.le_refl _) ⟨rel, lr, zw_c trivial ws⟩ hS rfl rfl)

theorem zs_gfVb {B0 : Nat} {cad : Nat → Nat} {ov : Value} {L : Nat} {xs : Nat → Int32} {own : String} {cc : ByteArray} {nL : Nat} {ini : Bool} {pc : Nat} {j idx : Nat} (hj : j < 4) (hl : Cond.fieldLink own idx "MailSessions$Verb" (zVf j) "Z" ∈ zTB) (hd : decode cc pc = .ok (.getfield idx, 3)) : zSnd (zGG B0 cad ov L xs) own cc nL ini pc (o_gfK 40 (fun a => (zVb j).getD a 0)) := by
  intro ls st h pc' ls' st' h' he l p e R s m args below meth c D Q cx ad H locs cells slots lsr ok hS hc hs hR kk
  obtain ⟨hx, hb, hml, hown, hts, hK, hlk, hini, hcf, hB, ho⟩ := cx
  obtain ⟨rel, lr, ws⟩ := ok
  have r6 := rel.2.2.2.2.2
  have hcf0 : zCF B0 cad ov L xs s := hcf
  obtain ⟨⟨ca1, ca2, ca3, ca4⟩, ⟨cb1, cb2⟩, cc1, cd1, ce1, -, ⟨-, -, -, -, -, cg6⟩, -, -, -, -, ⟨co1, co2, co3⟩⟩ := hcf0
  unfold o_gfK at he
  split at he
  · rename_i a r
    split at he
    · rename_i hta
      cases he
      have r9 := r6 a (by rw [hta]; omega)
      have ha := zcT_40 (r9.2.1.trans hta)
      rw [List.map_cons, show zmv (zGG B0 cad ov L xs).2.2.2.2 ad (.ref a) = .ref (cad a) from congrArg Value.ref r9.2.2]
      exact vk_getf hx hb ((cc1 a ha).2.2.2 j hj) hS hown (hts _ hl) (fun _ h9 => h9) hd (kk ad H locs cells slots lsr (fun _ _ => rfl) (Nat.le_refl _) ⟨rel, lr, zw_c trivial (zw_t ws)⟩ hS rfl rfl)
    · cases he
  · cases he

theorem zs_gfOrd {B0 : Nat} {cad : Nat → Nat} {ov : Value} {L : Nat} {xs : Nat → Int32} {own : String} {cc : ByteArray} {nL : Nat} {ini : Bool} {pc : Nat} {idx : Nat} (hl : Cond.fieldLink own idx "java/lang/Enum" "ordinal" "I" ∈ zTB) (hd : decode cc pc = .ok (.getfield idx, 3)) : zSnd (zGG B0 cad ov L xs) own cc nL ini pc (o_gfK 40 nI) := by
  intro ls st h pc' ls' st' h' he l p e R s m args below meth c D Q cx ad H locs cells slots lsr ok hS hc hs hR kk
  obtain ⟨hx, hb, hml, hown, hts, hK, hlk, hini, hcf, hB, ho⟩ := cx
  obtain ⟨rel, lr, ws⟩ := ok
  have r6 := rel.2.2.2.2.2
  have hcf0 : zCF B0 cad ov L xs s := hcf
  obtain ⟨⟨ca1, ca2, ca3, ca4⟩, ⟨cb1, cb2⟩, cc1, cd1, ce1, -, ⟨-, -, -, -, -, cg6⟩, -, -, -, -, ⟨co1, co2, co3⟩⟩ := hcf0
  unfold o_gfK at he
  split at he
  · rename_i a r
    split at he
    · rename_i hta
      cases he
      have r9 := r6 a (by rw [hta]; omega)
      have ha := zcT_40 (r9.2.1.trans hta)
      rw [List.map_cons, show zmv (zGG B0 cad ov L xs).2.2.2.2 ad (.ref a) = .ref (cad a) from congrArg Value.ref r9.2.2]
      exact vk_getf hx hb (cc1 a ha).2.2.1 hS hown (hts _ hl) (fun _ h9 => h9) hd (kk ad H locs cells slots lsr (fun _ _ => rfl) (Nat.le_refl _) ⟨rel, lr, zw_c trivial (zw_t ws)⟩ hS rfl rfl)
    · cases he
  · cases he

theorem zs_gfW {B0 : Nat} {cad : Nat → Nat} {ov : Value} {L : Nat} {xs : Nat → Int32} {own : String} {cc : ByteArray} {nL : Nat} {ini : Bool} {pc : Nat} {idx : Nat} (hl : Cond.fieldLink own idx "MailSessions$Verb" "word" "Ljava/lang/String;" ∈ zTB) (hd : decode cc pc = .ok (.getfield idx, 3)) : zSnd (zGG B0 cad ov L xs) own cc nL ini pc (o_gfW) := by
  intro ls st h pc' ls' st' h' he l p e R s m args below meth c D Q cx ad H locs cells slots lsr ok hS hc hs hR kk
  obtain ⟨hx, hb, hml, hown, hts, hK, hlk, hini, hcf, hB, ho⟩ := cx
  obtain ⟨rel, lr, ws⟩ := ok
  have r6 := rel.2.2.2.2.2
  have hcf0 : zCF B0 cad ov L xs s := hcf
  obtain ⟨⟨ca1, ca2, ca3, ca4⟩, ⟨cb1, cb2⟩, cc1, cd1, ce1, -, ⟨-, -, -, -, -, cg6⟩, -, -, -, -, ⟨co1, co2, co3⟩⟩ := hcf0
  unfold o_gfW at he
  split at he
  · rename_i a r
    split at he
    · rename_i hta
      cases he
      have r9 := r6 a (by rw [hta.1]; omega)
      have r8 := r6 (40 + a) (by rw [hta.2]; omega)
      have ha := zcT_40 (r9.2.1.trans hta.1)
      have k2 := kk ad H locs cells slots lsr (fun _ _ => rfl) (Nat.le_refl _) ⟨rel, lr, zw_c r8.1 (zw_t ws)⟩ hS rfl rfl
      rw [List.map_cons, show zmv (zGG B0 cad ov L xs).2.2.2.2 ad (.ref (40 + a)) = .ref (cad (40 + a)) from congrArg Value.ref r8.2.2] at k2
      rw [List.map_cons, show zmv (zGG B0 cad ov L xs).2.2.2.2 ad (.ref a) = .ref (cad a) from congrArg Value.ref r9.2.2]
      exact vk_getf hx hb (cc1 a ha).2.1 hS hown (hts _ hl) (fun _ h9 => h9) hd k2
    · cases he
  · cases he

theorem zs_sval {B0 : Nat} {cad : Nat → Nat} {ov : Value} {L : Nat} {xs : Nat → Int32} {own : String} {cc : ByteArray} {nL : Nat} {ini : Bool} {pc : Nat} {idx : Nat} (hin : ∀ w ∈ u_ws RJ0 TJ0 4, w ∈ zTB) (hl : Cond.fieldLink own idx "java/lang/String" "value" "[B" ∈ zTB) (hd : decode cc pc = .ok (.getfield idx, 3)) : zSnd (zGG B0 cad ov L xs) own cc nL ini pc (o_sval) := by
  intro ls st h pc' ls' st' h' he l p e R s m args below meth c D Q cx ad H locs cells slots lsr ok hS hc hs hR kk
  obtain ⟨hx, hb, hml, hown, hts, hK, hlk, hini, hcf, hB, ho⟩ := cx
  obtain ⟨rel, lr, ws⟩ := ok
  have r6 := rel.2.2.2.2.2
  have hcf0 : zCF B0 cad ov L xs s := hcf
  obtain ⟨⟨ca1, ca2, ca3, ca4⟩, ⟨cb1, cb2⟩, cc1, cd1, ce1, -, ⟨-, -, -, -, -, cg6⟩, -, -, -, -, ⟨co1, co2, co3⟩⟩ := hcf0
  unfold o_sval at he
  split at he
  · rename_i a r
    split at he
    · rename_i hta
      cases he
      have hP : va_at D vwCl (ad a, .inr (0, zFs ad h 0 a)) H := by
        have h9 := (rel.2.2.2.2.1 a).1 (by rw [hta]; omega) (by rw [hta]; omega)
        rw [hta] at h9
        exact h9
      have k2 := kk ad H locs cells slots lsr (fun _ _ => rfl) (Nat.le_refl _) ⟨rel, lr, zw_c (by cases hz : zR h (zgf 0 0) a 0 with | none => trivial | some b => exact rel.2.1 _ _ _ _ hz) (zw_t ws)⟩ hS rfl rfl
      rw [List.map_cons, zmv_rf] at k2
      exact va_get (D := D) (cl := vwCl) (tys := []) (ci := 0) (C := RJ0) (T := TJ0) (N := 4) hx hb hts hin hown hK (zP1 hP) 0 rfl rfl 0 (by decide) (hts _ hl) (fun _ h9 => h9) ((zFs_at (by decide)).trans rfl) hd k2
    · split at he
      · rename_i h1 hta
        cases he
        have r9 := r6 a (by rw [hta.1]; omega)
        have r8 := r6 (40 + a) (by rw [hta.2]; omega)
        have ha := zcT_41 (r9.2.1.trans hta.1)
        have k2 := kk ad H locs cells slots lsr (fun _ _ => rfl) (Nat.le_refl _) ⟨rel, lr, zw_c r8.1 (zw_t ws)⟩ hS rfl rfl
        rw [List.map_cons, show zmv (zGG B0 cad ov L xs).2.2.2.2 ad (.ref (40 + a)) = .ref (cad (40 + a)) from congrArg Value.ref r8.2.2] at k2
        rw [List.map_cons, show zmv (zGG B0 cad ov L xs).2.2.2.2 ad (.ref a) = .ref (cad a) from congrArg Value.ref r9.2.2]
        obtain ⟨i, rfl⟩ := Nat.exists_eq_add_of_le ha.1
        have c9 := (cd1 i (by omega)).2.2.1
        rw [show 60 + i = 40 + (20 + i) by omega] at c9
        exact vk_getf hx hb c9 hS hown (hts _ hl) (fun _ h9 => h9) hd k2
      · cases he
  · cases he

theorem zs_scod {B0 : Nat} {cad : Nat → Nat} {ov : Value} {L : Nat} {xs : Nat → Int32} {own : String} {cc : ByteArray} {nL : Nat} {ini : Bool} {pc : Nat} {idx : Nat} (hin : ∀ w ∈ u_ws RJ0 TJ0 4, w ∈ zTB) (hl : Cond.fieldLink own idx "java/lang/String" "coder" "B" ∈ zTB) (hd : decode cc pc = .ok (.getfield idx, 3)) : zSnd (zGG B0 cad ov L xs) own cc nL ini pc (o_scod) := by
  intro ls st h pc' ls' st' h' he l p e R s m args below meth c D Q cx ad H locs cells slots lsr ok hS hc hs hR kk
  obtain ⟨hx, hb, hml, hown, hts, hK, hlk, hini, hcf, hB, ho⟩ := cx
  obtain ⟨rel, lr, ws⟩ := ok
  have r6 := rel.2.2.2.2.2
  have hcf0 : zCF B0 cad ov L xs s := hcf
  obtain ⟨⟨ca1, ca2, ca3, ca4⟩, ⟨cb1, cb2⟩, cc1, cd1, ce1, -, ⟨-, -, -, -, -, cg6⟩, -, -, -, -, ⟨co1, co2, co3⟩⟩ := hcf0
  unfold o_scod at he
  split at he
  · rename_i a r
    split at he
    · rename_i hta
      cases he
      have hP : va_at D vwCl (ad a, .inr (0, zFs ad h 0 a)) H := by
        have h9 := (rel.2.2.2.2.1 a).1 (by rw [hta]; omega) (by rw [hta]; omega)
        rw [hta] at h9
        exact h9
      exact va_get (D := D) (cl := vwCl) (tys := []) (ci := 0) (C := RJ0) (T := TJ0) (N := 4) hx hb hts hin hown hK (zP1 hP) 0 rfl rfl 1 (by decide) (hts _ hl) (fun _ h9 => h9) ((zFs_at (by decide)).trans rfl) hd (kk ad H locs cells slots lsr (fun _ _ => rfl) (Nat.le_refl _) ⟨rel, lr, zw_c trivial (zw_t ws)⟩ hS rfl rfl)
    · split at he
      · rename_i h1 hta
        cases he
        have r9 := r6 a (by rw [hta]; omega)
        have ha := zcT_41 (r9.2.1.trans hta)
        rw [List.map_cons, show zmv (zGG B0 cad ov L xs).2.2.2.2 ad (.ref a) = .ref (cad a) from congrArg Value.ref r9.2.2]
        obtain ⟨i, rfl⟩ := Nat.exists_eq_add_of_le ha.1
        exact vk_getf hx hb (cd1 i (by omega)).2.1 hS hown (hts _ hl) (fun _ h9 => h9) hd (kk ad H locs cells slots lsr (fun _ _ => rfl) (Nat.le_refl _) ⟨rel, lr, zw_c trivial (zw_t ws)⟩ hS rfl rfl)
      · cases he
  · cases he

theorem zs_sbald {B0 : Nat} {cad : Nat → Nat} {ov : Value} {L : Nat} {xs : Nat → Int32} {own : String} {cc : ByteArray} {nL : Nat} {ini : Bool} {pc : Nat} (hd : decode cc pc = .ok (.baload, 1)) : zSnd (zGG B0 cad ov L xs) own cc nL ini pc (o_bald) := by
  intro ls st h pc' ls' st' h' he l p e R s m args below meth c D Q cx ad H locs cells slots lsr ok hS hc hs hR kk
  obtain ⟨hx, hb, hml, hown, hts, hK, hlk, hini, hcf, hB, ho⟩ := cx
  obtain ⟨rel, lr, ws⟩ := ok
  have r6 := rel.2.2.2.2.2
  have hcf0 : zCF B0 cad ov L xs s := hcf
  obtain ⟨⟨ca1, ca2, ca3, ca4⟩, ⟨cb1, cb2⟩, cc1, cd1, ce1, -, ⟨-, -, -, -, -, cg6⟩, -, -, -, -, ⟨co1, co2, co3⟩⟩ := hcf0
  unfold o_bald at he
  split at he
  · rename_i i a r
    split at he
    · rename_i hcond
      obtain ⟨hta, hi0, hil⟩ := hcond
      cases he
      have hin9 : vp_in i (zE h a) := fun q => q.elim hi0 (fun q => absurd q (Nat.not_le.mpr hil))
      obtain ⟨cA, g1, g2, g3⟩ := (rel.2.2.2.2.1 a).2.1 (by rw [hta]; unfold zIsX; omega)
      rw [hta] at g2 g3
      exact va_bald (D := D) (cl := vwCl) (tys := [(cA, zAt 24)]) hx hb ⟨hK.1, fun q x hq => by cases q with | zero => cases hq; exact ⟨g2, g3⟩ | succ q => cases hq⟩ (zP1 g1) 0 0 rfl rfl hin9 hd (kk ad H locs cells slots lsr (fun _ _ => rfl) (Nat.le_refl _) ⟨rel, lr, zw_c trivial (zw_t (zw_t ws))⟩ hS rfl rfl)
    · split at he
      · rename_i h1 hcond
        obtain ⟨hta, hi0, hil⟩ := hcond
        cases he
        have r9 := r6 a (by rw [hta]; omega)
        have ha := zcT_42 (r9.2.1.trans hta)
        rw [List.map_cons, List.map_cons, show zmv (zGG B0 cad ov L xs).2.2.2.2 ad (.ref a) = .ref (cad a) from congrArg Value.ref r9.2.2]
        obtain ⟨k, rfl⟩ := Nat.exists_eq_add_of_le ha.1
        rw [Nat.add_sub_cancel_left] at hil kk
        have hin9 : vp_in i (zbl k) := fun q => q.elim hi0 (fun q => absurd q (Nat.not_le.mpr hil))
        exact va_tb hx hb (cd1 k (by omega)).2.2.2 hS hin9 rfl hd (kk ad H locs cells slots lsr (fun _ _ => rfl) (Nat.le_refl _) ⟨rel, lr, zw_c trivial (zw_t (zw_t ws))⟩ hS rfl rfl)
      · cases he
  · cases he

theorem zs_blen {B0 : Nat} {cad : Nat → Nat} {ov : Value} {L : Nat} {xs : Nat → Int32} {own : String} {cc : ByteArray} {nL : Nat} {ini : Bool} {pc : Nat} (hd : decode cc pc = .ok (.arraylength, 1)) : zSnd (zGG B0 cad ov L xs) own cc nL ini pc (o_blen) := by
  intro ls st h pc' ls' st' h' he l p e R s m args below meth c D Q cx ad H locs cells slots lsr ok hS hc hs hR kk
  obtain ⟨hx, hb, hml, hown, hts, hK, hlk, hini, hcf, hB, ho⟩ := cx
  obtain ⟨rel, lr, ws⟩ := ok
  have r6 := rel.2.2.2.2.2
  have hcf0 : zCF B0 cad ov L xs s := hcf
  obtain ⟨⟨ca1, ca2, ca3, ca4⟩, ⟨cb1, cb2⟩, cc1, cd1, ce1, -, ⟨-, -, -, -, -, cg6⟩, -, -, -, -, ⟨co1, co2, co3⟩⟩ := hcf0
  unfold o_blen at he
  split at he
  · rename_i a r
    split at he
    · rename_i hcond
      have he2 : o_alen pc ls (.ref a :: r) h = some (.inl (pc', ls', st', h')) := by
        unfold o_alen
        dsimp only
        rw [if_pos hcond]
        exact he
      exact zs_alen hd ls _ h pc' ls' st' h' he2 l p e R s m args below meth c D Q ⟨hx, hb, hml, hown, hts, hK, hlk, hini, hcf, hB, ho⟩ ad H locs cells slots lsr ⟨rel, lr, ws⟩ hS hc hs hR kk
    · split at he
      · rename_i h1 hta
        cases he
        have r9 := r6 a (by rw [hta]; omega)
        have ha := zcT_42 (r9.2.1.trans hta)
        rw [List.map_cons, show zmv (zGG B0 cad ov L xs).2.2.2.2 ad (.ref a) = .ref (cad a) from congrArg Value.ref r9.2.2]
        obtain ⟨k, rfl⟩ := Nat.exists_eq_add_of_le ha.1
        rw [Nat.add_sub_cancel_left] at kk
        exact va_tlen hx hb (cd1 k (by omega)).2.2.2 hS rfl hd (kk ad H locs cells slots lsr (fun _ _ => rfl) (Nat.le_refl _) ⟨rel, lr, zw_c trivial (zw_t ws)⟩ hS rfl rfl)
      · cases he
  · cases he

theorem zs_vlen {B0 : Nat} {cad : Nat → Nat} {ov : Value} {L : Nat} {xs : Nat → Int32} {own : String} {cc : ByteArray} {nL : Nat} {ini : Bool} {pc : Nat} (hd : decode cc pc = .ok (.arraylength, 1)) : zSnd (zGG B0 cad ov L xs) own cc nL ini pc (o_vlen) := by
  intro ls st h pc' ls' st' h' he l p e R s m args below meth c D Q cx ad H locs cells slots lsr ok hS hc hs hR kk
  obtain ⟨hx, hb, hml, hown, hts, hK, hlk, hini, hcf, hB, ho⟩ := cx
  obtain ⟨rel, lr, ws⟩ := ok
  have r6 := rel.2.2.2.2.2
  have hcf0 : zCF B0 cad ov L xs s := hcf
  obtain ⟨⟨ca1, ca2, ca3, ca4⟩, ⟨cb1, cb2⟩, cc1, cd1, ce1, -, ⟨-, -, -, -, -, cg6⟩, -, -, -, -, ⟨co1, co2, co3⟩⟩ := hcf0
  unfold o_vlen at he
  split at he
  · rename_i a r
    split at he
    · rename_i hta
      cases he
      have r9 := r6 a (by rw [hta]; omega)
      have ha := zcT_43 (r9.2.1.trans hta)
      subst ha
      rw [List.map_cons, show zmv (zGG B0 cad ov L xs).2.2.2.2 ad (.ref 13) = .ref (cad 13) from congrArg Value.ref r9.2.2]
      exact va_tlen hx hb cb1 hS rfl hd (kk ad H locs cells slots lsr (fun _ _ => rfl) (Nat.le_refl _) ⟨rel, lr, zw_c trivial (zw_t ws)⟩ hS rfl rfl)
    · cases he
  · cases he

theorem zs_vald {B0 : Nat} {cad : Nat → Nat} {ov : Value} {L : Nat} {xs : Nat → Int32} {own : String} {cc : ByteArray} {nL : Nat} {ini : Bool} {pc : Nat} (hd : decode cc pc = .ok (.aaload, 1)) : zSnd (zGG B0 cad ov L xs) own cc nL ini pc (o_vald) := by
  intro ls st h pc' ls' st' h' he l p e R s m args below meth c D Q cx ad H locs cells slots lsr ok hS hc hs hR kk
  obtain ⟨hx, hb, hml, hown, hts, hK, hlk, hini, hcf, hB, ho⟩ := cx
  obtain ⟨rel, lr, ws⟩ := ok
  have r6 := rel.2.2.2.2.2
  have hcf0 : zCF B0 cad ov L xs s := hcf
  obtain ⟨⟨ca1, ca2, ca3, ca4⟩, ⟨cb1, cb2⟩, cc1, cd1, ce1, -, ⟨-, -, -, -, -, cg6⟩, -, -, -, -, ⟨co1, co2, co3⟩⟩ := hcf0
  unfold o_vald at he
  split at he
  · rename_i i a r
    split at he
    · rename_i hcond
      obtain ⟨hta, hi0, hil, hti⟩ := hcond
      cases he
      have r9 := r6 a (by rw [hta]; omega)
      have r8 := r6 i.toNatClampNeg (by rw [hti]; omega)
      have ha := zcT_43 (r9.2.1.trans hta)
      subst ha
      have hin9 : vp_in i 13 := fun q => q.elim hi0 (fun q => absurd q (Nat.not_le.mpr hil))
      have k2 := kk ad H locs cells slots lsr (fun _ _ => rfl) (Nat.le_refl _) ⟨rel, lr, zw_c r8.1 (zw_t (zw_t ws))⟩ hS rfl rfl
      rw [List.map_cons, show zmv (zGG B0 cad ov L xs).2.2.2.2 ad (.ref i.toNatClampNeg) = .ref (cad i.toNatClampNeg) from congrArg Value.ref r8.2.2] at k2
      rw [List.map_cons, List.map_cons, show zmv (zGG B0 cad ov L xs).2.2.2.2 ad (.ref 13) = .ref (cad 13) from congrArg Value.ref r9.2.2]
      exact vb_tq hx hb cb1 hS hin9 rfl hd k2
    · cases he
  · cases he

theorem zs_mald {B0 : Nat} {cad : Nat → Nat} {ov : Value} {L : Nat} {xs : Nat → Int32} {own : String} {cc : ByteArray} {nL : Nat} {ini : Bool} {pc : Nat} (hd : decode cc pc = .ok (.iaload, 1)) : zSnd (zGG B0 cad ov L xs) own cc nL ini pc (o_mald) := by
  intro ls st h pc' ls' st' h' he l p e R s m args below meth c D Q cx ad H locs cells slots lsr ok hS hc hs hR kk
  obtain ⟨hx, hb, hml, hown, hts, hK, hlk, hini, hcf, hB, ho⟩ := cx
  obtain ⟨rel, lr, ws⟩ := ok
  have r6 := rel.2.2.2.2.2
  have hcf0 : zCF B0 cad ov L xs s := hcf
  obtain ⟨⟨ca1, ca2, ca3, ca4⟩, ⟨cb1, cb2⟩, cc1, cd1, ce1, -, ⟨-, -, -, -, -, cg6⟩, -, -, -, -, ⟨co1, co2, co3⟩⟩ := hcf0
  unfold o_mald at he
  split at he
  · rename_i i a r
    split at he
    · rename_i hcond
      obtain ⟨hta, hi0, hil⟩ := hcond
      cases he
      have r9 := r6 a (by rw [hta]; omega)
      have ha := zcT_44 (r9.2.1.trans hta)
      subst ha
      have hin9 : vp_in i 13 := fun q => q.elim hi0 (fun q => absurd q (Nat.not_le.mpr hil))
      rw [List.map_cons, List.map_cons, show zmv (zGG B0 cad ov L xs).2.2.2.2 ad (.ref 14) = .ref (cad 14) from congrArg Value.ref r9.2.2]
      exact va_ti hx hb cb2 hS hin9 rfl hd (kk ad H locs cells slots lsr (fun _ _ => rfl) (Nat.le_refl _) ⟨rel, lr, zw_c trivial (zw_t (zw_t ws))⟩ hS rfl rfl)
    · cases he
  · cases he

theorem zs_xlen {B0 : Nat} {cad : Nat → Nat} {ov : Value} {L : Nat} {xs : Nat → Int32} {own : String} {cc : ByteArray} {nL : Nat} {ini : Bool} {pc : Nat} (hd : decode cc pc = .ok (.arraylength, 1)) : zSnd (zGG B0 cad ov L xs) own cc nL ini pc (o_xlen L) := by
  intro ls st h pc' ls' st' h' he l p e R s m args below meth c D Q cx ad H locs cells slots lsr ok hS hc hs hR kk
  obtain ⟨hx, hb, hml, hown, hts, hK, hlk, hini, hcf, hB, ho⟩ := cx
  obtain ⟨rel, lr, ws⟩ := ok
  have r6 := rel.2.2.2.2.2
  have hcf0 : zCF B0 cad ov L xs s := hcf
  obtain ⟨⟨ca1, ca2, ca3, ca4⟩, ⟨cb1, cb2⟩, cc1, cd1, ce1, -, ⟨-, -, -, -, -, cg6⟩, -, -, -, -, ⟨co1, co2, co3⟩⟩ := hcf0
  unfold o_xlen at he
  split at he
  · rename_i a r
    split at he
    · rename_i hta
      cases he
      have r9 := r6 a (by rw [hta]; omega)
      have ha := zcT_45 (r9.2.1.trans hta)
      subst ha
      rw [List.map_cons, show zmv (zGG B0 cad ov L xs).2.2.2.2 ad (.ref 15) = .ref (cad 15) from congrArg Value.ref r9.2.2]
      exact va_slen hx hb co1 co2 (by show ¬ B0 ≤ _; omega) hS hd (kk ad H locs cells slots lsr (fun _ _ => rfl) (Nat.le_refl _) ⟨rel, lr, zw_c trivial (zw_t ws)⟩ hS rfl rfl)
    · cases he
  · cases he

theorem zs_sald {B0 : Nat} {cad : Nat → Nat} {ov : Value} {L : Nat} {xs : Nat → Int32} {own : String} {cc : ByteArray} {nL : Nat} {ini : Bool} {pc : Nat} (hd : decode cc pc = .ok (.iaload, 1)) : zSnd (zGG B0 cad ov L xs) own cc nL ini pc (o_sald L xs) := by
  intro ls st h pc' ls' st' h' he l p e R s m args below meth c D Q cx ad H locs cells slots lsr ok hS hc hs hR kk
  obtain ⟨hx, hb, hml, hown, hts, hK, hlk, hini, hcf, hB, ho⟩ := cx
  obtain ⟨rel, lr, ws⟩ := ok
  have r6 := rel.2.2.2.2.2
  have hcf0 : zCF B0 cad ov L xs s := hcf
  obtain ⟨⟨ca1, ca2, ca3, ca4⟩, ⟨cb1, cb2⟩, cc1, cd1, ce1, -, ⟨-, -, -, -, -, cg6⟩, -, -, -, -, ⟨co1, co2, co3⟩⟩ := hcf0
  unfold o_sald at he
  split at he
  · rename_i i a r
    split at he
    · rename_i hcond
      obtain ⟨hta, hi0, hil⟩ := hcond
      cases he
      have r9 := r6 a (by rw [hta]; omega)
      have ha := zcT_45 (r9.2.1.trans hta)
      subst ha
      have hin9 : vp_in i L := fun q => q.elim hi0 (fun q => absurd q (Nat.not_le.mpr hil))
      rw [List.map_cons, List.map_cons, show zmv (zGG B0 cad ov L xs).2.2.2.2 ad (.ref 15) = .ref (cad 15) from congrArg Value.ref r9.2.2]
      exact va_sld hx hb co1 co2 (by show ¬ B0 ≤ _; omega) hS hin9 hd (kk ad H locs cells slots lsr (fun _ _ => rfl) (Nat.le_refl _) ⟨rel, lr, zw_c trivial (zw_t (zw_t ws))⟩ hS rfl rfl)
    · cases he
  · cases he

theorem gk_kref (k t n : Nat) : zGoK (o_kref k t n) := by
  intro pc ls st h a he
  unfold o_kref at he
  repeat' split at he
  all_goals first
    | (cases he; done)
    | (cases he; exact ⟨_, rfl, Nat.le_refl _, Nat.le_refl _, Nat.le_refl _⟩)

theorem gk_gfK (t : Nat) (f : Nat → Int32) : zGoK (o_gfK t f) := by
  intro pc ls st h a he
  unfold o_gfK at he
  repeat' split at he
  all_goals first
    | (cases he; done)
    | (cases he; exact ⟨_, rfl, Nat.le_refl _, Nat.le_refl _, Nat.le_refl _⟩)

theorem gk_gfW  : zGoK (o_gfW ) := by
  intro pc ls st h a he
  unfold o_gfW at he
  repeat' split at he
  all_goals first
    | (cases he; done)
    | (cases he; exact ⟨_, rfl, Nat.le_refl _, Nat.le_refl _, Nat.le_refl _⟩)

theorem gk_sval  : zGoK (o_sval ) := by
  intro pc ls st h a he
  unfold o_sval at he
  repeat' split at he
  all_goals first
    | (cases he; done)
    | (cases he; exact ⟨_, rfl, Nat.le_refl _, Nat.le_refl _, Nat.le_refl _⟩)

theorem gk_scod  : zGoK (o_scod ) := by
  intro pc ls st h a he
  unfold o_scod at he
  repeat' split at he
  all_goals first
    | (cases he; done)
    | (cases he; exact ⟨_, rfl, Nat.le_refl _, Nat.le_refl _, Nat.le_refl _⟩)

theorem gk_bald  : zGoK (o_bald ) := by
  intro pc ls st h a he
  unfold o_bald at he
  repeat' split at he
  all_goals first
    | (cases he; done)
    | (cases he; exact ⟨_, rfl, Nat.le_refl _, Nat.le_refl _, Nat.le_refl _⟩)

theorem gk_blen  : zGoK (o_blen ) := by
  intro pc ls st h a he
  unfold o_blen at he
  repeat' split at he
  all_goals first
    | (cases he; done)
    | (cases he; exact ⟨_, rfl, Nat.le_refl _, Nat.le_refl _, Nat.le_refl _⟩)

theorem gk_vlen  : zGoK (o_vlen ) := by
  intro pc ls st h a he
  unfold o_vlen at he
  repeat' split at he
  all_goals first
    | (cases he; done)
    | (cases he; exact ⟨_, rfl, Nat.le_refl _, Nat.le_refl _, Nat.le_refl _⟩)

theorem gk_vald  : zGoK (o_vald ) := by
  intro pc ls st h a he
  unfold o_vald at he
  repeat' split at he
  all_goals first
    | (cases he; done)
    | (cases he; exact ⟨_, rfl, Nat.le_refl _, Nat.le_refl _, Nat.le_refl _⟩)

theorem gk_mald  : zGoK (o_mald ) := by
  intro pc ls st h a he
  unfold o_mald at he
  repeat' split at he
  all_goals first
    | (cases he; done)
    | (cases he; exact ⟨_, rfl, Nat.le_refl _, Nat.le_refl _, Nat.le_refl _⟩)

theorem gk_xlen (L : Nat) : zGoK (o_xlen L) := by
  intro pc ls st h a he
  unfold o_xlen at he
  repeat' split at he
  all_goals first
    | (cases he; done)
    | (cases he; exact ⟨_, rfl, Nat.le_refl _, Nat.le_refl _, Nat.le_refl _⟩)

theorem gk_sald (L : Nat) (xs : Nat → Int32) : zGoK (o_sald L xs) := by
  intro pc ls st h a he
  unfold o_sald at he
  repeat' split at he
  all_goals first
    | (cases he; done)
    | (cases he; exact ⟨_, rfl, Nat.le_refl _, Nat.le_refl _, Nat.le_refl _⟩)

theorem zrecv_verb (B0 : Nat) (cad : Nat → Nat) (ov : Value) (L : Nat) (xs : Nat → Int32) : zRecv (zGG B0 cad ov L xs) "MailSessions$Verb" 40 40 := by
  intro D s ad h H locs a hK hG hS rel ht
  have ht : zT h a = 40 := ht.elim id id
  have r9 := rel.2.2.2.2.2 a (by rw [ht]; omega)
  have ha := zcT_40 (r9.2.1.trans ht)
  have c1 := (hG.2.2.1 a ha).1.kept hS.2.1
  obtain ⟨cell, h1, h2, h3, -⟩ := c1
  exact ⟨cell, by rw [r9.2.2]; exact h1, h2, h3⟩
theorem zrecv_str (B0 : Nat) (cad : Nat → Nat) (ov : Value) (L : Nat) (xs : Nat → Int32) : zRecv (zGG B0 cad ov L xs) RJ0 1 41 := by
  intro D s ad h H locs a hK hG hS rel ht
  rcases ht with ht | ht
  · exact zRecv_k (G := zGG B0 cad ov L xs) (k := 0) (C := RJ0) (T := TJ0) (N := 4) rfl (by decide) D s ad h H locs a hK hG hS rel (Or.inl ht)
  · have r9 := rel.2.2.2.2.2 a (by rw [ht]; omega)
    have ha := zcT_41 (r9.2.1.trans ht)
    obtain ⟨k, rfl⟩ := Nat.exists_eq_add_of_le ha.1
    have c1 := (hG.2.2.2.1 k (by omega)).1.kept hS.2.1
    obtain ⟨cell, h1, h2, h3, -⟩ := c1
    exact ⟨cell, by rw [r9.2.2]; exact h1, h2, h3⟩
/-- throw new E() -/
theorem zthr {B0 : Nat} {cad : Nat → Nat} {ov : Value} {L : Nat} {xs : Nat → Int32} {M : zMI} {pc ik ic : Nat} {E : String} (hE : E ∈ (["java/lang/IllegalArgumentException", "java/lang/IllegalStateException", "java/lang/IndexOutOfBoundsException", "java/util/NoSuchElementException"] : List String)) (hfit : Bundle.fit E = true)
    (hk : Cond.classLink M.1.cls ik E ∈ zTB) (hinc : Cond.initialized E ∈ zTB) (hgd : ∀ w ∈ (vx_at0 M.1.cls ic E ["java/lang/RuntimeException", "java/lang/Exception"]).filter goodWord, w ∈ zTB) (hng : ∀ w ∈ (vx_at0 M.1.cls ic E ["java/lang/RuntimeException", "java/lang/Exception"]).filter (fun w => !goodWord w), w ∈ [Cond.declares ⟨"java/lang/RuntimeException", "<init>", "()V"⟩, .declares ⟨"java/lang/Exception", "<init>", "()V"⟩, .declares ⟨"java/lang/Throwable", "<init>", "()V"⟩, .castable E E])
    (hot : ∀ w ∈ Cond.classLink M.1.cls ik E :: Cond.initialized E :: vx_at0 M.1.cls ic E ["java/lang/RuntimeException", "java/lang/Exception"], vx_ot w = true)
    (d0 : decode M.2.1 pc = .ok (.new ik, 3)) (d3 : decode M.2.1 (pc + 3) = .ok (.dup, 1)) (d4 : decode M.2.1 (pc + 4) = .ok (.invokespecial ic, 3)) (d7 : decode M.2.1 (pc + 7) = .ok (.athrow, 1)) : zThrOK (zGG B0 cad ov L xs) M pc (o_thr E) := by
  refine ⟨E, fun ls st h a he => ?_, ?_⟩
  · unfold o_thr at he
    split at he
    · rename_i hb
      cases he
      exact ⟨rfl, Nat.le_of_ble_eq_true hb⟩
    · cases he
  · intro l p e R s m args below meth c D hl cx hnoex H locs cells slots mc ms lsr rest Qc XC hsz hS hRf hRl hc hs hr hmc hms hx0
    obtain ⟨hx, hb, hml, hown, hts, hK, hlk, hini, hcf, hB, ho⟩ := cx
    have hcf0 : zCF B0 cad ov L xs s := hcf
    obtain ⟨-, -, -, -, -, -, -, ci1, cj1, ⟨ck1, ck2⟩, -, -⟩ := hcf0
    have hcat := zcat_sum rest
    refine vx_throw0 (names := ["java/lang/RuntimeException", "java/lang/Exception"]) hx hb hl hown hfit (by decide +kernel) (hts _ hk) (hts _ hinc) (vx_hat (fun w hw => hts _ (hgd w hw)) hng ?_) hot ck1 ck2 hS (by rw [hsz, hml]) d0 d3 d4 d7 (fun x hx => (hnoex x hx).elim) (by show 2 + 3 < R.frames; omega) (by show _ + (13 * (2 + 1) + 42) ≤ R.locals; omega) hc hs hlk hx0 hS.2.2 hmc hms
    intro w hw
    simp only [List.mem_cons, List.not_mem_nil, or_false] at hw
    rcases hw with rfl | rfl | rfl | rfl
    · exact va_Nw.use rfl (ci1 _ (by simp))
    · exact va_Nw.use rfl (ci1 _ (by simp))
    · exact va_Nw.use rfl (ci1 _ (by simp))
    · exact va_Nw.use rfl (cj1 _ hE)
