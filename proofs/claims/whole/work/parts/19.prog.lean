/-! ===== the program as a whole ===== -/
theorem zcat_154_0 {B0 : Nat} {cad : Nat → Nat} {ov : Value} {L : Nat} {xs : Nat → Int32} : zCatW (zGG B0 cad ov L xs) mi_154 5 "java/lang/IndexOutOfBoundsException" 20 := by
  intro l p e R s m args below meth c D Q cx htab H locs cells slots lsr rest qa ce hce hcv hcl kw
  obtain ⟨hx, hb, hml, hown, hts, hK, hlk, hini, hcf, hB, ho⟩ := cx
  have h : zCF B0 cad ov L xs s := hcf
  exact vx_catch (name := "java/lang/IndexOutOfBoundsException") hown [] ⟨0, 17, 20, 13⟩ [⟨0, 17, 24, 15⟩, ⟨0, 17, 28, 17⟩] (htab.trans rfl) (fun z hz => by cases hz) rfl (by decide) (hts _ zw_1_171) (va_Nw.use rfl (h.2.2.2.2.2.2.2.2.1 "java/lang/IndexOutOfBoundsException" (by simp))) hce hcv hcl kw
theorem zcat_154_1 {B0 : Nat} {cad : Nat → Nat} {ov : Value} {L : Nat} {xs : Nat → Int32} : zCatW (zGG B0 cad ov L xs) mi_154 5 "java/lang/IllegalStateException" 24 := by
  intro l p e R s m args below meth c D Q cx htab H locs cells slots lsr rest qa ce hce hcv hcl kw
  obtain ⟨hx, hb, hml, hown, hts, hK, hlk, hini, hcf, hB, ho⟩ := cx
  have h : zCF B0 cad ov L xs s := hcf
  exact vx_catch (name := "java/lang/IllegalStateException") hown [⟨0, 17, 20, 13⟩] ⟨0, 17, 24, 15⟩ [⟨0, 17, 28, 17⟩] (htab.trans rfl) (fun z hz => by
      simp only [List.mem_cons, List.not_mem_nil, or_false] at hz
      subst hz
      exact Or.inr ⟨by decide, _, hts _ zw_1_171, (h.2.2.2.2.2.2.2.2.2.2.1 ("java/lang/IllegalStateException", "java/lang/IndexOutOfBoundsException") (by simp))⟩) rfl (by decide) (hts _ zw_1_172) (va_Nw.use rfl (h.2.2.2.2.2.2.2.2.1 "java/lang/IllegalStateException" (by simp))) hce hcv hcl kw
theorem zcat_154_2 {B0 : Nat} {cad : Nat → Nat} {ov : Value} {L : Nat} {xs : Nat → Int32} : zCatW (zGG B0 cad ov L xs) mi_154 5 "java/lang/IllegalArgumentException" 28 := by
  intro l p e R s m args below meth c D Q cx htab H locs cells slots lsr rest qa ce hce hcv hcl kw
  obtain ⟨hx, hb, hml, hown, hts, hK, hlk, hini, hcf, hB, ho⟩ := cx
  have h : zCF B0 cad ov L xs s := hcf
  exact vx_catch (name := "java/lang/IllegalArgumentException") hown [⟨0, 17, 20, 13⟩, ⟨0, 17, 24, 15⟩] ⟨0, 17, 28, 17⟩ [] (htab.trans rfl) (fun z hz => by
      simp only [List.mem_cons, List.not_mem_nil, or_false] at hz
      rcases hz with rfl | rfl
      · exact Or.inr ⟨by decide, _, hts _ zw_1_171, (h.2.2.2.2.2.2.2.2.2.2.1 ("java/lang/IllegalArgumentException", "java/lang/IndexOutOfBoundsException") (by simp))⟩
      · exact Or.inr ⟨by decide, _, hts _ zw_1_172, (h.2.2.2.2.2.2.2.2.2.2.1 ("java/lang/IllegalArgumentException", "java/lang/IllegalStateException") (by simp))⟩) rfl (by decide) (hts _ zw_1_173) (va_Nw.use rfl (h.2.2.2.2.2.2.2.2.1 "java/lang/IllegalArgumentException" (by simp))) hce hcv hcl kw
theorem zcat_155_0 {B0 : Nat} {cad : Nat → Nat} {ov : Value} {L : Nat} {xs : Nat → Int32} : zCatW (zGG B0 cad ov L xs) mi_155 4 "java/lang/IndexOutOfBoundsException" 12 := by
  intro l p e R s m args below meth c D Q cx htab H locs cells slots lsr rest qa ce hce hcv hcl kw
  obtain ⟨hx, hb, hml, hown, hts, hK, hlk, hini, hcf, hB, ho⟩ := cx
  have h : zCF B0 cad ov L xs s := hcf
  exact vx_catch (name := "java/lang/IndexOutOfBoundsException") hown [] ⟨0, 9, 12, 13⟩ [⟨0, 9, 15, 15⟩, ⟨0, 9, 18, 17⟩] (htab.trans rfl) (fun z hz => by cases hz) rfl (by decide) (hts _ zw_1_171) (va_Nw.use rfl (h.2.2.2.2.2.2.2.2.1 "java/lang/IndexOutOfBoundsException" (by simp))) hce hcv hcl kw
theorem zcat_155_1 {B0 : Nat} {cad : Nat → Nat} {ov : Value} {L : Nat} {xs : Nat → Int32} : zCatW (zGG B0 cad ov L xs) mi_155 4 "java/lang/IllegalStateException" 15 := by
  intro l p e R s m args below meth c D Q cx htab H locs cells slots lsr rest qa ce hce hcv hcl kw
  obtain ⟨hx, hb, hml, hown, hts, hK, hlk, hini, hcf, hB, ho⟩ := cx
  have h : zCF B0 cad ov L xs s := hcf
  exact vx_catch (name := "java/lang/IllegalStateException") hown [⟨0, 9, 12, 13⟩] ⟨0, 9, 15, 15⟩ [⟨0, 9, 18, 17⟩] (htab.trans rfl) (fun z hz => by
      simp only [List.mem_cons, List.not_mem_nil, or_false] at hz
      subst hz
      exact Or.inr ⟨by decide, _, hts _ zw_1_171, (h.2.2.2.2.2.2.2.2.2.2.1 ("java/lang/IllegalStateException", "java/lang/IndexOutOfBoundsException") (by simp))⟩) rfl (by decide) (hts _ zw_1_172) (va_Nw.use rfl (h.2.2.2.2.2.2.2.2.1 "java/lang/IllegalStateException" (by simp))) hce hcv hcl kw
theorem zcat_155_2 {B0 : Nat} {cad : Nat → Nat} {ov : Value} {L : Nat} {xs : Nat → Int32} : zCatW (zGG B0 cad ov L xs) mi_155 4 "java/lang/IllegalArgumentException" 18 := by
  intro l p e R s m args below meth c D Q cx htab H locs cells slots lsr rest qa ce hce hcv hcl kw
  obtain ⟨hx, hb, hml, hown, hts, hK, hlk, hini, hcf, hB, ho⟩ := cx
  have h : zCF B0 cad ov L xs s := hcf
  exact vx_catch (name := "java/lang/IllegalArgumentException") hown [⟨0, 9, 12, 13⟩, ⟨0, 9, 15, 15⟩] ⟨0, 9, 18, 17⟩ [] (htab.trans rfl) (fun z hz => by
      simp only [List.mem_cons, List.not_mem_nil, or_false] at hz
      rcases hz with rfl | rfl
      · exact Or.inr ⟨by decide, _, hts _ zw_1_171, (h.2.2.2.2.2.2.2.2.2.2.1 ("java/lang/IllegalArgumentException", "java/lang/IndexOutOfBoundsException") (by simp))⟩
      · exact Or.inr ⟨by decide, _, hts _ zw_1_172, (h.2.2.2.2.2.2.2.2.2.2.1 ("java/lang/IllegalArgumentException", "java/lang/IllegalStateException") (by simp))⟩) rfl (by decide) (hts _ zw_1_173) (va_Nw.use rfl (h.2.2.2.2.2.2.2.2.1 "java/lang/IllegalArgumentException" (by simp))) hce hcv hcl kw
theorem zcat_156_0 {B0 : Nat} {cad : Nat → Nat} {ov : Value} {L : Nat} {xs : Nat → Int32} : zCatW (zGG B0 cad ov L xs) mi_156 2 "java/lang/IndexOutOfBoundsException" 8 := by
  intro l p e R s m args below meth c D Q cx htab H locs cells slots lsr rest qa ce hce hcv hcl kw
  obtain ⟨hx, hb, hml, hown, hts, hK, hlk, hini, hcf, hB, ho⟩ := cx
  have h : zCF B0 cad ov L xs s := hcf
  exact vx_catch (name := "java/lang/IndexOutOfBoundsException") hown [] ⟨0, 5, 8, 13⟩ [⟨0, 5, 11, 15⟩] (htab.trans rfl) (fun z hz => by cases hz) rfl (by decide) (hts _ zw_1_171) (va_Nw.use rfl (h.2.2.2.2.2.2.2.2.1 "java/lang/IndexOutOfBoundsException" (by simp))) hce hcv hcl kw
theorem zcat_156_1 {B0 : Nat} {cad : Nat → Nat} {ov : Value} {L : Nat} {xs : Nat → Int32} : zCatW (zGG B0 cad ov L xs) mi_156 2 "java/lang/IllegalStateException" 11 := by
  intro l p e R s m args below meth c D Q cx htab H locs cells slots lsr rest qa ce hce hcv hcl kw
  obtain ⟨hx, hb, hml, hown, hts, hK, hlk, hini, hcf, hB, ho⟩ := cx
  have h : zCF B0 cad ov L xs s := hcf
  exact vx_catch (name := "java/lang/IllegalStateException") hown [⟨0, 5, 8, 13⟩] ⟨0, 5, 11, 15⟩ [] (htab.trans rfl) (fun z hz => by
      simp only [List.mem_cons, List.not_mem_nil, or_false] at hz
      subst hz
      exact Or.inr ⟨by decide, _, hts _ zw_1_171, (h.2.2.2.2.2.2.2.2.2.2.1 ("java/lang/IllegalStateException", "java/lang/IndexOutOfBoundsException") (by simp))⟩) rfl (by decide) (hts _ zw_1_172) (va_Nw.use rfl (h.2.2.2.2.2.2.2.2.1 "java/lang/IllegalStateException" (by simp))) hce hcv hcl kw
theorem zcat_157_0 {B0 : Nat} {cad : Nat → Nat} {ov : Value} {L : Nat} {xs : Nat → Int32} : zCatW (zGG B0 cad ov L xs) mi_157 4 "java/lang/IndexOutOfBoundsException" 12 := by
  intro l p e R s m args below meth c D Q cx htab H locs cells slots lsr rest qa ce hce hcv hcl kw
  obtain ⟨hx, hb, hml, hown, hts, hK, hlk, hini, hcf, hB, ho⟩ := cx
  have h : zCF B0 cad ov L xs s := hcf
  exact vx_catch (name := "java/lang/IndexOutOfBoundsException") hown [] ⟨0, 9, 12, 13⟩ [] (htab.trans rfl) (fun z hz => by cases hz) rfl (by decide) (hts _ zw_1_171) (va_Nw.use rfl (h.2.2.2.2.2.2.2.2.1 "java/lang/IndexOutOfBoundsException" (by simp))) hce hcv hcl kw
theorem zcat_158_0 {B0 : Nat} {cad : Nat → Nat} {ov : Value} {L : Nat} {xs : Nat → Int32} : zCatW (zGG B0 cad ov L xs) mi_158 5 "java/lang/IndexOutOfBoundsException" 13 := by
  intro l p e R s m args below meth c D Q cx htab H locs cells slots lsr rest qa ce hce hcv hcl kw
  obtain ⟨hx, hb, hml, hown, hts, hK, hlk, hini, hcf, hB, ho⟩ := cx
  have h : zCF B0 cad ov L xs s := hcf
  exact vx_catch (name := "java/lang/IndexOutOfBoundsException") hown [] ⟨0, 10, 13, 13⟩ [] (htab.trans rfl) (fun z hz => by cases hz) rfl (by decide) (hts _ zw_1_171) (va_Nw.use rfl (h.2.2.2.2.2.2.2.2.1 "java/lang/IndexOutOfBoundsException" (by simp))) hce hcv hcl kw
theorem zcat_159_0 {B0 : Nat} {cad : Nat → Nat} {ov : Value} {L : Nat} {xs : Nat → Int32} : zCatW (zGG B0 cad ov L xs) mi_159 7 "java/util/NoSuchElementException" 15 := by
  intro l p e R s m args below meth c D Q cx htab H locs cells slots lsr rest qa ce hce hcv hcl kw
  obtain ⟨hx, hb, hml, hown, hts, hK, hlk, hini, hcf, hB, ho⟩ := cx
  have h : zCF B0 cad ov L xs s := hcf
  exact vx_catch (name := "java/util/NoSuchElementException") hown [] ⟨0, 12, 15, 38⟩ [] (htab.trans rfl) (fun z hz => by cases hz) rfl (by decide) (hts _ zw_4_103) (va_Nw.use rfl (h.2.2.2.2.2.2.2.2.1 "java/util/NoSuchElementException" (by simp))) hce hcv hcl kw
def zKl (L : Nat) (xs : Nat → Int32) : List (List (Nat × zOp)) := [zK0 L xs, zK1 L xs, zK2 L xs, zK3 L xs, zK4 L xs, zK5 L xs, zK6 L xs, zK7 L xs, zK8 L xs, zK9 L xs, zK10 L xs, zK11 L xs, zK12 L xs, zK13 L xs, zK14 L xs, zK15 L xs, zK16 L xs, zK17 L xs, zK18 L xs, zK19 L xs, zK20 L xs, zK21 L xs, zK22 L xs, zK23 L xs, zK24 L xs, zK25 L xs, zK26 L xs, zK27 L xs, zK28 L xs, zK29 L xs, zK30 L xs, zK31 L xs, zK32 L xs, zK33 L xs, zK34 L xs, zK35 L xs, zK36 L xs, zK37 L xs, zK38 L xs, zK39 L xs, zK40 L xs, zK41 L xs, zK42 L xs, zK43 L xs, zK44 L xs, zK45 L xs, zK46 L xs, zK47 L xs, zK48 L xs, zK49 L xs, zK50 L xs, zK51 L xs, zK52 L xs, zK53 L xs, zK54 L xs, zK55 L xs, zK56 L xs, zK57 L xs, zK58 L xs, zK59 L xs, zK60 L xs, zK61 L xs, zK62 L xs, zK63 L xs, zK64 L xs, zK65 L xs, zK66 L xs, zK67 L xs, zK68 L xs, zK69 L xs, zK70 L xs, zK71 L xs, zK72 L xs, zK73 L xs, zK74 L xs, zK75 L xs, zK76 L xs, zK77 L xs, zK78 L xs, zK79 L xs, zK80 L xs, zK81 L xs, zK82 L xs, zK83 L xs, zK84 L xs, zK85 L xs, zK86 L xs, zK87 L xs, zK88 L xs, zK89 L xs, zK90 L xs, zK91 L xs, zK92 L xs, zK93 L xs, zK94 L xs, zK95 L xs, zK96 L xs, zK97 L xs, zK98 L xs, zK99 L xs, zK100 L xs, zK101 L xs, zK102 L xs, zK103 L xs, zK104 L xs, zK105 L xs, zK106 L xs, zK107 L xs, zK108 L xs, zK109 L xs, zK110 L xs, zK111 L xs, zK112 L xs, zK113 L xs, zK114 L xs, zK115 L xs, zK116 L xs, zK117 L xs, zK118 L xs, zK119 L xs, zK120 L xs, zK121 L xs, zK122 L xs, zK123 L xs, zK124 L xs, zK125 L xs, zK126 L xs, zK127 L xs, zK128 L xs, zK129 L xs, zK130 L xs, zK131 L xs, zK132 L xs, zK133 L xs, zK134 L xs, zK135 L xs, zK136 L xs, zK137 L xs, zK138 L xs, zK139 L xs, zK140 L xs, zK141 L xs, zK142 L xs, zK143 L xs, zK144 L xs, zK145 L xs, zK146 L xs, zK147 L xs, zK148 L xs, zK149 L xs, zK150 L xs, zK151 L xs, zK152 L xs, zK153 L xs, zK154 L xs, zK155 L xs, zK156 L xs, zK157 L xs, zK158 L xs, zK159 L xs, zK160 L xs]
def zRkl : List Nat := [0, 3, 2, 1, 3, 3, 2, 0, 0, 1, 2, 0, 1, 0, 1, 0, 0, 0, 0, 0, 0, 1, 0, 0, 0, 33, 5, 32, 1, 1, 5, 5, 4, 4, 0, 6, 6, 2, 1, 0, 0, 1, 4, 0, 0, 4, 1, 5, 6, 4, 1, 7, 1, 1, 7, 7, 2, 5, 8, 7, 6, 0, 0, 0, 0, 1, 0, 0, 5, 4, 2, 2, 34, 1, 1, 1, 0, 1, 2, 0, 1, 0, 0, 1, 0, 8, 0, 0, 0, 0, 1, 0, 0, 0, 0, 1, 1, 1, 0, 2, 1, 1, 2, 1, 1, 2, 2, 0, 3, 0, 1, 4, 0, 2, 2, 5, 2, 6, 7, 0, 1, 1, 1, 2, 3, 1, 0, 4, 5, 6, 0, 0, 3, 4, 4, 1, 1, 6, 5, 0, 0, 7, 3, 0, 4, 1, 8, 1, 1, 1, 1, 0, 1, 1, 3, 35, 2, 2, 2, 3, 36]
def zRank (y : Nat) (as : List Value) : Nat := if y = 36 then (match as with
  | [_, .int a] => 6 + 2 * (10 - a.toNatClampNeg)
  | _ => 0) else if y = 35 then (match as with
  | [_, .int a] => 6 + 2 * (10 - a.toNatClampNeg) + 1
  | _ => 0) else zRkl.getD y 0
def zHl : List (Nat × Nat × String × Nat) := [(154, 5, "java/lang/IndexOutOfBoundsException", 20), (154, 5, "java/lang/IllegalStateException", 24), (154, 5, "java/lang/IllegalArgumentException", 28), (155, 4, "java/lang/IndexOutOfBoundsException", 12), (155, 4, "java/lang/IllegalStateException", 15), (155, 4, "java/lang/IllegalArgumentException", 18), (156, 2, "java/lang/IndexOutOfBoundsException", 8), (156, 2, "java/lang/IllegalStateException", 11), (157, 4, "java/lang/IndexOutOfBoundsException", 12), (158, 5, "java/lang/IndexOutOfBoundsException", 13), (159, 7, "java/util/NoSuchElementException", 15)]
def zHand (y pc : Nat) (E : String) : Option (Option Nat) := if (zM y).2.2.2.2 = [] then some none else (match zHl.find? (fun q => q.1 == y && (q.2.1 == pc && q.2.2.1 == E)) with
  | some q => some (some q.2.2.2)
  | none => none)
def zPr (L : Nat) (xs : Nat → Int32) : zP := (fun y => zlk ((zKl L xs).getD y []), zRank, fun y as => zEn (zM y).2.2.1 as, zHand)
def zF2 (G : zG) (M : Nat → zMI) : List zMI → List (List (Nat × zOp)) → Prop
  | m :: ms, k :: ks => zV G M m k ∧ zF2 G M ms ks
  | [], [] => True
  | _, _ => False
theorem zF2_at {G : zG} {M : Nat → zMI} : ∀ {ms : List zMI} {ks : List (List (Nat × zOp))}, zF2 G M ms ks → ∀ (y : Nat) (d : zMI), zV G M (ms.getD y d) (ks.getD y [])
  | [], [], _, y, d => by simp; exact znil
  | [], _ :: _, h, _, _ => h.elim
  | _ :: _, [], h, _, _ => h.elim
  | m :: ms, k :: ks, h, 0, d => h.1
  | m :: ms, k :: ks, h, y + 1, d => zF2_at h.2 y d
theorem zF2_all {B0 : Nat} {cad : Nat → Nat} {ov : Value} {L : Nat} {xs : Nat → Int32} : zF2 (zGG B0 cad ov L xs) zM zMl (zKl L xs) := ⟨zV0, ⟨zV1, ⟨zV2, ⟨zV3, ⟨zV4, ⟨zV5, ⟨zV6, ⟨zV7, ⟨zV8, ⟨zV9, ⟨zV10, ⟨zV11, ⟨zV12, ⟨zV13, ⟨zV14, ⟨zV15, ⟨zV16, ⟨zV17, ⟨zV18, ⟨zV19, ⟨zV20, ⟨zV21, ⟨zV22, ⟨zV23, ⟨zV24, ⟨zV25, ⟨zV26, ⟨zV27, ⟨zV28, ⟨zV29, ⟨zV30, ⟨zV31, ⟨zV32, ⟨zV33, ⟨zV34, ⟨zV35, ⟨zV36, ⟨zV37, ⟨zV38, ⟨zV39, ⟨zV40, ⟨zV41, ⟨zV42, ⟨zV43, ⟨zV44, ⟨zV45, ⟨zV46, ⟨zV47, ⟨zV48, ⟨zV49, ⟨zV50, ⟨zV51, ⟨zV52, ⟨zV53, ⟨zV54, ⟨zV55, ⟨zV56, ⟨zV57, ⟨zV58, ⟨zV59, ⟨zV60, ⟨zV61, ⟨zV62, ⟨zV63, ⟨zV64, ⟨zV65, ⟨zV66, ⟨zV67, ⟨zV68, ⟨zV69, ⟨zV70, ⟨zV71, ⟨zV72, ⟨zV73, ⟨zV74, ⟨zV75, ⟨zV76, ⟨zV77, ⟨zV78, ⟨zV79, ⟨zV80, ⟨zV81, ⟨zV82, ⟨zV83, ⟨zV84, ⟨zV85, ⟨zV86, ⟨zV87, ⟨zV88, ⟨zV89, ⟨zV90, ⟨zV91, ⟨zV92, ⟨zV93, ⟨zV94, ⟨zV95, ⟨zV96, ⟨zV97, ⟨zV98, ⟨zV99, ⟨zV100, ⟨zV101, ⟨zV102, ⟨zV103, ⟨zV104, ⟨zV105, ⟨zV106, ⟨zV107, ⟨zV108, ⟨zV109, ⟨zV110, ⟨zV111, ⟨zV112, ⟨zV113, ⟨zV114, ⟨zV115, ⟨zV116, ⟨zV117, ⟨zV118, ⟨zV119, ⟨zV120, ⟨zV121, ⟨zV122, ⟨zV123, ⟨zV124, ⟨zV125, ⟨zV126, ⟨zV127, ⟨zV128, ⟨zV129, ⟨zV130, ⟨zV131, ⟨zV132, ⟨zV133, ⟨zV134, ⟨zV135, ⟨zV136, ⟨zV137, ⟨zV138, ⟨zV139, ⟨zV140, ⟨zV141, ⟨zV142, ⟨zV143, ⟨zV144, ⟨zV145, ⟨zV146, ⟨zV147, ⟨zV148, ⟨zV149, ⟨zV150, ⟨zV151, ⟨zV152, ⟨zV153, ⟨zV154, ⟨zV155, ⟨zV156, ⟨zV157, ⟨zV158, ⟨zV159, ⟨zV160, trivial⟩⟩⟩⟩⟩⟩⟩⟩⟩⟩⟩⟩⟩⟩⟩⟩⟩⟩⟩⟩⟩⟩⟩⟩⟩⟩⟩⟩⟩⟩⟩⟩⟩⟩⟩⟩⟩⟩⟩⟩⟩⟩⟩⟩⟩⟩⟩⟩⟩⟩⟩⟩⟩⟩⟩⟩⟩⟩⟩⟩⟩⟩⟩⟩⟩⟩⟩⟩⟩⟩⟩⟩⟩⟩⟩⟩⟩⟩⟩⟩⟩⟩⟩⟩⟩⟩⟩⟩⟩⟩⟩⟩⟩⟩⟩⟩⟩⟩⟩⟩⟩⟩⟩⟩⟩⟩⟩⟩⟩⟩⟩⟩⟩⟩⟩⟩⟩⟩⟩⟩⟩⟩⟩⟩⟩⟩⟩⟩⟩⟩⟩⟩⟩⟩⟩⟩⟩⟩⟩⟩⟩⟩⟩⟩⟩⟩⟩⟩⟩⟩⟩⟩⟩⟩⟩⟩⟩⟩⟩⟩⟩
theorem zPr_ok {B0 : Nat} {cad : Nat → Nat} {ov : Value} {L : Nat} {xs : Nat → Int32} : ∀ y pc, zOkOp (zGG B0 cad ov L xs) zM (zM y) pc ((zPr L xs).1 y pc) := fun y pc => zlk_ok (zF2_at zF2_all y mi_0) pc
