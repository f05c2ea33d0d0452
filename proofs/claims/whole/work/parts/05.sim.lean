/-! ===== the abstract machine's states as pictures of the machine's; the operations that touch a frame alone ===== -/
def zmv (o : Value) (ad : Nat → Nat) : Value → Value
  | .ref a => .ref (ad a)
  | .float _ => o
  | v => v
def zOV (o : Value) : Prop := o = .null ∨ ∃ q, o = .ref q
def zwf (n : Nat) : Value → Prop
  | .ref a => a < n
  | _ => True
theorem zmv_cat {o : Value} (ho : zOV o) (ad : Nat → Nat) (v : Value) : (zmv o ad v).category = v.category := by
  cases v <;> first | rfl | (rcases ho with rfl | ⟨q, rfl⟩ <;> rfl)
theorem zmv_isR {o : Value} (ho : zOV o) (ad : Nat → Nat) {v : Value} (h : zIsR v = true) : zmv o ad v = .null ∨ ∃ x : Nat, zmv o ad v = .ref x := by
  cases v <;> first | (cases h; done) | exact Or.inl rfl | exact Or.inr ⟨_, rfl⟩ | exact ho
theorem zC1_cat {v : Value} (h : zC1 v = true) : v.category = 1 := by cases v <;> first | rfl | cases h
theorem zIsR_cat {v : Value} (h : zIsR v = true) : v.category = 1 := by cases v <;> first | rfl | cases h
theorem zmv_congr {o : Value} {ad ad' : Nat → Nat} {n : Nat} (hx : ∀ a, a < n → ad' a = ad a) {v : Value} (h : zwf n v) : zmv o ad' v = zmv o ad v := by
  cases v <;> first | rfl | exact congrArg Value.ref (hx _ h)
theorem zwf_mono {n k : Nat} (hk : n ≤ k) {v : Value} (h : zwf n v) : zwf k v := by
  cases v <;> first | trivial | exact Nat.lt_of_lt_of_le h hk
theorem zmv_rf (o : Value) (ad : Nat → Nat) (r : Option Nat) : zmv o ad (va_rf r) = va_rf (r.map ad) := by cases r <;> rfl
/-- locals as pairs -/
def zAL (o : Value) (ad : Nat → Nat) (ls : List Slot) : List (Nat × Value) := (List.range ls.length).filterMap (fun i => match (ls[i]? : Option Slot) with
  | some (Slot.val v) => some (i, zmv o ad v)
  | _ => none)
theorem zAL_mem {o : Value} {ad : Nat → Nat} {ls : List Slot} {i : Nat} {w : Value} : (i, w) ∈ zAL o ad ls ↔ ∃ v, ls[i]? = some (Slot.val v) ∧ zmv o ad v = w := by
  unfold zAL
  rw [List.mem_filterMap]
  constructor
  · rintro ⟨j, hj, he⟩
    cases hl : ls[j]? with
    | none => rw [hl] at he; cases he
    | some x =>
      rw [hl] at he
      cases x with
      | unset => cases he
      | second => cases he
      | val v =>
        injection he with he
        injection he with e1 e2
        subst e1
        exact ⟨v, hl, e2⟩
  · rintro ⟨v, hv, rfl⟩
    refine ⟨i, List.mem_range.mpr (List.getElem?_eq_some_iff.mp hv).1, ?_⟩
    rw [hv]
def zlw (ls : List Slot) : Prop := ∀ (i : Nat) (v : Value), ls[i]? = some (Slot.val v) → v.category = 2 → ls[i + 1]? = some .second
/-- the abstract locals ls, the machine's lsr -/
def zLR (o : Value) (ad : Nat → Nat) (n nL : Nat) (ls : List Slot) (lsr : Array Slot) : Prop := lv_has lsr nL (zAL o ad ls) ∧ zlw ls ∧ (∀ (i : Nat) (v : Value), ls[i]? = some (Slot.val v) → zwf n v) ∧ ls.length = nL
theorem zLR_at {o : Value} {ad : Nat → Nat} {n nL : Nat} {ls : List Slot} {lsr : Array Slot} (h : zLR o ad n nL ls lsr) {i : Nat} {v : Value} (hv : ls[i]? = some (Slot.val v)) : lsr[i]? = some (.val (zmv o ad v)) := h.1.2.2 (i, zmv o ad v) (zAL_mem.mpr ⟨v, hv, rfl⟩)
theorem zLR_ix {o : Value} {ad : Nat → Nat} {n nL : Nat} {ls : List Slot} {lsr : Array Slot} (h : zLR o ad n nL ls lsr) {i : Nat} {v : Value} (hv : ls[i]? = some (Slot.val v)) : ∃ k : Nat, (zAL o ad ls)[k]? = some (i, zmv o ad v) := List.getElem?_of_mem (zAL_mem.mpr ⟨v, hv, rfl⟩)
theorem zLR_ext {o : Value} {ad ad' : Nat → Nat} {n k nL : Nat} {ls : List Slot} {lsr : Array Slot} (hx : ∀ a, a < n → ad' a = ad a) (hk : n ≤ k) (h : zLR o ad n nL ls lsr) : zLR o ad' k nL ls lsr := by
  obtain ⟨h1, h2, h3, h4⟩ := h
  refine ⟨⟨h1.1, h1.2.1, fun q hq => ?_⟩, h2, fun i v hv => zwf_mono hk (h3 i v hv), h4⟩
  obtain ⟨i, w⟩ := q
  obtain ⟨v, hv, rfl⟩ := zAL_mem.mp hq
  exact h1.2.2 _ (zAL_mem.mpr ⟨v, hv, (zmv_congr hx (h3 i v hv)).symm⟩)
theorem zst1_ok {o : Value} (ho : zOV o) {ad : Nat → Nat} {n nL : Nat} {ls ls' : List Slot} {lsr : Array Slot} {i : Nat} {v : Value} (h : zLR o ad n nL ls lsr) (he : zst1 ls i v = some ls') (hc : v.category = 1) (hv : zwf n v) :
    i < nL ∧ ∀ lsr', lv_has lsr' nL ((i, zmv o ad v) :: (zAL o ad ls).filter (fun q => !(q.1 == i) && !(q.1 + 1 == i && q.2.category == 2))) → zLR o ad n nL ls' lsr' := by
  obtain ⟨h1, h2, h3, h4⟩ := h
  unfold zst1 at he
  cases hi : ls[i]? with
  | none => rw [hi] at he; cases he
  | some x =>
    have hil : i < ls.length := (List.getElem?_eq_some_iff.mp hi).1
    refine ⟨by omega, fun lsr' hr => ?_⟩
    have hx : x ≠ .second := by rintro rfl; rw [hi] at he; cases he
    have hget : ∀ j, ls'[j]? = if j = i then some (.val v) else if j = i + 1 ∧ ls[i + 1]? = some .second then some .unset else ls[j]? := by
      intro j
      have he2 : ls' = (if ls[i + 1]? = some .second then (ls.set i (.val v)).set (i + 1) .unset else ls.set i (.val v)) := by
        rw [hi] at he
        cases x with
        | second => exact absurd rfl hx
        | unset =>
          dsimp only at he
          split at he
          · rename_i h9; injection he with he; rw [if_pos h9]; exact he.symm
          · rename_i h9; injection he with he; rw [if_neg (fun h8 => h9 h8)]; exact he.symm
        | val y =>
          dsimp only at he
          split at he
          · rename_i h9; injection he with he; rw [if_pos h9]; exact he.symm
          · rename_i h9; injection he with he; rw [if_neg (fun h8 => h9 h8)]; exact he.symm
      rw [he2]
      by_cases h9 : ls[i + 1]? = some .second
      · rw [if_pos h9]
        have hl2 : i + 1 < ls.length := (List.getElem?_eq_some_iff.mp h9).1
        rw [List.getElem?_set, List.getElem?_set]
        by_cases a : j = i
        · subst a; simp [hil]
        · by_cases b : j = i + 1
          · subst b; rw [if_pos rfl, if_pos (by simpa using hl2), if_neg a, if_pos ⟨rfl, h9⟩]
          · rw [if_neg (fun q => b q.symm), if_neg (fun q => a q.symm), if_neg a, if_neg (fun q => b q.1)]
      · rw [if_neg h9, List.getElem?_set]
        by_cases a : j = i
        · subst a; simp [hil]
        · rw [if_neg (fun q => a q.symm), if_neg a, if_neg (fun q => h9 q.2)]
    have hlen : ls'.length = ls.length := by
      rw [hi] at he
      cases x with
      | second => exact absurd rfl hx
      | unset => dsimp only at he; split at he <;> (injection he with he; rw [← he]; simp)
      | val y => dsimp only at he; split at he <;> (injection he with he; rw [← he]; simp)
    refine ⟨⟨hr.1, hr.2.1, fun q hq => ?_⟩, fun j w hj hw => ?_, fun j w hj => ?_, by omega⟩
    · obtain ⟨j, z⟩ := q
      obtain ⟨w, hw, rfl⟩ := zAL_mem.mp hq
      rw [hget j] at hw
      by_cases a : j = i
      · rw [if_pos a] at hw
        injection hw with hw; injection hw with hw
        subst hw; subst a
        exact hr.2.2 _ List.mem_cons_self
      · rw [if_neg a] at hw
        by_cases b : j = i + 1 ∧ ls[i + 1]? = some .second
        · rw [if_pos b] at hw; cases hw
        · rw [if_neg b] at hw
          refine hr.2.2 _ (List.mem_cons_of_mem _ (List.mem_filter.mpr ⟨zAL_mem.mpr ⟨w, hw, rfl⟩, ?_⟩))
          have c1 : ¬ (j + 1 = i ∧ w.category = 2) := by
            rintro ⟨e1, e2⟩
            have := h2 j w hw e2
            rw [e1, hi] at this
            injection this with this
            exact hx this
          simp only [Bool.and_eq_true, Bool.not_eq_true', beq_eq_false_iff_ne, ne_eq, Bool.and_eq_false_iff]
          refine ⟨a, ?_⟩
          by_cases e1 : j + 1 = i
          · right
            rw [zmv_cat ho]
            exact fun e2 => c1 ⟨e1, e2⟩
          · exact Or.inl e1
    · rw [hget j] at hj
      by_cases a : j = i
      · rw [if_pos a] at hj
        injection hj with hj; injection hj with hj
        subst hj
        omega
      · rw [if_neg a] at hj
        by_cases b : j = i + 1 ∧ ls[i + 1]? = some .second
        · rw [if_pos b] at hj; cases hj
        · rw [if_neg b] at hj
          have h5 := h2 j w hj hw
          have n1 : j + 1 ≠ i := by
            intro e1
            rw [e1, hi] at h5
            injection h5 with h5
            exact hx h5
          rw [hget (j + 1), if_neg n1, if_neg (fun q => a (by omega))]
          exact h5
    · rw [hget j] at hj
      by_cases a : j = i
      · rw [if_pos a] at hj
        injection hj with hj; injection hj with hj
        subst hj
        exact hv
      · rw [if_neg a] at hj
        by_cases b : j = i + 1 ∧ ls[i + 1]? = some .second
        · rw [if_pos b] at hj; cases hj
        · rw [if_neg b] at hj
          exact h3 j w hj
theorem zst2_ok {o : Value} (ho : zOV o) {ad : Nat → Nat} {n nL : Nat} {ls ls' : List Slot} {lsr : Array Slot} {i : Nat} {x : Int64} (h : zLR o ad n nL ls lsr) (he : zst2 ls i (.long x) = some ls') :
    i + 1 < nL ∧ ∀ lsr', lv_has lsr' nL ((i, Value.long x) :: (zAL o ad ls).filter (fun q => !(q.1 == i) && (!(q.1 == i + 1) && !(q.1 + 1 == i && q.2.category == 2)))) → zLR o ad n nL ls' lsr' := by
  obtain ⟨h1, h2, h3, h4⟩ := h
  unfold zst2 at he
  cases hi : ls[i]? with
  | none => rw [hi] at he; cases he
  | some x0 =>
    have hx : x0 ≠ .second := by rintro rfl; rw [hi] at he; cases he
    cases hi1 : ls[i + 1]? with
    | none => rw [hi, hi1] at he; cases x0 <;> cases he
    | some x1 =>
      have hil : i < ls.length := (List.getElem?_eq_some_iff.mp hi).1
      have hil1 : i + 1 < ls.length := (List.getElem?_eq_some_iff.mp hi1).1
      refine ⟨by omega, fun lsr' hr => ?_⟩
      have he2 : ls' = (if ls[i + 2]? = some .second then ((ls.set i (.val (.long x))).set (i + 1) .second).set (i + 2) .unset else (ls.set i (.val (.long x))).set (i + 1) .second) := by
        rw [hi, hi1] at he
        cases x0 with
        | second => exact absurd rfl hx
        | unset =>
          dsimp only at he
          split at he
          · rename_i h9; injection he with he; rw [if_pos h9]; exact he.symm
          · rename_i h9; injection he with he; rw [if_neg (fun h8 => h9 h8)]; exact he.symm
        | val y =>
          dsimp only at he
          split at he
          · rename_i h9; injection he with he; rw [if_pos h9]; exact he.symm
          · rename_i h9; injection he with he; rw [if_neg (fun h8 => h9 h8)]; exact he.symm
      have hlen : ls'.length = ls.length := by
        rw [he2]; split <;> simp
      have hget : ∀ j, ls'[j]? = if j = i then some (.val (.long x)) else if j = i + 1 then some .second else if j = i + 2 ∧ ls[i + 2]? = some .second then some .unset else ls[j]? := by
        intro j
        rw [he2]
        by_cases h9 : ls[i + 2]? = some .second
        · rw [if_pos h9]
          have hl2 : i + 2 < ls.length := (List.getElem?_eq_some_iff.mp h9).1
          rw [List.getElem?_set, List.getElem?_set, List.getElem?_set]
          by_cases a : j = i
          · subst a; simp [hil]
          · by_cases b : j = i + 1
            · subst b; simp [hil1]
            · by_cases d : j = i + 2
              · subst d; rw [if_pos rfl, if_pos (by simpa using hl2), if_neg a, if_neg b, if_pos ⟨rfl, h9⟩]
              · rw [if_neg (fun q => d q.symm), if_neg (fun q => b q.symm), if_neg (fun q => a q.symm), if_neg a, if_neg b, if_neg (fun q => d q.1)]
        · rw [if_neg h9, List.getElem?_set, List.getElem?_set]
          by_cases a : j = i
          · subst a; simp [hil]
          · by_cases b : j = i + 1
            · subst b; simp [hil1]
            · rw [if_neg (fun q => b q.symm), if_neg (fun q => a q.symm), if_neg a, if_neg b, if_neg (fun q => h9 q.2)]
      refine ⟨⟨hr.1, hr.2.1, fun q hq => ?_⟩, fun j w hj hw => ?_, fun j w hj => ?_, by omega⟩
      · obtain ⟨j, z⟩ := q
        obtain ⟨w, hw, rfl⟩ := zAL_mem.mp hq
        rw [hget j] at hw
        by_cases a : j = i
        · rw [if_pos a] at hw
          injection hw with hw; injection hw with hw
          subst hw; subst a
          exact hr.2.2 _ List.mem_cons_self
        · rw [if_neg a] at hw
          by_cases b : j = i + 1
          · rw [if_pos b] at hw; cases hw
          · rw [if_neg b] at hw
            by_cases d : j = i + 2 ∧ ls[i + 2]? = some .second
            · rw [if_pos d] at hw; cases hw
            · rw [if_neg d] at hw
              refine hr.2.2 _ (List.mem_cons_of_mem _ (List.mem_filter.mpr ⟨zAL_mem.mpr ⟨w, hw, rfl⟩, ?_⟩))
              have c1 : ¬ (j + 1 = i ∧ w.category = 2) := by
                rintro ⟨e1, e2⟩
                have := h2 j w hw e2
                rw [e1, hi] at this
                injection this with this
                exact hx this
              simp only [Bool.and_eq_true, Bool.not_eq_true', beq_eq_false_iff_ne, ne_eq, Bool.and_eq_false_iff]
              refine ⟨a, b, ?_⟩
              by_cases e1 : j + 1 = i
              · right
                rw [zmv_cat ho]
                exact fun e2 => c1 ⟨e1, e2⟩
              · exact Or.inl e1
      · rw [hget j] at hj
        by_cases a : j = i
        · subst a
          rw [hget (j + 1), if_neg (by omega), if_pos rfl]
        · rw [if_neg a] at hj
          by_cases b : j = i + 1
          · rw [if_pos b] at hj; cases hj
          · rw [if_neg b] at hj
            by_cases d : j = i + 2 ∧ ls[i + 2]? = some .second
            · rw [if_pos d] at hj; cases hj
            · rw [if_neg d] at hj
              have h5 := h2 j w hj hw
              have n1 : j + 1 ≠ i := by
                intro e1
                rw [e1, hi] at h5
                injection h5 with h5
                exact hx h5
              rw [hget (j + 1), if_neg n1, if_neg (fun q => a (by omega)), if_neg (fun q => b (by omega))]
              exact h5
      · rw [hget j] at hj
        by_cases a : j = i
        · rw [if_pos a] at hj
          injection hj with hj; injection hj with hj
          subst hj
          trivial
        · rw [if_neg a] at hj
          by_cases b : j = i + 1
          · rw [if_pos b] at hj; cases hj
          · rw [if_neg b] at hj
            by_cases d : j = i + 2 ∧ ls[i + 2]? = some .second
            · rw [if_pos d] at hj; cases hj
            · rw [if_neg d] at hj
              exact h3 j w hj
/-! the fields' types, the heap's picture -/
def zTy (k : Nat) : Nat → FieldType := match k with
  | 0 => tyJ0
  | 1 => tyX1
  | 2 => tyX2
  | 3 => tyX3
  | 4 => tyX4
  | 5 => tyX5
  | 6 => tyX6
  | 7 => tyX8
  | 8 => tyX9
  | _ => tyX10
def zNf (k : Nat) : Nat := match k with
  | 0 => 4
  | 1 => 10
  | 2 => 5
  | 3 => 4
  | 4 => 6
  | 5 => 2
  | 6 => 7
  | 7 => 4
  | 8 => 3
  | _ => 39
/-- field j of class k -/
def zgf (k j : Nat) : Nat := 50 * (k + 1) + j
def zFv (ad : Nat → Nat) (h : zH) (k a j : Nat) : Value := match zTy k j with
  | .long => .long (zL h (zgf k j) a 0)
  | .object _ => va_rf ((zR h (zgf k j) a 0).map ad)
  | .array _ => va_rf ((zR h (zgf k j) a 0).map ad)
  | _ => .int (zI h (zgf k j) a 0)
def zFs (ad : Nat → Nat) (h : zH) (k a : Nat) : List Value := (List.range (zNf k)).map (zFv ad h k a)
def zAt (t : Nat) : FieldType := if t = 20 then .int else if t = 22 then .char else if t = 23 then .boolean else .byte
def zAn (t : Nat) : String := if t = 31 then RX3 else if t = 32 then RX2 else RX6
def zIsX (t : Nat) : Prop := t = 20 ∨ t = 22 ∨ t = 23 ∨ t = 24
def zcell (D : va_G) (s : State) (ad : Nat → Nat) (h : zH) (H : Heap) (a : Nat) : Prop :=
  (1 ≤ zT h a → zT h a ≤ 10 → va_at D vwCl (ad a, .inr (zT h a - 1, zFs ad h (zT h a - 1) a)) H) ∧
  (zIsX (zT h a) → ∃ cA, va_at D vwCl (ad a, .inl (cA, zE h a, .inl (zI h 0 a))) H ∧ ArrOfT s cA (zAt (zT h a)) ∧ va_RA s cA (zAt (zT h a))) ∧
  (zT h a = 21 → ∃ cA, va_at D vwCl (ad a, .inl (cA, zE h a, .inr (.inl (zL h 0 a)))) H ∧ ArrOfT s cA .long ∧ va_RA s cA .long) ∧
  (31 ≤ zT h a → zT h a ≤ 33 → ∃ cA, va_at D vwCl (ad a, .inl (cA, zE h a, .inr (.inr (.inr (.inr (fun i => (zR h 0 a i).map ad)))))) H ∧ ArrOfT s cA (.object (zAn (zT h a))) ∧ va_RA s cA (.object (zAn (zT h a))))
/-- facts of the constants (of a state); where the new cells begin; the constants' addresses, their tags; what stands for the unknown static -/
abbrev zG : Type := (State → Prop) × Nat × (Nat → Nat) × (Nat → Nat) × Value
def zRel (G : zG) (D : va_G) (s : State) (ad : Nat → Nat) (h : zH) (H : Heap) : Prop :=
  G.2.1 ≤ H.size ∧ (∀ g a i b, zR h g a i = some b → b < zN h) ∧
  (∀ a, zDy (zT h a) → a < zN h ∧ G.2.1 ≤ ad a ∧ ad a < H.size) ∧
  (∀ a b, zDy (zT h a) → zDy (zT h b) → ad a = ad b → a = b) ∧
  (∀ a, zcell D s ad h H a) ∧
  (∀ a, 40 ≤ zT h a → a < zN h ∧ G.2.2.2.1 a = zT h a ∧ ad a = G.2.2.1 a)
def zTB : List Cond := lw_tbl.filter goodWord
def zCx (G : zG) (own : String) (cc : ByteArray) (nL : Nat) (ini : Bool) (D : va_G) (p : Program) (s : State) (m : MethodId) (args : Array Value) (meth : Method) (c : Code) : Prop :=
  p.tables.exec = Jvm.exec ∧ c.code = cc ∧ c.maxLocals = nL ∧ s.vm.findClass own = some m.cls ∧ (∀ w ∈ zTB, w.before args s = true) ∧ va_K D vwCl [] s ∧ meth.locks = false ∧ (ini = true → meth.name = "<init>") ∧ G.1 s ∧ G.2.1 ≤ s.heap.size ∧ zOV G.2.2.2.2
def zA (G : zG) : Nat → Prop := fun q => G.2.1 ≤ q
def zOK (G : zG) (D : va_G) (s : State) (ad : Nat → Nat) (nL : Nat) (h : zH) (H : Heap) (ls : List Slot) (st : List Value) (lsr : Array Slot) : Prop :=
  zRel G D s ad h H ∧ zLR G.2.2.2.2 ad (zN h) nL ls lsr ∧ ∀ v ∈ st, zwf (zN h) v
/-- an operation's step: from its state the machine comes to the next -/
def zSnd (G : zG) (own : String) (cc : ByteArray) (nL : Nat) (ini : Bool) (pc : Nat) (op : zOp) : Prop :=
  ∀ (ls : List Slot) (st : List Value) (h : zH) (pc' : Nat) (ls' : List Slot) (st' : List Value) (h' : zH), op pc ls st h = some (.inl (pc', ls', st', h')) →
  ∀ (l : Launch) (p : Program) (e : Env) (R : Room) (s : State) (m : MethodId) (args : Array Value) (below : List Frame) (meth : Method) (c : Code) (D : va_G) (Q : State → Prop), zCx G own cc nL ini D p s m args meth c →
  ∀ (ad : Nat → Nat) (H : Heap) (locs : List Loc) (cells slots : Nat) (lsr : Array Slot), zOK G D s ad nL h H ls st lsr → va_S (zA G) s.heap H locs → cells + zC h' ≤ R.cells + zC h → slots + zS h' ≤ R.slots + zS h → 10 ≤ R.frames ∧ 200 ≤ R.locals →
  (∀ (ad' : Nat → Nat) (H' : Heap) (locs' : List Loc) (cells' slots' : Nat) (lsr' : Array Slot), (∀ a, a < zN h → ad' a = ad a) → zN h ≤ zN h' → zOK G D s ad' nL h' H' ls' st' lsr' → va_S (zA G) s.heap H' locs' → cells' + zC h = cells + zC h' → slots' + zS h = slots + zS h' → W p l e R s m args below meth c H' locs' cells' slots' Q (F0 m pc' lsr' (st'.map (zmv G.2.2.2.2 ad')))) →
  W p l e R s m args below meth c H locs cells slots Q (F0 m pc lsr (st.map (zmv G.2.2.2.2 ad)))
theorem zw_c {n : Nat} {v : Value} {st : List Value} (h : zwf n v) (hs : ∀ w ∈ st, zwf n w) : ∀ w ∈ v :: st, zwf n w := fun w hw => by
  rcases List.mem_cons.mp hw with rfl | hw
  · exact h
  · exact hs w hw
theorem zw_t {n : Nat} {v : Value} {st : List Value} (hs : ∀ w ∈ v :: st, zwf n w) : ∀ w ∈ st, zwf n w := fun w hw => hs w (List.mem_cons_of_mem _ hw)
theorem zw_h {n : Nat} {v : Value} {st : List Value} (hs : ∀ w ∈ v :: st, zwf n w) : zwf n v := hs v List.mem_cons_self

theorem zs_iconst {G : zG} {own : String} {cc : ByteArray} {nL : Nat} {ini : Bool} {pc : Nat} {n : Int} {v : Int32} (hv : Int32.ofInt n = v) (hd : decode cc pc = .ok (.iconst n, 1)) : zSnd G own cc nL ini pc (o_push (.int v) 1) := by
  intro ls st h pc' ls' st' h' he l p e R s m args below meth c D Q cx ad H locs cells slots lsr ok hS hc hs hR kk
  obtain ⟨hx, hb, hml, hown, hts, hK, hlk, hini, hcf, hB, ho⟩ := cx
  obtain ⟨rel, lr, ws⟩ := ok
  cases he
  exact lv_iconst hx hb hd hv (kk ad H locs cells slots lsr (fun _ _ => rfl) (Nat.le_refl _) ⟨rel, lr, zw_c trivial ws⟩ hS rfl rfl)

theorem zs_bipush {G : zG} {own : String} {cc : ByteArray} {nL : Nat} {ini : Bool} {pc : Nat} {n : Int} {v : Int32} (hv : (Int8.ofInt n).toInt32 = v) (hd : decode cc pc = .ok (.bipush n, 2)) : zSnd G own cc nL ini pc (o_push (.int v) 2) := by
  intro ls st h pc' ls' st' h' he l p e R s m args below meth c D Q cx ad H locs cells slots lsr ok hS hc hs hR kk
  obtain ⟨hx, hb, hml, hown, hts, hK, hlk, hini, hcf, hB, ho⟩ := cx
  obtain ⟨rel, lr, ws⟩ := ok
  cases he
  exact lv_bipush hx hb hd hv (kk ad H locs cells slots lsr (fun _ _ => rfl) (Nat.le_refl _) ⟨rel, lr, zw_c trivial ws⟩ hS rfl rfl)

theorem zs_sipush {G : zG} {own : String} {cc : ByteArray} {nL : Nat} {ini : Bool} {pc : Nat} {n : Int} {v : Int32} (hv : (Int16.ofInt n).toInt32 = v) (hd : decode cc pc = .ok (.sipush n, 3)) : zSnd G own cc nL ini pc (o_push (.int v) 3) := by
  intro ls st h pc' ls' st' h' he l p e R s m args below meth c D Q cx ad H locs cells slots lsr ok hS hc hs hR kk
  obtain ⟨hx, hb, hml, hown, hts, hK, hlk, hini, hcf, hB, ho⟩ := cx
  obtain ⟨rel, lr, ws⟩ := ok
  cases he
  exact lv_sipush hx hb hd hv (kk ad H locs cells slots lsr (fun _ _ => rfl) (Nat.le_refl _) ⟨rel, lr, zw_c trivial ws⟩ hS rfl rfl)

theorem zs_lconst {G : zG} {own : String} {cc : ByteArray} {nL : Nat} {ini : Bool} {pc : Nat} {n : Fin 2} {v : Int64} (hv : Int64.ofNat (n : Nat) = v) (hd : decode cc pc = .ok (.lconst n, 1)) : zSnd G own cc nL ini pc (o_push (.long v) 1) := by
  intro ls st h pc' ls' st' h' he l p e R s m args below meth c D Q cx ad H locs cells slots lsr ok hS hc hs hR kk
  obtain ⟨hx, hb, hml, hown, hts, hK, hlk, hini, hcf, hB, ho⟩ := cx
  obtain ⟨rel, lr, ws⟩ := ok
  cases he
  exact lv_lconst hx hb hd hv (kk ad H locs cells slots lsr (fun _ _ => rfl) (Nat.le_refl _) ⟨rel, lr, zw_c trivial ws⟩ hS rfl rfl)

theorem zs_null {G : zG} {own : String} {cc : ByteArray} {nL : Nat} {ini : Bool} {pc : Nat} (hd : decode cc pc = .ok (.aconst_null, 1)) : zSnd G own cc nL ini pc (o_push .null 1) := by
  intro ls st h pc' ls' st' h' he l p e R s m args below meth c D Q cx ad H locs cells slots lsr ok hS hc hs hR kk
  obtain ⟨hx, hb, hml, hown, hts, hK, hlk, hini, hcf, hB, ho⟩ := cx
  obtain ⟨rel, lr, ws⟩ := ok
  cases he
  exact lv_null hx hb hd (kk ad H locs cells slots lsr (fun _ _ => rfl) (Nat.le_refl _) ⟨rel, lr, zw_c trivial ws⟩ hS rfl rfl)

theorem zs_ldc {G : zG} {own : String} {cc : ByteArray} {nL : Nat} {ini : Bool} {pc : Nat} {i : Nat} {v : Int32} (hw : Cond.constant own i v ∈ zTB) (hd : decode cc pc = .ok (.ldc i, 2)) : zSnd G own cc nL ini pc (o_push (.int v) 2) := by
  intro ls st h pc' ls' st' h' he l p e R s m args below meth c D Q cx ad H locs cells slots lsr ok hS hc hs hR kk
  obtain ⟨hx, hb, hml, hown, hts, hK, hlk, hini, hcf, hB, ho⟩ := cx
  obtain ⟨rel, lr, ws⟩ := ok
  cases he
  exact lv_ldc hx hb hown (hts _ hw) hd (kk ad H locs cells slots lsr (fun _ _ => rfl) (Nat.le_refl _) ⟨rel, lr, zw_c trivial ws⟩ hS rfl rfl)

theorem zs_ldc2 {G : zG} {own : String} {cc : ByteArray} {nL : Nat} {ini : Bool} {pc : Nat} {i : Nat} {v : Int64} (hw : Cond.constantLong own i v ∈ zTB) (hd : decode cc pc = .ok (.ldc2_w i, 3)) : zSnd G own cc nL ini pc (o_push (.long v) 3) := by
  intro ls st h pc' ls' st' h' he l p e R s m args below meth c D Q cx ad H locs cells slots lsr ok hS hc hs hR kk
  obtain ⟨hx, hb, hml, hown, hts, hK, hlk, hini, hcf, hB, ho⟩ := cx
  obtain ⟨rel, lr, ws⟩ := ok
  cases he
  exact lv_ldc2 hx hb hown (hts _ hw) hd (kk ad H locs cells slots lsr (fun _ _ => rfl) (Nat.le_refl _) ⟨rel, lr, zw_c trivial ws⟩ hS rfl rfl)

theorem zs_iload_n {G : zG} {own : String} {cc : ByteArray} {nL : Nat} {ini : Bool} {pc : Nat} {k : Fin 4} {i : Nat} (hi : (k : Nat) = i) (hd : decode cc pc = .ok (.iload_n k, 1)) : zSnd G own cc nL ini pc (o_iload i 1) := by
  intro ls st h pc' ls' st' h' he l p e R s m args below meth c D Q cx ad H locs cells slots lsr ok hS hc hs hR kk
  obtain ⟨hx, hb, hml, hown, hts, hK, hlk, hini, hcf, hB, ho⟩ := cx
  obtain ⟨rel, lr, ws⟩ := ok
  unfold o_iload at he
  split at he
  · rename_i x hl
    cases he
    exact lv_iload_n hx hb hd hi (zLR_at lr hl) (kk ad H locs cells slots lsr (fun _ _ => rfl) (Nat.le_refl _) ⟨rel, lr, zw_c trivial ws⟩ hS rfl rfl)
  · cases he

theorem zs_iload {G : zG} {own : String} {cc : ByteArray} {nL : Nat} {ini : Bool} {pc : Nat} {i : Nat} (hd : decode cc pc = .ok (.iload i, 2)) : zSnd G own cc nL ini pc (o_iload i 2) := by
  intro ls st h pc' ls' st' h' he l p e R s m args below meth c D Q cx ad H locs cells slots lsr ok hS hc hs hR kk
  obtain ⟨hx, hb, hml, hown, hts, hK, hlk, hini, hcf, hB, ho⟩ := cx
  obtain ⟨rel, lr, ws⟩ := ok
  unfold o_iload at he
  split at he
  · rename_i x hl
    cases he
    exact lv_iload hx hb hd (zLR_at lr hl) (kk ad H locs cells slots lsr (fun _ _ => rfl) (Nat.le_refl _) ⟨rel, lr, zw_c trivial ws⟩ hS rfl rfl)
  · cases he

theorem zs_lload_n {G : zG} {own : String} {cc : ByteArray} {nL : Nat} {ini : Bool} {pc : Nat} {k : Fin 4} {i : Nat} (hi : (k : Nat) = i) (hd : decode cc pc = .ok (.lload_n k, 1)) : zSnd G own cc nL ini pc (o_lload i 1) := by
  intro ls st h pc' ls' st' h' he l p e R s m args below meth c D Q cx ad H locs cells slots lsr ok hS hc hs hR kk
  obtain ⟨hx, hb, hml, hown, hts, hK, hlk, hini, hcf, hB, ho⟩ := cx
  obtain ⟨rel, lr, ws⟩ := ok
  unfold o_lload at he
  split at he
  · rename_i x hl
    cases he
    exact lv_lload_n hx hb hd hi (zLR_at lr hl) (kk ad H locs cells slots lsr (fun _ _ => rfl) (Nat.le_refl _) ⟨rel, lr, zw_c trivial ws⟩ hS rfl rfl)
  · cases he

theorem zs_lload {G : zG} {own : String} {cc : ByteArray} {nL : Nat} {ini : Bool} {pc : Nat} {i : Nat} (hd : decode cc pc = .ok (.lload i, 2)) : zSnd G own cc nL ini pc (o_lload i 2) := by
  intro ls st h pc' ls' st' h' he l p e R s m args below meth c D Q cx ad H locs cells slots lsr ok hS hc hs hR kk
  obtain ⟨hx, hb, hml, hown, hts, hK, hlk, hini, hcf, hB, ho⟩ := cx
  obtain ⟨rel, lr, ws⟩ := ok
  unfold o_lload at he
  split at he
  · rename_i x hl
    cases he
    exact lv_lload hx hb hd (zLR_at lr hl) (kk ad H locs cells slots lsr (fun _ _ => rfl) (Nat.le_refl _) ⟨rel, lr, zw_c trivial ws⟩ hS rfl rfl)
  · cases he

theorem zs_aload_n {G : zG} {own : String} {cc : ByteArray} {nL : Nat} {ini : Bool} {pc : Nat} {k : Fin 4} {i : Nat} (hi : (k : Nat) = i) (hd : decode cc pc = .ok (.aload_n k, 1)) : zSnd G own cc nL ini pc (o_aload i 1) := by
  intro ls st h pc' ls' st' h' he l p e R s m args below meth c D Q cx ad H locs cells slots lsr ok hS hc hs hR kk
  obtain ⟨hx, hb, hml, hown, hts, hK, hlk, hini, hcf, hB, ho⟩ := cx
  obtain ⟨rel, lr, ws⟩ := ok
  unfold o_aload at he
  split at he
  · rename_i v hl
    split at he
    · rename_i hr
      cases he
      have hlr := zLR_at lr hl
      have k2 := kk ad H locs cells slots lsr (fun _ _ => rfl) (Nat.le_refl _) ⟨rel, lr, zw_c (lr.2.2.1 _ _ hl) ws⟩ hS rfl rfl
      rw [List.map_cons] at k2
      rcases zmv_isR ho ad hr with e1 | ⟨x, e1⟩
      · rw [e1] at hlr k2
        exact lv_aload_nN hx hb hd hi hlr k2
      · rw [e1] at hlr k2
        exact lv_aload_n hx hb hd hi hlr k2
    · cases he
  · cases he

theorem zs_aload {G : zG} {own : String} {cc : ByteArray} {nL : Nat} {ini : Bool} {pc : Nat} {i : Nat} (hd : decode cc pc = .ok (.aload i, 2)) : zSnd G own cc nL ini pc (o_aload i 2) := by
  intro ls st h pc' ls' st' h' he l p e R s m args below meth c D Q cx ad H locs cells slots lsr ok hS hc hs hR kk
  obtain ⟨hx, hb, hml, hown, hts, hK, hlk, hini, hcf, hB, ho⟩ := cx
  obtain ⟨rel, lr, ws⟩ := ok
  unfold o_aload at he
  split at he
  · rename_i v hl
    split at he
    · rename_i hr
      cases he
      have hlr := zLR_at lr hl
      have k2 := kk ad H locs cells slots lsr (fun _ _ => rfl) (Nat.le_refl _) ⟨rel, lr, zw_c (lr.2.2.1 _ _ hl) ws⟩ hS rfl rfl
      rw [List.map_cons] at k2
      rcases zmv_isR ho ad hr with e1 | ⟨x, e1⟩
      · rw [e1] at hlr k2
        exact lv_aloadN hx hb hd hlr k2
      · rw [e1] at hlr k2
        exact lv_aload hx hb hd hlr k2
    · cases he
  · cases he

theorem zs_istore_n {G : zG} {own : String} {cc : ByteArray} {nL : Nat} {ini : Bool} {pc : Nat} {k : Fin 4} {i : Nat} (hi : (k : Nat) = i) (hd : decode cc pc = .ok (.istore_n k, 1)) : zSnd G own cc nL ini pc (o_istore i 1) := by
  intro ls st h pc' ls' st' h' he l p e R s m args below meth c D Q cx ad H locs cells slots lsr ok hS hc hs hR kk
  obtain ⟨hx, hb, hml, hown, hts, hK, hlk, hini, hcf, hB, ho⟩ := cx
  obtain ⟨rel, lr, ws⟩ := ok
  unfold o_istore at he
  split at he
  · split at he
    · rename_i ls2 hst
      cases he
      obtain ⟨hn, hz⟩ := zst1_ok ho lr hst rfl trivial
      exact lv_istore_n hx hb hd hi lr.1 hn rfl (fun lsr2 hl2 => kk ad H locs cells slots lsr2 (fun _ _ => rfl) (Nat.le_refl _) ⟨rel, hz lsr2 hl2, zw_t ws⟩ hS rfl rfl)
    · cases he
  · cases he

theorem zs_istore {G : zG} {own : String} {cc : ByteArray} {nL : Nat} {ini : Bool} {pc : Nat} {i : Nat} (hd : decode cc pc = .ok (.istore i, 2)) : zSnd G own cc nL ini pc (o_istore i 2) := by
  intro ls st h pc' ls' st' h' he l p e R s m args below meth c D Q cx ad H locs cells slots lsr ok hS hc hs hR kk
  obtain ⟨hx, hb, hml, hown, hts, hK, hlk, hini, hcf, hB, ho⟩ := cx
  obtain ⟨rel, lr, ws⟩ := ok
  unfold o_istore at he
  split at he
  · split at he
    · rename_i ls2 hst
      cases he
      obtain ⟨hn, hz⟩ := zst1_ok ho lr hst rfl trivial
      exact lv_istore hx hb hd lr.1 hn rfl (fun lsr2 hl2 => kk ad H locs cells slots lsr2 (fun _ _ => rfl) (Nat.le_refl _) ⟨rel, hz lsr2 hl2, zw_t ws⟩ hS rfl rfl)
    · cases he
  · cases he

theorem zs_lstore_n {G : zG} {own : String} {cc : ByteArray} {nL : Nat} {ini : Bool} {pc : Nat} {k : Fin 4} {i : Nat} (hi : (k : Nat) = i) (hd : decode cc pc = .ok (.lstore_n k, 1)) : zSnd G own cc nL ini pc (o_lstore i 1) := by
  intro ls st h pc' ls' st' h' he l p e R s m args below meth c D Q cx ad H locs cells slots lsr ok hS hc hs hR kk
  obtain ⟨hx, hb, hml, hown, hts, hK, hlk, hini, hcf, hB, ho⟩ := cx
  obtain ⟨rel, lr, ws⟩ := ok
  unfold o_lstore at he
  split at he
  · split at he
    · rename_i ls2 hst
      cases he
      obtain ⟨hn, hz⟩ := zst2_ok ho lr hst
      exact lv_lstore_n hx hb hd hi lr.1 hn rfl (fun lsr2 hl2 => kk ad H locs cells slots lsr2 (fun _ _ => rfl) (Nat.le_refl _) ⟨rel, hz lsr2 hl2, zw_t ws⟩ hS rfl rfl)
    · cases he
  · cases he

theorem zs_lstore {G : zG} {own : String} {cc : ByteArray} {nL : Nat} {ini : Bool} {pc : Nat} {i : Nat} (hd : decode cc pc = .ok (.lstore i, 2)) : zSnd G own cc nL ini pc (o_lstore i 2) := by
  intro ls st h pc' ls' st' h' he l p e R s m args below meth c D Q cx ad H locs cells slots lsr ok hS hc hs hR kk
  obtain ⟨hx, hb, hml, hown, hts, hK, hlk, hini, hcf, hB, ho⟩ := cx
  obtain ⟨rel, lr, ws⟩ := ok
  unfold o_lstore at he
  split at he
  · split at he
    · rename_i ls2 hst
      cases he
      obtain ⟨hn, hz⟩ := zst2_ok ho lr hst
      exact lv_lstore hx hb hd lr.1 hn rfl (fun lsr2 hl2 => kk ad H locs cells slots lsr2 (fun _ _ => rfl) (Nat.le_refl _) ⟨rel, hz lsr2 hl2, zw_t ws⟩ hS rfl rfl)
    · cases he
  · cases he

theorem zs_astore_n {G : zG} {own : String} {cc : ByteArray} {nL : Nat} {ini : Bool} {pc : Nat} {k : Fin 4} {i : Nat} (hi : (k : Nat) = i) (hd : decode cc pc = .ok (.astore_n k, 1)) : zSnd G own cc nL ini pc (o_astore i 1) := by
  intro ls st h pc' ls' st' h' he l p e R s m args below meth c D Q cx ad H locs cells slots lsr ok hS hc hs hR kk
  obtain ⟨hx, hb, hml, hown, hts, hK, hlk, hini, hcf, hB, ho⟩ := cx
  obtain ⟨rel, lr, ws⟩ := ok
  unfold o_astore at he
  split at he
  · rename_i v r
    split at he
    · rename_i hr
      split at he
      · rename_i ls2 hst
        cases he
        obtain ⟨hn, hz⟩ := zst1_ok ho lr hst (zIsR_cat hr) (zw_h ws)
        rw [List.map_cons]
        rcases zmv_isR ho ad hr with e1 | ⟨x, e1⟩
        · rw [e1] at hz ⊢
          exact lv_astore_nN hx hb hd hi lr.1 hn rfl (fun lsr2 hl2 => kk ad H locs cells slots lsr2 (fun _ _ => rfl) (Nat.le_refl _) ⟨rel, hz lsr2 hl2, zw_t ws⟩ hS rfl rfl)
        · rw [e1] at hz ⊢
          exact lv_astore_n hx hb hd hi lr.1 hn rfl (fun lsr2 hl2 => kk ad H locs cells slots lsr2 (fun _ _ => rfl) (Nat.le_refl _) ⟨rel, hz lsr2 hl2, zw_t ws⟩ hS rfl rfl)
      · cases he
    · cases he
  · cases he

theorem zs_astore {G : zG} {own : String} {cc : ByteArray} {nL : Nat} {ini : Bool} {pc : Nat} {i : Nat} (hd : decode cc pc = .ok (.astore i, 2)) : zSnd G own cc nL ini pc (o_astore i 2) := by
  intro ls st h pc' ls' st' h' he l p e R s m args below meth c D Q cx ad H locs cells slots lsr ok hS hc hs hR kk
  obtain ⟨hx, hb, hml, hown, hts, hK, hlk, hini, hcf, hB, ho⟩ := cx
  obtain ⟨rel, lr, ws⟩ := ok
  unfold o_astore at he
  split at he
  · rename_i v r
    split at he
    · rename_i hr
      split at he
      · rename_i ls2 hst
        cases he
        obtain ⟨hn, hz⟩ := zst1_ok ho lr hst (zIsR_cat hr) (zw_h ws)
        rw [List.map_cons]
        rcases zmv_isR ho ad hr with e1 | ⟨x, e1⟩
        · rw [e1] at hz ⊢
          exact lv_astoreN hx hb hd lr.1 hn rfl (fun lsr2 hl2 => kk ad H locs cells slots lsr2 (fun _ _ => rfl) (Nat.le_refl _) ⟨rel, hz lsr2 hl2, zw_t ws⟩ hS rfl rfl)
        · rw [e1] at hz ⊢
          exact lv_astore hx hb hd lr.1 hn rfl (fun lsr2 hl2 => kk ad H locs cells slots lsr2 (fun _ _ => rfl) (Nat.le_refl _) ⟨rel, hz lsr2 hl2, zw_t ws⟩ hS rfl rfl)
      · cases he
    · cases he
  · cases he

theorem zs_iinc {G : zG} {own : String} {cc : ByteArray} {nL : Nat} {ini : Bool} {pc : Nat} {i : Nat} {n : Int} {k : Int32} (hk : Int32.ofInt n = k) (hd : decode cc pc = .ok (.iinc i n, 3)) : zSnd G own cc nL ini pc (o_iinc i k) := by
  intro ls st h pc' ls' st' h' he l p e R s m args below meth c D Q cx ad H locs cells slots lsr ok hS hc hs hR kk
  obtain ⟨hx, hb, hml, hown, hts, hK, hlk, hini, hcf, hB, ho⟩ := cx
  obtain ⟨rel, lr, ws⟩ := ok
  unfold o_iinc at he
  split at he
  · rename_i x hl
    split at he
    · rename_i ls2 hst
      cases he
      obtain ⟨hn, hz⟩ := zst1_ok ho lr hst rfl trivial
      obtain ⟨q, hq⟩ := zLR_ix lr hl
      subst hk
      exact lv_iinc hx hb hd lr.1 hq rfl hn rfl (fun lsr2 hl2 => kk ad H locs cells slots lsr2 (fun _ _ => rfl) (Nat.le_refl _) ⟨rel, hz lsr2 hl2, ws⟩ hS rfl rfl)
    · cases he
  · cases he

theorem zs_iadd {G : zG} {own : String} {cc : ByteArray} {nL : Nat} {ini : Bool} {pc : Nat} (hd : decode cc pc = .ok (.iadd, 1)) : zSnd G own cc nL ini pc (o_iop (fun x y => x + y)) := by
  intro ls st h pc' ls' st' h' he l p e R s m args below meth c D Q cx ad H locs cells slots lsr ok hS hc hs hR kk
  obtain ⟨hx, hb, hml, hown, hts, hK, hlk, hini, hcf, hB, ho⟩ := cx
  obtain ⟨rel, lr, ws⟩ := ok
  unfold o_iop at he
  split at he
  · cases he
    exact lv_iadd hx hb hd (kk ad H locs cells slots lsr (fun _ _ => rfl) (Nat.le_refl _) ⟨rel, lr, zw_c trivial (zw_t (zw_t ws))⟩ hS rfl rfl)
  · cases he

theorem zs_isub {G : zG} {own : String} {cc : ByteArray} {nL : Nat} {ini : Bool} {pc : Nat} (hd : decode cc pc = .ok (.isub, 1)) : zSnd G own cc nL ini pc (o_iop (fun x y => x - y)) := by
  intro ls st h pc' ls' st' h' he l p e R s m args below meth c D Q cx ad H locs cells slots lsr ok hS hc hs hR kk
  obtain ⟨hx, hb, hml, hown, hts, hK, hlk, hini, hcf, hB, ho⟩ := cx
  obtain ⟨rel, lr, ws⟩ := ok
  unfold o_iop at he
  split at he
  · cases he
    exact lv_isub hx hb hd (kk ad H locs cells slots lsr (fun _ _ => rfl) (Nat.le_refl _) ⟨rel, lr, zw_c trivial (zw_t (zw_t ws))⟩ hS rfl rfl)
  · cases he

theorem zs_imul {G : zG} {own : String} {cc : ByteArray} {nL : Nat} {ini : Bool} {pc : Nat} (hd : decode cc pc = .ok (.imul, 1)) : zSnd G own cc nL ini pc (o_iop (fun x y => x * y)) := by
  intro ls st h pc' ls' st' h' he l p e R s m args below meth c D Q cx ad H locs cells slots lsr ok hS hc hs hR kk
  obtain ⟨hx, hb, hml, hown, hts, hK, hlk, hini, hcf, hB, ho⟩ := cx
  obtain ⟨rel, lr, ws⟩ := ok
  unfold o_iop at he
  split at he
  · cases he
    exact lv_imul hx hb hd (kk ad H locs cells slots lsr (fun _ _ => rfl) (Nat.le_refl _) ⟨rel, lr, zw_c trivial (zw_t (zw_t ws))⟩ hS rfl rfl)
  · cases he

theorem zs_iand {G : zG} {own : String} {cc : ByteArray} {nL : Nat} {ini : Bool} {pc : Nat} (hd : decode cc pc = .ok (.iand, 1)) : zSnd G own cc nL ini pc (o_iop (fun x y => x &&& y)) := by
  intro ls st h pc' ls' st' h' he l p e R s m args below meth c D Q cx ad H locs cells slots lsr ok hS hc hs hR kk
  obtain ⟨hx, hb, hml, hown, hts, hK, hlk, hini, hcf, hB, ho⟩ := cx
  obtain ⟨rel, lr, ws⟩ := ok
  unfold o_iop at he
  split at he
  · cases he
    exact lv_iand hx hb hd (kk ad H locs cells slots lsr (fun _ _ => rfl) (Nat.le_refl _) ⟨rel, lr, zw_c trivial (zw_t (zw_t ws))⟩ hS rfl rfl)
  · cases he

theorem zs_ior {G : zG} {own : String} {cc : ByteArray} {nL : Nat} {ini : Bool} {pc : Nat} (hd : decode cc pc = .ok (.ior, 1)) : zSnd G own cc nL ini pc (o_iop (fun x y => x ||| y)) := by
  intro ls st h pc' ls' st' h' he l p e R s m args below meth c D Q cx ad H locs cells slots lsr ok hS hc hs hR kk
  obtain ⟨hx, hb, hml, hown, hts, hK, hlk, hini, hcf, hB, ho⟩ := cx
  obtain ⟨rel, lr, ws⟩ := ok
  unfold o_iop at he
  split at he
  · cases he
    exact lv_ior hx hb hd (kk ad H locs cells slots lsr (fun _ _ => rfl) (Nat.le_refl _) ⟨rel, lr, zw_c trivial (zw_t (zw_t ws))⟩ hS rfl rfl)
  · cases he

theorem zs_ixor {G : zG} {own : String} {cc : ByteArray} {nL : Nat} {ini : Bool} {pc : Nat} (hd : decode cc pc = .ok (.ixor, 1)) : zSnd G own cc nL ini pc (o_iop (fun x y => x ^^^ y)) := by
  intro ls st h pc' ls' st' h' he l p e R s m args below meth c D Q cx ad H locs cells slots lsr ok hS hc hs hR kk
  obtain ⟨hx, hb, hml, hown, hts, hK, hlk, hini, hcf, hB, ho⟩ := cx
  obtain ⟨rel, lr, ws⟩ := ok
  unfold o_iop at he
  split at he
  · cases he
    exact lv_ixor hx hb hd (kk ad H locs cells slots lsr (fun _ _ => rfl) (Nat.le_refl _) ⟨rel, lr, zw_c trivial (zw_t (zw_t ws))⟩ hS rfl rfl)
  · cases he

theorem zs_ishl {G : zG} {own : String} {cc : ByteArray} {nL : Nat} {ini : Bool} {pc : Nat} (hd : decode cc pc = .ok (.ishl, 1)) : zSnd G own cc nL ini pc (o_iop (fun x y => x <<< (y &&& 31))) := by
  intro ls st h pc' ls' st' h' he l p e R s m args below meth c D Q cx ad H locs cells slots lsr ok hS hc hs hR kk
  obtain ⟨hx, hb, hml, hown, hts, hK, hlk, hini, hcf, hB, ho⟩ := cx
  obtain ⟨rel, lr, ws⟩ := ok
  unfold o_iop at he
  split at he
  · cases he
    exact lv_ishl hx hb hd (kk ad H locs cells slots lsr (fun _ _ => rfl) (Nat.le_refl _) ⟨rel, lr, zw_c trivial (zw_t (zw_t ws))⟩ hS rfl rfl)
  · cases he

theorem zs_ishr {G : zG} {own : String} {cc : ByteArray} {nL : Nat} {ini : Bool} {pc : Nat} (hd : decode cc pc = .ok (.ishr, 1)) : zSnd G own cc nL ini pc (o_iop (fun x y => x >>> (y &&& 31))) := by
  intro ls st h pc' ls' st' h' he l p e R s m args below meth c D Q cx ad H locs cells slots lsr ok hS hc hs hR kk
  obtain ⟨hx, hb, hml, hown, hts, hK, hlk, hini, hcf, hB, ho⟩ := cx
  obtain ⟨rel, lr, ws⟩ := ok
  unfold o_iop at he
  split at he
  · cases he
    exact lv_ishr hx hb hd (kk ad H locs cells slots lsr (fun _ _ => rfl) (Nat.le_refl _) ⟨rel, lr, zw_c trivial (zw_t (zw_t ws))⟩ hS rfl rfl)
  · cases he

theorem zs_iushr {G : zG} {own : String} {cc : ByteArray} {nL : Nat} {ini : Bool} {pc : Nat} (hd : decode cc pc = .ok (.iushr, 1)) : zSnd G own cc nL ini pc (o_iop (fun x y => (x.toUInt32 >>> (y.toUInt32 &&& Int32.toUInt32 31)).toInt32)) := by
  intro ls st h pc' ls' st' h' he l p e R s m args below meth c D Q cx ad H locs cells slots lsr ok hS hc hs hR kk
  obtain ⟨hx, hb, hml, hown, hts, hK, hlk, hini, hcf, hB, ho⟩ := cx
  obtain ⟨rel, lr, ws⟩ := ok
  unfold o_iop at he
  split at he
  · cases he
    exact lv_iushr hx hb hd rfl (kk ad H locs cells slots lsr (fun _ _ => rfl) (Nat.le_refl _) ⟨rel, lr, zw_c trivial (zw_t (zw_t ws))⟩ hS rfl rfl)
  · cases he

theorem zs_ladd {G : zG} {own : String} {cc : ByteArray} {nL : Nat} {ini : Bool} {pc : Nat} (hd : decode cc pc = .ok (.ladd, 1)) : zSnd G own cc nL ini pc (o_lop (fun x y => x + y)) := by
  intro ls st h pc' ls' st' h' he l p e R s m args below meth c D Q cx ad H locs cells slots lsr ok hS hc hs hR kk
  obtain ⟨hx, hb, hml, hown, hts, hK, hlk, hini, hcf, hB, ho⟩ := cx
  obtain ⟨rel, lr, ws⟩ := ok
  unfold o_lop at he
  split at he
  · cases he
    exact lv_ladd hx hb hd (kk ad H locs cells slots lsr (fun _ _ => rfl) (Nat.le_refl _) ⟨rel, lr, zw_c trivial (zw_t (zw_t ws))⟩ hS rfl rfl)
  · cases he

theorem zs_lsub {G : zG} {own : String} {cc : ByteArray} {nL : Nat} {ini : Bool} {pc : Nat} (hd : decode cc pc = .ok (.lsub, 1)) : zSnd G own cc nL ini pc (o_lop (fun x y => x - y)) := by
  intro ls st h pc' ls' st' h' he l p e R s m args below meth c D Q cx ad H locs cells slots lsr ok hS hc hs hR kk
  obtain ⟨hx, hb, hml, hown, hts, hK, hlk, hini, hcf, hB, ho⟩ := cx
  obtain ⟨rel, lr, ws⟩ := ok
  unfold o_lop at he
  split at he
  · cases he
    exact lv_lsub hx hb hd (kk ad H locs cells slots lsr (fun _ _ => rfl) (Nat.le_refl _) ⟨rel, lr, zw_c trivial (zw_t (zw_t ws))⟩ hS rfl rfl)
  · cases he

theorem zs_lmul {G : zG} {own : String} {cc : ByteArray} {nL : Nat} {ini : Bool} {pc : Nat} (hd : decode cc pc = .ok (.lmul, 1)) : zSnd G own cc nL ini pc (o_lop (fun x y => x * y)) := by
  intro ls st h pc' ls' st' h' he l p e R s m args below meth c D Q cx ad H locs cells slots lsr ok hS hc hs hR kk
  obtain ⟨hx, hb, hml, hown, hts, hK, hlk, hini, hcf, hB, ho⟩ := cx
  obtain ⟨rel, lr, ws⟩ := ok
  unfold o_lop at he
  split at he
  · cases he
    exact lv_lmul hx hb hd (kk ad H locs cells slots lsr (fun _ _ => rfl) (Nat.le_refl _) ⟨rel, lr, zw_c trivial (zw_t (zw_t ws))⟩ hS rfl rfl)
  · cases he

theorem zs_land {G : zG} {own : String} {cc : ByteArray} {nL : Nat} {ini : Bool} {pc : Nat} (hd : decode cc pc = .ok (.land, 1)) : zSnd G own cc nL ini pc (o_lop (fun x y => x &&& y)) := by
  intro ls st h pc' ls' st' h' he l p e R s m args below meth c D Q cx ad H locs cells slots lsr ok hS hc hs hR kk
  obtain ⟨hx, hb, hml, hown, hts, hK, hlk, hini, hcf, hB, ho⟩ := cx
  obtain ⟨rel, lr, ws⟩ := ok
  unfold o_lop at he
  split at he
  · cases he
    exact lv_land hx hb hd (kk ad H locs cells slots lsr (fun _ _ => rfl) (Nat.le_refl _) ⟨rel, lr, zw_c trivial (zw_t (zw_t ws))⟩ hS rfl rfl)
  · cases he

theorem zs_lor {G : zG} {own : String} {cc : ByteArray} {nL : Nat} {ini : Bool} {pc : Nat} (hd : decode cc pc = .ok (.lor, 1)) : zSnd G own cc nL ini pc (o_lop (fun x y => x ||| y)) := by
  intro ls st h pc' ls' st' h' he l p e R s m args below meth c D Q cx ad H locs cells slots lsr ok hS hc hs hR kk
  obtain ⟨hx, hb, hml, hown, hts, hK, hlk, hini, hcf, hB, ho⟩ := cx
  obtain ⟨rel, lr, ws⟩ := ok
  unfold o_lop at he
  split at he
  · cases he
    exact lv_lor hx hb hd (kk ad H locs cells slots lsr (fun _ _ => rfl) (Nat.le_refl _) ⟨rel, lr, zw_c trivial (zw_t (zw_t ws))⟩ hS rfl rfl)
  · cases he

theorem zs_lxor {G : zG} {own : String} {cc : ByteArray} {nL : Nat} {ini : Bool} {pc : Nat} (hd : decode cc pc = .ok (.lxor, 1)) : zSnd G own cc nL ini pc (o_lop (fun x y => x ^^^ y)) := by
  intro ls st h pc' ls' st' h' he l p e R s m args below meth c D Q cx ad H locs cells slots lsr ok hS hc hs hR kk
  obtain ⟨hx, hb, hml, hown, hts, hK, hlk, hini, hcf, hB, ho⟩ := cx
  obtain ⟨rel, lr, ws⟩ := ok
  unfold o_lop at he
  split at he
  · cases he
    exact lv_lxor hx hb hd (kk ad H locs cells slots lsr (fun _ _ => rfl) (Nat.le_refl _) ⟨rel, lr, zw_c trivial (zw_t (zw_t ws))⟩ hS rfl rfl)
  · cases he

theorem zs_idiv {G : zG} {own : String} {cc : ByteArray} {nL : Nat} {ini : Bool} {pc : Nat} (hd : decode cc pc = .ok (.idiv, 1)) : zSnd G own cc nL ini pc (o_dop (fun x y => x / y)) := by
  intro ls st h pc' ls' st' h' he l p e R s m args below meth c D Q cx ad H locs cells slots lsr ok hS hc hs hR kk
  obtain ⟨hx, hb, hml, hown, hts, hK, hlk, hini, hcf, hB, ho⟩ := cx
  obtain ⟨rel, lr, ws⟩ := ok
  unfold o_dop at he
  split at he
  · split at he
    · cases he
    · rename_i hy
      cases he
      exact lv_idiv hx hb hd hy (kk ad H locs cells slots lsr (fun _ _ => rfl) (Nat.le_refl _) ⟨rel, lr, zw_c trivial (zw_t (zw_t ws))⟩ hS rfl rfl)
  · cases he

theorem zs_irem {G : zG} {own : String} {cc : ByteArray} {nL : Nat} {ini : Bool} {pc : Nat} (hd : decode cc pc = .ok (.irem, 1)) : zSnd G own cc nL ini pc (o_dop (fun x y => x - x / y * y)) := by
  intro ls st h pc' ls' st' h' he l p e R s m args below meth c D Q cx ad H locs cells slots lsr ok hS hc hs hR kk
  obtain ⟨hx, hb, hml, hown, hts, hK, hlk, hini, hcf, hB, ho⟩ := cx
  obtain ⟨rel, lr, ws⟩ := ok
  unfold o_dop at he
  split at he
  · split at he
    · cases he
    · rename_i hy
      cases he
      exact lv_irem hx hb hd hy (kk ad H locs cells slots lsr (fun _ _ => rfl) (Nat.le_refl _) ⟨rel, lr, zw_c trivial (zw_t (zw_t ws))⟩ hS rfl rfl)
  · cases he

theorem zs_lshl {G : zG} {own : String} {cc : ByteArray} {nL : Nat} {ini : Bool} {pc : Nat} (hd : decode cc pc = .ok (.lshl, 1)) : zSnd G own cc nL ini pc (o_sop (fun x y => x <<< (y.toInt64 &&& 63))) := by
  intro ls st h pc' ls' st' h' he l p e R s m args below meth c D Q cx ad H locs cells slots lsr ok hS hc hs hR kk
  obtain ⟨hx, hb, hml, hown, hts, hK, hlk, hini, hcf, hB, ho⟩ := cx
  obtain ⟨rel, lr, ws⟩ := ok
  unfold o_sop at he
  split at he
  · cases he
    exact lv_lshl hx hb hd rfl (kk ad H locs cells slots lsr (fun _ _ => rfl) (Nat.le_refl _) ⟨rel, lr, zw_c trivial (zw_t (zw_t ws))⟩ hS rfl rfl)
  · cases he

theorem zs_lshr {G : zG} {own : String} {cc : ByteArray} {nL : Nat} {ini : Bool} {pc : Nat} (hd : decode cc pc = .ok (.lshr, 1)) : zSnd G own cc nL ini pc (o_sop (fun x y => x >>> (y.toInt64 &&& 63))) := by
  intro ls st h pc' ls' st' h' he l p e R s m args below meth c D Q cx ad H locs cells slots lsr ok hS hc hs hR kk
  obtain ⟨hx, hb, hml, hown, hts, hK, hlk, hini, hcf, hB, ho⟩ := cx
  obtain ⟨rel, lr, ws⟩ := ok
  unfold o_sop at he
  split at he
  · cases he
    exact lv_lshr hx hb hd rfl (kk ad H locs cells slots lsr (fun _ _ => rfl) (Nat.le_refl _) ⟨rel, lr, zw_c trivial (zw_t (zw_t ws))⟩ hS rfl rfl)
  · cases he

theorem zs_lushr {G : zG} {own : String} {cc : ByteArray} {nL : Nat} {ini : Bool} {pc : Nat} (hd : decode cc pc = .ok (.lushr, 1)) : zSnd G own cc nL ini pc (o_sop (fun x y => (x.toUInt64 >>> (y.toInt64.toUInt64 &&& Int64.toUInt64 63)).toInt64)) := by
  intro ls st h pc' ls' st' h' he l p e R s m args below meth c D Q cx ad H locs cells slots lsr ok hS hc hs hR kk
  obtain ⟨hx, hb, hml, hown, hts, hK, hlk, hini, hcf, hB, ho⟩ := cx
  obtain ⟨rel, lr, ws⟩ := ok
  unfold o_sop at he
  split at he
  · cases he
    exact lv_lushr hx hb hd rfl (kk ad H locs cells slots lsr (fun _ _ => rfl) (Nat.le_refl _) ⟨rel, lr, zw_c trivial (zw_t (zw_t ws))⟩ hS rfl rfl)
  · cases he

theorem zs_i2b {G : zG} {own : String} {cc : ByteArray} {nL : Nat} {ini : Bool} {pc : Nat} (hd : decode cc pc = .ok (.i2b, 1)) : zSnd G own cc nL ini pc (o_iun (fun x => x.toInt8.toInt32)) := by
  intro ls st h pc' ls' st' h' he l p e R s m args below meth c D Q cx ad H locs cells slots lsr ok hS hc hs hR kk
  obtain ⟨hx, hb, hml, hown, hts, hK, hlk, hini, hcf, hB, ho⟩ := cx
  obtain ⟨rel, lr, ws⟩ := ok
  unfold o_iun at he
  split at he
  · cases he
    exact lv_i2b hx hb hd rfl (kk ad H locs cells slots lsr (fun _ _ => rfl) (Nat.le_refl _) ⟨rel, lr, zw_c trivial (zw_t ws)⟩ hS rfl rfl)
  · cases he

theorem zs_i2c {G : zG} {own : String} {cc : ByteArray} {nL : Nat} {ini : Bool} {pc : Nat} (hd : decode cc pc = .ok (.i2c, 1)) : zSnd G own cc nL ini pc (o_iun (fun x => (x.toUInt32 % 65536).toInt32)) := by
  intro ls st h pc' ls' st' h' he l p e R s m args below meth c D Q cx ad H locs cells slots lsr ok hS hc hs hR kk
  obtain ⟨hx, hb, hml, hown, hts, hK, hlk, hini, hcf, hB, ho⟩ := cx
  obtain ⟨rel, lr, ws⟩ := ok
  unfold o_iun at he
  split at he
  · cases he
    exact lv_i2c hx hb hd rfl (kk ad H locs cells slots lsr (fun _ _ => rfl) (Nat.le_refl _) ⟨rel, lr, zw_c trivial (zw_t ws)⟩ hS rfl rfl)
  · cases he

theorem zs_i2l {G : zG} {own : String} {cc : ByteArray} {nL : Nat} {ini : Bool} {pc : Nat} (hd : decode cc pc = .ok (.i2l, 1)) : zSnd G own cc nL ini pc (o_i2l) := by
  intro ls st h pc' ls' st' h' he l p e R s m args below meth c D Q cx ad H locs cells slots lsr ok hS hc hs hR kk
  obtain ⟨hx, hb, hml, hown, hts, hK, hlk, hini, hcf, hB, ho⟩ := cx
  obtain ⟨rel, lr, ws⟩ := ok
  unfold o_i2l at he
  split at he
  · cases he
    exact lv_i2l hx hb hd rfl (kk ad H locs cells slots lsr (fun _ _ => rfl) (Nat.le_refl _) ⟨rel, lr, zw_c trivial (zw_t ws)⟩ hS rfl rfl)
  · cases he

theorem zs_l2i {G : zG} {own : String} {cc : ByteArray} {nL : Nat} {ini : Bool} {pc : Nat} (hd : decode cc pc = .ok (.l2i, 1)) : zSnd G own cc nL ini pc (o_l2i) := by
  intro ls st h pc' ls' st' h' he l p e R s m args below meth c D Q cx ad H locs cells slots lsr ok hS hc hs hR kk
  obtain ⟨hx, hb, hml, hown, hts, hK, hlk, hini, hcf, hB, ho⟩ := cx
  obtain ⟨rel, lr, ws⟩ := ok
  unfold o_l2i at he
  split at he
  · cases he
    exact lv_l2i hx hb hd rfl (kk ad H locs cells slots lsr (fun _ _ => rfl) (Nat.le_refl _) ⟨rel, lr, zw_c trivial (zw_t ws)⟩ hS rfl rfl)
  · cases he

theorem zs_lcmp {G : zG} {own : String} {cc : ByteArray} {nL : Nat} {ini : Bool} {pc : Nat} (hd : decode cc pc = .ok (.lcmp, 1)) : zSnd G own cc nL ini pc (o_lcmp) := by
  intro ls st h pc' ls' st' h' he l p e R s m args below meth c D Q cx ad H locs cells slots lsr ok hS hc hs hR kk
  obtain ⟨hx, hb, hml, hown, hts, hK, hlk, hini, hcf, hB, ho⟩ := cx
  obtain ⟨rel, lr, ws⟩ := ok
  unfold o_lcmp at he
  split at he
  · cases he
    exact W.lcmp hx hb hd (kk ad H locs cells slots lsr (fun _ _ => rfl) (Nat.le_refl _) ⟨rel, lr, zw_c trivial (zw_t (zw_t ws))⟩ hS rfl rfl)
  · cases he

theorem zs_if_eq {G : zG} {own : String} {cc : ByteArray} {nL : Nat} {ini : Bool} {pc : Nat} {off : Int} {t : Nat} (ht : (pc : Int) + off = (t : Int)) (hd : decode cc pc = .ok (.ifCond .eq off, 3)) : zSnd G own cc nL ini pc (o_ifeq t) := by
  intro ls st h pc' ls' st' h' he l p e R s m args below meth c D Q cx ad H locs cells slots lsr ok hS hc hs hR kk
  obtain ⟨hx, hb, hml, hown, hts, hK, hlk, hini, hcf, hB, ho⟩ := cx
  obtain ⟨rel, lr, ws⟩ := ok
  unfold o_ifeq at he
  split at he
  · cases he
    exact lv_if_eq hx hb hd ht (fun h9 => by rw [if_pos h9] at kk; exact kk ad H locs cells slots lsr (fun _ _ => rfl) (Nat.le_refl _) ⟨rel, lr, zw_t ws⟩ hS rfl rfl) (fun h9 => by rw [if_neg h9] at kk; exact kk ad H locs cells slots lsr (fun _ _ => rfl) (Nat.le_refl _) ⟨rel, lr, zw_t ws⟩ hS rfl rfl)
  · cases he

theorem zs_icmp_eq {G : zG} {own : String} {cc : ByteArray} {nL : Nat} {ini : Bool} {pc : Nat} {off : Int} {t : Nat} (ht : (pc : Int) + off = (t : Int)) (hd : decode cc pc = .ok (.if_icmp .eq off, 3)) : zSnd G own cc nL ini pc (o_iceq t) := by
  intro ls st h pc' ls' st' h' he l p e R s m args below meth c D Q cx ad H locs cells slots lsr ok hS hc hs hR kk
  obtain ⟨hx, hb, hml, hown, hts, hK, hlk, hini, hcf, hB, ho⟩ := cx
  obtain ⟨rel, lr, ws⟩ := ok
  unfold o_iceq at he
  split at he
  · cases he
    exact lv_icmp_eq hx hb hd ht (fun h9 => by rw [if_pos h9] at kk; exact kk ad H locs cells slots lsr (fun _ _ => rfl) (Nat.le_refl _) ⟨rel, lr, zw_t (zw_t ws)⟩ hS rfl rfl) (fun h9 => by rw [if_neg h9] at kk; exact kk ad H locs cells slots lsr (fun _ _ => rfl) (Nat.le_refl _) ⟨rel, lr, zw_t (zw_t ws)⟩ hS rfl rfl)
  · cases he

theorem zs_if_lt {G : zG} {own : String} {cc : ByteArray} {nL : Nat} {ini : Bool} {pc : Nat} {off : Int} {t : Nat} (ht : (pc : Int) + off = (t : Int)) (hd : decode cc pc = .ok (.ifCond .lt off, 3)) : zSnd G own cc nL ini pc (o_iflt t) := by
  intro ls st h pc' ls' st' h' he l p e R s m args below meth c D Q cx ad H locs cells slots lsr ok hS hc hs hR kk
  obtain ⟨hx, hb, hml, hown, hts, hK, hlk, hini, hcf, hB, ho⟩ := cx
  obtain ⟨rel, lr, ws⟩ := ok
  unfold o_iflt at he
  split at he
  · cases he
    exact lv_if_lt hx hb hd ht (fun h9 => by rw [if_pos h9] at kk; exact kk ad H locs cells slots lsr (fun _ _ => rfl) (Nat.le_refl _) ⟨rel, lr, zw_t ws⟩ hS rfl rfl) (fun h9 => by rw [if_neg h9] at kk; exact kk ad H locs cells slots lsr (fun _ _ => rfl) (Nat.le_refl _) ⟨rel, lr, zw_t ws⟩ hS rfl rfl)
  · cases he

theorem zs_icmp_lt {G : zG} {own : String} {cc : ByteArray} {nL : Nat} {ini : Bool} {pc : Nat} {off : Int} {t : Nat} (ht : (pc : Int) + off = (t : Int)) (hd : decode cc pc = .ok (.if_icmp .lt off, 3)) : zSnd G own cc nL ini pc (o_iclt t) := by
  intro ls st h pc' ls' st' h' he l p e R s m args below meth c D Q cx ad H locs cells slots lsr ok hS hc hs hR kk
  obtain ⟨hx, hb, hml, hown, hts, hK, hlk, hini, hcf, hB, ho⟩ := cx
  obtain ⟨rel, lr, ws⟩ := ok
  unfold o_iclt at he
  split at he
  · cases he
    exact lv_icmp_lt hx hb hd ht (fun h9 => by rw [if_pos h9] at kk; exact kk ad H locs cells slots lsr (fun _ _ => rfl) (Nat.le_refl _) ⟨rel, lr, zw_t (zw_t ws)⟩ hS rfl rfl) (fun h9 => by rw [if_neg h9] at kk; exact kk ad H locs cells slots lsr (fun _ _ => rfl) (Nat.le_refl _) ⟨rel, lr, zw_t (zw_t ws)⟩ hS rfl rfl)
  · cases he

theorem zs_if_ge {G : zG} {own : String} {cc : ByteArray} {nL : Nat} {ini : Bool} {pc : Nat} {off : Int} {t : Nat} (ht : (pc : Int) + off = (t : Int)) (hd : decode cc pc = .ok (.ifCond .ge off, 3)) : zSnd G own cc nL ini pc (o_ifge t) := by
  intro ls st h pc' ls' st' h' he l p e R s m args below meth c D Q cx ad H locs cells slots lsr ok hS hc hs hR kk
  obtain ⟨hx, hb, hml, hown, hts, hK, hlk, hini, hcf, hB, ho⟩ := cx
  obtain ⟨rel, lr, ws⟩ := ok
  unfold o_ifge at he
  split at he
  · cases he
    exact lv_if_ge hx hb hd ht (fun h9 => by rw [if_pos h9] at kk; exact kk ad H locs cells slots lsr (fun _ _ => rfl) (Nat.le_refl _) ⟨rel, lr, zw_t ws⟩ hS rfl rfl) (fun h9 => by rw [if_neg h9] at kk; exact kk ad H locs cells slots lsr (fun _ _ => rfl) (Nat.le_refl _) ⟨rel, lr, zw_t ws⟩ hS rfl rfl)
  · cases he

theorem zs_icmp_ge {G : zG} {own : String} {cc : ByteArray} {nL : Nat} {ini : Bool} {pc : Nat} {off : Int} {t : Nat} (ht : (pc : Int) + off = (t : Int)) (hd : decode cc pc = .ok (.if_icmp .ge off, 3)) : zSnd G own cc nL ini pc (o_icge t) := by
  intro ls st h pc' ls' st' h' he l p e R s m args below meth c D Q cx ad H locs cells slots lsr ok hS hc hs hR kk
  obtain ⟨hx, hb, hml, hown, hts, hK, hlk, hini, hcf, hB, ho⟩ := cx
  obtain ⟨rel, lr, ws⟩ := ok
  unfold o_icge at he
  split at he
  · cases he
    exact lv_icmp_ge hx hb hd ht (fun h9 => by rw [if_pos h9] at kk; exact kk ad H locs cells slots lsr (fun _ _ => rfl) (Nat.le_refl _) ⟨rel, lr, zw_t (zw_t ws)⟩ hS rfl rfl) (fun h9 => by rw [if_neg h9] at kk; exact kk ad H locs cells slots lsr (fun _ _ => rfl) (Nat.le_refl _) ⟨rel, lr, zw_t (zw_t ws)⟩ hS rfl rfl)
  · cases he

theorem zs_if_gt {G : zG} {own : String} {cc : ByteArray} {nL : Nat} {ini : Bool} {pc : Nat} {off : Int} {t : Nat} (ht : (pc : Int) + off = (t : Int)) (hd : decode cc pc = .ok (.ifCond .gt off, 3)) : zSnd G own cc nL ini pc (o_ifgt t) := by
  intro ls st h pc' ls' st' h' he l p e R s m args below meth c D Q cx ad H locs cells slots lsr ok hS hc hs hR kk
  obtain ⟨hx, hb, hml, hown, hts, hK, hlk, hini, hcf, hB, ho⟩ := cx
  obtain ⟨rel, lr, ws⟩ := ok
  unfold o_ifgt at he
  split at he
  · cases he
    exact lv_if_gt hx hb hd ht (fun h9 => by rw [if_pos h9] at kk; exact kk ad H locs cells slots lsr (fun _ _ => rfl) (Nat.le_refl _) ⟨rel, lr, zw_t ws⟩ hS rfl rfl) (fun h9 => by rw [if_neg h9] at kk; exact kk ad H locs cells slots lsr (fun _ _ => rfl) (Nat.le_refl _) ⟨rel, lr, zw_t ws⟩ hS rfl rfl)
  · cases he

theorem zs_icmp_gt {G : zG} {own : String} {cc : ByteArray} {nL : Nat} {ini : Bool} {pc : Nat} {off : Int} {t : Nat} (ht : (pc : Int) + off = (t : Int)) (hd : decode cc pc = .ok (.if_icmp .gt off, 3)) : zSnd G own cc nL ini pc (o_icgt t) := by
  intro ls st h pc' ls' st' h' he l p e R s m args below meth c D Q cx ad H locs cells slots lsr ok hS hc hs hR kk
  obtain ⟨hx, hb, hml, hown, hts, hK, hlk, hini, hcf, hB, ho⟩ := cx
  obtain ⟨rel, lr, ws⟩ := ok
  unfold o_icgt at he
  split at he
  · cases he
    exact lv_icmp_gt hx hb hd ht (fun h9 => by rw [if_pos h9] at kk; exact kk ad H locs cells slots lsr (fun _ _ => rfl) (Nat.le_refl _) ⟨rel, lr, zw_t (zw_t ws)⟩ hS rfl rfl) (fun h9 => by rw [if_neg h9] at kk; exact kk ad H locs cells slots lsr (fun _ _ => rfl) (Nat.le_refl _) ⟨rel, lr, zw_t (zw_t ws)⟩ hS rfl rfl)
  · cases he

theorem zs_if_le {G : zG} {own : String} {cc : ByteArray} {nL : Nat} {ini : Bool} {pc : Nat} {off : Int} {t : Nat} (ht : (pc : Int) + off = (t : Int)) (hd : decode cc pc = .ok (.ifCond .le off, 3)) : zSnd G own cc nL ini pc (o_ifle t) := by
  intro ls st h pc' ls' st' h' he l p e R s m args below meth c D Q cx ad H locs cells slots lsr ok hS hc hs hR kk
  obtain ⟨hx, hb, hml, hown, hts, hK, hlk, hini, hcf, hB, ho⟩ := cx
  obtain ⟨rel, lr, ws⟩ := ok
  unfold o_ifle at he
  split at he
  · cases he
    exact lv_if_le hx hb hd ht (fun h9 => by rw [if_pos h9] at kk; exact kk ad H locs cells slots lsr (fun _ _ => rfl) (Nat.le_refl _) ⟨rel, lr, zw_t ws⟩ hS rfl rfl) (fun h9 => by rw [if_neg h9] at kk; exact kk ad H locs cells slots lsr (fun _ _ => rfl) (Nat.le_refl _) ⟨rel, lr, zw_t ws⟩ hS rfl rfl)
  · cases he

theorem zs_icmp_le {G : zG} {own : String} {cc : ByteArray} {nL : Nat} {ini : Bool} {pc : Nat} {off : Int} {t : Nat} (ht : (pc : Int) + off = (t : Int)) (hd : decode cc pc = .ok (.if_icmp .le off, 3)) : zSnd G own cc nL ini pc (o_icle t) := by
  intro ls st h pc' ls' st' h' he l p e R s m args below meth c D Q cx ad H locs cells slots lsr ok hS hc hs hR kk
  obtain ⟨hx, hb, hml, hown, hts, hK, hlk, hini, hcf, hB, ho⟩ := cx
  obtain ⟨rel, lr, ws⟩ := ok
  unfold o_icle at he
  split at he
  · cases he
    exact lv_icmp_le hx hb hd ht (fun h9 => by rw [if_pos h9] at kk; exact kk ad H locs cells slots lsr (fun _ _ => rfl) (Nat.le_refl _) ⟨rel, lr, zw_t (zw_t ws)⟩ hS rfl rfl) (fun h9 => by rw [if_neg h9] at kk; exact kk ad H locs cells slots lsr (fun _ _ => rfl) (Nat.le_refl _) ⟨rel, lr, zw_t (zw_t ws)⟩ hS rfl rfl)
  · cases he

theorem zs_if_ne {G : zG} {own : String} {cc : ByteArray} {nL : Nat} {ini : Bool} {pc : Nat} {off : Int} {t : Nat} (ht : (pc : Int) + off = (t : Int)) (hd : decode cc pc = .ok (.ifCond .ne off, 3)) : zSnd G own cc nL ini pc (o_ifne t) := by
  intro ls st h pc' ls' st' h' he l p e R s m args below meth c D Q cx ad H locs cells slots lsr ok hS hc hs hR kk
  obtain ⟨hx, hb, hml, hown, hts, hK, hlk, hini, hcf, hB, ho⟩ := cx
  obtain ⟨rel, lr, ws⟩ := ok
  unfold o_ifne at he
  split at he
  · cases he
    exact lv_if_ne hx hb hd ht (fun h9 => by rw [if_neg h9] at kk; exact kk ad H locs cells slots lsr (fun _ _ => rfl) (Nat.le_refl _) ⟨rel, lr, zw_t ws⟩ hS rfl rfl) (fun h9 => by rw [if_pos h9] at kk; exact kk ad H locs cells slots lsr (fun _ _ => rfl) (Nat.le_refl _) ⟨rel, lr, zw_t ws⟩ hS rfl rfl)
  · cases he

theorem zs_icmp_ne {G : zG} {own : String} {cc : ByteArray} {nL : Nat} {ini : Bool} {pc : Nat} {off : Int} {t : Nat} (ht : (pc : Int) + off = (t : Int)) (hd : decode cc pc = .ok (.if_icmp .ne off, 3)) : zSnd G own cc nL ini pc (o_icne t) := by
  intro ls st h pc' ls' st' h' he l p e R s m args below meth c D Q cx ad H locs cells slots lsr ok hS hc hs hR kk
  obtain ⟨hx, hb, hml, hown, hts, hK, hlk, hini, hcf, hB, ho⟩ := cx
  obtain ⟨rel, lr, ws⟩ := ok
  unfold o_icne at he
  split at he
  · cases he
    exact lv_icmp_ne hx hb hd ht (fun h9 => by rw [if_neg h9] at kk; exact kk ad H locs cells slots lsr (fun _ _ => rfl) (Nat.le_refl _) ⟨rel, lr, zw_t (zw_t ws)⟩ hS rfl rfl) (fun h9 => by rw [if_pos h9] at kk; exact kk ad H locs cells slots lsr (fun _ _ => rfl) (Nat.le_refl _) ⟨rel, lr, zw_t (zw_t ws)⟩ hS rfl rfl)
  · cases he

theorem zs_goto {G : zG} {own : String} {cc : ByteArray} {nL : Nat} {ini : Bool} {pc : Nat} {off : Int} {t : Nat} (ht : (pc : Int) + off = (t : Int)) (hd : decode cc pc = .ok (.goto off, 3)) : zSnd G own cc nL ini pc (o_goto t) := by
  intro ls st h pc' ls' st' h' he l p e R s m args below meth c D Q cx ad H locs cells slots lsr ok hS hc hs hR kk
  obtain ⟨hx, hb, hml, hown, hts, hK, hlk, hini, hcf, hB, ho⟩ := cx
  obtain ⟨rel, lr, ws⟩ := ok
  cases he
  exact lv_goto hx hb hd ht (kk ad H locs cells slots lsr (fun _ _ => rfl) (Nat.le_refl _) ⟨rel, lr, ws⟩ hS rfl rfl)

theorem zs_ifnull {G : zG} {own : String} {cc : ByteArray} {nL : Nat} {ini : Bool} {pc : Nat} {off : Int} {t : Nat} (ht : (pc : Int) + off = (t : Int)) (hd : decode cc pc = .ok (.ifnull off, 3)) : zSnd G own cc nL ini pc (o_ifnull t) := by
  intro ls st h pc' ls' st' h' he l p e R s m args below meth c D Q cx ad H locs cells slots lsr ok hS hc hs hR kk
  obtain ⟨hx, hb, hml, hown, hts, hK, hlk, hini, hcf, hB, ho⟩ := cx
  obtain ⟨rel, lr, ws⟩ := ok
  unfold o_ifnull at he
  split at he
  · cases he
    exact lv_ifnull hx hb hd (kk ad H locs cells slots lsr (fun _ _ => rfl) (Nat.le_refl _) ⟨rel, lr, zw_t ws⟩ hS rfl rfl)
  · cases he
    exact lv_ifnullN hx hb hd ht (kk ad H locs cells slots lsr (fun _ _ => rfl) (Nat.le_refl _) ⟨rel, lr, zw_t ws⟩ hS rfl rfl)
  · cases he

theorem zs_ifnonnull {G : zG} {own : String} {cc : ByteArray} {nL : Nat} {ini : Bool} {pc : Nat} {off : Int} {t : Nat} (ht : (pc : Int) + off = (t : Int)) (hd : decode cc pc = .ok (.ifnonnull off, 3)) : zSnd G own cc nL ini pc (o_ifnon t) := by
  intro ls st h pc' ls' st' h' he l p e R s m args below meth c D Q cx ad H locs cells slots lsr ok hS hc hs hR kk
  obtain ⟨hx, hb, hml, hown, hts, hK, hlk, hini, hcf, hB, ho⟩ := cx
  obtain ⟨rel, lr, ws⟩ := ok
  unfold o_ifnon at he
  split at he
  · cases he
    exact lv_ifnonnull hx hb hd ht (kk ad H locs cells slots lsr (fun _ _ => rfl) (Nat.le_refl _) ⟨rel, lr, zw_t ws⟩ hS rfl rfl)
  · cases he
    exact lv_ifnonnullN hx hb hd (kk ad H locs cells slots lsr (fun _ _ => rfl) (Nat.le_refl _) ⟨rel, lr, zw_t ws⟩ hS rfl rfl)
  · cases he

theorem zs_acne {G : zG} {own : String} {cc : ByteArray} {nL : Nat} {ini : Bool} {pc : Nat} {off : Int} {t : Nat} (ht : (pc : Int) + off = (t : Int)) (hd : decode cc pc = .ok (.if_acmp .ne off, 3)) : zSnd G own cc nL ini pc (o_acne t) := by
  intro ls st h pc' ls' st' h' he l p e R s m args below meth c D Q cx ad H locs cells slots lsr ok hS hc hs hR kk
  obtain ⟨hx, hb, hml, hown, hts, hK, hlk, hini, hcf, hB, ho⟩ := cx
  obtain ⟨rel, lr, ws⟩ := ok
  unfold o_acne at he
  split at he
  · rename_i b a r
    split at he
    · rename_i hdy
      cases he
      refine lv_acmp_ne (rx := some (ad a)) (ry := some (ad b)) hx hb hd ht (fun h9 => ?_) (fun h9 => ?_)
      · rw [if_neg (fun q : a = b => h9 (by rw [q]))] at kk; exact kk ad H locs cells slots lsr (fun _ _ => rfl) (Nat.le_refl _) ⟨rel, lr, zw_t (zw_t ws)⟩ hS rfl rfl
      · rw [if_pos (rel.2.2.2.1 a b hdy.1 hdy.2 (Option.some.inj h9))] at kk; exact kk ad H locs cells slots lsr (fun _ _ => rfl) (Nat.le_refl _) ⟨rel, lr, zw_t (zw_t ws)⟩ hS rfl rfl
    · cases he
  · cases he
    exact lv_acmp_ne (rx := none) (ry := some _) hx hb hd ht (fun h9 => kk ad H locs cells slots lsr (fun _ _ => rfl) (Nat.le_refl _) ⟨rel, lr, zw_t (zw_t ws)⟩ hS rfl rfl) (fun h9 => by cases h9)
  · cases he
    exact lv_acmp_ne (rx := some _) (ry := none) hx hb hd ht (fun h9 => kk ad H locs cells slots lsr (fun _ _ => rfl) (Nat.le_refl _) ⟨rel, lr, zw_t (zw_t ws)⟩ hS rfl rfl) (fun h9 => by cases h9)
  · cases he
    exact lv_acmp_ne (rx := none) (ry := none) hx hb hd ht (fun h9 => absurd rfl h9) (fun h9 => kk ad H locs cells slots lsr (fun _ _ => rfl) (Nat.le_refl _) ⟨rel, lr, zw_t (zw_t ws)⟩ hS rfl rfl)
  · cases he

theorem zs_tsw {G : zG} {own : String} {cc : ByteArray} {nL : Nat} {ini : Bool} {pc : Nat} {dflt lo hi : Int} {offs : Array Int} {len : Nat} {ts : List Nat} {d : Nat} (ht : (pc : Int) + dflt = (d : Int)) (hts2 : ∀ (i : Nat) (t : Nat), ts[i]? = some t → ∃ off, offs[i]? = some off ∧ (pc : Int) + off = (t : Int)) (hd : decode cc pc = .ok (.tableswitch dflt lo hi offs, len)) : zSnd G own cc nL ini pc (o_tsw lo hi ts d) := by
  intro ls st h pc' ls' st' h' he l p e R s m args below meth c D Q cx ad H locs cells slots lsr ok hS hc hs hR kk
  obtain ⟨hx, hb, hml, hown, hts, hK, hlk, hini, hcf, hB, ho⟩ := cx
  obtain ⟨rel, lr, ws⟩ := ok
  unfold o_tsw at he
  split at he
  · split at he
    · rename_i h9
      cases he
      exact lv_tableOut hx hb hd h9 ht (kk ad H locs cells slots lsr (fun _ _ => rfl) (Nat.le_refl _) ⟨rel, lr, zw_t ws⟩ hS rfl rfl)
    · rename_i h9
      split at he
      · rename_i t hti
        cases he
        obtain ⟨off, e1, e2⟩ := hts2 _ _ hti
        exact lv_tableIn hx hb hd (fun q => h9 (Or.inl q)) (fun q => h9 (Or.inr q)) e1 e2 (kk ad H locs cells slots lsr (fun _ _ => rfl) (Nat.le_refl _) ⟨rel, lr, zw_t ws⟩ hS rfl rfl)
      · cases he
  · cases he

theorem zs_dup {G : zG} {own : String} {cc : ByteArray} {nL : Nat} {ini : Bool} {pc : Nat} (hd : decode cc pc = .ok (.dup, 1)) : zSnd G own cc nL ini pc (o_dup) := by
  intro ls st h pc' ls' st' h' he l p e R s m args below meth c D Q cx ad H locs cells slots lsr ok hS hc hs hR kk
  obtain ⟨hx, hb, hml, hown, hts, hK, hlk, hini, hcf, hB, ho⟩ := cx
  obtain ⟨rel, lr, ws⟩ := ok
  unfold o_dup at he
  split at he
  · split at he
    · rename_i h9
      cases he
      exact lv_dup hx hb hd (by rw [zmv_cat ho]; exact zC1_cat h9) (kk ad H locs cells slots lsr (fun _ _ => rfl) (Nat.le_refl _) ⟨rel, lr, zw_c (zw_h ws) ws⟩ hS rfl rfl)
    · cases he
  · cases he

theorem zs_dup2 {G : zG} {own : String} {cc : ByteArray} {nL : Nat} {ini : Bool} {pc : Nat} (hd : decode cc pc = .ok (.dup2, 1)) : zSnd G own cc nL ini pc (o_dup2) := by
  intro ls st h pc' ls' st' h' he l p e R s m args below meth c D Q cx ad H locs cells slots lsr ok hS hc hs hR kk
  obtain ⟨hx, hb, hml, hown, hts, hK, hlk, hini, hcf, hB, ho⟩ := cx
  obtain ⟨rel, lr, ws⟩ := ok
  unfold o_dup2 at he
  split at he
  · split at he
    · rename_i h9
      cases he
      have h8 := (Bool.and_eq_true _ _).mp h9
      exact lv_dup2_11 hx hb hd (by rw [zmv_cat ho]; exact zC1_cat h8.1) (by rw [zmv_cat ho]; exact zC1_cat h8.2) (kk ad H locs cells slots lsr (fun _ _ => rfl) (Nat.le_refl _) ⟨rel, lr, zw_c (zw_h ws) (zw_c (zw_h (zw_t ws)) ws)⟩ hS rfl rfl)
    · cases he
  · cases he

theorem zs_pop {G : zG} {own : String} {cc : ByteArray} {nL : Nat} {ini : Bool} {pc : Nat} (hd : decode cc pc = .ok (.pop, 1)) : zSnd G own cc nL ini pc (o_pop) := by
  intro ls st h pc' ls' st' h' he l p e R s m args below meth c D Q cx ad H locs cells slots lsr ok hS hc hs hR kk
  obtain ⟨hx, hb, hml, hown, hts, hK, hlk, hini, hcf, hB, ho⟩ := cx
  obtain ⟨rel, lr, ws⟩ := ok
  unfold o_pop at he
  split at he
  · split at he
    · rename_i h9
      cases he
      exact lv_pop hx hb hd (by rw [zmv_cat ho]; exact zC1_cat h9) (kk ad H locs cells slots lsr (fun _ _ => rfl) (Nat.le_refl _) ⟨rel, lr, zw_t ws⟩ hS rfl rfl)
    · cases he
  · cases he
