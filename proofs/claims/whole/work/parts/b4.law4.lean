/-! ===== the law as a whole; the handlers ===== -/
section
variable {L : Nat} {xs : Nat → Int32}
theorem zlaw_pre {h0 h70 h86 : zH} (n0 : zN h0 = 100) (n70 : zN h70 = 132) (n86 : zN h86 = 154) (e1 : zCl (zPr L xs) 70 [.ref 100] (zNew h0 9 0 3) = some (.inl none, h70)) (e2 : zCl (zPr L xs) 86 [.ref 132] (zNew h70 10 0 39) = some (.inl none, h86)) : zEv (zPr L xs) 36 160 0 [.val (.ref 15), .unset, .unset, .unset, .unset, .unset, .unset] [] h0 = zEv (zPr L xs) 36 160 23 [.val (.ref 15), .val (.ref 100), .val (.ref 132), .val (.ref 154), .val (.int (nI (4 * 0))), .unset, .unset] [] (zNew h86 21 1 1) := by
  have a0 : zEv (zPr L xs) 36 160 0 [.val (.ref 15), .unset, .unset, .unset, .unset, .unset, .unset] [] h0 = zEv (zPr L xs) 36 160 3 [.val (.ref 15), .unset, .unset, .unset, .unset, .unset, .unset] [.ref (zN h0)] (zNew h0 9 0 3) := zEv_go lk_160_0 rfl
  rw [n0] at a0
  have t1 : zT (zNew h0 9 0 3) 100 = 9 := by rw [← n0]; exact zNew_T (n := 0) (k := 3)
  have a1 : zEv (zPr L xs) 36 160 3 [.val (.ref 15), .unset, .unset, .unset, .unset, .unset, .unset] [.ref 100] (zNew h0 9 0 3) = zEv (zPr L xs) 36 160 8 [.val (.ref 15), .val (.ref 100), .unset, .unset, .unset, .unset, .unset] [] h70 := Eq.trans (zEv_go lk_160_3 rfl) (Eq.trans (k_cv (a := 100) lk_160_4 rfl rfl (Or.inl t1) rfl rfl (rk_70 _) (by decide) e1) (k_astore lk_160_7 rfl rfl))
  have a2 : zEv (zPr L xs) 36 160 8 [.val (.ref 15), .val (.ref 100), .unset, .unset, .unset, .unset, .unset] [] h70 = zEv (zPr L xs) 36 160 11 [.val (.ref 15), .val (.ref 100), .unset, .unset, .unset, .unset, .unset] [.ref (zN h70)] (zNew h70 10 0 39) := zEv_go lk_160_8 rfl
  rw [n70] at a2
  have t2 : zT (zNew h70 10 0 39) 132 = 10 := by rw [← n70]; exact zNew_T (n := 0) (k := 39)
  have a3 : zEv (zPr L xs) 36 160 11 [.val (.ref 15), .val (.ref 100), .unset, .unset, .unset, .unset, .unset] [.ref 132] (zNew h70 10 0 39) = zEv (zPr L xs) 36 160 16 [.val (.ref 15), .val (.ref 100), .val (.ref 132), .unset, .unset, .unset, .unset] [] h86 := Eq.trans (zEv_go lk_160_11 rfl) (Eq.trans (k_cv (a := 132) lk_160_12 rfl rfl (Or.inl t2) rfl rfl (rk_86 _) (by decide) e2) (k_astore lk_160_15 rfl rfl))
  have a4 : zEv (zPr L xs) 36 160 16 [.val (.ref 15), .val (.ref 100), .val (.ref 132), .unset, .unset, .unset, .unset] [] h86 = zEv (zPr L xs) 36 160 19 [.val (.ref 15), .val (.ref 100), .val (.ref 132), .unset, .unset, .unset, .unset] [.ref (zN h86)] (zNew h86 21 1 1) := by
    refine Eq.trans (zEv_go lk_160_16 rfl) (zEv_go lk_160_17 ?_)
    unfold o_newa
    dsimp only
    rw [if_pos (by decide)]
    rfl
  rw [n86] at a4
  have a5 : zEv (zPr L xs) 36 160 19 [.val (.ref 15), .val (.ref 100), .val (.ref 132), .unset, .unset, .unset, .unset] [.ref 154] (zNew h86 21 1 1) = zEv (zPr L xs) 36 160 23 [.val (.ref 15), .val (.ref 100), .val (.ref 132), .val (.ref 154), .val (.int 0), .unset, .unset] [] (zNew h86 21 1 1) := Eq.trans (k_astore lk_160_19 rfl rfl) (Eq.trans (zEv_go lk_160_20 rfl) (zEv_go lk_160_21 rfl))
  exact a0.trans (a1.trans (a2.trans (a3.trans (a4.trans a5))))
theorem zn86 : zN zH86 = 154 := by
  have := zi1_n.1
  have e : zN zH1 = zN zH86 + 1 := rfl
  omega
theorem zlaw_all (hL : L ≤ 256) : ∃ H, zEv (zPr L xs) 36 160 0 [.val (.ref 15), .unset, .unset, .unset, .unset, .unset, .unset] [] zh0 = some (.inl (some (.int (nI 1))), H) ∧ zC H ≤ 5000 ∧ zS H ≤ 40000 := by
  have p := zlaw_pre (L := L) (xs := xs) (h0 := zh0) rfl zn70 zn86 e70 e86
  obtain ⟨H, e, c1, c2⟩ := zlaw_loop (xs := xs) hL 65 0 zH1 zm1 .unset .unset rfl (fun h => by cases h) (fun h => by cases h) (by decide) ⟨_, _, _, _, zKI1, zRI1⟩
  rw [zMH1] at e
  have n := zi1_n
  exact ⟨H, p.trans e, by omega, by omega⟩
end
/-! the handlers -/
def zNT (op : zOp) : Prop := ∀ pc ls st h E h', op pc ls st h ≠ some (.inr (.inl (.inr E, h')))
theorem zNT_i {c : Prop} [Decidable c] {a b : zOp} (ha : zNT a) (hb : zNT b) : zNT (if c then a else b) := by
  split
  · exact ha
  · exact hb
theorem zNT_none : zNT o_none := fun _ _ _ _ _ _ e => by cases e
theorem zNT_push (v : Value) (n : Nat) : zNT (o_push v n) := fun _ _ _ _ _ _ e => by cases e
theorem zNT_goto (t : Nat) : zNT (o_goto t) := fun _ _ _ _ _ _ e => by cases e
theorem zNT_aload (i n : Nat) : zNT (o_aload i n) := fun pc ls st h E h' e => by
  unfold o_aload at e
  split at e
  · split at e <;> cases e
  · cases e
theorem zNT_iload (i n : Nat) : zNT (o_iload i n) := fun pc ls st h E h' e => by
  unfold o_iload at e
  split at e <;> cases e
theorem zNT_astore (i n : Nat) : zNT (o_astore i n) := fun pc ls st h E h' e => by
  unfold o_astore at e
  split at e
  · split at e
    · split at e <;> cases e
    · cases e
  · cases e
theorem zNT_ifeq (t : Nat) : zNT (o_ifeq t) := fun pc ls st h E h' e => by
  unfold o_ifeq at e
  split at e <;> cases e
theorem zNT_i2l : zNT o_i2l := fun pc ls st h E h' e => by
  unfold o_i2l at e
  split at e <;> cases e
theorem zNT_last : zNT o_last := fun pc ls st h E h' e => by
  unfold o_last at e
  split at e
  · split at e <;> cases e
  · cases e
theorem zNT_iret (f : Int32 → Int32) : zNT (o_iret f) := fun pc ls st h E h' e => by
  unfold o_iret at e
  split at e
  · split at e <;> cases e
  · cases e
theorem zNT_cv (y n nl u w : Nat) : zNT (o_cv y n nl u w) := fun pc ls st h E h' e => by
  unfold o_cv at e
  split at e
  · split at e
    · split at e <;> cases e
    · cases e
  · cases e
set_option maxHeartbeats 4000000 in
theorem zNT_154 (L : Nat) (xs : Nat → Int32) (pc : Nat) : zNT (zT_154 L xs pc) := by
  unfold zT_154
  repeat (first | exact zNT_none | exact zNT_push _ _ | exact zNT_goto _ | exact zNT_aload _ _ | exact zNT_iload _ _ | exact zNT_astore _ _ | exact zNT_ifeq _ | exact zNT_i2l | exact zNT_last | exact zNT_iret _ | exact zNT_cv _ _ _ _ _ | refine zNT_i ?_ ?_)
set_option maxHeartbeats 4000000 in
theorem zNT_155 (L : Nat) (xs : Nat → Int32) (pc : Nat) : zNT (zT_155 L xs pc) := by
  unfold zT_155
  repeat (first | exact zNT_none | exact zNT_push _ _ | exact zNT_goto _ | exact zNT_aload _ _ | exact zNT_iload _ _ | exact zNT_astore _ _ | exact zNT_ifeq _ | exact zNT_i2l | exact zNT_last | exact zNT_iret _ | exact zNT_cv _ _ _ _ _ | refine zNT_i ?_ ?_)
set_option maxHeartbeats 4000000 in
theorem zNT_156 (L : Nat) (xs : Nat → Int32) (pc : Nat) : zNT (zT_156 L xs pc) := by
  unfold zT_156
  repeat (first | exact zNT_none | exact zNT_push _ _ | exact zNT_goto _ | exact zNT_aload _ _ | exact zNT_iload _ _ | exact zNT_astore _ _ | exact zNT_ifeq _ | exact zNT_i2l | exact zNT_last | exact zNT_iret _ | exact zNT_cv _ _ _ _ _ | refine zNT_i ?_ ?_)
set_option maxHeartbeats 4000000 in
theorem zNT_157 (L : Nat) (xs : Nat → Int32) (pc : Nat) : zNT (zT_157 L xs pc) := by
  unfold zT_157
  repeat (first | exact zNT_none | exact zNT_push _ _ | exact zNT_goto _ | exact zNT_aload _ _ | exact zNT_iload _ _ | exact zNT_astore _ _ | exact zNT_ifeq _ | exact zNT_i2l | exact zNT_last | exact zNT_iret _ | exact zNT_cv _ _ _ _ _ | refine zNT_i ?_ ?_)
set_option maxHeartbeats 4000000 in
theorem zNT_158 (L : Nat) (xs : Nat → Int32) (pc : Nat) : zNT (zT_158 L xs pc) := by
  unfold zT_158
  repeat (first | exact zNT_none | exact zNT_push _ _ | exact zNT_goto _ | exact zNT_aload _ _ | exact zNT_iload _ _ | exact zNT_astore _ _ | exact zNT_ifeq _ | exact zNT_i2l | exact zNT_last | exact zNT_iret _ | exact zNT_cv _ _ _ _ _ | refine zNT_i ?_ ?_)
set_option maxHeartbeats 4000000 in
theorem zNT_159 (L : Nat) (xs : Nat → Int32) (pc : Nat) : zNT (zT_159 L xs pc) := by
  unfold zT_159
  repeat (first | exact zNT_none | exact zNT_push _ _ | exact zNT_goto _ | exact zNT_aload _ _ | exact zNT_iload _ _ | exact zNT_astore _ _ | exact zNT_ifeq _ | exact zNT_i2l | exact zNT_last | exact zNT_iret _ | exact zNT_cv _ _ _ _ _ | refine zNT_i ?_ ?_)
theorem zhd_y (y : Nat) (h : (zM y).2.2.2.2 ≠ []) : 154 ≤ y ∧ y ≤ 159 := by
  by_cases q : y < 161
  · have : ∀ y, y < 161 → (zM y).2.2.2.2 ≠ [] → 154 ≤ y ∧ y ≤ 159 := by decide +kernel
    exact this y q h
  · exfalso
    apply h
    have l : zMl.length = 161 := by decide +kernel
    unfold zM
    rw [List.getD_eq_getElem?_getD, List.getElem?_eq_none (by omega)]
    rfl
theorem zPr_hs {B0 : Nat} {cad : Nat → Nat} {ov : Value} {L : Nat} {xs : Nat → Int32} : zHs (zGG B0 cad ov L xs) (zPr L xs) zM := by
  refine ⟨fun y hy pc E k e => ?_, fun y hy pc E e => ?_, fun y hy pc E k e => ?_, fun y hy pc ls st h E h' => ?_⟩
  · have e : zHand y pc E = some (some k) := e
    unfold zHand at e
    rw [if_pos hy] at e
    cases e
  · have e : zHand y pc E = some none := e
    unfold zHand at e
    rw [if_neg hy] at e
    split at e <;> cases e
  · have e : zHand y pc E = some (some k) := e
    unfold zHand at e
    rw [if_neg hy] at e
    cases hf : zHl.find? (fun q => q.1 == y && (q.2.1 == pc && q.2.2.1 == E)) with
    | none => rw [hf] at e; cases e
    | some q =>
      rw [hf] at e
      cases e
      have hm := List.mem_of_find?_eq_some hf
      have hp := List.find?_some hf
      obtain ⟨q1, q2, q3, q4⟩ := q
      rw [Bool.and_eq_true, Bool.and_eq_true] at hp
      obtain ⟨p1, p2, p3⟩ := hp
      have p1 : q1 = y := eq_of_beq p1
      have p2 : q2 = pc := eq_of_beq p2
      have p3 : q3 = E := eq_of_beq p3
      subst p1 p2 p3
      unfold zHl at hm
      rcases List.mem_cons.mp hm with r | hm
      · cases r; exact zcat_154_0
      rcases List.mem_cons.mp hm with r | hm
      · cases r; exact zcat_154_1
      rcases List.mem_cons.mp hm with r | hm
      · cases r; exact zcat_154_2
      rcases List.mem_cons.mp hm with r | hm
      · cases r; exact zcat_155_0
      rcases List.mem_cons.mp hm with r | hm
      · cases r; exact zcat_155_1
      rcases List.mem_cons.mp hm with r | hm
      · cases r; exact zcat_155_2
      rcases List.mem_cons.mp hm with r | hm
      · cases r; exact zcat_156_0
      rcases List.mem_cons.mp hm with r | hm
      · cases r; exact zcat_156_1
      rcases List.mem_cons.mp hm with r | hm
      · cases r; exact zcat_157_0
      rcases List.mem_cons.mp hm with r | hm
      · cases r; exact zcat_158_0
      rcases List.mem_cons.mp hm with r | hm
      · cases r; exact zcat_159_0
      · exact absurd hm List.not_mem_nil
  · obtain ⟨h1, h2⟩ := zhd_y y hy
    have yy : y = 154 ∨ y = 155 ∨ y = 156 ∨ y = 157 ∨ y = 158 ∨ y = 159 := by omega
    rcases yy with rfl | rfl | rfl | rfl | rfl | rfl
    · exact zNT_154 L xs pc pc ls st h E h'
    · exact zNT_155 L xs pc pc ls st h E h'
    · exact zNT_156 L xs pc pc ls st h E h'
    · exact zNT_157 L xs pc pc ls st h E h'
    · exact zNT_158 L xs pc pc ls st h E h'
    · exact zNT_159 L xs pc pc ls st h E h'
