theorem zMk_or (P Q : Nat → Bool) (n : Nat) : zMk P n ||| zMk Q n = zMk (fun k => P k || Q k) n := by
  apply Nat.eq_of_testBit_eq
  intro i
  rw [Nat.testBit_or, zMk_tb, zMk_tb, zMk_tb]
  cases decide (i < n) <;> rfl
theorem zMk_and (P Q : Nat → Bool) (n : Nat) : zMk P n &&& zMk Q n = zMk (fun k => P k && Q k) n := by
  apply Nat.eq_of_testBit_eq
  intro i
  rw [Nat.testBit_and, zMk_tb, zMk_tb, zMk_tb]
  cases decide (i < n)
  · rfl
  · rw [Bool.true_and, Bool.true_and, Bool.true_and]
theorem zMk_0 (n : Nat) : zMk (fun _ => false) n = 0 := by
  apply Nat.eq_of_testBit_eq
  intro i
  rw [zMk_tb, Nat.zero_testBit, Bool.and_false]
theorem zpC_e {O : zOt} {W : List (Nat × Nat)} {b : Bool} (o : Option Nat) : zpC (o.getD (zlst O W b)) W.length b = (!b && (decide (W.length = 0) || zpw W.length o)) := by
  cases b with
  | true => rfl
  | false =>
    have l0 : zlst O W false = W.length := if_neg (fun q => by cases q.1)
    unfold zpC
    rw [l0]
    cases o with
    | none =>
      show (true && decide (W.length = 0 ∨ W.length < W.length)) = (true && (decide (W.length = 0) || false))
      rw [Bool.or_false, Bool.true_and, Bool.true_and]
      by_cases q : W.length = 0
      · rw [decide_eq_true q, decide_eq_true (Or.inl q)]
      · rw [decide_eq_false q, decide_eq_false (fun z => z.elim q (Nat.lt_irrefl _))]
    | some v =>
      show (true && decide (v = 0 ∨ W.length < v)) = (true && (decide (W.length = 0) || decide (v < 1 ∨ W.length < v)))
      rw [Bool.true_and, Bool.true_and]
      by_cases q : W.length = 0
      · rw [decide_eq_true q, decide_eq_true (show v = 0 ∨ W.length < v by omega)]
        rfl
      · rw [decide_eq_false q, Bool.false_or]
        by_cases z : v = 0 ∨ W.length < v
        · rw [decide_eq_true z, decide_eq_true (show v < 1 ∨ W.length < v by omega)]
        · rw [decide_eq_false z, decide_eq_false (show ¬ (v < 1 ∨ W.length < v) by omega)]
/-- the places of a set -/
def zSp (O : zOt) (W : List (Nat × Nat)) (b : Bool) (l : List zRg) (n : Nat) : Bool := zPg O W n && zrsin l (if b then zPn O W n else n) (zlst O W b)
theorem zRg_mk {O : zOt} {W : List (Nat × Nat)} {b : Bool} {o1 o2 : Option Nat} {y1 y3 : Nat} (h1 : y1 = o1.getD (zlst O W b)) (h3 : y3 = o2.getD (zlst O W b)) : zMk (fun n => zPg O W n && decide ((if y3 < y1 then y3 else y1) ≤ (if b then zPn O W n else n) ∧ (if b then zPn O W n else n) ≤ (if y1 < y3 then y3 else y1))) W.length = zMk (zSp O W b [(o1, o2)]) W.length := by
  refine zMk_cg _ fun n _ _ => ?_
  obtain ⟨v, hv⟩ : ∃ v, v = (if b then zPn O W n else n) := ⟨_, rfl⟩
  unfold zSp
  rw [← hv]
  congr 1
  show _ = (zrin (o1, o2) v (zlst O W b) || false)
  rw [Bool.or_false]
  unfold zrin
  dsimp only
  rw [← h1, ← h3]
  by_cases q : y1 < y3
  · rw [if_pos q, if_pos q, if_neg (by omega)]
  · rw [if_neg q, if_neg q]
    by_cases q2 : y3 < y1
    · rw [if_pos q2]
    · rw [if_neg q2, show y1 = y3 by omega]
theorem zSp_c {O : zOt} {W : List (Nat × Nat)} {b : Bool} {r : zRg} {l : List zRg} : zMk (zSp O W b [r]) W.length ||| zMk (zSp O W b l) W.length = zMk (zSp O W b (r :: l)) W.length := by
  rw [zMk_or]
  refine zMk_cg _ fun n _ _ => ?_
  unfold zSp zrsin
  rw [List.any_cons, List.any_cons, List.any_nil, Bool.or_false]
  cases zPg O W n <;> rfl
theorem zrsw_c {r : zRg} {l : List zRg} {n : Nat} : (zrsw [r] n || zrsw l n) = zrsw (r :: l) n := by
  unfold zrsw
  rw [List.any_cons, List.any_cons, List.any_nil, Bool.or_false]
  cases decide (n = 0) <;> cases (zpw n r.1 || zpw n r.2) <;> rfl
theorem zl_ex (x : Int64) : ∃ n, x = nL n := ⟨x.toBitVec.toNat, by
  apply Int64.toBitVec_inj.mp
  show x.toBitVec = BitVec.ofNat 64 x.toBitVec.toNat
  rw [BitVec.ofNat_toNat, BitVec.setWidth_eq]⟩
section
variable {L : Nat} {xs : Nat → Int32} {m : zMm} {O : zOt} {W : List (Nat × Nat)} {p s len : Nat} {c : Nat → Nat}
/-- what the reader makes of a set -/
def zSr (O : zOt) (W : List (Nat × Nat)) (c : Nat → Nat) (b : Bool) (f a : Nat) (bd wr : Bool) (M a' : Nat) (bd' wr' : Bool) : Prop := (bd = true → bd' = true) ∧ (bd = false → match zset c f a with
  | some (l, e) => bd' = false ∧ a' = e ∧ M = zMk (zSp O W b l) W.length ∧ wr' = (wr || (!b && zrsw l W.length))
  | none => bd' = true ∨ zdig (c a') = true)
theorem s37l (hs : s < 3) (hl : zLm m s len c) {b : Bool} : ∀ (k i a : Nat) (bd wr : Bool) (h : zH) (M : Nat) (w6 w7 : Slot), i + k = 48 → w6 ≠ .second → w7 ≠ .second → zFx h → zWv h m O s W → zRr h p s len a bd wr → (bd = true ∨ 2 * i ≤ a) → ∃ h' M' a' bd' wr', zEv (zPr L xs) 2 37 8 [.val (.ref p), .val (.int (nI b.toNat)), .val (.long (nL M)), .second, .val (.int (nI true.toNat)), .val (.int (nI i)), w6, w7] [] (zMH h m) = some (.inl (some (.long (nL (M ||| M')))), zMH h' m) ∧ a ≤ a' ∧ zRr h' p s len a' bd' wr' ∧ zRf p 0 0 h h' ∧ zSr O W c b (k + 16) a bd wr M' a' bd' wr' := by
  intro k
  induction k with
  | zero =>
    intro i a bd wr h M w6 w7 hk h6 h7 hx hW r hb
    have al := r.1.2.2
    refine ⟨h, 0, a, bd, wr, ?_, Nat.le_refl a, r, zRf_rf p h, fun z => z, fun z => ?_⟩
    · rw [Nat.or_zero]
      exact p37_8_4 (x4 := true) hx hs (by omega) (by omega)
    · exfalso
      rcases hb with q | q
      · rw [z] at q; cases q
      · omega
  | succ k ih =>
    intro i a bd wr h M w6 w7 hk h6 h7 hx hW r hb
    have b5 : 154 ≤ p := by have := r.1.1.1; omega
    have hc := zLm_ch hl r.1.2.2.2
    obtain ⟨h1, v1, a1, bd1, e1, ⟨l1, la1⟩, r1, f1, m1, q1⟩ := s38 (L := L) (xs := xs) (b := b) hx hs hl hW r
    have hx1 := zFx_rf hx f1
    have W1 := zWv_rf hx hs r.1.2.1 f1 hW
    obtain ⟨h2, e2, r2, f2⟩ := s40 (L := L) (xs := xs) hx1 hs hl r1 (x := 58) (by decide) (by decide)
    have hx2 := zFx_rf hx1 f2
    have W2 := zWv_rf hx1 hs r1.1.2.1 f2 W1
    have zs : zset c (k + 1 + 16) a = match zrg c a with
      | none => none
      | some (r, e) => if c e = 44 then (match zset c (k + 16) (e + 1) with
        | none => none
        | some (l, e2) => some (r :: l, e2)) else some ([r], e) := rfl
    have P40 : ∀ {h : zH} {a : Nat} {bd wr : Bool}, zFx h → zRr h p s len a bd wr → ∃ h', zCl (zPr L xs) 40 [.ref p, .int (nI 44)] (zMH h m) = some (.inl (some (.int (nI (decide (c a = 44)).toNat))), zMH h' m) ∧ zRr h' p s len (if c a = 44 then a + 1 else a) bd wr ∧ zRf p 0 0 h h' := fun hx r => s40 hx hs hl r (by decide) (by decide)
    have A : ∃ h3 a3 bd3 wr3 mk w6' w7', a ≤ a3 ∧ w6' ≠ Slot.second ∧ w7' ≠ Slot.second ∧ zFx h3 ∧ zWv h3 m O s W ∧ zRr h3 p s len a3 bd3 wr3 ∧ zRf p 0 0 h h3 ∧ (∀ h5 y, zFx h5 → zCl (zPr L xs) 40 [.ref p, .int (nI 44)] (zMH h3 m) = some (.inl (some (.int (nI (y : Bool).toNat))), zMH h5 m) → zEv (zPr L xs) 2 37 8 [.val (.ref p), .val (.int (nI b.toNat)), .val (.long (nL M)), .second, .val (.int (nI true.toNat)), .val (.int (nI i)), w6, w7] [] (zMH h m) = zEv (zPr L xs) 2 37 8 [.val (.ref p), .val (.int (nI b.toNat)), .val (.long (nL (M ||| mk))), .second, .val (.int (nI y.toNat)), .val (.int (nI (i + 1))), w6', w7'] [] (zMH h5 m)) ∧ (bd = true → bd3 = true) ∧ (bd = false → match zrg c a with
      | some (r, e) => bd3 = false ∧ a3 = e ∧ a < e ∧ mk = zMk (zSp O W b [r]) W.length ∧ wr3 = (wr || (!b && zrsw [r] W.length))
      | none => bd3 = true ∨ zdig (c a3) = true) := by
      by_cases q : c a1 = 58
      · rw [if_pos q] at r2
        rw [decide_eq_true q] at e2
        obtain ⟨h3, v3, a3, bd3, e3, ⟨l3, la3⟩, r3, f3, m3, q3⟩ := s38 (L := L) (xs := xs) (b := b) hx2 hs hl W2 r2
        have hx3 := zFx_rf hx2 f3
        have W3 := zWv_rf hx2 hs r2.1.2.1 f3 W2
        have e66 := s66 (L := L) (xs := xs) (lo := if v3 < v1 then v3 else v1) (hi := if v1 < v3 then v3 else v1) (b := b) hx3 hs W3 (by split <;> omega) (by split <;> omega)
        refine ⟨h3, a3, bd3, _, _, _, _, by omega, zsecn, zsecn, hx3, W3, r3, zRf_tr (zRf_tr f1 f2) f3, fun h5 y hx5 e5 => p37_8_1 (x4 := true) hx hs (by omega) rfl r.1.2.1 e1 hx1 r1.1.2.1 (y2 := true) e2 hx2 rfl r2.1.2.1 e3 hx3 r3.1.2.1 r3.2.2.1 e66 e5 hx5 h6 h7 (by omega) (by omega) (by omega), fun z => m3 (m1 z), fun z => ?_⟩
        unfold zrg
        cases hz : zpt c a with
        | none =>
          rw [hz] at q1
          rcases q1 with g | g
          · exact Or.inl (m3 g)
          · rw [q] at g; cases g
        | some oe =>
          obtain ⟨o1, en1⟩ := oe
          rw [hz] at q1
          obtain ⟨g1, g2, g3⟩ := q1
          dsimp only
          rw [← g2, if_pos q]
          cases hz2 : zpt c (a1 + 1) with
          | none =>
            rw [hz2] at q3
            exact q3
          | some oe2 =>
            obtain ⟨o2, en2⟩ := oe2
            rw [hz2] at q3
            obtain ⟨g4, g5, g6⟩ := q3
            have ge1 := (zpt_ge hc hz).1
            have ge2 := (zpt_ge hc hz2).1
            refine ⟨by rw [g6, g3, z], g5, by omega, zRg_mk g1 g4, ?_⟩
            rw [g1, g4, zpC_e, zpC_e]
            unfold zrsw
            rw [List.any_cons, List.any_nil, Bool.or_false]
            cases wr <;> cases b <;> cases decide (W.length = 0) <;> cases zpw W.length o1 <;> cases zpw W.length o2 <;> rfl
      · rw [if_neg q] at r2
        rw [decide_eq_false q] at e2
        have e66 := s66 (L := L) (xs := xs) (lo := if v1 < v1 then v1 else v1) (hi := if v1 < v1 then v1 else v1) (b := b) hx2 hs W2 (by split <;> omega) (by split <;> omega)
        refine ⟨h2, a1, bd1, _, _, _, _, la1, zsecn, zsecn, hx2, W2, r2, zRf_tr f1 f2, fun h5 y hx5 e5 => p37_8_2 (x4 := true) hx hs (by omega) rfl r.1.2.1 e1 hx1 r1.1.2.1 (y2 := false) e2 hx2 rfl r2.1.2.1 r2.2.2.1 e66 e5 hx5 h6 h7 (by omega) (by omega), m1, fun z => ?_⟩
        unfold zrg
        cases hz : zpt c a with
        | none =>
          rw [hz] at q1
          exact q1
        | some oe =>
          obtain ⟨o1, en1⟩ := oe
          rw [hz] at q1
          obtain ⟨g1, g2, g3⟩ := q1
          dsimp only
          rw [← g2, if_neg q]
          have ge1 := (zpt_ge hc hz).1
          refine ⟨by rw [g3, z], rfl, by omega, zRg_mk g1 g1, ?_⟩
          rw [g1, zpC_e]
          unfold zrsw
          rw [List.any_cons, List.any_nil, Bool.or_false]
          cases wr <;> cases b <;> cases decide (W.length = 0) <;> cases zpw W.length o1 <;> rfl
    obtain ⟨h3, a3, bd3, wr3, mk, w6', w7', la3, h6', h7', hx3, W3, r3, f3, run, m3, q3⟩ := A
    obtain ⟨h5, e5, r5, f5⟩ := P40 hx3 r3
    have hx5 := zFx_rf hx3 f5
    have W5 := zWv_rf hx3 hs r3.1.2.1 f5 W3
    have st := run h5 _ hx5 e5
    by_cases q : c a3 = 44
    · rw [if_pos q] at r5
      rw [decide_eq_true q] at st
      have inv : bd3 = true ∨ 2 * (i + 1) ≤ a3 + 1 := by
        cases hbd : bd with
        | true => exact Or.inl (m3 hbd)
        | false =>
          have q3 := q3 hbd
          rcases hb with z | z
          · rw [hbd] at z; cases z
          · cases hz : zrg c a with
            | none =>
              rw [hz] at q3
              rcases q3 with g | g
              · exact Or.inl g
              · rw [q] at g; cases g
            | some re =>
              obtain ⟨r0, e0⟩ := re
              rw [hz] at q3
              obtain ⟨g1, g2, g3, -⟩ := q3
              right
              omega
      obtain ⟨h', M', a', bd', wr', e', la', r', f', z'⟩ := ih (i + 1) (a3 + 1) bd3 wr3 h5 (M ||| mk) w6' w7' (by omega) h6' h7' hx5 W5 r5 inv
      refine ⟨h', mk ||| M', a', bd', wr', by rw [← Nat.or_assoc]; exact st.trans e', by omega, r', zRf_tr (zRf_tr f3 f5) f', fun z => z'.1 (m3 z), fun z => ?_⟩
      have q3 := q3 z
      rw [zs]
      cases hz : zrg c a with
      | none =>
        rw [hz] at q3
        rcases q3 with g | g
        · exact Or.inl (z'.1 g)
        · rw [q] at g; cases g
      | some re =>
        obtain ⟨r0, e0⟩ := re
        rw [hz] at q3
        obtain ⟨g1, g2, g3, g4, g5⟩ := q3
        have z2 := z'.2 g1
        dsimp only
        rw [← g2, if_pos q]
        cases hz2 : zset c (k + 16) (a3 + 1) with
        | none =>
          rw [hz2] at z2
          exact z2
        | some le =>
          obtain ⟨l, e2'⟩ := le
          rw [hz2] at z2
          obtain ⟨y1, y2, y3, y4⟩ := z2
          refine ⟨y1, y2, by rw [g4, y3, zSp_c], ?_⟩
          rw [y4, g5, ← zrsw_c (r := r0) (l := l)]
          cases wr <;> cases b <;> cases zrsw [r0] W.length <;> cases zrsw l W.length <;> rfl
    · rw [if_neg q] at r5
      rw [decide_eq_false q] at st
      have en : zEv (zPr L xs) 2 37 8 [.val (.ref p), .val (.int (nI b.toNat)), .val (.long (nL (M ||| mk))), .second, .val (.int (nI false.toNat)), .val (.int (nI (i + 1))), w6', w7'] [] (zMH h5 m) = some (.inl (some (.long (nL (M ||| mk)))), zMH h5 m) := by
        by_cases l : i + 1 < 48
        · exact p37_8_3 (x4 := false) hx5 hs l rfl (by omega)
        · exact p37_8_4 (x4 := false) hx5 hs (by omega) (by omega)
      refine ⟨h5, mk, a3, bd3, wr3, st.trans en, la3, r5, zRf_tr f3 f5, m3, fun z => ?_⟩
      have q3 := q3 z
      rw [zs]
      cases hz : zrg c a with
      | none =>
        rw [hz] at q3
        exact q3
      | some re =>
        obtain ⟨r0, e0⟩ := re
        rw [hz] at q3
        obtain ⟨g1, g2, g3, g4, g5⟩ := q3
        dsimp only
        rw [← g2, if_neg q]
        exact ⟨g1, rfl, g4, g5⟩
theorem s37 {h : zH} (hx : zFx h) (hs : s < 3) (hl : zLm m s len c) (hW : zWv h m O s W) {a : Nat} {bd wr : Bool} (r : zRr h p s len a bd wr) {b : Bool} : ∃ h' M' a' bd' wr', zCl (zPr L xs) 37 [.ref p, .int (nI b.toNat)] (zMH h m) = some (.inl (some (.long (nL M'))), zMH h' m) ∧ a ≤ a' ∧ zRr h' p s len a' bd' wr' ∧ zRf p 0 0 h h' ∧ zSr O W c b 64 a bd wr M' a' bd' wr' := by
  rw [en_37]
  obtain ⟨h', M', a', bd', wr', e, la, r', f, z⟩ := s37l (L := L) (xs := xs) (O := O) (W := W) (b := b) hs hl 48 0 a bd wr h 0 .unset .unset rfl zsecu zsecu hx hW r (Or.inr (Nat.zero_le _))
  rw [Nat.zero_or] at e
  exact ⟨h', M', a', bd', wr', (p37_0_1 hx hs).trans e, la, r', f, z⟩
end
