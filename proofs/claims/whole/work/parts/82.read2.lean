/-! ===== the class's reader: flags ===== -/
def zfix (x : Nat) : Int32 := if x = 83 then nI 0 else if x = 65 then nI 1 else if x = 70 then nI 2 else if x = 68 then nI 3 else -1
section
variable {L : Nat} {xs : Nat → Int32} {h : zH} {m : zMm}
theorem s13 (hx : zFx h) {x : Nat} (h7 : x < 127) : zCl (zPr L xs) 13 [.ref 61, .int (nI x), .int (nI 0), .int (nI 4)] (zMH h m) = some (.inl (some (.int (zfix x))), zMH h m) := by
  have hb : zBy h 61 (zByt.getD 1 []) := Or.inr ⟨by rw [hx.2.2.2 61 (by decide)]; decide, rfl⟩
  have hl : (zByt.getD 1 []).length ≤ 64 := by decide
  have e8 : ∀ v, v < 127 → (nI v).toInt8.toInt32 = nI v := by decide
  rw [en_13]
  have st : ∀ i, i < 4 → zEv (zPr L xs) 0 13 7 [.val (.ref 61), .val (.int (nI x)), .val (.int (nI 0)), .val (.int (nI 4)), .val (.int (nI x)), .val (.int (nI i))] [] (zMH h m) = if x = (zByt.getD 1 []).getD i 0 then some (.inl (some (.int (nI i))), zMH h m) else zEv (zPr L xs) 0 13 7 [.val (.ref 61), .val (.int (nI x)), .val (.int (nI 0)), .val (.int (nI 4)), .val (.int (nI x)), .val (.int (nI (i + 1)))] [] (zMH h m) := by
    intro i hi
    have tl : ∀ i, i < 4 → (zByt.getD 1 []).getD i 0 < 127 := by decide
    have tl := tl i hi
    have a1 := (zEv_go (P := zPr L xs) (r := 0) (h := zMH h m) (lk_13_7) (show o_iload 5 2 7 [.val (.ref 61), .val (.int (nI x)), .val (.int (nI 0)), .val (.int (nI 4)), .val (.int (nI x)), .val (.int (nI i))] [] (zMH h m) = _ from rfl)).trans ((zEv_go lk_13_9 rfl).trans ((k_icge_f lk_13_10 (by omega) (by decide) hi).trans ((zEv_go lk_13_13 rfl).trans ((zEv_go lk_13_14 rfl).trans ((k_bald lk_13_16 hb hl hi).trans (zEv_go lk_13_17 rfl))))))
    refine a1.trans ?_
    by_cases q : x = (zByt.getD 1 []).getD i 0
    · rw [if_pos q]
      exact (k_icne_f lk_13_19 q.symm).trans ((zEv_go lk_13_22 rfl).trans (k_iret lk_13_24 rfl))
    · rw [if_neg q]
      exact (k_icne_t lk_13_19 (by omega) (by omega) (fun z => q z.symm)).trans ((k_iincn (k := 1) lk_13_25 rfl rfl rfl).trans (zEv_go lk_13_28 rfl))
  have fin : zEv (zPr L xs) 0 13 7 [.val (.ref 61), .val (.int (nI x)), .val (.int (nI 0)), .val (.int (nI 4)), .val (.int (nI x)), .val (.int (nI 4))] [] (zMH h m) = some (.inl (some (.int (-1))), zMH h m) := (zEv_go lk_13_7 rfl).trans ((zEv_go lk_13_9 rfl).trans ((k_icge_t lk_13_10 (by decide) (by decide) (by decide)).trans ((zEv_go lk_13_31 rfl).trans (k_iret lk_13_32 rfl))))
  have en : zEv (zPr L xs) 0 13 0 [.val (.ref 61), .val (.int (nI x)), .val (.int (nI 0)), .val (.int (nI 4)), .unset, .unset] [] (zMH h m) = zEv (zPr L xs) 0 13 7 [.val (.ref 61), .val (.int (nI x)), .val (.int (nI 0)), .val (.int (nI 4)), .val (.int (nI x)), .val (.int (nI 0))] [] (zMH h m) := by
    refine (zEv_go lk_13_0 rfl).trans ((zEv_go lk_13_1 rfl).trans ?_)
    dsimp only
    rw [e8 x h7]
    exact (zEv_go lk_13_2 rfl).trans ((zEv_go lk_13_4 rfl).trans (zEv_go lk_13_5 rfl))
  rw [en, st 0 (by decide), st 1 (by decide), st 2 (by decide), st 3 (by decide), fin]
  unfold zfix
  have b : (zByt.getD 1 []).getD 0 0 = 83 ∧ (zByt.getD 1 []).getD 1 0 = 65 ∧ (zByt.getD 1 []).getD 2 0 = 70 ∧ (zByt.getD 1 []).getD 3 0 = 68 := by decide
  rw [b.1, b.2.1, b.2.2.1, b.2.2.2]
  repeat' split
  all_goals rfl
theorem s11 {x : Nat} (h7 : x < 127) : zCl (zPr L xs) 11 [.int (nI x)] (zMH h m) = some (.inl (some (.int 1)), zMH h m) := by
  rw [en_11]
  exact (zEv_go lk_11_0 rfl).trans ((k_iflt_f lk_11_1 (by omega)).trans ((zEv_go lk_11_4 rfl).trans ((zEv_go lk_11_5 rfl).trans ((k_icgt_f lk_11_8 (by omega) (by decide) (show x ≤ 255 by omega)).trans ((zEv_go lk_11_11 rfl).trans ((zEv_go lk_11_12 rfl).trans (k_iret lk_11_16 (by decide))))))))
theorem s12 (hx : zFx h) {x : Nat} (h7 : x < 127) : zCl (zPr L xs) 12 [.ref 61, .int (nI x), .int 0, .int (nI 4)] (zMH h m) = some (.inl (some (.int (zfix x))), zMH h m) := by
  have hb : zBy h 61 (zByt.getD 1 []) := Or.inr ⟨by rw [hx.2.2.2 61 (by decide)]; decide, rfl⟩
  rw [en_12]
  exact (zEv_go lk_12_0 rfl).trans ((k_cs lk_12_1 rfl (rk_11 _) (by decide) (s11 h7)).trans ((zEv_go lk_12_4 rfl).trans ((zEv_go lk_12_9 rfl).trans ((zEv_go lk_12_10 rfl).trans ((zEv_go lk_12_11 rfl).trans ((zEv_go lk_12_14 rfl).trans ((zEv_go lk_12_15 rfl).trans ((zEv_go lk_12_16 rfl).trans ((k_blen lk_12_17 hb).trans ((zEv_go lk_12_18 rfl).trans ((zEv_go lk_12_21 rfl).trans ((zEv_go lk_12_22 rfl).trans ((zEv_go lk_12_23 rfl).trans ((zEv_go lk_12_24 rfl).trans ((zEv_go lk_12_29 rfl).trans ((zEv_go lk_12_30 rfl).trans ((zEv_go lk_12_31 rfl).trans ((zEv_go lk_12_32 rfl).trans ((k_cs lk_12_33 rfl (rk_13 _) (by decide) (s13 hx h7)).trans (k_iret lk_12_36 rfl))))))))))))))))))))
theorem s5 (hx : zFx h) {x : Nat} (h7 : x < 127) : zCl (zPr L xs) 5 [.ref 21, .int (nI x)] (zMH h m) = some (.inl (some (.int (zfix x))), zMH h m) := by
  have hS := zSt_k hx (p := 21) (by decide)
  have ht := zSt_t (m := m) hS
  have e6 : zCl (zPr L xs) 6 [.ref 21, .int (nI x), .int 0] (zMH h m) = some (.inl (some (.int (zfix x))), zMH h m) := by
    rw [en_6]
    have e3 : zCl (zPr L xs) 3 [.ref 21] (zMH h m) = some (.inl (some (.int (nI 4))), zMH h m) := s3 hS
    have z : (((154 ≤ 21 ∧ 21 < zN h) ∧ zT h 21 = 1 ∧ zI h 51 21 0 = 0 ∧ zR h 50 21 0 = some 61 ∧ (zT h 61 = 24 ∨ 61 = 93)) ∨ (zT h 21 = 41 ∧ zT h (40 + 21) = 42 ∧ 61 = 40 + 21 ∧ 21 < 54)) := Or.inr ⟨by rw [hx.2.2.2 21 (by decide)]; decide, by rw [hx.2.2.2 (40 + 21) (by decide)]; decide, rfl, by decide⟩
    exact (zEv_go lk_6_0 rfl).trans ((k_cv (a := 21) lk_6_1 rfl rfl ht rfl rfl (rk_8 _) (by decide) (s8 hS)).trans ((zEv_go lk_6_4 rfl).trans ((zEv_go lk_6_7 rfl).trans ((k_sval lk_6_8 z).trans ((zEv_go lk_6_11 rfl).trans ((zEv_go lk_6_12 rfl).trans ((zEv_go lk_6_13 rfl).trans ((k_cv (a := 21) lk_6_14 rfl rfl ht rfl rfl (rk_3 _) (by decide) e3).trans ((k_cs lk_6_17 rfl (rk_12 _) (by decide) (s12 hx h7)).trans ((zEv_go lk_6_20 rfl).trans (k_iret lk_6_36 rfl)))))))))))
  rw [en_5]
  exact (zEv_go lk_5_0 rfl).trans ((zEv_go lk_5_1 rfl).trans ((zEv_go lk_5_2 rfl).trans ((k_cv (a := 21) lk_5_3 rfl rfl ht rfl rfl (rk_6 _) (by decide) e6).trans (k_iret lk_5_6 rfl))))
variable {p s len a : Nat} {bd wr : Bool} {c : Nat → Nat}
theorem zfix_c : ∀ x, x < 127 → (zbit x = 0 ∧ ¬ 0 ≤ zfix x) ∨ (zbit x ≠ 0 ∧ 0 ≤ zfix x ∧ (nI 1) <<< (zfix x &&& 31) = nI (zbit x)) := by decide
theorem s32 (hx : zFx h) (hs : s < 3) (hl : zLm m s len c) (r : zRr h p s len a bd wr) : ∃ h', zCl (zPr L xs) 32 [.ref p] (zMH h m) = some (.inl (some (.int (nI (zbit (c a))))), zMH h' m) ∧ zRr h' p s len (if zbit (c a) = 0 then a else a + 1) (bd || decide (zbit (c a) = 0)) wr ∧ zRf p 0 0 h h' := by
  have cl := hl.2 a
  have e5 := s5 (L := L) (xs := xs) (m := m) hx cl
  have e39 := s39 (L := L) (xs := xs) hx hs hl r
  have b1 : 154 ≤ p := by have := r.1.1.1; omega
  rw [en_32]
  rcases zfix_c (c a) cl with ⟨z, z2⟩ | ⟨z, z2, z3⟩
  · rw [if_pos z, decide_eq_true z, Bool.or_true, z]
    exact ⟨_, p32_0_1 hx hs r.1.2.1 e39 e5 z2 b1, zRr_bd r, zRf_sI p h _ (Or.inr (Or.inl rfl))⟩
  · rw [if_neg z, decide_eq_false z, Bool.or_false, ← z3]
    have al : a < len := Nat.lt_of_not_le fun q => z (by rw [hl.1 a, if_neg (by omega)]; rfl)
    exact ⟨_, p32_0_2 hx hs r.1.2.1 e39 e5 z2 r.2.2.2.2.1 b1, zRr_at r (by omega), zRf_sI p h _ (Or.inl rfl)⟩
end
