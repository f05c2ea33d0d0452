/-- a command as it was read -/
def zCq (h : zH) (O : zOt) (W : List (Nat × Nat)) (c : Nat → Nat) (q v y : Nat) (u : Bool) (a : zArg) : Prop := zQf h q v y u.toNat a.1 a.2.1 a.2.2.1 a.2.2.2.2.2.1 (zMk (fun n => zPg O W n && a.2.2.2.2.2.2.2 n) W.length) ∧ (a.2.2.2.2.1 ≠ 0 → ∃ t, zR h 105 q 0 = some t ∧ zSt h t ((List.range a.2.2.2.2.1).map fun i => c (a.2.2.2.1 + i)))
/-- what the reader makes of the rest of a command -/
def zRq2 (O : zOt) (W : List (Nat × Nat)) (c : Nat → Nat) (h' : zH) (q v y : Nat) (u : Bool) (a0 : Nat) (bd wr : Bool) (a' : Nat) (bd' wr' : Bool) : Prop := (bd = true → bd' = true) ∧ (bd = false → match zrest c (zEc O W c) u (v + 1) a0 with
  | some (e, arg) => bd' = false ∧ a' = e ∧ wr' = (wr || arg.2.2.2.2.2.2.1) ∧ zCq h' O W c q v y u arg
  | none => bd' = true ∨ c a' ≠ 0)
theorem zMk_f (O : zOt) (W : List (Nat × Nat)) (n : Nat) : zMk (fun n => zPg O W n && false) n = 0 := by
  rw [← zMk_0 n]
  exact zMk_cg n fun k _ _ => Bool.and_false _
section
variable {L : Nat} {xs : Nat → Int32} {m : zMm} {O : zOt} {W : List (Nat × Nat)} {p q s len : Nat} {c : Nat → Nat}
theorem s27_0 {h : zH} {v y a : Nat} {u bd wr : Bool} (hs : s < 3) (b : zBd h m O W p q s len a bd wr) (z : zQf h q v y u.toNat 0 0 0 0 0) (hv : v < 4) : ∃ h' a' bd' wr', zCl (zPr L xs) 27 [.ref p, .ref q] (zMH h m) = some (.inl none, zMH h' m) ∧ a ≤ a' ∧ zBd h' m O W p q s len a' bd' wr' ∧ zGf p q 48 192 h h' ∧ (zR h' 101 q 0 = some v ∧ zR h' 100 q 0 = some y) ∧ zRq2 O W c h' q v y u a bd wr a' bd' wr' := by
  rw [en_27]
  have st : zEv (zPr L xs) 32 27 0 [.val (.ref p), .val (.ref q)] [] (zMH h m) = some (.inl none, zMH h m) := by
    have e := z.1
    have : v = 0 ∨ v = 1 ∨ v = 2 ∨ v = 3 := by omega
    rcases this with g | g | g | g <;> rw [g] at e
    · exact p27v0_0_1 b.1 hs b.2.2.2.2 e
    · exact p27v1_0_1 b.1 hs b.2.2.2.2 e
    · exact p27v2_0_1 b.1 hs b.2.2.2.2 e
    · exact p27v3_0_1 b.1 hs b.2.2.2.2 e
  refine ⟨h, a, bd, wr, st, Nat.le_refl a, b, zGf_w (zGf_rf (zRf_rf p h)) (Nat.zero_le _) (Nat.zero_le _), ⟨z.1, z.2.1⟩, fun g => g, fun g => ?_⟩
  have zr : zrest c (zEc O W c) u (v + 1) a = some (a, (0, 0, 0, 0, 0, 0, false, fun _ => false)) := by
    unfold zrest
    rw [if_pos (by omega)]
  rw [zr]
  refine ⟨g, rfl, (Bool.or_false wr).symm, ?_, fun g => absurd rfl g⟩
  show zQf h q v y u.toNat 0 0 0 0 (zMk (fun n => zPg O W n && false) W.length)
  rw [zMk_f]
  exact z
theorem s27_4 {h : zH} {v y a : Nat} {u bd wr : Bool} (hs : s < 3) (hl : zLm m s len c) (b : zBd h m O W p q s len a bd wr) (z : zQf h q v y u.toNat 0 0 0 0 0) (hv : 4 ≤ v ∧ v < 8) (h1 : 1 ≤ a) (h32 : c (a - 1) = 32) : ∃ h' a' bd' wr', zCl (zPr L xs) 27 [.ref p, .ref q] (zMH h m) = some (.inl none, zMH h' m) ∧ a ≤ a' ∧ zBd h' m O W p q s len a' bd' wr' ∧ zGf p q 48 192 h h' ∧ (zR h' 101 q 0 = some v ∧ zR h' 100 q 0 = some y) ∧ zRq2 O W c h' q v y u (a - 1) bd wr a' bd' wr' := by
  have hx := b.1
  have ne := zBd_ne b
  have b2 : 154 ≤ q := by have := b.2.2.2.1.1; omega
  obtain ⟨ha, e1, r1, f1⟩ := s28 (L := L) (xs := xs) hx hs hl b.2.2.1
  obtain ⟨bd1, g1, k1⟩ := zBd_r hs b r1 f1
  have z1 := k1 _ _ _ _ _ _ _ _ z
  rw [en_27]
  have st : zEv (zPr L xs) 32 27 0 [.val (.ref p), .val (.ref q)] [] (zMH h m) = some (.inl none, zMH (zsI ha 103 q 0 (nI (if 97 ≤ c a ∧ c a ≤ 100 then c a - 97 else 0))) m) := by
    have e := z.1
    have : v = 4 ∨ v = 5 ∨ v = 6 ∨ v = 7 := by omega
    rcases this with g | g | g | g <;> rw [g] at e
    · exact p27v4_0_1 hx hs b.2.2.2.2 e b.2.2.1.1.2.1 e1 bd1.1 bd1.2.2.2.2 b2
    · exact p27v5_0_1 hx hs b.2.2.2.2 e b.2.2.1.1.2.1 e1 bd1.1 bd1.2.2.2.2 b2
    · exact p27v6_0_1 hx hs b.2.2.2.2 e b.2.2.1.1.2.1 e1 bd1.1 bd1.2.2.2.2 b2
    · exact p27v7_0_1 hx hs b.2.2.2.2 e b.2.2.1.1.2.1 e1 bd1.1 bd1.2.2.2.2 b2
  obtain ⟨w1, w2, w3, w4, w5, w6, w7, w8⟩ := z1
  refine ⟨_, _, _, wr, st, by split <;> omega, zBd_I hs bd1 103 _, zGf_w (zGf_tr g1 (zGf_I p q ha 103 _)) (Nat.zero_le _) (Nat.zero_le _), ⟨w1, w2⟩, fun g => by rw [g]; rfl, fun g => ?_⟩
  have zr : zrest c (zEc O W c) u (v + 1) (a - 1) = if 97 ≤ c a ∧ c a ≤ 100 then some (a + 1, (c a - 97, 0, 0, 0, 0, 0, false, fun _ => false)) else none := by
    unfold zrest
    rw [if_neg (by omega), if_pos h32, if_pos (by omega), show a - 1 + 1 = a by omega, if_neg (show ¬ v + 1 = 9 by omega), show a - 1 + 2 = a + 1 by omega]
  rw [zr]
  by_cases d : 97 ≤ c a ∧ c a ≤ 100
  · rw [if_pos d, if_pos d, if_pos d, decide_eq_true d, g]
    refine ⟨rfl, rfl, (Bool.or_false wr).symm, ?_, fun g => absurd rfl g⟩
    show zQf _ q v y u.toNat (c a - 97) 0 0 0 (zMk (fun n => zPg O W n && false) W.length)
    rw [zMk_f]
    exact ⟨w1, w2, (zsI_g (by decide)).trans w3, zsI_e, (zsI_g (by decide)).trans w5, (zsI_g (by decide)).trans w6, (zsI_g (by decide)).trans w7, w8⟩
  · rw [if_neg d, decide_eq_false d]
    exact Or.inl (by cases bd <;> rfl)
end
