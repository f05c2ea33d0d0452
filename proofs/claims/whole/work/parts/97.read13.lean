/-- a command as it was read -/
def zCq (h : zH) (O : zOt) (W : List (Nat × Nat)) (c : Nat → Nat) (q v y : Nat) (u : Bool) (a : zArg) : Prop := zQf h q v y u.toNat a.1 a.2.1 a.2.2.1 a.2.2.2.2.2.1 (zMk (fun n => zPg O W n && a.2.2.2.2.2.2.2 n) W.length) ∧ (a.2.2.2.2.1 ≠ 0 → ∃ t, zR h 105 q 0 = some t ∧ zSt h t ((List.range a.2.2.2.2.1).map fun i => c (a.2.2.2.1 + i)))
/-- what the reader makes of the rest of a command -/
def zRq2 (O : zOt) (W : List (Nat × Nat)) (c : Nat → Nat) (h' : zH) (q v y : Nat) (u : Bool) (a0 : Nat) (bd wr : Bool) (a' : Nat) (bd' wr' : Bool) : Prop := (bd = true → bd' = true) ∧ (bd = false → match zrest c (zEc O W c) u (v + 1) a0 with
  | some (e, arg) => bd' = false ∧ a' = e ∧ wr' = (wr || arg.2.2.2.2.2.2.1) ∧ zCq h' O W c q v y u arg
  | none => bd' = true ∨ c a' ≠ 0)
theorem zMk_f (O : zOt) (W : List (Nat × Nat)) (n : Nat) : zMk (fun n => zPg O W n && false) n = 0 := by
  rw [← zMk_0 n]
  exact zMk_cg n fun k _ _ => Bool.and_false _
section
variable {L : Nat} {xs : Nat → Int32} {m : zMm} {O : zOt} {W : List (Nat × Nat)} {p q s len : Nat} {c : Nat → Nat}
theorem s27_0 {h : zH} {v y a : Nat} {u bd wr : Bool} (hs : s < 3) (b : zBd h m O W p q s len a bd wr) (z : zQf h q v y u.toNat 0 0 0 0 0) (hv : v < 4) : ∃ h' a' bd' wr', zCl (zPr L xs) 27 [.ref p, .ref q] (zMH h m) = some (.inl none, zMH h' m) ∧ a ≤ a' ∧ zBd h' m O W p q s len a' bd' wr' ∧ zGf p q 48 192 h h' ∧ (zR h' 101 q 0 = some v ∧ zR h' 100 q 0 = some y) ∧ zRq2 O W c h' q v y u a bd wr a' bd' wr' := by
  rw [en_27]
  have st : zEv (zPr L xs) 32 27 0 [.val (.ref p), .val (.ref q)] [] (zMH h m) = some (.inl none, zMH h m) := by
    have e := z.1
    have : v = 0 ∨ v = 1 ∨ v = 2 ∨ v = 3 := by omega
    rcases this with g | g | g | g <;> rw [g] at e
    · exact p27v0_0_1 b.1 hs b.2.2.2.2 e
    · exact p27v1_0_1 b.1 hs b.2.2.2.2 e
    · exact p27v2_0_1 b.1 hs b.2.2.2.2 e
    · exact p27v3_0_1 b.1 hs b.2.2.2.2 e
  refine ⟨h, a, bd, wr, st, Nat.le_refl a, b, zGf_w (zGf_rf (zRf_rf p h)) (Nat.zero_le _) (Nat.zero_le _), ⟨z.1, z.2.1⟩, fun g => g, fun g => ?_⟩
  have zr : zrest c (zEc O W c) u (v + 1) a = some (a, (0, 0, 0, 0, 0, 0, false, fun _ => false)) := by
    unfold zrest
    rw [if_pos (by omega)]
  rw [zr]
  refine ⟨g, rfl, (Bool.or_false wr).symm, ?_, fun g => absurd rfl g⟩
  show zQf h q v y u.toNat 0 0 0 0 (zMk (fun n => zPg O W n && false) W.length)
  rw [zMk_f]
  exact z
theorem s27_4 {h : zH} {v y a : Nat} {u bd wr : Bool} (hs : s < 3) (hl : zLm m s len c) (b : zBd h m O W p q s len a bd wr) (z : zQf h q v y u.toNat 0 0 0 0 0) (hv : 4 ≤ v ∧ v < 8) (h1 : 1 ≤ a) (h32 : c (a - 1) = 32) : ∃ h' a' bd' wr', zCl (zPr L xs) 27 [.ref p, .ref q] (zMH h m) = some (.inl none, zMH h' m) ∧ a ≤ a' ∧ zBd h' m O W p q s len a' bd' wr' ∧ zGf p q 48 192 h h' ∧ (zR h' 101 q 0 = some v ∧ zR h' 100 q 0 = some y) ∧ zRq2 O W c h' q v y u (a - 1) bd wr a' bd' wr' := by
  have hx := b.1
  have ne := zBd_ne b
  have b2 : 154 ≤ q := by have := b.2.2.2.1.1; omega
  obtain ⟨ha, e1, r1, f1⟩ := s28 (L := L) (xs := xs) hx hs hl b.2.2.1
  obtain ⟨bd1, g1, k1⟩ := zBd_r hs b r1 f1
  have z1 := k1 _ _ _ _ _ _ _ _ z
  rw [en_27]
  have st : zEv (zPr L xs) 32 27 0 [.val (.ref p), .val (.ref q)] [] (zMH h m) = some (.inl none, zMH (zsI ha 103 q 0 (nI (if 97 ≤ c a ∧ c a ≤ 100 then c a - 97 else 0))) m) := by
    have e := z.1
    have : v = 4 ∨ v = 5 ∨ v = 6 ∨ v = 7 := by omega
    rcases this with g | g | g | g <;> rw [g] at e
    · exact p27v4_0_1 hx hs b.2.2.2.2 e b.2.2.1.1.2.1 e1 bd1.1 bd1.2.2.2.2 b2
    · exact p27v5_0_1 hx hs b.2.2.2.2 e b.2.2.1.1.2.1 e1 bd1.1 bd1.2.2.2.2 b2
    · exact p27v6_0_1 hx hs b.2.2.2.2 e b.2.2.1.1.2.1 e1 bd1.1 bd1.2.2.2.2 b2
    · exact p27v7_0_1 hx hs b.2.2.2.2 e b.2.2.1.1.2.1 e1 bd1.1 bd1.2.2.2.2 b2
  obtain ⟨w1, w2, w3, w4, w5, w6, w7, w8⟩ := z1
  refine ⟨_, _, _, wr, st, by split <;> omega, zBd_I hs bd1 103 _, zGf_w (zGf_tr g1 (zGf_I p q ha 103 _)) (Nat.zero_le _) (Nat.zero_le _), ⟨w1, w2⟩, fun g => by rw [g]; rfl, fun g => ?_⟩
  have zr : zrest c (zEc O W c) u (v + 1) (a - 1) = if 97 ≤ c a ∧ c a ≤ 100 then some (a + 1, (c a - 97, 0, 0, 0, 0, 0, false, fun _ => false)) else none := by
    unfold zrest
    rw [if_neg (by omega), if_pos h32, if_pos (by omega), show a - 1 + 1 = a by omega, if_neg (show ¬ v + 1 = 9 by omega), show a - 1 + 2 = a + 1 by omega]
  rw [zr]
  by_cases d : 97 ≤ c a ∧ c a ≤ 100
  · rw [if_pos d, if_pos d, if_pos d, decide_eq_true d, g]
    refine ⟨rfl, rfl, (Bool.or_false wr).symm, ?_, fun g => absurd rfl g⟩
    show zQf _ q v y u.toNat (c a - 97) 0 0 0 (zMk (fun n => zPg O W n && false) W.length)
    rw [zMk_f]
    exact ⟨w1, w2, (zsI_g (by decide)).trans w3, zsI_e, (zsI_g (by decide)).trans w5, (zsI_g (by decide)).trans w6, (zsI_g (by decide)).trans w7, w8⟩
  · rw [if_neg d, decide_eq_false d]
    exact Or.inl (by cases bd <;> rfl)
theorem s27_12 {h : zH} {y a : Nat} {u bd wr : Bool} (hs : s < 3) (hl : zLm m s len c) (b : zBd h m O W p q s len a bd wr) (z : zQf h q 12 y u.toNat 0 0 0 0 0) (h1 : 1 ≤ a) (h32 : c (a - 1) = 32) : ∃ h' a' bd' wr', zCl (zPr L xs) 27 [.ref p, .ref q] (zMH h m) = some (.inl none, zMH h' m) ∧ a ≤ a' ∧ zBd h' m O W p q s len a' bd' wr' ∧ zGf p q 48 192 h h' ∧ (zR h' 101 q 0 = some 12 ∧ zR h' 100 q 0 = some y) ∧ zRq2 O W c h' q 12 y u (a - 1) bd wr a' bd' wr' := by
  have hx := b.1
  have b2 : 154 ≤ q := by have := b.2.2.2.1.1; omega
  obtain ⟨ha, M, a1, bd1, wr1, e1, la, r1, f1, k1⟩ := (zSall (L := L) (xs := xs) (O := O) (W := W) (p := p) hs hl 130).2.2 0 a bd wr h hx b.2.1 b.2.2.1 (by decide) (fun _ => by omega)
  obtain ⟨B1, g1, kq⟩ := zBd_r hs b r1 f1
  have l48 := r1.1.2.2
  obtain ⟨w1, w2, w3, w4, w5, w6, w7, w8⟩ := kq _ _ _ _ _ _ _ _ z
  rw [en_27]
  have st := p27v12_0_1 (L := L) (xs := xs) (m := m) (q := q) hx hs b.2.2.2.2 z.1 b.2.2.1.1.2.1 e1 B1.1 B1.2.2.2.2
  refine ⟨_, a1, bd1, wr1, st, la, zBd_L hs B1 108 _, zGf_w (zGf_tr g1 (zGf_L p q ha 108 _)) (by omega) (by omega), ⟨w1, w2⟩, k1.1, fun g => ?_⟩
  have k1 := k1.2 g
  have zr : zrest c (zEc O W c) u (12 + 1) (a - 1) = match zks c (zEc O W c) 130 true 0 a with
    | none => none
    | some (e, w, P) => some (e, (0, 0, 0, 0, 0, 0, w, P)) := by
    unfold zrest
    rw [if_neg (by decide), if_pos h32, if_neg (by decide)]
    unfold zrest2
    rw [if_pos rfl, show a - 1 + 1 = a by omega]
    cases zks c (zEc O W c) 130 true 0 a <;> rfl
  rw [zr]
  cases hz : zks c (zEc O W c) 130 true 0 a with
  | none =>
    rw [hz] at k1
    rcases k1 with w | w
    · exact Or.inl w
    · exact Or.inr (of_decide_eq_true w).1
  | some x =>
    obtain ⟨e, w, P⟩ := x
    rw [hz] at k1
    obtain ⟨x1, x2, x3, x4⟩ := k1
    refine ⟨x1, x2, x4, ⟨w1, w2, w3, w4, w5, w6, w7, ?_⟩, fun g => absurd rfl g⟩
    rw [← x3]
    exact if_pos ⟨rfl, rfl, rfl⟩
theorem zSp_e {u : Bool} {l : List zRg} : zMk (zSp O W u l) W.length = zMk (fun n => zPg O W n && zrsin l (if u then (zEc O W c).2.2.1 n else n) (if u then (zEc O W c).2.1 else (zEc O W c).1)) W.length := by
  refine zMk_cg _ fun n _ _ => ?_
  unfold zSp
  cases u with
  | true => rfl
  | false =>
    rw [show zlst O W false = W.length from if_neg (fun q => by cases q.1)]
    rfl
/-- a set and the blank behind it -/
theorem zpreS {h : zH} {v y a : Nat} {u bd wr : Bool} (hs : s < 3) (hl : zLm m s len c) (b : zBd h m O W p q s len a bd wr) (z : zQf h q v y u.toNat 0 0 0 0 0) : ∃ h1 h2 M a2 bd2 wr2, zCl (zPr L xs) 37 [.ref p, .int (nI u.toNat)] (zMH h m) = some (.inl (some (.long (nL M))), zMH h1 m) ∧ zFx h1 ∧ zT h1 q = 2 ∧ zT (zsL h1 108 q 0 (nL M)) p = 5 ∧ zCl (zPr L xs) 41 [.ref p, .int (nI 32)] (zMH (zsL h1 108 q 0 (nL M)) m) = some (.inl none, zMH h2 m) ∧ a ≤ a2 ∧ zBd h2 m O W p q s len a2 bd2 wr2 ∧ zGf p q 0 0 h h2 ∧ zQf h2 q v y u.toNat 0 0 0 0 M ∧ (bd = true → bd2 = true) ∧ (bd = false → match zset c 64 a with
    | some (l, e) => (c e = 32 → bd2 = false ∧ a2 = e + 1 ∧ wr2 = (wr || (!u && zrsw l W.length)) ∧ M = zMk (zSp O W u l) W.length) ∧ (c e ≠ 32 → bd2 = true)
    | none => bd2 = true) := by
  have hx := b.1
  obtain ⟨h1, M, a1, bd1, wr1, e1, la1, r1, f1, z1⟩ := s37 (L := L) (xs := xs) (b := u) hx hs hl b.2.1 b.2.2.1
  obtain ⟨B1, g1, kq⟩ := zBd_r hs b r1 f1
  obtain ⟨w1, w2, w3, w4, w5, w6, w7, w8⟩ := kq _ _ _ _ _ _ _ _ z
  have BL := zBd_L hs B1 108 (nL M)
  have zq : zQf (zsL h1 108 q 0 (nL M)) q v y u.toNat 0 0 0 0 M := ⟨w1, w2, w3, w4, w5, w6, w7, if_pos ⟨rfl, rfl, rfl⟩⟩
  obtain ⟨h2, e2, r2, f2⟩ := s41 (L := L) (xs := xs) BL.1 hs hl BL.2.2.1 (x := 32) (by decide) (by decide)
  obtain ⟨B2, g2, kq2⟩ := zBd_r hs BL r2 f2
  refine ⟨h1, h2, M, _, _, _, e1, B1.1, B1.2.2.2.2, BL.2.2.1.1.2.1, e2, by split <;> omega, B2, zGf_tr (zGf_tr g1 (zGf_L p q h1 108 _)) g2, kq2 _ _ _ _ _ _ _ _ zq, fun g => by rw [z1.1 g]; rfl, fun g => ?_⟩
  have z1 := z1.2 g
  cases hz : zset c 64 a with
  | none =>
    rw [hz] at z1
    rcases z1 with w | w
    · rw [w]; rfl
    · have : ¬ c a1 = 32 := fun e => by rw [e] at w; cases w
      rw [decide_eq_false this]
      cases bd1 <;> rfl
  | some x =>
    obtain ⟨l, e⟩ := x
    rw [hz] at z1
    obtain ⟨x1, x2, x3, x4⟩ := z1
    refine ⟨fun w => ?_, fun w => ?_⟩
    · rw [← x2] at w ⊢
      rw [if_pos w, decide_eq_true w, x1]
      exact ⟨rfl, rfl, x4, x3⟩
    · rw [← x2] at w
      rw [decide_eq_false w]
      cases bd1 <;> rfl
theorem s27_11 {h : zH} {y a : Nat} {u bd wr : Bool} (hs : s < 3) (hl : zLm m s len c) (b : zBd h m O W p q s len a bd wr) (z : zQf h q 11 y u.toNat 0 0 0 0 0) (h1 : 1 ≤ a) (h32 : c (a - 1) = 32) : ∃ h' a' bd' wr', zCl (zPr L xs) 27 [.ref p, .ref q] (zMH h m) = some (.inl none, zMH h' m) ∧ a ≤ a' ∧ zBd h' m O W p q s len a' bd' wr' ∧ zGf p q 48 192 h h' ∧ (zR h' 101 q 0 = some 11 ∧ zR h' 100 q 0 = some y) ∧ zRq2 O W c h' q 11 y u (a - 1) bd wr a' bd' wr' := by
  have hx := b.1
  have b2 : 154 ≤ q := by have := b.2.2.2.1.1; omega
  obtain ⟨ha, hb, M, a2, bd2, wr2, e1, hxa, ta, tb, e2, la2, B2, g2, ⟨w1, w2, w3, w4, w5, w6, w7, w8⟩, m2, q2⟩ := zpreS (L := L) (xs := xs) hs hl b z
  obtain ⟨hc', e3, r3, f3⟩ := s28 (L := L) (xs := xs) B2.1 hs hl B2.2.2.1
  obtain ⟨B3, g3, kq⟩ := zBd_r hs B2 r3 f3
  obtain ⟨w1, w2, w3, w4, w5, w6, w7, w8⟩ := kq _ _ _ _ _ _ _ _ (⟨w1, w2, w3, w4, w5, w6, w7, w8⟩ : zQf hb q 11 y u.toNat 0 0 0 0 M)
  rw [en_27]
  have st := p27v11_0_1 (L := L) (xs := xs) (m := m) (q := q) hx hs b.2.2.2.2 z.1 z.2.2.1 b.2.2.1.1.2.1 e1 hxa ta tb e2 B2.1 B2.2.2.1.1.2.1 e3 B3.1 B3.2.2.2.2 b2
  refine ⟨_, _, _, wr2, st, by split <;> omega, zBd_I hs B3 103 _, zGf_w (zGf_tr (zGf_tr g2 g3) (zGf_I p q hc' 103 _)) (Nat.zero_le _) (Nat.zero_le _), ⟨w1, w2⟩, fun g => by rw [m2 g]; rfl, fun g => ?_⟩
  have q2 := q2 g
  have zr : zrest c (zEc O W c) u (11 + 1) (a - 1) = zrest2 c (zEc O W c) u 12 a := by
    unfold zrest
    rw [if_neg (by decide), if_pos h32, if_neg (by decide), show a - 1 + 1 = a by omega]
  rw [zr]
  unfold zrest2
  rw [if_neg (show ¬ 12 = 13 by decide)]
  cases hz : zset c 64 a with
  | none =>
    rw [hz] at q2
    exact Or.inl (by rw [q2]; rfl)
  | some x =>
    obtain ⟨l, e⟩ := x
    rw [hz] at q2
    dsimp only
    by_cases w : c e = 32
    · obtain ⟨x1, x2, x3, x4⟩ := q2.1 w
      rw [if_pos w, if_neg (show ¬ 12 = 10 by decide), if_neg (show ¬ 12 = 11 by decide), ← x2]
      by_cases d : 97 ≤ c a2 ∧ c a2 ≤ 100
      · rw [if_pos d, if_pos d, if_pos d, decide_eq_true d, x1]
        refine ⟨rfl, by show a2 + 1 = e + 2; omega, x3, ⟨w1, w2, (zsI_g (by decide)).trans w3, zsI_e, (zsI_g (by decide)).trans w5, (zsI_g (by decide)).trans w6, (zsI_g (by decide)).trans w7, ?_⟩, fun g => absurd rfl g⟩
        rw [← zSp_e (c := c), ← x4]
        exact w8
      · rw [if_neg d, decide_eq_false d, x1]
        exact Or.inl rfl
    · rw [if_neg w]
      exact Or.inl (by rw [q2.2 w]; rfl)
theorem zits : zen [70, 76, 65, 71, 83] = 6846401536 := rfl
/-- items by words and by numbers -/
theorem zit_w {c : Nat → Nat} (hc : zCh c) {b : Nat} {T : List Nat} {i : Nat} (hT : zWd T) (hi : zitem (zen T) = some i) (hx : ∀ U, U = [70, 76, 65, 71, 83] ∨ U = [85, 73, 68] ∨ U = [84, 69, 88, 84] → zpx T U = true → T = U) (h : zmw c b T = true) : (zlrg (c (b + T.length)) = false → zitem (zwn c b) = some i ∧ zre zlrg c b = b + T.length) ∧ (zlrg (c (b + T.length)) = true → zitem (zwn c b) = none) := by
  constructor
  · intro z
    obtain ⟨z1, z2⟩ := zwn_of hc hT h z
    rw [z1]
    exact ⟨hi, z2⟩
  · intro z
    have no : ∀ U, (U = [70, 76, 65, 71, 83] ∨ U = [85, 73, 68] ∨ U = [84, 69, 88, 84]) → zWd U → zwn c b ≠ zen U := fun U hU wU e => by
      obtain ⟨x1, x2⟩ := zwn_to hc wU e
      have tu := hx U hU (zpx_mw _ _ b h x1)
      rw [← tu] at x2
      have ge := (zre_ge (f := zlrg) hc rfl b).2.2
      rw [x2, z] at ge
      cases ge
    have n1 := no _ (Or.inl rfl) (zwd _ rfl)
    have n2 := no _ (Or.inr (Or.inl rfl)) (zwd _ rfl)
    have n3 := no _ (Or.inr (Or.inr rfl)) (zwd _ rfl)
    rw [zits] at n1
    rw [zens.2.2.2.2.2] at n2
    rw [zens.2.2.2.2.1] at n3
    unfold zitem
    rw [if_neg n1, if_neg n2, if_neg n3]
theorem zit_n {c : Nat → Nat} (hc : zCh c) {b : Nat} (h1 : zmw c b [70, 76, 65, 71, 83] = false) (h2 : zmw c b [85, 73, 68] = false) (h3 : zmw c b [84, 69, 88, 84] = false) : zitem (zwn c b) = none := by
  have n1 := zw_no hc (zwd [70, 76, 65, 71, 83] rfl) h1
  have n2 := zw_no hc (zwd [85, 73, 68] rfl) h2
  have n3 := zw_no hc (zwd [84, 69, 88, 84] rfl) h3
  rw [zits] at n1
  rw [zens.2.2.2.2.2] at n2
  rw [zens.2.2.2.2.1] at n3
  unfold zitem
  rw [if_neg n1, if_neg n2, if_neg n3]
theorem zlrg_0 {x : Nat} (h : zlrg x = true) : x ≠ 0 := by
  have := zlrg_iff.1 h
  omega
theorem s27_10 {h : zH} {y a : Nat} {u bd wr : Bool} (hs : s < 3) (hl : zLm m s len c) (b : zBd h m O W p q s len a bd wr) (z : zQf h q 10 y u.toNat 0 0 0 0 0) (h1 : 1 ≤ a) (h32 : c (a - 1) = 32) : ∃ h' a' bd' wr', zCl (zPr L xs) 27 [.ref p, .ref q] (zMH h m) = some (.inl none, zMH h' m) ∧ a ≤ a' ∧ zBd h' m O W p q s len a' bd' wr' ∧ zGf p q 48 192 h h' ∧ (zR h' 101 q 0 = some 10 ∧ zR h' 100 q 0 = some y) ∧ zRq2 O W c h' q 10 y u (a - 1) bd wr a' bd' wr' := by
  have hx := b.1
  have b2 : 154 ≤ q := by have := b.2.2.2.1.1; omega
  have hch := zLm_ch hl b.2.2.1.1.2.2.2
  obtain ⟨ha, hb, M, a2, bd2, wr2, e1, hxa, ta, tb, e2, la2, B2, g2, zq, m2, q2⟩ := zpreS (L := L) (xs := xs) hs hl b z
  obtain ⟨hc', e3, r3, f3⟩ := s30 (L := L) (xs := xs) B2.1 hs hl B2.2.2.1
  obtain ⟨B3, g3, kq⟩ := zBd_r hs B2 r3 f3
  obtain ⟨w1, w2, w3, w4, w5, w6, w7, w8⟩ := kq _ _ _ _ _ _ _ _ zq
  rw [en_27]
  have st := p27v10_0_1 (L := L) (xs := xs) (m := m) (q := q) hx hs b.2.2.2.2 z.1 z.2.2.1 b.2.2.1.1.2.1 e1 hxa ta tb e2 B2.1 B2.2.2.1.1.2.1 e3 B3.1 B3.2.2.2.2 b2
  refine ⟨_, _, _, wr2, st, by repeat' split
                               all_goals omega, zBd_I hs B3 107 _, zGf_w (zGf_tr (zGf_tr g2 g3) (zGf_I p q hc' 107 _)) (Nat.zero_le _) (Nat.zero_le _), ⟨w1, w2⟩, fun g => by rw [m2 g]; rfl, fun g => ?_⟩
  have q2 := q2 g
  have zr : zrest c (zEc O W c) u (10 + 1) (a - 1) = zrest2 c (zEc O W c) u 11 a := by
    unfold zrest
    rw [if_neg (by decide), if_pos h32, if_neg (by decide), show a - 1 + 1 = a by omega]
  rw [zr]
  unfold zrest2
  rw [if_neg (show ¬ 11 = 13 by decide)]
  cases hz : zset c 64 a with
  | none =>
    rw [hz] at q2
    exact Or.inl (by rw [q2]; rfl)
  | some x =>
    obtain ⟨l, e⟩ := x
    rw [hz] at q2
    dsimp only
    by_cases w : c e = 32
    · obtain ⟨x1, x2, x3, x4⟩ := q2.1 w
      rw [if_pos w, if_neg (show ¬ 11 = 10 by decide), if_pos rfl, ← x2]
      have fin : ∀ (i n : Nat), (zlrg (c (a2 + n)) = false → zitem (zwn c a2) = some i ∧ zre zlrg c a2 = a2 + n) ∧ (zlrg (c (a2 + n)) = true → zitem (zwn c a2) = none) → (zI hc' 102 q 0 = nI u.toNat) → (match (match zitem (zwn c a2) with
          | none => none
          | some i => some (zre zlrg c a2, ((0, 0, 0, 0, 0, i, (!u && zrsw l (zEc O W c).1), fun n => zrsin l (if u then (zEc O W c).2.2.1 n else n) (if u then (zEc O W c).2.1 else (zEc O W c).1)) : zArg))) with
          | some (e, arg) => false = false ∧ a2 + n = e ∧ wr2 = (wr || arg.2.2.2.2.2.2.1) ∧ zCq (zsI hc' 107 q 0 (nI i)) O W c q 10 y u arg
          | none => false = true ∨ c (a2 + n) ≠ 0) := fun i n hi _ => by
        cases y1 : zlrg (c (a2 + n)) with
        | false =>
          obtain ⟨y2, y3⟩ := hi.1 y1
          rw [y2]
          refine ⟨rfl, y3.symm, x3, ⟨w1, w2, (zsI_g (by decide)).trans w3, (zsI_g (by decide)).trans w4, (zsI_g (by decide)).trans w5, (zsI_g (by decide)).trans w6, zsI_e, ?_⟩, fun g => absurd rfl g⟩
          rw [← zSp_e (c := c), ← x4]
          exact w8
        | true =>
          rw [hi.2 y1]
          exact Or.inr (zlrg_0 y1)
      cases t1 : zmw c a2 [70, 76, 65, 71, 83] with
      | true =>
        rw [if_pos rfl, x1]
        exact fin 0 5 (zit_w hch (zwd _ rfl) rfl (fun U hU => by rcases hU with e | e | e <;> rw [e] <;> decide) t1) w3
      | false =>
        rw [if_neg (show ¬ false = true from Bool.noConfusion)]
        cases t2 : zmw c a2 [85, 73, 68] with
        | true =>
          rw [if_pos rfl, x1]
          exact fin 1 3 (zit_w hch (zwd _ rfl) rfl (fun U hU => by rcases hU with e | e | e <;> rw [e] <;> decide) t2) w3
        | false =>
          rw [if_neg (show ¬ false = true from Bool.noConfusion)]
          cases t3 : zmw c a2 [84, 69, 88, 84] with
          | true =>
            rw [if_pos rfl, x1]
            exact fin 2 4 (zit_w hch (zwd _ rfl) rfl (fun U hU => by rcases hU with e | e | e <;> rw [e] <;> decide) t3) w3
          | false =>
            rw [zit_n hch t1 t2 t3, x1]
            exact Or.inl rfl
    · rw [if_neg w]
      exact Or.inl (by rw [q2.2 w]; rfl)
end
