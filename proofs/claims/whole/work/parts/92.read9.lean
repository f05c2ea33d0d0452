theorem zfn_re {P : Nat → Bool} {c : Nat → Nat} (hc : zCh c) (h0 : P 0 = false) : ∀ f b, zfn P c f b = if f ≤ zre P c b - b then f else zre P c b - b
  | 0, b => by rw [if_pos (Nat.zero_le _)]; rfl
  | f + 1, b => by
    unfold zfn
    by_cases q : P (c b) = true
    · have i2 := zfn_re hc h0 f (b + 1)
      have i1 := (zre_ge (f := P) hc h0 (b + 1)).1
      rw [if_pos q, i2, zre_t hc h0 q]
      by_cases r : f ≤ zre P c (b + 1) - (b + 1)
      · rw [if_pos r, if_pos (by omega)]; omega
      · rw [if_neg r, if_neg (by omega)]; omega
    · have z : P (c b) = false := by cases z : P (c b) with
        | true => exact absurd z q
        | false => rfl
      rw [if_neg q, zre_f z]
      rw [if_neg (by omega)]
      omega
theorem zLt_s (x : Nat) : zLt false x = zsml x := by
  unfold zLt zsml
  rw [Bool.false_and, Bool.or_false]
theorem zfn_s {c : Nat → Nat} : ∀ f b, zfn (zLt false) c f b = zfn zsml c f b
  | 0, _ => rfl
  | f + 1, b => by
    unfold zfn
    rw [zLt_s, zfn_s f (b + 1)]
theorem zdm_s {x : Nat} (h : zsml x = true) : zdm x = true := by
  unfold zsml at h
  have := of_decide_eq_true h
  exact decide_eq_true (by omega)
section
variable {L : Nat} {xs : Nat → Int32} {m : zMm} {O : zOt} {W : List (Nat × Nat)} {p s len : Nat} {c : Nat → Nat}
theorem zwst {h : zH} (hx : zFx h) (hs : s < 3) (hl : zLm m s len c) (hW : zWv h m O s W) {a : Nat} {bd wr : Bool} (r : zRr h p s len a bd wr) (k : Nat) (hk : 20 ≤ k ∧ k < 54) (h0 : ∀ x ∈ zByt.getD (k - 20) [], x ≠ 0) : ∃ h', zCl (zPr L xs) 42 [.ref p, .ref k] (zMH h m) = some (.inl (some (.int (nI (zmw c a (zByt.getD (k - 20) [])).toNat))), zMH h' m) ∧ zRr h' p s len (if zmw c a (zByt.getD (k - 20) []) = true then a + (zByt.getD (k - 20) []).length else a) bd wr ∧ zRf p 0 0 h h' ∧ zFx h' ∧ zWv h' m O s W := by
  obtain ⟨h', e, r', f⟩ := s42 (L := L) (xs := xs) hx hs hl r (zSt_k hx hk) h0
  exact ⟨h', e, r', f, zFx_rf hx f, zWv_rf hx hs r.1.2.1 f hW⟩
/-- a key at depth d -/
def zSK (L : Nat) (xs : Nat → Int32) (m : zMm) (O : zOt) (W : List (Nat × Nat)) (p s len : Nat) (c : Nat → Nat) (f : Nat) : Prop := ∀ (d a : Nat) (bd wr : Bool) (h : zH), zFx h → zWv h m O s W → zRr h p s len a bd wr → d ≤ 9 → (bd = false → 2 * (49 - a) + 1 ≤ f) → ∃ h' M a' bd' wr', zCl (zPr L xs) 36 [.ref p, .int (nI d)] (zMH h m) = some (.inl (some (.long (nL M))), zMH h' m) ∧ a ≤ a' ∧ zRr h' p s len a' bd' wr' ∧ zRf p (a' - a) (4 * (a' - a)) h h' ∧ zKr O W c false f d a bd wr M a' bd' wr'
/-- keys at depth d -/
def zSS (L : Nat) (xs : Nat → Int32) (m : zMm) (O : zOt) (W : List (Nat × Nat)) (p s len : Nat) (c : Nat → Nat) (f : Nat) : Prop := ∀ (d a : Nat) (bd wr : Bool) (h : zH), zFx h → zWv h m O s W → zRr h p s len a bd wr → d ≤ 9 → (bd = false → 2 * (49 - a) + 2 ≤ f) → ∃ h' M a' bd' wr', zCl (zPr L xs) 35 [.ref p, .int (nI d)] (zMH h m) = some (.inl (some (.long (nL M))), zMH h' m) ∧ a ≤ a' ∧ zRr h' p s len a' bd' wr' ∧ zRf p (a' - a) (4 * (a' - a)) h h' ∧ zKr O W c true f d a bd wr M a' bd' wr'
theorem zSK_s (hs : s < 3) (hl : zLm m s len c) {f : Nat} (IK : zSK L xs m O W p s len c f) (IS : zSS L xs m O W p s len c f) : zSK L xs m O W p s len c (f + 1) := by
  intro d a bd wr h hx hW r hd hf
  have b1 : 154 ≤ p := by have := r.1.1.1; omega
  have h48 := r.1.2.2
  have hc := zLm_ch hl r.1.2.2.2
  have db : d < 2147483648 := by omega
  have bf := r.2.2.2.2.2.1
  rw [en_36]
  cases hbd : bd with
  | true =>
    rw [hbd] at bf r
    have f1 := zRf_sI p h (g := 254) (nI 1) (Or.inr (Or.inl rfl))
    exact ⟨_, 0, a, true, wr, p36_0_10 hx hs r.1.2.1 bf (by decide) b1 (by decide), Nat.le_refl a, zRr_bd r, zRf_w f1 (Nat.zero_le _) (Nat.zero_le _), fun _ => rfl, fun z => by cases z⟩
  | false =>
  rw [hbd] at bf r
  have hf := hf hbd
  by_cases d8 : 8 < d
  · have f1 := zRf_sI p h (g := 254) (nI 1) (Or.inr (Or.inl rfl))
    refine ⟨_, 0, a, true, wr, p36_0_1 hx hs r.1.2.1 bf rfl d8 b1 db, Nat.le_refl a, zRr_bd r, zRf_w f1 (Nat.zero_le _) (Nat.zero_le _), fun _ => rfl, fun _ => ?_⟩
    have z : zks c (zEc O W c) (f + 1) false d a = none := by
      show (if 8 < d then none else _) = none
      rw [if_pos d8]
    rw [z]
    exact Or.inl rfl
  have d8' : d ≤ 8 := by omega
  -- ALL
  obtain ⟨h1, e1, r1, f1, hx1, W1⟩ := zwst (L := L) (xs := xs) hx hs hl hW r 25 (by decide) (by decide)
  have e1 : zCl (zPr L xs) 42 [.ref p, .ref 25] (zMH h m) = some (.inl (some (.int (nI (zmw c a [65, 76, 76]).toNat))), zMH h1 m) := e1
  have r1 : zRr h1 p s len (if zmw c a [65, 76, 76] = true then a + 3 else a) false wr := r1
  cases q1 : zmw c a [65, 76, 76] with
  | true =>
    rw [q1] at e1 r1
    rw [if_pos rfl] at r1
    have e65 := s65 (L := L) (xs := xs) hx1 hs W1
    refine ⟨h1, _, a + 3, false, wr, p36_0_2 hx hs r.1.2.1 bf rfl d8' (y1 := true) e1 hx1 rfl r1.1.2.1 r1.2.2.1 e65 b1 db, by omega, r1, zRf_w f1 (Nat.zero_le _) (Nat.zero_le _), fun z => z, fun _ => ?_⟩
    rw [zks_all hc d8 q1]
    by_cases z : zlrg (c (a + 3)) = true
    · rw [if_pos z]
      exact Or.inr (zdm_l z)
    · rw [if_neg z]
      refine ⟨rfl, rfl, zMk_cg _ fun k _ _ => by dsimp only; rw [Bool.and_true], (Bool.or_false wr).symm⟩
  | false =>
  rw [q1] at e1 r1
  rw [if_neg Bool.noConfusion] at r1
  -- HAS
  obtain ⟨h2, e2, r2, f2, hx2, W2⟩ := zwst (L := L) (xs := xs) hx1 hs hl W1 r1 26 (by decide) (by decide)
  have e2 : zCl (zPr L xs) 42 [.ref p, .ref 26] (zMH h1 m) = some (.inl (some (.int (nI (zmw c a [72, 65, 83, 32]).toNat))), zMH h2 m) := e2
  have r2 : zRr h2 p s len (if zmw c a [72, 65, 83, 32] = true then a + 4 else a) false wr := r2
  have f2 := zRf_tr f1 f2
  cases q2 : zmw c a [72, 65, 83, 32] with
  | true =>
    rw [q2] at e2 r2
    rw [if_pos rfl] at r2
    obtain ⟨h3, e3, r3, f3⟩ := s32 (L := L) (xs := xs) hx2 hs hl r2
    have hx3 := zFx_rf hx2 f3
    have W3 := zWv_rf hx2 hs r2.1.2.1 f3 W2
    have e67 := s67 (L := L) (xs := xs) hx3 hs W3 (zbit_16 (c (a + 4)))
    refine ⟨h3, _, _, _, _, p36_0_3 hx hs r.1.2.1 bf rfl d8' (y1 := false) e1 hx1 rfl r1.1.2.1 (y2 := true) e2 hx2 rfl r2.1.2.1 r2.2.2.1 e3 hx3 e67 b1 db, by split <;> omega, r3, zRf_w (zRf_tr f2 f3) (Nat.zero_le _) (Nat.zero_le _), (fun z => by cases z), fun _ => ?_⟩
    rw [zks_has hc d8 q2]
    by_cases z : zbit (c (a + 4)) = 0
    · rw [if_neg (fun y => y z), decide_eq_true z]
      exact Or.inl rfl
    · rw [if_pos z, decide_eq_false z]
      exact ⟨rfl, by rw [if_neg z], rfl, (Bool.or_false wr).symm⟩
  | false =>
  rw [q2] at e2 r2
  rw [if_neg Bool.noConfusion] at r2
  -- TEXT
  obtain ⟨h3, e3, r3, f3, hx3, W3⟩ := zwst (L := L) (xs := xs) hx2 hs hl W2 r2 27 (by decide) (by decide)
  have e3 : zCl (zPr L xs) 42 [.ref p, .ref 27] (zMH h2 m) = some (.inl (some (.int (nI (zmw c a [84, 69, 88, 84, 32]).toNat))), zMH h3 m) := e3
  have r3 : zRr h3 p s len (if zmw c a [84, 69, 88, 84, 32] = true then a + 5 else a) false wr := r3
  have f3 := zRf_tr f2 f3
  cases q3 : zmw c a [84, 69, 88, 84, 32] with
  | true =>
    rw [q3] at e3 r3
    rw [if_pos rfl] at r3
    obtain ⟨h4, v4, e4, r4, f4, st4⟩ := s33 (L := L) (xs := xs) hx3 hs hl r3 (q := 6) (t := false) (by decide)
    have hx4 := zFx_rf hx3 f4
    have W4 := zWv_rf hx3 hs r3.1.2.1 f4 W3
    have e68 := s68 (L := L) (xs := xs) hx4 hs W4 st4
    rw [zfn_s] at r4 st4 e68
    have rn := zfn_re (P := zsml) hc rfl 6 (a + 5)
    have rg := (zre_ge (f := zsml) hc rfl (a + 5))
    refine ⟨h4, _, _, _, _, p36_0_4 hx hs r.1.2.1 bf rfl d8' (y1 := false) e1 hx1 rfl r1.1.2.1 (y2 := false) e2 hx2 rfl r2.1.2.1 (y3 := true) e3 hx3 rfl r3.1.2.1 r3.2.2.1 e4 hx4 e68 b1 db, by omega, r4, zRf_w (zRf_tr f3 f4) (by omega) (by omega), (fun z => by cases z), fun _ => ?_⟩
    rw [zks_txt hc d8 q3]
    by_cases z : 1 ≤ zre zsml c (a + 5) - (a + 5) ∧ zre zsml c (a + 5) - (a + 5) ≤ 6
    · have n1 : zfn zsml c 6 (a + 5) = zre zsml c (a + 5) - (a + 5) := by rw [rn]; split <;> omega
      rw [if_pos z, n1, decide_eq_false (by omega)]
      exact ⟨rfl, by omega, rfl, (Bool.or_false wr).symm⟩
    · rw [if_neg z]
      by_cases y : zre zsml c (a + 5) - (a + 5) = 0
      · have n1 : zfn zsml c 6 (a + 5) = 0 := by rw [rn, y]; rfl
        rw [n1]
        exact Or.inl rfl
      · have n1 : zfn zsml c 6 (a + 5) = 6 := by rw [rn, if_pos (by omega)]
        rw [n1]
        exact Or.inr (zdm_s (zre_al2 hc rfl (zre zsml c (a + 5) - (a + 5)) (a + 5) (by omega) 6 (by omega)))
  | false =>
  rw [q3] at e3 r3
  rw [if_neg Bool.noConfusion] at r3
  -- UID
  obtain ⟨h4, e4, r4, f4, hx4, W4⟩ := zwst (L := L) (xs := xs) hx3 hs hl W3 r3 20 (by decide) (by decide)
  have e4 : zCl (zPr L xs) 42 [.ref p, .ref 20] (zMH h3 m) = some (.inl (some (.int (nI (zmw c a [85, 73, 68, 32]).toNat))), zMH h4 m) := e4
  have r4 : zRr h4 p s len (if zmw c a [85, 73, 68, 32] = true then a + 4 else a) false wr := r4
  have f4 := zRf_tr f3 f4
  cases q4 : zmw c a [85, 73, 68, 32] with
  | true =>
    rw [q4] at e4 r4
    rw [if_pos rfl] at r4
    obtain ⟨h5, M5, a5, bd5, wr5, e5, la5, r5, f5, z5⟩ := s37 (L := L) (xs := xs) (b := true) hx4 hs hl W4 r4
    have hx5 := zFx_rf hx4 f5
    refine ⟨h5, M5, a5, bd5, wr5, p36_0_5 hx hs r.1.2.1 bf rfl d8' (y1 := false) e1 hx1 rfl r1.1.2.1 (y2 := false) e2 hx2 rfl r2.1.2.1 (y3 := false) e3 hx3 rfl r3.1.2.1 (y4 := true) e4 hx4 rfl r4.1.2.1 e5 hx5 b1 db, by omega, r5, zRf_w (zRf_tr f4 f5) (Nat.zero_le _) (Nat.zero_le _), (fun z => by cases z), fun _ => ?_⟩
    rw [zks_uid hc d8 q4]
    have z5 := z5.2 rfl
    cases hz : zset c 64 (a + 4) with
    | none =>
      rw [hz] at z5
      rcases z5 with y | y
      · exact Or.inl y
      · exact Or.inr (zdm_d y)
    | some le =>
      obtain ⟨l, e⟩ := le
      rw [hz] at z5
      obtain ⟨y1, y2, y3, y4⟩ := z5
      exact ⟨y1, y2, y3, y4⟩
  | false =>
  rw [q4] at e4 r4
  rw [if_neg Bool.noConfusion] at r4
  -- NOT
  obtain ⟨h5, e5, r5, f5, hx5, W5⟩ := zwst (L := L) (xs := xs) hx4 hs hl W4 r4 28 (by decide) (by decide)
  have e5 : zCl (zPr L xs) 42 [.ref p, .ref 28] (zMH h4 m) = some (.inl (some (.int (nI (zmw c a [78, 79, 84, 32]).toNat))), zMH h5 m) := e5
  have r5 : zRr h5 p s len (if zmw c a [78, 79, 84, 32] = true then a + 4 else a) false wr := r5
  have f5 := zRf_tr f4 f5
  cases q5 : zmw c a [78, 79, 84, 32] with
  | true =>
    rw [q5] at e5 r5
    rw [if_pos rfl] at r5
    have e65 := s65 (L := L) (xs := xs) hx5 hs W5
    obtain ⟨h6, M6, a6, bd6, wr6, e6, la6, r6, f6, z6⟩ := IK (d + 1) (a + 4) false wr h5 hx5 W5 r5 (by omega) (fun _ => by omega)
    have hx6 := zFx_rf hx5 f6
    have st := p36_0_6 (L := L) (xs := xs) (q := d) hx hs r.1.2.1 bf rfl d8' (y1 := false) e1 hx1 rfl r1.1.2.1 (y2 := false) e2 hx2 rfl r2.1.2.1 (y3 := false) e3 hx3 rfl r3.1.2.1 (y4 := false) e4 hx4 rfl r4.1.2.1 (y5 := true) e5 hx5 rfl r5.1.2.1 r5.2.2.1 e65 e6 hx6 b1 db
    have z6 := z6.2 rfl
    have fz := zRf_w (zRf_tr f5 f6) (show 0 + 0 + 0 + 0 + 0 + (a6 - (a + 4)) ≤ a6 - a by omega) (show 0 + 0 + 0 + 0 + 0 + 4 * (a6 - (a + 4)) ≤ 4 * (a6 - a) by omega)
    cases hz : zks c (zEc O W c) f false (d + 1) (a + 4) with
    | none =>
      rw [hz] at z6
      obtain ⟨M, hM⟩ := zl_ex (nL (zMk (zPg O W) W.length) &&& (nL M6 ^^^ nL 18446744073709551615))
      rw [hM] at st
      refine ⟨h6, M, a6, bd6, wr6, st, by omega, r6, fz, (fun z => by cases z), fun _ => ?_⟩
      rw [zks_not hc d8 q5, hz]
      exact z6
    | some y =>
      obtain ⟨e, w, k⟩ := y
      rw [hz] at z6
      obtain ⟨y1, y2, y3, y4⟩ := z6
      rw [y3, zMk_not] at st
      refine ⟨h6, _, a6, bd6, wr6, st, by omega, r6, fz, (fun z => by cases z), fun _ => ?_⟩
      rw [zks_not hc d8 q5, hz]
      exact ⟨y1, y2, zMk_cg _ fun n _ _ => by dsimp only; cases zPg O W n <;> rfl, y4⟩
  | false =>
  rw [q5] at e5 r5
  rw [if_neg Bool.noConfusion] at r5
  -- OR
  obtain ⟨h6, e6, r6, f6, hx6, W6⟩ := zwst (L := L) (xs := xs) hx5 hs hl W5 r5 29 (by decide) (by decide)
  have e6 : zCl (zPr L xs) 42 [.ref p, .ref 29] (zMH h5 m) = some (.inl (some (.int (nI (zmw c a [79, 82, 32]).toNat))), zMH h6 m) := e6
  have r6 : zRr h6 p s len (if zmw c a [79, 82, 32] = true then a + 3 else a) false wr := r6
  have f6 := zRf_tr f5 f6
  cases q6 : zmw c a [79, 82, 32] with
  | true =>
    rw [q6] at e6 r6
    rw [if_pos rfl] at r6
    obtain ⟨h7, M7, a7, bd7, wr7, e7, la7, r7, f7, z7⟩ := IK (d + 1) (a + 3) false wr h6 hx6 W6 r6 (by omega) (fun _ => by omega)
    have hx7 := zFx_rf hx6 f7
    have W7 := zWv_rf hx6 hs r6.1.2.1 f7 W6
    have z7 := z7.2 rfl
    obtain ⟨h8, e8, r8, f8⟩ := s41 (L := L) (xs := xs) hx7 hs hl r7 (x := 32) (by decide) (by decide)
    have hx8 := zFx_rf hx7 f8
    have W8 := zWv_rf hx7 hs r7.1.2.1 f8 W7
    have la8 : a7 ≤ (if c a7 = 32 then a7 + 1 else a7) := by split <;> omega
    have fuel : (bd7 || !decide (c a7 = 32)) = false → 2 * (49 - (if c a7 = 32 then a7 + 1 else a7)) + 1 ≤ f := fun _ => by
      have : a + 3 ≤ (if c a7 = 32 then a7 + 1 else a7) := by omega
      omega
    obtain ⟨h9, M9, a9, bd9, wr9, e9, la9, r9, f9, z9⟩ := IK (d + 1) _ _ wr7 h8 hx8 W8 r8 (by omega) fuel
    have hx9 := zFx_rf hx8 f9
    have fz := zRf_w (zRf_tr (zRf_tr (zRf_tr f6 f7) f8) f9) (show 0 + 0 + 0 + 0 + 0 + 0 + (a7 - (a + 3)) + 0 + (a9 - (if c a7 = 32 then a7 + 1 else a7)) ≤ a9 - a by omega) (show 0 + 0 + 0 + 0 + 0 + 0 + 4 * (a7 - (a + 3)) + 0 + 4 * (a9 - (if c a7 = 32 then a7 + 1 else a7)) ≤ 4 * (a9 - a) by omega)
    refine ⟨h9, _, a9, bd9, wr9, p36_0_7 (q := d) hx hs r.1.2.1 bf rfl d8' (y1 := false) e1 hx1 rfl r1.1.2.1 (y2 := false) e2 hx2 rfl r2.1.2.1 (y3 := false) e3 hx3 rfl r3.1.2.1 (y4 := false) e4 hx4 rfl r4.1.2.1 (y5 := false) e5 hx5 rfl r5.1.2.1 (y6 := true) e6 hx6 rfl r6.1.2.1 e7 hx7 r7.1.2.1 e8 hx8 r8.1.2.1 e9 hx9 b1 db, by omega, r9, fz, (fun z => by cases z), fun _ => ?_⟩
    rw [zks_or hc d8 q6]
    cases hz : zks c (zEc O W c) f false (d + 1) (a + 3) with
    | none =>
      rw [hz] at z7
      rcases z7 with y | y
      · exact Or.inl (z9.1 (by rw [y]; rfl))
      · exact Or.inl (z9.1 (by
          have : ¬ c a7 = 32 := fun g => by rw [g] at y; cases y
          rw [decide_eq_false this]
          cases bd7 <;> rfl))
    | some y =>
      obtain ⟨e, w, k⟩ := y
      rw [hz] at z7
      obtain ⟨y1, y2, y3, y4⟩ := z7
      dsimp only
      rw [← y2]
      by_cases g : c a7 = 32
      · rw [if_pos g]
        rw [if_pos g, decide_eq_true g, y1] at z9
        have z9 := z9.2 rfl
        cases hz2 : zks c (zEc O W c) f false (d + 1) (a7 + 1) with
        | none =>
          rw [hz2] at z9
          exact z9
        | some y' =>
          obtain ⟨e', w', k'⟩ := y'
          rw [hz2] at z9
          obtain ⟨x1, x2, x3, x4⟩ := z9
          refine ⟨x1, x2, ?_, by rw [x4, y4, Bool.or_assoc]⟩
          rw [y3, x3, zMk_or]
          exact zMk_cg _ fun n _ _ => by dsimp only; cases zPg O W n <;> rfl
      · rw [if_neg g]
        exact Or.inl (z9.1 (by rw [decide_eq_false g]; cases bd7 <;> rfl))
  | false =>
  rw [q6] at e6 r6
  rw [if_neg Bool.noConfusion] at r6
  -- brackets
  obtain ⟨h7, e7, r7, f7⟩ := s40 (L := L) (xs := xs) hx6 hs hl r6 (x := 40) (by decide) (by decide)
  have hx7 := zFx_rf hx6 f7
  have W7 := zWv_rf hx6 hs r6.1.2.1 f7 W6
  have f7 := zRf_tr f6 f7
  by_cases q7 : c a = 40
  · rw [if_pos q7] at r7
    rw [decide_eq_true q7] at e7
    obtain ⟨h8, M8, a8, bd8, wr8, e8, la8, r8, f8, z8⟩ := IS (d + 1) (a + 1) false wr h7 hx7 W7 r7 (by omega) (fun _ => by
      have : a < 48 := Nat.lt_of_not_le fun g => by rw [hc.1 a g] at q7; cases q7
      omega)
    have hx8 := zFx_rf hx7 f8
    have z8 := z8.2 rfl
    obtain ⟨h9, e9, r9, f9⟩ := s41 (L := L) (xs := xs) hx8 hs hl r8 (x := 41) (by decide) (by decide)
    have hx9 := zFx_rf hx8 f9
    have la9 : a8 ≤ (if c a8 = 41 then a8 + 1 else a8) := by split <;> omega
    have fz := zRf_w (zRf_tr (zRf_tr f7 f8) f9) (show 0 + 0 + 0 + 0 + 0 + 0 + 0 + (a8 - (a + 1)) + 0 ≤ (if c a8 = 41 then a8 + 1 else a8) - a by omega) (show 0 + 0 + 0 + 0 + 0 + 0 + 0 + 4 * (a8 - (a + 1)) + 0 ≤ 4 * ((if c a8 = 41 then a8 + 1 else a8) - a) by omega)
    refine ⟨h9, M8, _, _, wr8, p36_0_8 (q := d) hx hs r.1.2.1 bf rfl d8' (y1 := false) e1 hx1 rfl r1.1.2.1 (y2 := false) e2 hx2 rfl r2.1.2.1 (y3 := false) e3 hx3 rfl r3.1.2.1 (y4 := false) e4 hx4 rfl r4.1.2.1 (y5 := false) e5 hx5 rfl r5.1.2.1 (y6 := false) e6 hx6 rfl r6.1.2.1 (y7 := true) e7 hx7 rfl r7.1.2.1 e8 hx8 r8.1.2.1 e9 hx9 b1 db, by omega, r9, fz, (fun z => by cases z), fun _ => ?_⟩
    rw [zks_br d8 q7]
    cases hz : zks c (zEc O W c) f true (d + 1) (a + 1) with
    | none =>
      rw [hz] at z8
      rcases z8 with y | y
      · exact Or.inl (by rw [y]; rfl)
      · exact Or.inl (by
          have : ¬ c a8 = 41 := fun g => by rw [g] at y; cases y
          rw [decide_eq_false this]
          cases bd8 <;> rfl)
    | some y =>
      obtain ⟨e, w, k⟩ := y
      rw [hz] at z8
      obtain ⟨y1, y2, y3, y4⟩ := z8
      dsimp only
      rw [← y2]
      by_cases g : c a8 = 41
      · rw [if_pos g, if_pos g, decide_eq_true g, y1]
        exact ⟨rfl, rfl, y3, y4⟩
      · rw [if_neg g, decide_eq_false g]
        exact Or.inl (by cases bd8 <;> rfl)
  -- a set
  rw [if_neg q7] at r7
  rw [decide_eq_false q7] at e7
  obtain ⟨h8, M8, a8, bd8, wr8, e8, la8, r8, f8, z8⟩ := s37 (L := L) (xs := xs) (b := false) hx7 hs hl W7 r7
  have hx8 := zFx_rf hx7 f8
  refine ⟨h8, M8, a8, bd8, wr8, p36_0_9 (q := d) hx hs r.1.2.1 bf rfl d8' (y1 := false) e1 hx1 rfl r1.1.2.1 (y2 := false) e2 hx2 rfl r2.1.2.1 (y3 := false) e3 hx3 rfl r3.1.2.1 (y4 := false) e4 hx4 rfl r4.1.2.1 (y5 := false) e5 hx5 rfl r5.1.2.1 (y6 := false) e6 hx6 rfl r6.1.2.1 (y7 := false) e7 hx7 rfl r7.1.2.1 e8 hx8 b1 db, by omega, r8, zRf_w (zRf_tr f7 f8) (Nat.zero_le _) (Nat.zero_le _), (fun z => by cases z), fun _ => ?_⟩
  rw [zks_set hc d8 q7 q1 q2 q3 q4 q5 q6]
  have z8 := z8.2 rfl
  by_cases lg : zlrg (c a) = false
  · rw [if_pos lg]
    cases hz : zset c 64 a with
    | none =>
      rw [hz] at z8
      rcases z8 with y | y
      · exact Or.inl y
      · exact Or.inr (zdm_d y)
    | some le =>
      obtain ⟨l, e⟩ := le
      rw [hz] at z8
      obtain ⟨y1, y2, y3, y4⟩ := z8
      refine ⟨y1, y2, ?_, by rw [y4]; rfl⟩
      rw [y3]
      refine zMk_cg _ fun n _ _ => ?_
      have l0 : zlst O W false = W.length := if_neg (fun q => by cases q.1)
      unfold zSp
      rw [l0]
      rfl
  · rw [if_neg lg]
    have lg : zlrg (c a) = true := by cases z : zlrg (c a) with
      | true => rfl
      | false => exact absurd z lg
    have lgb := zlrg_iff.1 lg
    have nz : zset c 64 a = none := by
      have nd : zre zdig c a = a := zre_f (by cases z : zdig (c a) with
        | false => rfl
        | true => have := zdig_iff.1 z; omega)
      have np : zpt c a = none := by
        unfold zpt
        rw [if_neg (by omega), nd, if_neg (by omega)]
      show (match zrg c a with
        | none => none
        | some (r, e) => _) = none
      have : zrg c a = none := by
        unfold zrg
        rw [np]
      rw [this]
    rw [nz] at z8
    rcases z8 with y | y
    · exact Or.inl y
    · exact Or.inr (zdm_d y)
end
