/-! ===== the class's reader: signs and words ===== -/
/-- a reader p of session s: how long the line, where it stands, bad, wrong -/
def zRr (h : zH) (p s len a : Nat) (bd wr : Bool) : Prop := ((155 ≤ p ∧ p < zN h) ∧ zT h p = 5 ∧ a ≤ len ∧ len ≤ 48) ∧ zR h 250 p 0 = some (112 + 7 * s) ∧ zR h 252 p 0 = some (115 + 7 * s) ∧ zI h 251 p 0 = nI len ∧ zI h 253 p 0 = nI a ∧ zI h 254 p 0 = nI bd.toNat ∧ zI h 255 p 0 = nI wr.toNat
/-- only the reader p is another, at most c cells and k slots are made -/
def zRf (p c k : Nat) (h h' : zH) : Prop := (zN h ≤ zN h' ∧ zC h' ≤ zC h + c ∧ zS h' ≤ zS h + k) ∧ (∀ a, a < zN h → zT h' a = zT h a ∧ zE h' a = zE h a) ∧ (∀ g a i, a < zN h → (a ≠ p ∨ ¬ (g = 253 ∨ g = 254 ∨ g = 255)) → zI h' g a i = zI h g a i) ∧ ∀ g a i, a < zN h → zR h' g a i = zR h g a i ∧ zL h' g a i = zL h g a i
theorem zRf_rf (p : Nat) (h : zH) : zRf p 0 0 h h := ⟨⟨Nat.le_refl _, Nat.le_refl _, Nat.le_refl _⟩, fun _ _ => ⟨rfl, rfl⟩, fun _ _ _ _ _ => rfl, fun _ _ _ _ => ⟨rfl, rfl⟩⟩
theorem zRf_w {p c k c' k' : Nat} {h h' : zH} (f : zRf p c k h h') (hc : c ≤ c') (hk : k ≤ k') : zRf p c' k' h h' := by
  obtain ⟨⟨f1, f2, f3⟩, f4⟩ := f
  exact ⟨⟨f1, by omega, by omega⟩, f4⟩
theorem zRf_tr {p c k c' k' : Nat} {h h1 h2 : zH} (f : zRf p c k h h1) (g : zRf p c' k' h1 h2) : zRf p (c + c') (k + k') h h2 := by
  obtain ⟨⟨f1, f2, f3⟩, f4, f5, f6⟩ := f
  obtain ⟨⟨g1, g2, g3⟩, g4, g5, g6⟩ := g
  refine ⟨⟨by omega, by omega, by omega⟩, fun a ha => ?_, fun x a i ha hn => ?_, fun x a i ha => ?_⟩
  · rw [(g4 a (by omega)).1, (g4 a (by omega)).2]; exact f4 a ha
  · rw [g5 x a i (by omega) hn]; exact f5 x a i ha hn
  · rw [(g6 x a i (by omega)).1, (g6 x a i (by omega)).2]; exact f6 x a i ha
theorem zRf_sI (p : Nat) (h : zH) {g : Nat} (x : Int32) (hg : g = 253 ∨ g = 254 ∨ g = 255) : zRf p 0 0 h (zsI h g p 0 x) := by
  refine ⟨⟨Nat.le_refl _, Nat.le_refl _, Nat.le_refl _⟩, fun _ _ => ⟨rfl, rfl⟩, fun g' a i ha hn => ?_, fun _ _ _ _ => ⟨rfl, rfl⟩⟩
  show (if g' = g ∧ a = p ∧ i = 0 then x else zI h g' a i) = _
  refine if_neg fun q => ?_
  rcases hn with z | z
  · exact z q.2.1
  · exact z (by rw [q.1]; exact hg)
theorem zFx_rf {p c k : Nat} {h h' : zH} (hx : zFx h) (f : zRf p c k h h') : zFx h' := by
  have hn := hx.1
  refine ⟨Nat.le_trans hn f.1.1, fun a h1 h2 => ?_, fun q hq => ?_, fun a ha => ?_⟩
  · rw [(f.2.1 a (by omega)).1, (f.2.1 a (by omega)).2]; exact hx.2.1 a h1 h2
  · have lt : ∀ q ∈ zfRl, q.2.1 < 155 := by decide
    have := lt q hq
    rw [(f.2.2.2 _ _ _ (by omega)).1]
    exact hx.2.2.1 q hq
  · rw [(f.2.1 a (by omega)).1]; exact hx.2.2.2 a ha
theorem zBy_rf {p c k q : Nat} {T : List Nat} {h h' : zH} (hx : zFx h) (hp : zT h p = 5) (f : zRf p c k h h') (hb : zBy h q T) (hq : q < zN h) : zBy h' q T := by
  rcases hb with ⟨⟨h1, h2⟩, h3, h4, h5⟩ | ⟨h1, h2⟩
  · refine Or.inl ⟨⟨h1, Nat.lt_of_lt_of_le h2 f.1.1⟩, by rw [(f.2.1 q h2).1]; exact h3, by rw [(f.2.1 q h2).2]; exact h4, fun i hi => ?_⟩
    rw [f.2.2.1 _ _ _ h2 (Or.inl fun e => by rw [e, hp] at h3; omega)]
    exact h5 i hi
  · exact Or.inr ⟨by rw [(f.2.1 q hq).1]; exact h1, h2⟩
theorem zcT_ge {a : Nat} (h : zcT a ≠ 0) : a < 94 := by
  unfold zcT at h
  repeat' split at h
  all_goals omega
theorem zSt_rf {p c k q : Nat} {T : List Nat} {h h' : zH} (hx : zFx h) (hp : zT h p = 5) (f : zRf p c k h h') (hs : zSt h q T) : zSt h' q T := by
  obtain ⟨hT, b, hb, z⟩ := hs
  have hn := hx.1
  rcases z with ⟨⟨h1, h2⟩, h3, h4, h5, h6⟩ | ⟨h1, h2, h3, h4⟩
  · have hbn : b < zN h := by
      rcases hb with z | z
      · exact z.1.2
      · rcases h6 with y | y <;> omega
    refine ⟨hT, b, zBy_rf hx hp f hb hbn, Or.inl ⟨⟨h1, Nat.lt_of_lt_of_le h2 f.1.1⟩, by rw [(f.2.1 q h2).1]; exact h3, ?_, by rw [(f.2.2.2 _ _ _ h2).1]; exact h5, by rw [(f.2.1 b hbn).1]; exact h6⟩⟩
    rw [f.2.2.1 _ _ _ h2 (Or.inl fun e => by rw [e, hp] at h3; omega)]
    exact h4
  · exact ⟨hT, b, zBy_rf hx hp f hb (by omega), Or.inr ⟨by rw [(f.2.1 q (by omega)).1]; exact h1, by rw [(f.2.1 (40 + q) (by omega)).1]; exact h2, h3, h4⟩⟩
theorem zOb_rf {p c k q : Nat} {O : zOt} {h h' : zH} (hx : zFx h) (hp : zT h p = 5) (f : zRf p c k h h') (ho : zOb h O q) : zOb h' O q := by
  obtain ⟨⟨h1, h2, h3⟩, h4, h5, h6, h7, t, h8, h9⟩ := ho
  have ne : q ≠ p := fun e => by rw [e, hp] at h3; omega
  exact ⟨⟨h1, Nat.lt_of_lt_of_le h2 f.1.1, by rw [(f.2.1 q h2).1]; exact h3⟩, by rw [f.2.2.1 _ _ _ h2 (Or.inl ne)]; exact h4, by rw [f.2.2.1 _ _ _ h2 (Or.inl ne)]; exact h5, by rw [f.2.2.1 _ _ _ h2 (Or.inl ne)]; exact h6, h7, t, by rw [(f.2.2.2 _ _ _ h2).1]; exact h8, zSt_rf hx hp f h9⟩
theorem zWv_rf {p c k s : Nat} {O : zOt} {W : List (Nat × Nat)} {m : zMm} {h h' : zH} (hx : zFx h) (hs : s < 3) (hp : zT h p = 5) (f : zRf p c k h h') (hw : zWv h m O s W) : zWv h' m O s W := by
  have hn := hx.1
  refine ⟨hw.1, hw.2.1, fun i hi => ?_⟩
  obtain ⟨g1, g2, g3, g4⟩ := hw.2.2 i hi
  exact ⟨by rw [(f.2.2.2 _ _ _ (by omega)).1]; exact g1, g2, g3, zOb_rf hx hp f g4⟩
theorem zsI_g {h : zH} {g g' a a' i i' : Nat} {x : Int32} (hg : g' ≠ g) : zI (zsI h g a i x) g' a' i' = zI h g' a' i' := if_neg fun q => hg q.1
theorem zsI_a {h : zH} {g g' a a' i i' : Nat} {x : Int32} (ha : a' ≠ a) : zI (zsI h g a i x) g' a' i' = zI h g' a' i' := if_neg fun q => ha q.2.1
theorem zsI_e {h : zH} {g a i : Nat} {x : Int32} : zI (zsI h g a i x) g a i = x := if_pos ⟨rfl, rfl, rfl⟩
/-- another place, bad or wrong -/
theorem zRr_at {h : zH} {p s len a b : Nat} {bd wr : Bool} (r : zRr h p s len a bd wr) (hb : b ≤ len) : zRr (zsI h 253 p 0 (nI b)) p s len b bd wr := by
  obtain ⟨⟨h1, h2, h3, h4⟩, r1, r2, r3, r4, r5, r6⟩ := r
  exact ⟨⟨h1, h2, hb, h4⟩, r1, r2, (zsI_g (by decide)).trans r3, zsI_e, (zsI_g (by decide)).trans r5, (zsI_g (by decide)).trans r6⟩
theorem zRr_bd {h : zH} {p s len a : Nat} {bd wr : Bool} (r : zRr h p s len a bd wr) : zRr (zsI h 254 p 0 (nI 1)) p s len a true wr := by
  obtain ⟨⟨h1, h2, h3, h4⟩, r1, r2, r3, r4, r5, r6⟩ := r
  exact ⟨⟨h1, h2, h3, h4⟩, r1, r2, (zsI_g (by decide)).trans r3, (zsI_g (by decide)).trans r4, zsI_e, (zsI_g (by decide)).trans r6⟩
theorem zRr_wr {h : zH} {p s len a : Nat} {bd wr : Bool} (r : zRr h p s len a bd wr) : zRr (zsI h 255 p 0 (nI 1)) p s len a bd true := by
  obtain ⟨⟨h1, h2, h3, h4⟩, r1, r2, r3, r4, r5, r6⟩ := r
  exact ⟨⟨h1, h2, h3, h4⟩, r1, r2, (zsI_g (by decide)).trans r3, (zsI_g (by decide)).trans r4, (zsI_g (by decide)).trans r5, zsI_e⟩
/-- the line's characters -/
def zLm (m : zMm) (s len : Nat) (c : Nat → Nat) : Prop := (∀ i, c i = if i < len then m 0 (112 + 7 * s) i else 0) ∧ ∀ i, c i < 127
/-- whether the word T stands there -/
def zmw (c : Nat → Nat) : Nat → List Nat → Bool
  | _, [] => true
  | a, t :: T => decide (c a = t) && zmw c (a + 1) T
section
variable {L : Nat} {xs : Nat → Int32} {h : zH} {m : zMm} {p s len a : Nat} {bd wr : Bool} {c : Nat → Nat}
theorem s39 (hx : zFx h) (hs : s < 3) (hl : zLm m s len c) (r : zRr h p s len a bd wr) : zCl (zPr L xs) 39 [.ref p] (zMH h m) = some (.inl (some (.int (nI (c a)))), zMH h m) := by
  obtain ⟨⟨h1, h2, h3, h4⟩, r1, r2, r3, r4, r5, r6⟩ := r
  have cl := hl.2 a
  rw [en_39]
  have e := hl.1 a
  by_cases q : a < len
  · rw [if_pos q] at e
    rw [e]
    exact p39_0_1 hx hs h2 r4 r3 q r1 r4 (by omega) (by omega) (by omega) (by omega) (by omega)
  · rw [if_neg q] at e
    rw [e]
    exact p39_0_2 hx hs h2 r4 r3 (by omega) (by omega) (by omega) (by omega)
theorem s40 (hx : zFx h) (hs : s < 3) (hl : zLm m s len c) (r : zRr h p s len a bd wr) {x : Nat} (h0 : x ≠ 0) (h7 : x < 127) : ∃ h', zCl (zPr L xs) 40 [.ref p, .int (nI x)] (zMH h m) = some (.inl (some (.int (nI (decide (c a = x)).toNat))), zMH h' m) ∧ zRr h' p s len (if c a = x then a + 1 else a) bd wr ∧ zRf p 0 0 h h' := by
  have r0 := r
  obtain ⟨⟨h1, h2, h3, h4⟩, r1, r2, r3, r4, r5, r6⟩ := r
  rw [en_40]
  have e := hl.1 a
  by_cases q : a < len
  · rw [if_pos q] at e
    have cl := hl.2 a
    by_cases z : c a = x
    · rw [if_pos z, decide_eq_true z]
      exact ⟨_, p40_0_1 hx hs h2 r4 r3 q r1 r4 (by rw [← e]; exact z) r4 (by omega) (by omega) (by omega) (by omega), zRr_at r0 (by omega), zRf_sI p h _ (Or.inl rfl)⟩
    · rw [if_neg z, decide_eq_false z]
      exact ⟨h, p40_0_2 hx hs h2 r4 r3 q r1 r4 (by rw [← e]; exact z) (by omega) (by omega) (by omega) (by omega) (by omega) (by omega), r0, zRf_rf p h⟩
  · rw [if_neg q] at e
    have z : ¬ c a = x := fun z => h0 (by rw [← z, e])
    rw [if_neg z, decide_eq_false z]
    exact ⟨h, p40_0_3 hx hs h2 r4 r3 (by omega) (by omega) (by omega) (by omega), r0, zRf_rf p h⟩
theorem s41 (hx : zFx h) (hs : s < 3) (hl : zLm m s len c) (r : zRr h p s len a bd wr) {x : Nat} (h0 : x ≠ 0) (h7 : x < 127) : ∃ h', zCl (zPr L xs) 41 [.ref p, .int (nI x)] (zMH h m) = some (.inl none, zMH h' m) ∧ zRr h' p s len (if c a = x then a + 1 else a) (bd || !decide (c a = x)) wr ∧ zRf p 0 0 h h' := by
  obtain ⟨h1, e1, r1, f1⟩ := s40 (L := L) (xs := xs) hx hs hl r h0 h7
  have hx1 := zFx_rf hx f1
  rw [en_41]
  by_cases z : c a = x
  · rw [if_pos z] at r1 ⊢
    rw [decide_eq_true z] at e1 ⊢
    exact ⟨h1, p41_0_2 hx hs r.1.2.1 (y1 := true) e1 hx1 rfl, by rw [show (bd || !true) = bd by cases bd <;> rfl]; exact r1, f1⟩
  · rw [if_neg z] at r1 ⊢
    rw [decide_eq_false z] at e1 ⊢
    exact ⟨_, p41_0_1 hx hs r.1.2.1 (y1 := false) e1 hx1 rfl r1.1.2.1 (by have := r1.1.1.1; omega), by rw [show (bd || !false) = true by cases bd <;> rfl]; exact zRr_bd r1, zRf_tr f1 (zRf_sI p h1 _ (Or.inr (Or.inl rfl)))⟩
theorem s34 (hx : zFx h) (hs : s < 3) (hl : zLm m s len c) (r : zRr h p s len a bd wr) {q : Nat} {t : Bool} (hq : q ≤ 48) : zCl (zPr L xs) 34 [.ref p, .int (nI q), .int (nI t.toNat)] (zMH h m) = some (.inl (some (.int (nI (decide (97 ≤ c (a + q) ∧ c (a + q) ≤ 122) || (t && decide (48 ≤ c (a + q) ∧ c (a + q) ≤ 57))).toNat))), zMH h m) := by
  obtain ⟨⟨h1, h2, h3, h4⟩, r1, r2, r3, r4, r5, r6⟩ := r
  rw [en_34]
  have e := hl.1 (a + q)
  have cl := hl.2 (a + q)
  have b1 : 154 ≤ p := by omega
  by_cases l : a + q < len
  · rw [if_pos l] at e
    have b5 : m 0 (112 + 7 * s) (a + q) < 2147483648 := by omega
    have b4 : a + q < 48 := by omega
    rw [e]
    by_cases c1 : 97 ≤ m 0 (112 + 7 * s) (a + q)
    · by_cases c2 : m 0 (112 + 7 * s) (a + q) ≤ 122
      · rw [decide_eq_true ⟨c1, c2⟩]
        exact p34_0_5 hx hs h2 r4 r3 l r1 r4 c1 c2 b1 (by omega) (by omega) b4 b5
      · rw [decide_eq_false (fun z => c2 z.2), Bool.false_or]
        cases t with
        | false => exact p34_0_4 (t := false) hx hs h2 r4 r3 l r1 r4 c1 (by omega) rfl b1 (by omega) (by omega) b4 b5
        | true =>
          by_cases c3 : m 0 (112 + 7 * s) (a + q) ≤ 57
          · omega
          · rw [decide_eq_false (fun z => c3 z.2)]
            exact p34_0_2 (t := true) hx hs h2 r4 r3 l r1 r4 c1 (by omega) rfl (by omega) (by omega) b1 (by omega) (by omega) b4 b5
    · rw [decide_eq_false (fun z => c1 z.1), Bool.false_or]
      cases t with
      | false => exact p34_0_9 (t := false) hx hs h2 r4 r3 l r1 r4 (by omega) rfl b1 (by omega) (by omega) b4 b5
      | true =>
        by_cases c2 : 48 ≤ m 0 (112 + 7 * s) (a + q)
        · by_cases c3 : m 0 (112 + 7 * s) (a + q) ≤ 57
          · rw [decide_eq_true ⟨c2, c3⟩]
            exact p34_0_6 (t := true) hx hs h2 r4 r3 l r1 r4 (by omega) rfl c2 c3 b1 (by omega) (by omega) b4 b5
          · rw [decide_eq_false (fun z => c3 z.2)]
            exact p34_0_7 (t := true) hx hs h2 r4 r3 l r1 r4 (by omega) rfl c2 (by omega) b1 (by omega) (by omega) b4 b5
        · rw [decide_eq_false (fun z => c2 z.1)]
          exact p34_0_8 (t := true) hx hs h2 r4 r3 l r1 r4 (by omega) rfl (by omega) b1 (by omega) (by omega) b4 b5
  · rw [if_neg l] at e
    rw [e]
    cases t with
    | true => exact p34_0_10 (t := true) hx hs h2 r4 r3 (by omega) rfl b1 (by omega) (by omega)
    | false => exact p34_0_11 (t := false) hx hs h2 r4 r3 (by omega) rfl b1 (by omega) (by omega)
theorem zmw_len {c : Nat → Nat} {len : Nat} (h0 : ∀ i, len ≤ i → c i = 0) : ∀ (T : List Nat) (a : Nat), (∀ x ∈ T, x ≠ 0) → a ≤ len → zmw c a T = true → a + T.length ≤ len
  | [], a, _, ha, _ => ha
  | t :: T, a, hT, ha, hz => by
    unfold zmw at hz
    rw [Bool.and_eq_true] at hz
    have e := of_decide_eq_true hz.1
    have : a < len := Nat.lt_of_not_le fun q => hT t (List.mem_cons_self ..) (by rw [← e]; exact h0 a q)
    have := zmw_len h0 T (a + 1) (fun x hx => hT x (List.mem_cons_of_mem _ hx)) (by omega) hz.2
    rw [List.length_cons]
    omega
theorem s42 (hx : zFx h) (hs : s < 3) (hl : zLm m s len c) (r : zRr h p s len a bd wr) {q : Nat} {T : List Nat} (hT : zSt h q T) (h0 : ∀ x ∈ T, x ≠ 0) : ∃ h', zCl (zPr L xs) 42 [.ref p, .ref q] (zMH h m) = some (.inl (some (.int (nI (zmw c a T).toNat))), zMH h' m) ∧ zRr h' p s len (if zmw c a T = true then a + T.length else a) bd wr ∧ zRf p 0 0 h h' := by
  have r0 := r
  obtain ⟨⟨h1, h2, h3, h4⟩, r1, r2, r3, r4, r5, r6⟩ := r
  have b1 : 154 ≤ p := by omega
  have tq := zSt_t (m := m) hT
  have lT := hT.1.2
  have z0 : ∀ i, len ≤ i → c i = 0 := fun i hi => by rw [hl.1 i, if_neg (by omega)]
  rw [en_42]
  by_cases l : T.length ≤ len - a
  · have lp : ∀ f i, f + i = T.length → ∃ h', zEv (zPr L xs) 4 42 20 [.val (.ref p), .val (.ref q), .val (.int (nI i))] [] (zMH h m) = some (.inl (some (.int (nI (zmw c (a + i) (T.drop i)).toNat))), zMH h' m) ∧ zRr h' p s len (if zmw c (a + i) (T.drop i) = true then a + T.length else a) bd wr ∧ zRf p 0 0 h h' := by
      intro f
      induction f with
      | zero =>
        intro i hf
        rw [List.drop_of_length_le (by omega), if_pos (show zmw c (a + i) [] = true from rfl)]
        exact ⟨_, p42_20_3 hx hs tq (s3 hT) (by omega) h2 r4 (s3 hT) (by omega) (by omega) b1, zRr_at r0 (by omega), zRf_sI p h _ (Or.inl rfl)⟩
      | succ f ih =>
        intro i hf
        have e := hl.1 (a + i)
        rw [if_pos (by omega)] at e
        have cl := hl.2 (a + i)
        have tl : T.getD i 0 < 127 := by
          rw [List.getD_eq_getElem?_getD, List.getElem?_eq_getElem (by omega)]
          exact hT.1.1 _ (List.getElem_mem _)
        rw [zdrop_cons (by omega)]
        have u : zmw c (a + i) (T.getD i 0 :: T.drop (i + 1)) = (decide (c (a + i) = T.getD i 0) && zmw c (a + (i + 1)) (T.drop (i + 1))) := rfl
        rw [u]
        by_cases z : c (a + i) = T.getD i 0
        · rw [decide_eq_true z, Bool.true_and]
          obtain ⟨h', e', r', f'⟩ := ih (i + 1) (by omega)
          exact ⟨h', (p42_20_2 hx hs tq (s3 hT) (by omega) h2 r1 r4 (s4 hT (by omega)) (by rw [← e]; exact z) (by omega) (by omega) b1 (by omega)).trans e', r', f'⟩
        · rw [decide_eq_false z, Bool.false_and, if_neg Bool.noConfusion]
          exact ⟨h, p42_20_1 hx hs tq (s3 hT) (by omega) h2 r1 r4 (s4 hT (by omega)) (by rw [← e]; exact z) (by omega) (by omega) b1 (by omega) (by omega) (by omega), r0, zRf_rf p h⟩
    obtain ⟨h', e', r', f'⟩ := lp T.length 0 rfl
    exact ⟨h', (p42_0_2 hx hs tq (s3 hT) h2 r3 r4 l b1 h3 (by omega) (by omega)).trans e', r', f'⟩
  · have z : zmw c a T = false := by
      cases z : zmw c a T with
      | false => rfl
      | true => have := zmw_len z0 T a h0 h3 z; omega
    rw [z, if_neg Bool.noConfusion]
    exact ⟨h, p42_0_1 hx hs tq (s3 hT) h2 r3 r4 (by omega) b1 h3 (by omega) (by omega), r0, zRf_rf p h⟩
end
