/-! ===== Strings that are made ===== -/
/-- an array's first n cells are written -/
def zAr (q n : Nat) (T : Nat → Nat) (h h' : zH) : Prop := h'.1 = h.1 ∧ zT h' = zT h ∧ zE h' = zE h ∧ zL h' = zL h ∧ zR h' = zR h ∧ ∀ g a i, zI h' g a i = if g = 0 ∧ a = q ∧ i < n then nI (T i) else zI h g a i
theorem zAr_rf (q : Nat) (T : Nat → Nat) (h : zH) : zAr q 0 T h h := ⟨rfl, rfl, rfl, rfl, rfl, fun g a i => by rw [if_neg (by omega)]⟩
theorem zAr_st {q n : Nat} {T : Nat → Nat} {h h' : zH} (f : zAr q n T h h') : zAr q (n + 1) T h (zsI h' 0 q n (nI (T n))) := by
  obtain ⟨f1, f2, f3, f4, f5, f6⟩ := f
  refine ⟨f1, f2, f3, f4, f5, fun g a i => ?_⟩
  show (if g = 0 ∧ a = q ∧ i = n then nI (T n) else zI h' g a i) = _
  by_cases z : g = 0 ∧ a = q ∧ i = n
  · rw [if_pos z, if_pos ⟨z.1, z.2.1, by omega⟩, z.2.2]
  · rw [if_neg z, f6]
    by_cases y : g = 0 ∧ a = q ∧ i < n
    · rw [if_pos y, if_pos ⟨y.1, y.2.1, by omega⟩]
    · rw [if_neg y, if_neg (fun w => by
        by_cases e : i = n
        · exact z ⟨w.1, w.2.1, e⟩
        · exact y ⟨w.1, w.2.1, by omega⟩)]
theorem zAr_fx {q n : Nat} {T : Nat → Nat} {h h' : zH} (hx : zFx h) (f : zAr q n T h h') : zFx h' := by
  obtain ⟨f1, f2, f3, f4, f5, f6⟩ := f
  unfold zFx zN
  rw [f1, f2, f3, f5]
  exact hx
/-- only the object p is another, at most c cells and k slots are made -/
def zFq (p c k : Nat) (h h' : zH) : Prop := (zN h ≤ zN h' ∧ zC h' ≤ zC h + c ∧ zS h' ≤ zS h + k) ∧ (∀ a, a < zN h → zT h' a = zT h a ∧ zE h' a = zE h a) ∧ ∀ g a i, a < zN h → a ≠ p → zI h' g a i = zI h g a i ∧ zR h' g a i = zR h g a i ∧ zL h' g a i = zL h g a i
section
variable {L : Nat} {xs : Nat → Int32} {h : zH} {m : zMm}
theorem zb8 : ∀ v, v < 127 → ((nI v).toInt8.toInt32 = nI v ∧ (vp_nar .byte) (nI v) = nI v) := by decide
theorem s15 {q1 q2 n : Nat} {T : Nat → Nat} (hx : zFx h) (h1 : 154 ≤ q1 ∧ zT h q1 = 22 ∧ zE h q1 = n) (h2 : 154 ≤ q2 ∧ zT h q2 = 24 ∧ zE h q2 = n) (hn : n ≤ 48) (hT : ∀ i, i < n → zI h 0 q1 i = nI (T i) ∧ T i < 127) : ∃ h', zCl (zPr L xs) 15 [.ref q1, .int (nI 0), .ref q2, .int (nI 0), .int (nI n)] (zMH h m) = some (.inl (some (.int (nI n))), zMH h' m) ∧ zAr q2 n T h h' := by
  rw [en_15]
  have ne : q1 ≠ q2 := fun e => by rw [e] at h1; omega
  have lp : ∀ f k (w6 : Slot) (h' : zH), f + k = n → w6 ≠ .second → zAr q2 k T h h' → ∃ h'', zEv (zPr L xs) 0 15 3 [.val (.ref q1), .val (.int (nI k)), .val (.ref q2), .val (.int (nI k)), .val (.int (nI n)), .val (.int (nI k)), w6] [] (zMH h' m) = some (.inl (some (.int (nI n))), zMH h'' m) ∧ zAr q2 n T h h'' := by
    intro f
    induction f with
    | zero =>
      intro k w6 h' hf hw fa
      have : k = n := by omega
      rw [this] at fa ⊢
      exact ⟨h', p15_3_3 (zAr_fx hx fa) (Nat.le_refl n) (by omega) (by omega), fa⟩
    | succ f ih =>
      intro k w6 h' hf hw fa
      have hx' := zAr_fx hx fa
      have tk := hT k (by omega)
      have z8 := zb8 (T k) tk.2
      have cell : zI h' 0 q1 k = nI (T k) := by rw [fa.2.2.2.2.2, if_neg (fun z => ne z.2.1)]; exact tk.1
      have st := p15_3_2 (L := L) (xs := xs) (m := m) (p := q1) (t := q2) (x1 := k) (x3 := k) (x4 := n) (x5 := k) (w6 := w6) (x2 := T k) hx' (by omega) (by rw [fa.2.1]; exact h1.2.1) cell (by omega) (by rw [fa.2.1]; exact h2.2.1) (by rw [z8.1]; exact z8.2) hw (by omega) (by omega) (by rw [fa.2.2.1, h1.2.2]; omega) (by omega) h1.1 (by omega) (by rw [fa.2.2.1, h2.2.2]; omega) (by omega) h2.1
      rw [z8.1] at st
      obtain ⟨h'', e', f'⟩ := ih (k + 1) _ _ (by omega) (zsecn (v := .int (nI (T k)))) (zAr_st fa)
      exact ⟨h'', st.trans e', f'⟩
  obtain ⟨h'', e, f⟩ := lp n 0 .unset h rfl zsecu (zAr_rf q2 T h)
  exact ⟨h'', (p15_0_1 hx).trans e, f⟩
theorem s16 {q n : Nat} {T : List Nat} (hb : zBy h q T) (hn : T.length = n) (h64 : n ≤ 64) : zCl (zPr L xs) 16 [.ref q, .int (nI n)] (zMH h m) = some (.inl (some (.int (nI 0))), zMH h m) := by
  rw [en_16]
  have e1 : nI n - nI n = nI 0 := by rw [zi_sub (Nat.le_refl n), Nat.sub_self]
  refine (zEv_go lk_16_0 rfl).trans ((zEv_go lk_16_1 rfl).trans ((k_blen lk_16_2 hb).trans ?_))
  rw [hn]
  refine (k_isub lk_16_3 (Nat.le_refl n)).trans ?_
  rw [Nat.sub_self]
  exact (zEv_go lk_16_4 rfl).trans ((zEv_go lk_16_6 rfl).trans ((zEv_go lk_16_7 rfl).trans (k_iret lk_16_8 (by decide))))
/-- a String is made of characters -/
theorem s1 {p q n : Nat} {T : List Nat} (hx : zFx h) (hp : (154 ≤ p ∧ p < zN h) ∧ zT h p = 1) (hq : (154 ≤ q ∧ q < zN h) ∧ zT h q = 22 ∧ zE h q = n) (hn : T.length = n ∧ n ≤ 48) (hT : ∀ i, i < n → zI h 0 q i = nI (T.getD i 0)) (hc : ∀ x ∈ T, x < 127) : ∃ h', zCl (zPr L xs) 1 [.ref p, .ref q] (zMH h m) = some (.inl none, zMH h' m) ∧ zSt h' p T ∧ zFq p 1 n h h' ∧ zFx h' := by
  have ne : p ≠ q := fun e => by rw [e] at hp; omega
  have e2 : ∃ h', zCl (zPr L xs) 2 [.ref p, .ref q, .int (nI 0), .int (nI n), .null] (zMH h m) = some (.inl none, zMH h' m) ∧ zSt h' p T ∧ zFq p 1 n h h' ∧ zFx h' := by
    rw [show zCl (zPr L xs) 2 [.ref p, .ref q, .int (nI 0), .int (nI n), .null] (zMH h m) = zEv (zPr L xs) 2 2 0 [.val (.ref p), .val (.ref q), .val (.int (nI 0)), .val (.int (nI n)), .val .null, .unset] [] (zMH h m) from rfl]
    by_cases n0 : n = 0
    · have t0 : T = [] := List.eq_nil_of_length_eq_zero (by omega)
      rw [n0, t0]
      have hx1 : zFx (zsR h 50 p 0 (some 93)) := zFx_sRd hx hp.1.1
      refine ⟨_, p2_0_1 hx rfl hp.2 hp.2 (by decide) hp.1.1, ⟨⟨(by intro x hx; cases hx), Nat.zero_le _⟩, 93, Or.inr ⟨?_, rfl⟩, Or.inl ⟨hp.1, hp.2, zsI_e, if_pos ⟨rfl, rfl, rfl⟩, Or.inr rfl⟩⟩, ⟨⟨Nat.le_refl _, Nat.le_add_right _ _, Nat.le_refl _⟩, fun a ha => ⟨rfl, rfl⟩, fun g a i ha hne => ⟨zsI_a hne, if_neg (fun z => hne z.2.1), rfl⟩⟩, hx1⟩
      show zT h 93 = 42
      rw [hx.2.2.2 93 (by decide)]
      decide
    · have hn0 := hx.1
      have hxN : zFx (zNew h 24 n n) := zFx_new hx
      obtain ⟨h1, e15, f15⟩ := s15 (L := L) (xs := xs) (m := m) (h := zNew h 24 n n) (q1 := q) (q2 := zN h) (n := n) (T := fun i => T.getD i 0) hxN ⟨hq.1.1, (if_neg (by omega)).trans hq.2.1, (if_neg (by omega)).trans hq.2.2⟩ ⟨by omega, zNew_T, zNew_E⟩ hn.2 (fun i hi => ⟨(if_neg (by omega)).trans (hT i hi), by
        rw [List.getD_eq_getElem?_getD, List.getElem?_eq_getElem (by omega)]
        exact hc _ (List.getElem_mem _)⟩)
      have hx1 := zAr_fx hxN f15
      obtain ⟨f1, f2, f3, f4, f5, f6⟩ := f15
      have N1 : zN h1 = zN h + 1 := by unfold zN; rw [f1]; rfl
      have by1 : zBy h1 (zN h) T := Or.inl ⟨⟨by omega, by omega⟩, by rw [f2]; exact zNew_T, by rw [f3, hn.1]; exact zNew_E, fun i hi => by rw [f6, if_pos ⟨rfl, rfl, by omega⟩]⟩
      have e14 : zCl (zPr L xs) 14 [.ref q, .int (nI 0), .int (nI n)] (zMH h m) = some (.inl (some (.ref (zN h))), zMH h1 m) := by
        rw [en_14]
        exact p14_0_1 hx e15 hx1 rfl (by omega)
      have e16 := s16 (L := L) (xs := xs) (m := m) by1 hn.1 (by omega)
      have tp1 : zT h1 p = 1 := by rw [f2]; exact (if_neg (by omega)).trans hp.2
      have st := p2_0_2 (L := L) (xs := xs) (m := m) (p := p) (q := q) (t := 0) (u := n) (y1 := zN h) (m1 := m) (h1 := h1) (y2 := 0) hx n0 e14 hx1 e16 tp1 (by decide) tp1 (by omega) hp.1.1
      refine ⟨_, st, ⟨⟨hc, by omega⟩, zN h, ?_, Or.inl ⟨⟨hp.1.1, by show p < zN h1; omega⟩, tp1, zsI_e, if_pos ⟨rfl, rfl, rfl⟩, Or.inl (by show zT h1 (zN h) = 24; rw [f2]; exact zNew_T)⟩⟩, ⟨⟨by show zN h ≤ zN h1; omega, ?_, ?_⟩, fun a ha => ⟨?_, ?_⟩, fun g a i ha hne => ⟨?_, ?_, ?_⟩⟩, ?_⟩
      · rcases by1 with ⟨z1, z2, z3, z4⟩ | ⟨z1, z2⟩
        · exact Or.inl ⟨z1, z2, z3, fun i hi => (show zI (zsI h1 51 p 0 (nI 0)) 0 (zN h) i = _ from (zsI_a (by omega : zN h ≠ p)).trans (z4 i hi))⟩
        · exact Or.inr ⟨z1, z2⟩
      · show h1.1.2.1 ≤ _; rw [f1]; exact Nat.le_refl _
      · show h1.1.2.2 ≤ _; rw [f1]; exact Nat.le_refl _
      · show zT h1 a = zT h a; rw [f2]; exact if_neg (by omega)
      · show zE h1 a = zE h a; rw [f3]; exact if_neg (by omega)
      · refine (zsI_a hne).trans ?_
        rw [f6, if_neg (by omega)]
        exact if_neg (by omega)
      · refine (if_neg (fun z => hne z.2.1)).trans ?_
        show zR h1 g a i = _
        rw [f5]
        exact if_neg (by omega)
      · show zL h1 g a i = _
        rw [f4]
        exact if_neg (by omega)
      · exact zFx_sRd (h := zsI h1 51 p 0 (nI 0)) hx1 hp.1.1
  obtain ⟨h', e2, r⟩ := e2
  rw [en_1]
  exact ⟨h', p1_0_1 hx hq.2.1 hq.2.2 hp.2 e2 r.2.2, r⟩
variable {p s len a : Nat} {bd wr : Bool} {c : Nat → Nat}
/-- how many signs of a kind there are, at most f -/
def zfn (P : Nat → Bool) (c : Nat → Nat) : Nat → Nat → Nat
  | 0, _ => 0
  | f + 1, b => if P (c b) = true then 1 + zfn P c f (b + 1) else 0
theorem zfn_le {P : Nat → Bool} {c : Nat → Nat} : ∀ f b, zfn P c f b ≤ f
  | 0, _ => Nat.le_refl _
  | f + 1, b => by
    unfold zfn
    have := zfn_le (P := P) (c := c) f (b + 1)
    split <;> omega
theorem zfn_all {P : Nat → Bool} {c : Nat → Nat} : ∀ f b j, j < zfn P c f b → P (c (b + j)) = true
  | 0, _, _, h => by unfold zfn at h; omega
  | f + 1, b, j, h => by
    unfold zfn at h
    by_cases q : P (c b) = true
    · rw [if_pos q] at h
      cases j with
      | zero => exact q
      | succ j =>
        have := zfn_all (P := P) (c := c) f (b + 1) j (by omega)
        rw [show b + (j + 1) = b + 1 + j by omega]
        exact this
    · rw [if_neg q] at h; omega
theorem zfn_nd {P : Nat → Bool} {c : Nat → Nat} : ∀ f b, zfn P c f b < f → P (c (b + zfn P c f b)) = false
  | 0, _, h => by omega
  | f + 1, b, h => by
    unfold zfn at h ⊢
    by_cases q : P (c b) = true
    · rw [if_pos q] at h ⊢
      have := zfn_nd (P := P) (c := c) f (b + 1) (by omega)
      rw [show b + (1 + zfn P c f (b + 1)) = b + 1 + zfn P c f (b + 1) by omega]
      exact this
    · rw [if_neg q]
      cases z : P (c b) with
      | true => exact absurd z q
      | false => rfl
/-- letters, or letters and digits -/
def zLt (t : Bool) (x : Nat) : Bool := decide (97 ≤ x ∧ x ≤ 122) || (t && decide (48 ≤ x ∧ x ≤ 57))
theorem zLt_0 (t : Bool) : zLt t 0 = false := by cases t <;> rfl
theorem s33 (hx : zFx h) (hs : s < 3) (hl : zLm m s len c) (r : zRr h p s len a bd wr) {q : Nat} {t : Bool} (hq : q ≤ 6) : ∃ h' v, zCl (zPr L xs) 33 [.ref p, .int (nI q), .int (nI t.toNat)] (zMH h m) = some (.inl (some (.ref v)), zMH h' m) ∧ zRr h' p s len (a + zfn (zLt t) c q a) (bd || decide (zfn (zLt t) c q a = 0)) wr ∧ zRf p 3 16 h h' ∧ zSt h' v ((List.range (zfn (zLt t) c q a)).map fun i => c (a + i)) := by
  have hxn := hx.1
  have pn := r.1.1
  rw [en_33]
  -- counting
  have cnt : ∀ f i (w4 w5 : Slot), w4 ≠ .second → f + i = q → zEv (zPr L xs) 4 33 2 [.val (.ref p), .val (.int (nI q)), .val (.int (nI t.toNat)), .val (.int (nI i)), w4, w5] [] (zMH h m) = zEv (zPr L xs) 4 33 22 [.val (.ref p), .val (.int (nI q)), .val (.int (nI t.toNat)), .val (.int (nI (i + zfn (zLt t) c f (a + i)))), w4, w5] [] (zMH h m) := by
    intro f
    induction f with
    | zero =>
      intro i w4 w5 hw4 hf
      exact p33_2_3 hx hs (by omega) (by omega) (by omega)
    | succ f ih =>
      intro i w4 w5 hw4 hf
      have e34 := s34 (L := L) (xs := xs) hx hs hl r (q := i) (t := t) (by omega)
      have e34 : zCl (zPr L xs) 34 [.ref p, .int (nI i), .int (nI t.toNat)] (zMH h m) = some (.inl (some (.int (nI (zLt t (c (a + i))).toNat))), zMH h m) := e34
      unfold zfn
      cases z : zLt t (c (a + i)) with
      | true =>
        rw [z] at e34
        rw [if_pos rfl, show i + (1 + zfn (zLt t) c f (a + i + 1)) = i + 1 + zfn (zLt t) c f (a + (i + 1)) by rw [Nat.add_assoc a i 1]; omega]
        exact (p33_2_1 (x1 := q) (x3 := i) hx hs (by omega) r.1.2.1 (y1 := true) e34 rfl hw4 (by omega) (by omega)).trans (ih (i + 1) w4 w5 hw4 (by omega))
      | false =>
        rw [z] at e34
        rw [if_neg Bool.noConfusion]
        exact p33_2_2 (x1 := q) (x3 := i) hx hs (by omega) r.1.2.1 (y1 := false) e34 rfl (by omega) (by omega)
  have c0 := cnt q 0 .unset .unset zsecu rfl
  rw [Nat.zero_add, Nat.add_zero] at c0
  obtain ⟨n, hn⟩ : ∃ n, n = zfn (zLt t) c q a := ⟨_, rfl⟩
  have nq : n ≤ q := by rw [hn]; exact zfn_le q a
  have all : ∀ j, j < n → zLt t (c (a + j)) = true := by rw [hn]; exact zfn_all q a
  rw [← hn] at c0 ⊢
  have an : a + n ≤ len := by
    have h48 := r.1.2.2
    cases n with
    | zero => omega
    | succ k =>
      have z := all k (Nat.lt_succ_self k)
      have : a + k < len := Nat.lt_of_not_le fun g => by
        rw [hl.1 (a + k), if_neg (by omega), zLt_0] at z
        cases z
      omega
  -- the characters
  obtain ⟨hN, ehN⟩ : ∃ hN, hN = zNew h 22 n n := ⟨_, rfl⟩
  have hxN : zFx hN := by rw [ehN]; exact zFx_new hx
  have oldT : ∀ b, b < zN h → zT hN b = zT h b ∧ zE hN b = zE h b := fun b hb => by rw [ehN]; exact ⟨if_neg (by omega), if_neg (by omega)⟩
  have oldI : ∀ g b i, b < zN h → zI hN g b i = zI h g b i ∧ zR hN g b i = zR h g b i ∧ zL hN g b i = zL h g b i := fun g b i hb => by rw [ehN]; exact ⟨if_neg (by omega), if_neg (by omega), if_neg (by omega)⟩
  have tN : zT hN (zN h) = 22 ∧ zE hN (zN h) = n ∧ zN hN = zN h + 1 ∧ zC hN = zC h + 1 ∧ zS hN = zS h + n := by rw [ehN]; exact ⟨zNew_T, zNew_E, rfl, rfl, rfl⟩
  have lp : ∀ f k (h' : zH), f + k = n → zAr (zN h) k (fun i => c (a + i)) hN h' → ∃ h'', zEv (zPr L xs) 4 33 30 [.val (.ref p), .val (.int (nI q)), .val (.int (nI t.toNat)), .val (.int (nI n)), .val (.ref (zN h)), .val (.int (nI k))] [] (zMH h' m) = zEv (zPr L xs) 4 33 59 [.val (.ref p), .val (.int (nI q)), .val (.int (nI t.toNat)), .val (.int (nI n)), .val (.ref (zN h)), .val (.int (nI n))] [] (zMH h'' m) ∧ zAr (zN h) n (fun i => c (a + i)) hN h'' := by
    intro f
    induction f with
    | zero =>
      intro k h' hf fa
      have : k = n := by omega
      rw [this] at fa ⊢
      exact ⟨h', p33_30_2 (zAr_fx hxN fa) hs (Nat.le_refl n) (by omega) (by omega), fa⟩
    | succ f ih =>
      intro k h' hf fa
      have hx' := zAr_fx hxN fa
      have cl := hl.2 (a + k)
      have h48 := r.1.2.2.2
      have e := hl.1 (a + k)
      rw [if_pos (by omega)] at e
      have st := p33_30_1 (L := L) (xs := xs) (m := m) (s := s) (p := p) (w1 := .val (.int (nI q))) (w2 := .val (.int (nI t.toNat))) (x3 := n) (x4 := zN h) (x5 := k) (x1 := a) hx' hs (by omega) (by rw [fa.2.1, (oldT p pn.2).1]; exact r.1.2.1) (by rw [fa.2.2.2.2.1, (oldI _ _ _ pn.2).2.1]; exact r.2.1) (by rw [fa.2.2.2.2.2, if_neg (by omega), (oldI _ _ _ pn.2).1]; exact r.2.2.2.2.1) (by rw [fa.2.1]; exact tN.1) (by omega) (by omega) (by omega) (by omega) (by omega) (by rw [fa.2.2.1, tN.2.1]; omega) (by omega) (by omega)
      rw [← e] at st
      obtain ⟨h'', e', f'⟩ := ih (k + 1) _ (by omega) (zAr_st (T := fun i => c (a + i)) fa)
      exact ⟨h'', st.trans e', f'⟩
  obtain ⟨h2, e2, f2⟩ := lp n 0 hN rfl (zAr_rf _ _ hN)
  have hx2 := zAr_fx hxN f2
  have st1 := p33_22_1 (L := L) (xs := xs) (m := m) (p := p) (w1 := .val (.int (nI q))) (w2 := .val (.int (nI t.toNat))) (x3 := n) (w4 := .unset) (w5 := .unset) hx hs zsecu zsecu (by omega)
  rw [← ehN] at st1
  obtain ⟨g1, g2, g3, g4, g5, g6⟩ := f2
  have N2 : zN h2 = zN h + 1 := by unfold zN; rw [g1]; exact tN.2.2.1
  have C2 : zC h2 = zC h + 1 ∧ zS h2 = zS h + n := by unfold zC zS; rw [g1]; exact tN.2.2.2
  have r2 : zRr h2 p s len a bd wr := by
    obtain ⟨⟨r1, r3, r4, r5⟩, r6, r7, r8, r9, r10, r11⟩ := r
    have I : ∀ g i, zI h2 g p i = zI h g p i := fun g i => by rw [g6, if_neg (by omega)]; exact (oldI _ _ _ pn.2).1
    have R : ∀ g i, zR h2 g p i = zR h g p i := fun g i => by rw [g5]; exact (oldI _ _ _ pn.2).2.1
    exact ⟨⟨⟨r1.1, by omega⟩, by rw [g2, (oldT p pn.2).1]; exact r3, r4, r5⟩, (R _ _).trans r6, (R _ _).trans r7, (I _ _).trans r8, (I _ _).trans r9, (I _ _).trans r10, (I _ _).trans r11⟩
  have f02 : zRf p 1 6 h h2 := ⟨⟨by omega, by omega, by omega⟩, fun b hb => by rw [g2, g3]; exact oldT b hb, fun g b i hb _ => by rw [g6, if_neg (by omega)]; exact (oldI _ _ _ hb).1, fun g b i hb => by rw [g5, g4]; exact (oldI _ _ _ hb).2⟩
  -- at and bad
  have r3 := zRr_at r2 (b := a + n) an
  obtain ⟨h3, eh3⟩ : ∃ h3, h3 = zsI h2 253 p 0 (nI (a + n)) := ⟨_, rfl⟩
  rw [← eh3] at r3
  have f03 : zRf p 1 6 h h3 := by rw [eh3]; exact zRf_tr f02 (zRf_sI p h2 _ (Or.inl rfl))
  have fin : ∀ bb : Bool, zRr (zsI h3 254 p 0 (nI bb.toNat)) p s len (a + n) bb wr → ∃ h' , zCl (zPr L xs) 1 [.ref (zN (zsI h3 254 p 0 (nI bb.toNat))), .ref (zN h)] (zMH (zNew (zsI h3 254 p 0 (nI bb.toNat)) 1 0 4) m) = some (.inl none, zMH h' m) ∧ zRr h' p s len (a + n) bb wr ∧ zRf p 3 16 h h' ∧ zSt h' (zN (zsI h3 254 p 0 (nI bb.toNat))) ((List.range n).map fun i => c (a + i)) ∧ zFx h' := by
    intro bb r4
    obtain ⟨h4, eh4⟩ : ∃ h4, h4 = zsI h3 254 p 0 (nI bb.toNat) := ⟨_, rfl⟩
    rw [← eh4] at r4 ⊢
    have f04 : zRf p 1 6 h h4 := by rw [eh4]; exact zRf_tr f03 (zRf_sI p h3 _ (Or.inr (Or.inl rfl)))
    have hx4 := zFx_rf hx f04
    have N4 : zN h4 = zN h + 1 := by rw [eh4, eh3]; exact N2
    have C4 : zC h4 = zC h + 1 ∧ zS h4 = zS h + n := by rw [eh4, eh3]; exact C2
    have T4 : zT h4 = zT h2 ∧ zE h4 = zE h2 := by rw [eh4, eh3]; exact ⟨rfl, rfl⟩
    have I4 : ∀ b i, b ≠ p → zI h4 0 b i = zI h2 0 b i := fun b i hb => by rw [eh4, eh3, zsI_a hb, zsI_a hb]
    obtain ⟨hS, ehS⟩ : ∃ hS, hS = zNew h4 1 0 4 := ⟨_, rfl⟩
    have hxS : zFx hS := by rw [ehS]; exact zFx_new hx4
    have NS : zN hS = zN h4 + 1 ∧ zC hS = zC h4 + 1 ∧ zS hS = zS h4 + 4 := by rw [ehS]; exact ⟨rfl, rfl, rfl⟩
    have oT : ∀ b, b < zN h4 → zT hS b = zT h4 b ∧ zE hS b = zE h4 b := fun b hb => by rw [ehS]; exact ⟨if_neg (by omega), if_neg (by omega)⟩
    have oI : ∀ g b i, b < zN h4 → zI hS g b i = zI h4 g b i ∧ zR hS g b i = zR h4 g b i ∧ zL hS g b i = zL h4 g b i := fun g b i hb => by rw [ehS]; exact ⟨if_neg (by omega), if_neg (by omega), if_neg (by omega)⟩
    have ll : ((List.range n).map fun i => c (a + i)).length = n := by rw [List.length_map, List.length_range]
    obtain ⟨h', e', st', fq, hx'⟩ := s1 (L := L) (xs := xs) (m := m) (h := hS) (p := zN h4) (q := zN h) (n := n) (T := (List.range n).map fun i => c (a + i)) hxS ⟨⟨by omega, by omega⟩, by rw [ehS]; exact zNew_T⟩ ⟨⟨by omega, by omega⟩, by rw [(oT _ (by omega)).1, T4.1, g2]; exact tN.1, by rw [(oT _ (by omega)).2, T4.2, g3]; exact tN.2.1⟩ ⟨ll, by omega⟩ (fun i hi => by
      rw [(oI _ _ _ (by omega)).1, I4 _ _ (by omega), g6, if_pos ⟨rfl, rfl, hi⟩, List.getD_eq_getElem?_getD, List.getElem?_map, List.getElem?_range hi]
      rfl) (fun x hx => by
      obtain ⟨i, -, e⟩ := List.mem_map.1 hx
      rw [← e]; exact hl.2 _)
    rw [← ehS]
    refine ⟨h', e', ?_, ⟨⟨by have := fq.1.1; omega, by have := fq.1.2.1; omega, by have := fq.1.2.2; omega⟩, fun b hb => ?_, fun g b i hb hne => ?_, fun g b i hb => ?_⟩, st', hx'⟩
    · obtain ⟨⟨r1, r3, r5, r6⟩, r7, r8, r9, r10, r11, r12⟩ := r4
      have I : ∀ g i, zI h' g p i = zI h4 g p i := fun g i => ((fq.2.2 g p i (by omega) (by omega)).1).trans (oI _ _ _ (by omega)).1
      have R : ∀ g i, zR h' g p i = zR h4 g p i := fun g i => ((fq.2.2 g p i (by omega) (by omega)).2.1).trans (oI _ _ _ (by omega)).2.1
      exact ⟨⟨⟨r1.1, by have := fq.1.1; omega⟩, ((fq.2.1 p (by omega)).1).trans ((oT p (by omega)).1.trans r3), r5, r6⟩, (R _ _).trans r7, (R _ _).trans r8, (I _ _).trans r9, (I _ _).trans r10, (I _ _).trans r11, (I _ _).trans r12⟩
    · rw [(fq.2.1 b (by omega)).1, (fq.2.1 b (by omega)).2, (oT b (by omega)).1, (oT b (by omega)).2]
      exact f04.2.1 b hb
    · rw [(fq.2.2 g b i (by omega) (by omega)).1, (oI _ _ _ (by omega)).1]
      exact f04.2.2.1 g b i hb hne
    · rw [(fq.2.2 g b i (by omega) (by omega)).2.1, (fq.2.2 g b i (by omega) (by omega)).2.2, (oI _ _ _ (by omega)).2.1, (oI _ _ _ (by omega)).2.2]
      exact f04.2.2.2 g b i hb
  have pre := (p33_0_1 (L := L) (xs := xs) (m := m) (p := p) (q := q) (t := t) hx hs).trans (c0.trans (st1.trans e2))
  have a2 : zI h2 253 p 0 = nI a := r2.2.2.2.2.1
  have t2 : zT h2 p = 5 := r2.1.2.1
  have b2 : zI h3 254 p 0 = nI bd.toNat := r3.2.2.2.2.2.1
  have bl := Bool.toNat_le bd
  by_cases n0 : n = 0
  · rw [decide_eq_true n0, Bool.or_true]
    obtain ⟨h', e', r', f', s', hx'⟩ := fin true (by
      have := zRr_bd r3
      exact this)
    have o1 : bd.toNat ||| 1 = true.toNat := by cases bd <;> rfl
    have st := p33_59_1 (L := L) (xs := xs) (m := m) (s := s) (p := p) (w1 := .val (.int (nI q))) (w2 := .val (.int (nI t.toNat))) (x3 := n) (x4 := zN h) (w5 := .val (.int (nI n))) (x1 := a) (x2 := bd.toNat) (m1 := m) (h1 := h') hx2 hs t2 a2 t2 (by rw [← eh3]; exact b2) n0 (by rw [← eh3, o1]; exact e') hx' (by omega) (by rw [o1]; decide)
    rw [← eh3, o1] at st
    exact ⟨h', _, pre.trans st, r', f', s'⟩
  · rw [decide_eq_false n0, Bool.or_false]
    obtain ⟨h', e', r', f', s', hx'⟩ := fin bd (by
      obtain ⟨q1, q2, q3, q4, q5, q6, q7⟩ := r3
      exact ⟨q1, q2, q3, (zsI_g (by decide)).trans q4, (zsI_g (by decide)).trans q5, zsI_e, (zsI_g (by decide)).trans q7⟩)
    have o1 : bd.toNat ||| 0 = bd.toNat := Nat.or_zero _
    have st := p33_59_2 (L := L) (xs := xs) (m := m) (s := s) (p := p) (w1 := .val (.int (nI q))) (w2 := .val (.int (nI t.toNat))) (x3 := n) (x4 := zN h) (w5 := .val (.int (nI n))) (x1 := a) (x2 := bd.toNat) (m1 := m) (h1 := h') hx2 hs t2 a2 t2 (by rw [← eh3]; exact b2) n0 (by rw [← eh3, o1]; exact e') hx' (by omega) (by omega) (by rw [o1]; omega)
    rw [← eh3, o1] at st
    exact ⟨h', _, pre.trans st, r', f', s'⟩
end
