/-! ===== the class's replies ===== -/
def zfo (P : Nat → Prop) (m m' : zMm) : Prop := ∀ g a i, ¬ P a → m' g a i = m g a i
theorem zfo_rf (P : Nat → Prop) (m : zMm) : zfo P m m := fun _ _ _ _ => rfl
theorem zfo_tr {P : Nat → Prop} {m m1 m2 : zMm} (h1 : zfo P m m1) (h2 : zfo P m1 m2) : zfo P m m2 := fun g a i hn => (h2 g a i hn).trans (h1 g a i hn)
theorem zfo_w {P Q : Nat → Prop} {m m1 : zMm} (h : zfo P m m1) (hs : ∀ a, P a → Q a) : zfo Q m m1 := fun g a i hn => h g a i fun q => hn (hs a q)
theorem zfo_u {P : Nat → Prop} {m m1 : zMm} (h : zfo P m m1) {g a i x : Nat} (ha : P a) : zfo P m (u3 m1 g a i x) := fun g' a' i' hn => by
  rw [← h g' a' i' hn]
  exact u3_a fun q => hn (by rw [q]; exact ha)
def zRq (s a : Nat) : Prop := a = 113 + 7 * s ∨ a = 114 + 7 * s
def zcL (m : zMm) (s : Nat) : Nat := m 301 (113 + 7 * s) 0
def zcp (m : zMm) (s : Nat) : List Nat := (List.range (zcL m s)).map fun i => m 0 (114 + 7 * s) i
/-- the text t is written besides, as far as there is room -/
def zSy (s : Nat) (m m' : zMm) (t : List Nat) : Prop := zfo (zRq s) m m' ∧ zcL m' s ≤ 1024 ∧ zcp m' s = (zcp m s ++ t).take 1024
theorem zcp_len {m : zMm} {s : Nat} : (zcp m s).length = zcL m s := by unfold zcp; rw [List.length_map, List.length_range]
theorem zSy_rf {m : zMm} {s : Nat} (h : zcL m s ≤ 1024) : zSy s m m [] := ⟨zfo_rf _ _, h, by rw [List.append_nil, List.take_of_length_le (by rw [zcp_len]; exact h)]⟩
theorem ztake_ap (T t u : List Nat) (n : Nat) : ((T ++ t).take n ++ u).take n = (T ++ t ++ u).take n := by
  rw [List.take_append, List.take_append (l₁ := T ++ t), List.take_take, Nat.min_self]
  by_cases q : (T ++ t).length ≤ n
  · rw [List.take_of_length_le q]
  · rw [List.length_take, Nat.min_eq_left (by omega), Nat.sub_self, show n - (T ++ t).length = 0 by omega]
theorem zSy_tr {m m1 m2 : zMm} {s : Nat} {t u : List Nat} (a : zSy s m m1 t) (b : zSy s m1 m2 u) : zSy s m m2 (t ++ u) := ⟨zfo_tr a.1 b.1, b.2.1, by rw [b.2.2, a.2.2, ztake_ap, List.append_assoc]⟩
section
variable {L : Nat} {xs : Nat → Int32} {h : zH} {m : zMm}
theorem s44 (hx : zFx h) {s p : Nat} (hs : s < 3) (hr : zcL m s ≤ 1024) (hp : p < 127) : ∃ m', zCl (zPr L xs) 44 [.ref (113 + 7 * s), .int (nI p)] (zMH h m) = some (.inl none, zMH h m') ∧ zSy s m m' [p] := by
  rw [en_44]
  have hr' : m 301 (113 + 7 * s) 0 ≤ 1024 := hr
  by_cases q : m 301 (113 + 7 * s) 0 < 1024
  · refine ⟨_, p44_0_1 hx hs q (by omega) q (by omega), zfo_u (zfo_u (zfo_rf _ _) (Or.inr rfl)) (Or.inl rfl), ?_, ?_⟩
    · unfold zcL
      rw [u3_eq]; omega
    · obtain ⟨m', hm⟩ : ∃ m', m' = u3 (u3 m 0 (114 + 7 * s) (m 301 (113 + 7 * s) 0) p) 301 (113 + 7 * s) 0 (m 301 (113 + 7 * s) 0 + 1) := ⟨_, rfl⟩
      rw [← hm]
      have l1 : zcL m' s = zcL m s + 1 := by unfold zcL; rw [hm]; exact u3_eq _ _ _ _ _
      have c1 : ∀ i, m' 0 (114 + 7 * s) i = if i = zcL m s then p else m 0 (114 + 7 * s) i := fun i => by rw [hm, u3_g (by decide), u3_at]; rfl
      have e : zcp m' s = zcp m s ++ [p] := by
        unfold zcp
        rw [l1, List.range_succ, List.map_append]
        congr 1
        · refine List.map_congr_left fun i hi => ?_
          have := List.mem_range.1 hi
          show m' 0 (114 + 7 * s) i = _
          rw [c1, if_neg (by omega)]
        · show [m' 0 (114 + 7 * s) (zcL m s)] = _
          rw [c1, if_pos rfl]
      rw [e, List.take_of_length_le (by rw [List.length_append, zcp_len, List.length_singleton]; unfold zcL; omega)]
  · refine ⟨m, p44_0_2 hx hs (by omega) (by omega), zfo_rf _ _, hr, ?_⟩
    have : (zcp m s).length = 1024 := by rw [zcp_len]; unfold zcL; omega
    rw [List.take_append, List.take_of_length_le (by omega), this, Nat.sub_self]
    exact (List.append_nil _).symm
theorem zdrop_cons {T : List Nat} {i : Nat} (hi : i < T.length) : T.drop i = T.getD i 0 :: T.drop (i + 1) := by
  rw [List.drop_eq_getElem_cons hi, List.getD_eq_getElem?_getD, List.getElem?_eq_getElem hi]
  rfl
theorem s45 (hx : zFx h) {s p : Nat} {T : List Nat} (hs : s < 3) (hr : zcL m s ≤ 1024) (hT : zSt h p T) : ∃ m', zCl (zPr L xs) 45 [.ref (113 + 7 * s), .ref p] (zMH h m) = some (.inl none, zMH h m') ∧ zSy s m m' T := by
  rw [en_45]
  have ht := zSt_t (m := m) hT
  have l64 := hT.1.2
  have lp : ∀ f i (m : zMm), zcL m s ≤ 1024 → f + i = T.length → ∃ m', zEv (zPr L xs) 4 45 2 [.val (.ref (113 + 7 * s)), .val (.ref p), .val (.int (nI i))] [] (zMH h m) = some (.inl none, zMH h m') ∧ zSy s m m' (T.drop i) := by
    intro f
    induction f with
    | zero =>
      intro i m hr hf
      rw [List.drop_of_length_le (by omega)]
      exact ⟨m, p45_2_2 hx hs ht (s3 hT) (by omega) (by omega) (by omega), zSy_rf hr⟩
    | succ f ih =>
      intro i m hr hf
      have lt : T.getD i 0 < 127 := by
        rw [List.getD_eq_getElem?_getD, List.getElem?_eq_getElem (by omega)]
        exact hT.1.1 _ (List.getElem_mem _)
      obtain ⟨m1, e1, y1⟩ := s44 (L := L) (xs := xs) hx hs hr lt
      obtain ⟨m2, e2, y2⟩ := ih (i + 1) m1 y1.2.1 (by omega)
      refine ⟨m2, (p45_2_1 hx hs ht (s3 hT) (by omega) (s4 hT (by omega)) e1 (by omega) (by omega)).trans e2, ?_⟩
      rw [zdrop_cons (by omega)]
      exact zSy_tr y1 y2
  obtain ⟨m', e, y⟩ := lp T.length 0 m hr rfl
  exact ⟨m', (p45_0_1 hx hs).trans e, y⟩
theorem s46 (hx : zFx h) {s p : Nat} (hs : s < 3) (hr : zcL m s ≤ 1024) (hp : p < 10000) : ∃ m', zCl (zPr L xs) 46 [.ref (113 + 7 * s), .int (nI p)] (zMH h m) = some (.inl none, zMH h m') ∧ zSy s m m' (zds p) := by
  rw [en_46]
  have e2 : ∀ v, v < 127 → ((nI v).toUInt32 % 65536).toInt32 = nI v := by decide
  -- one unit
  have dg : ∀ (u : Nat) (m : zMm), zcL m s ≤ 1024 → u < 2147483648 → 1 < u → ∃ m1, zEv (zPr L xs) 1 46 3 [.val (.ref (113 + 7 * s)), .val (.int (nI p)), .val (.int (nI u))] [] (zMH h m) = zEv (zPr L xs) 1 46 3 [.val (.ref (113 + 7 * s)), .val (.int (nI p)), .val (.int (nI (u / 10)))] [] (zMH h m1) ∧ zSy s m m1 (if u ≤ p then [48 + p / u % 10] else []) := by
    intro u m hr hu h1
    by_cases q : u ≤ p
    · rw [if_pos q]
      have lt : 48 + p / u % 10 < 127 := by have := Nat.mod_lt (p / u) (show 0 < 10 by decide); omega
      obtain ⟨m1, e1, y1⟩ := s44 (L := L) (xs := xs) hx hs hr lt
      have dl : p / u ≤ p := Nat.div_le_self _ _
      exact ⟨m1, p46_3_3 hx hs (by omega) q (by rw [e2 _ lt]; exact e1) hu (by omega) (by omega) (by omega), y1⟩
    · rw [if_neg q]
      exact ⟨m, p46_3_2 hx hs (by omega) (by omega) (by omega) hu (by omega), zSy_rf hr⟩
  obtain ⟨a1, f1, y1⟩ := dg 1000000000 m hr (by decide) (by decide)
  obtain ⟨a2, f2, y2⟩ := dg 100000000 a1 y1.2.1 (by decide) (by decide)
  obtain ⟨a3, f3, y3⟩ := dg 10000000 a2 y2.2.1 (by decide) (by decide)
  obtain ⟨a4, f4, y4⟩ := dg 1000000 a3 y3.2.1 (by decide) (by decide)
  obtain ⟨a5, f5, y5⟩ := dg 100000 a4 y4.2.1 (by decide) (by decide)
  obtain ⟨a6, f6, y6⟩ := dg 10000 a5 y5.2.1 (by decide) (by decide)
  obtain ⟨a7, f7, y7⟩ := dg 1000 a6 y6.2.1 (by decide) (by decide)
  obtain ⟨a8, f8, y8⟩ := dg 100 a7 y7.2.1 (by decide) (by decide)
  obtain ⟨a9, f9, y9⟩ := dg 10 a8 y8.2.1 (by decide) (by decide)
  have lt : 48 + p / 1 % 10 < 127 := by have := Nat.mod_lt (p / 1) (show 0 < 10 by decide); omega
  obtain ⟨b1, g1, z1⟩ := s44 (L := L) (xs := xs) hx hs y9.2.1 lt
  have dl : p / 1 ≤ p := Nat.div_le_self _ _
  have fin : zEv (zPr L xs) 1 46 3 [.val (.ref (113 + 7 * s)), .val (.int (nI p)), .val (.int (nI 1))] [] (zMH h a9) = some (.inl none, zMH h b1) := by
    have e4 := p46_3_4 (L := L) (xs := xs) (m := b1) (x1 := p) (x2 := 1 / 10) hx hs (by decide)
    by_cases q : 1 ≤ p
    · exact (p46_3_3 hx hs (by decide) q (by rw [e2 _ lt]; exact g1) (by decide) (by omega) (by decide) (by omega)).trans e4
    · exact (p46_3_1 hx hs (by decide) (by omega) rfl (by rw [e2 _ lt]; exact g1) (by decide) (by omega) (by decide) (by omega)).trans e4
  refine ⟨b1, (p46_0_1 hx hs).trans (f1.trans (f2.trans (f3.trans (f4.trans (f5.trans (f6.trans (f7.trans (f8.trans (f9.trans fin))))))))), ?_⟩
  have Y := zSy_tr (zSy_tr (zSy_tr (zSy_tr (zSy_tr (zSy_tr (zSy_tr (zSy_tr (zSy_tr y1 y2) y3) y4) y5) y6) y7) y8) y9) z1
  rw [if_neg (by omega), if_neg (by omega), if_neg (by omega), if_neg (by omega), if_neg (by omega), if_neg (by omega)] at Y
  have d1 : p / 1000 % 10 = p / 1000 := Nat.mod_eq_of_lt (by omega)
  rw [d1, Nat.div_one] at Y
  have z : zds p = ([] ++ [] ++ [] ++ [] ++ [] ++ [] ++ (if 1000 ≤ p then [48 + p / 1000] else []) ++ (if 100 ≤ p then [48 + p / 100 % 10] else []) ++ (if 10 ≤ p then [48 + p / 10 % 10] else []) ++ [48 + p % 10]) := rfl
  rw [z]
  exact Y
theorem s47 (hx : zFx h) {s p q : Nat} {T : List Nat} (hs : s < 3) (hr : zcL m s ≤ 1024) (hp : p < 10000) (hT : zSt h q T) : ∃ m', zCl (zPr L xs) 47 [.ref (113 + 7 * s), .int (nI p), .ref q] (zMH h m) = some (.inl none, zMH h m') ∧ zSy s m m' ([42, 32] ++ zds p ++ T) := by
  rw [en_47]
  obtain ⟨m1, e1, y1⟩ := s45 (L := L) (xs := xs) (p := 31) hx hs hr (zSt_k hx (by decide))
  obtain ⟨m2, e2, y2⟩ := s46 (L := L) (xs := xs) hx hs y1.2.1 hp
  obtain ⟨m3, e3, y3⟩ := s45 (L := L) (xs := xs) hx hs y2.2.1 hT
  exact ⟨m3, p47_0_1 hx hs e1 e2 e3, zSy_tr (zSy_tr y1 y2) y3⟩
theorem s48 (hx : zFx h) {s p q : Nat} {T : List Nat} (hs : s < 3) (hr : zcL m s ≤ 1024) (hp : p < 10000) (hT : zSt h q T) : ∃ m', zCl (zPr L xs) 48 [.ref (113 + 7 * s), .int (nI p), .ref q] (zMH h m) = some (.inl none, zMH h m') ∧ zSy s m m' ([42, 32] ++ zds p ++ T ++ [10]) := by
  rw [en_48]
  obtain ⟨m1, e1, y1⟩ := s47 (L := L) (xs := xs) hx hs hr hp hT
  obtain ⟨m2, e2, y2⟩ := s44 (L := L) (xs := xs) (p := 10) hx hs y1.2.1 (by decide)
  exact ⟨m2, p48_0_1 hx hs e1 e2, zSy_tr y1 y2⟩
theorem s49 (hx : zFx h) {s p : Nat} (hs : s < 3) (hr : zcL m s ≤ 1024) (hp : p < 16) : ∃ m', zCl (zPr L xs) 49 [.ref (113 + 7 * s), .int (nI p)] (zMH h m) = some (.inl none, zMH h m') ∧ zSy s m m' (zfl p) := by
  rw [en_49]
  have hS := zSt_k hx (p := 35) (by decide)
  have bt : ∀ p, p < 16 → ∀ i, i < 4 → (((nI p >>> (nI i &&& 31)) &&& nI 1 = 0) ↔ p &&& 2 ^ i = 0) := by decide
  obtain ⟨m1, e1, y1⟩ := s44 (L := L) (xs := xs) (p := 40) hx hs hr (by decide)
  have one : ∀ (i : Nat) (m : zMm), zcL m s ≤ 1024 → i < 4 → ∃ m1, zEv (zPr L xs) 4 49 8 [.val (.ref (113 + 7 * s)), .val (.int (nI p)), .val (.int (nI i))] [] (zMH h m) = zEv (zPr L xs) 4 49 8 [.val (.ref (113 + 7 * s)), .val (.int (nI p)), .val (.int (nI (i + 1)))] [] (zMH h m1) ∧ zSy s m m1 (if p &&& 2 ^ i ≠ 0 then [(zByt.getD 15 []).getD i 0] else []) := by
    intro i m hr hi
    have b := bt p hp i hi
    have lt : (zByt.getD 15 []).getD i 0 < 127 := by
      have : ∀ i, i < 4 → (zByt.getD 15 []).getD i 0 < 127 := by decide
      exact this i hi
    by_cases q : p &&& 2 ^ i = 0
    · rw [if_neg (fun z => z q)]
      exact ⟨m, p49_8_2 hx hs (s3 hS) hi (b.2 q) (by omega) (by decide), zSy_rf hr⟩
    · rw [if_pos q]
      obtain ⟨m1, e1, y1⟩ := s44 (L := L) (xs := xs) hx hs hr lt
      exact ⟨m1, p49_8_1 hx hs (s3 hS) hi (fun z => q (b.1 z)) (s4 hS hi) e1 (by omega) (by decide), y1⟩
  obtain ⟨a0, f0, y2⟩ := one 0 m1 y1.2.1 (by decide)
  obtain ⟨a1, f1, y3⟩ := one 1 a0 y2.2.1 (by decide)
  obtain ⟨a2, f2, y4⟩ := one 2 a1 y3.2.1 (by decide)
  obtain ⟨a3, f3, y5⟩ := one 3 a2 y4.2.1 (by decide)
  obtain ⟨b1, g1, y6⟩ := s44 (L := L) (xs := xs) (p := 41) hx hs y5.2.1 (by decide)
  exact ⟨b1, (p49_0_1 hx hs e1).trans (f0.trans (f1.trans (f2.trans (f3.trans (p49_8_3 hx hs (s3 hS) (by decide) g1 (by decide) (by decide)))))), zSy_tr (zSy_tr (zSy_tr (zSy_tr (zSy_tr y1 y2) y3) y4) y5) y6⟩
end
