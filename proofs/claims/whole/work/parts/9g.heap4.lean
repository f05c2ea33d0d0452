/-- a reply grows -/
def zRy (s : Nat) (m m' : zMm) (t : List Nat) : Prop := zcL m' s ≤ 1024 ∧ zcp m' s = (zcp m s ++ t).take 1024
theorem zRy_tr {m m1 m2 : zMm} {s : Nat} {t u : List Nat} (a : zRy s m m1 t) (b : zRy s m1 m2 u) : zRy s m m2 (t ++ u) := ⟨b.1, by rw [b.2, a.2, ztake_ap, List.append_assoc]⟩
theorem zRy_rf {m : zMm} {s : Nat} (h : zcL m s ≤ 1024) : zRy s m m [] := ⟨h, (zSy_rf h).2.2⟩
theorem zcp_cf {P : Nat → Nat → Prop} {m m' : zMm} {s : Nat} (f : zCf P m m') (h1 : ¬ P 301 (113 + 7 * s)) (h2 : ¬ P 0 (114 + 7 * s)) : zcL m' s = zcL m s ∧ zcp m' s = zcp m s := by
  have e : zcL m' s = zcL m s := f _ _ _ h1
  refine ⟨e, ?_⟩
  unfold zcp
  rw [e]
  exact List.map_congr_left fun i _ => f _ _ _ h2
theorem zRy_cf {P : Nat → Nat → Prop} {m m1 m' : zMm} {s : Nat} {t : List Nat} (f : zCf P m m1) (h1 : ¬ P 301 (113 + 7 * s)) (h2 : ¬ P 0 (114 + 7 * s)) (a : zRy s m1 m' t) : zRy s m m' t := ⟨a.1, by rw [a.2, (zcp_cf f h1 h2).2]⟩
theorem zGl_rp {h : zH} {m m' : zMm} {O : zOt} {R : Nat → List Nat} {W : Nat → List (Nat × Nat)} {s : Nat} (hs : s < 3) (f : zfo (zRq s) m m') (z : zGl h m O R W) : zGl h m' O R W := by
  refine zGl_m z (fun b hb => f _ _ _ ?_) fun s' hs' => ⟨f _ _ _ ?_, fun i => f _ _ _ ?_⟩ <;> · intro e; rcases e with e | e <;> omega
def zVq (s g a : Nat) : Prop := ((g = 402 ∨ g = 403) ∧ a = 115 + 7 * s) ∨ (g = 0 ∧ a = 117 + 7 * s) ∨ zRq s a
theorem zCf_fo {s : Nat} {m m' : zMm} (f : zfo (zRq s) m m') : zCf (zVq s) m m' := fun g a i n => f g a i fun q => n (Or.inr (Or.inr q))
/-- new messages come -/
def ztN (O : zOt) : List Nat → List (Nat × Nat) → Nat → List (Nat × Nat) × Nat
  | [], V, n => (V, n)
  | o :: S, V, n => if n < (O o).1 ∧ V.length < 40 then ztN O S (V ++ [(o, (O o).2.1)]) (O o).1 else ztN O S V n
theorem ztN_le {O : zOt} : ∀ (S : List Nat) (V : List (Nat × Nat)) (n : Nat), V.length ≤ (ztN O S V n).1.length
  | [], V, n => Nat.le_refl _
  | o :: S, V, n => by
    unfold ztN
    split
    · have := ztN_le (O := O) S (V ++ [(o, (O o).2.1)]) (O o).1
      rw [List.length_append] at this
      omega
    · exact ztN_le S V n
section
variable {L : Nat} {xs : Nat → Int32} {O : zOt} {R : Nat → List Nat} {W : Nat → List (Nat × Nat)}
theorem s20 {h : zH} {m : zMm} {b v : Nat} (hb : b < 4) (z : zGl h m O R W) : ∃ m', zCl (zPr L xs) 20 [.ref (102 + 2 * b), .int (nI v)] (zMH h m) = some (.inl none, zMH h m') ∧ (m' 151 (102 + 2 * b) 0 = 1 ∧ m' 152 (102 + 2 * b) 0 = v ∧ m' 153 (102 + 2 * b) 0 = 1) ∧ zCf (fun g a => (g = 151 ∨ g = 152 ∨ g = 153 ∨ g = 154) ∧ a = 102 + 2 * b) m m' ∧ zGl h m' O (zup R b []) W := by
  rw [en_20]
  have f : zCf (fun g a => (g = 151 ∨ g = 152 ∨ g = 153 ∨ g = 154) ∧ a = 102 + 2 * b) m (u3 (u3 (u3 m 151 (102 + 2 * b) 0 1) 152 (102 + 2 * b) 0 v) 153 (102 + 2 * b) 0 1) := zCf_u (zCf_u (zCf_u (zCf_rf _ _) ⟨by decide, rfl⟩) ⟨by decide, rfl⟩) ⟨by decide, rfl⟩
  refine ⟨_, p20_0_1 z.1 hb, ⟨?_, ?_, ?_⟩, zCf_u f ⟨by decide, rfl⟩, ?_⟩
  · rw [u3_g (by decide), u3_g (by decide), u3_g (by decide), u3_eq]
  · rw [u3_g (by decide), u3_g (by decide), u3_eq]
  · rw [u3_g (by decide), u3_eq]
  · have z1 : zGl h (u3 (u3 (u3 m 151 (102 + 2 * b) 0 1) 152 (102 + 2 * b) 0 v) 153 (102 + 2 * b) 0 1) O R W := zGl_m z (fun b' _ => by rw [u3_g (by decide), u3_g (by decide), u3_g (by decide)]) fun s _ => ⟨by rw [u3_g (by decide), u3_g (by decide), u3_g (by decide)], fun i => by rw [u3_g (by decide), u3_g (by decide), u3_g (by decide)]⟩
    have z2 := zGl_cB z1 hb (n := 0) (Nat.zero_le _)
    rw [List.take_zero] at z2
    exact z2
theorem s62 {h : zH} {m : zMm} {s : Nat} (hs : s < 3) (z : zGl h m O R W) : ∃ m', zCl (zPr L xs) 62 [.ref (115 + 7 * s)] (zMH h m) = some (.inl none, zMH h m') ∧ m' 403 (115 + 7 * s) 0 = 0 ∧ zCf (fun g a => (g = 402 ∨ g = 403) ∧ a = 115 + 7 * s) m m' ∧ zGl h m' O R (zup W s []) := by
  rw [en_62]
  refine ⟨_, p62_0_1 z.1 hs, u3_eq _ _ _ _ _, zCf_u (zCf_u (zCf_rf _ _) ⟨Or.inl rfl, rfl⟩) ⟨Or.inr rfl, rfl⟩, ?_⟩
  have z2 := zGl_cV z hs (n := 0) (Nat.zero_le _)
  rw [List.take_zero] at z2
  exact zGl_m z2 (fun b' _ => by rw [u3_g (by decide)]) fun s _ => ⟨by rw [u3_g (by decide)], fun i => by rw [u3_g (by decide)]⟩
theorem s60 {h : zH} {m : zMm} {s p : Nat} (hs : s < 3) (z : zGl h m O R W) (hp : p < (W s).length) (hr : zcL m s ≤ 1024) : ∃ m', zCl (zPr L xs) 60 [.ref (111 + 7 * s), .int (nI p)] (zMH h m) = some (.inl none, zMH h m') ∧ zCf (zVq s) m m' ∧ m' 402 (115 + 7 * s) 0 = m 402 (115 + 7 * s) 0 ∧ m' 403 (115 + 7 * s) 0 = m 403 (115 + 7 * s) 0 ∧ zRy s m m' (zft (p + 1) (O (zWo (W s) p)).2.1) ∧ zGl h m' O R (zup W s ((W s).set p (zWo (W s) p, (O (zWo (W s) p)).2.1))) := by
  obtain ⟨w1, w2, w3⟩ := z.2.2 s hs
  obtain ⟨c1, c2, c3, ob⟩ := w3 p hp
  have ob' := ob
  obtain ⟨⟨o1, o2, o3⟩, o4, o5, o6, ⟨o7, o8⟩, -⟩ := ob'
  generalize hf : (O (zWo (W s) p)).2.1 = f at o5 o8
  have z1 := zGl_tV z hs hp (t := f) o8
  have f1 : zCf (fun g a => g = 0 ∧ a = 117 + 7 * s) m (u3 m 0 (117 + 7 * s) p f) := zCf_u (zCf_rf _ _) ⟨rfl, rfl⟩
  have cp := zcp_cf (s := s) f1 (fun e => by cases e.1) (fun e => by have := e.2; omega)
  obtain ⟨m1, e1, y1⟩ := s47 (L := L) (xs := xs) (q := 34) (p := p + 1) z.1 hs (by rw [cp.1]; exact hr) (by omega) (zSt_k z.1 (by decide))
  have t1 : m1 0 (117 + 7 * s) p = f := (y1.1 _ _ _ (by intro e; rcases e with e | e <;> omega)).trans (u3_eq _ _ _ _ _)
  obtain ⟨m2, e2, y2⟩ := s49 (L := L) (xs := xs) (m := m1) (p := m1 0 (117 + 7 * s) p) z.1 hs y1.2.1 (by rw [t1]; exact o8)
  obtain ⟨m3, e3, y3⟩ := s44 (L := L) (xs := xs) (m := m2) (p := 10) z.1 hs y2.2.1 (by decide)
  have ya := zSy_tr (zSy_tr y1 y2) y3
  rw [t1] at ya
  have fa := zCf_tr (zCf_w f1 fun g a e => (Or.inr (Or.inl e) : zVq s g a)) (zCf_fo ya.1)
  rw [en_60]
  refine ⟨m3, p60_0_1 z.1 hs c1 o3 o5 e1 e2 e3 (by omega) (by omega), fa, (ya.1 _ _ _ (by intro e; rcases e with e | e <;> omega)).trans (u3_g (by decide)), (ya.1 _ _ _ (by intro e; rcases e with e | e <;> omega)).trans (u3_g (by decide)), ⟨ya.2.1, ?_⟩, zGl_rp hs ya.1 z1⟩
  rw [ya.2.2, cp.2]
  congr 2
  unfold zft
  simp only [List.append_assoc]
  rfl
theorem s63 {h : zH} {m : zMm} {s b : Nat} (hs : s < 3) (hb : b < 4) (z : zGl h m O R W) (hn : m 403 (115 + 7 * s) 0 < 10000) : ∃ h' m', zCl (zPr L xs) 63 [.ref (115 + 7 * s), .ref (102 + 2 * b)] (zMH h m) = some (.inl (some (.int (nI (decide ((W s).length < (ztN O (R b) (W s) (m 403 (115 + 7 * s) 0)).1.length)).toNat))), zMH h' m') ∧ zHf 0 0 h h' ∧ zCf (fun g a => ((g = 402 ∨ g = 403) ∧ a = 115 + 7 * s) ∨ (g = 0 ∧ a = 117 + 7 * s)) m m' ∧ m' 403 (115 + 7 * s) 0 = (ztN O (R b) (W s) (m 403 (115 + 7 * s) 0)).2 ∧ m' 403 (115 + 7 * s) 0 < 10000 ∧ zGl h' m' O R (zup W s (ztN O (R b) (W s) (m 403 (115 + 7 * s) 0)).1) := by
  have key : ∀ (S K : List Nat) (V : List (Nat × Nat)) (n : Nat) (h : zH) (m : zMm) (w : Slot), w ≠ .second → R b = K ++ S → m 403 (115 + 7 * s) 0 = n → n < 10000 → (W s).length ≤ V.length → zGl h m O R (zup W s V) → ∃ h' m', zEv (zPr L xs) 0 63 4 [.val (.ref (115 + 7 * s)), .val (.ref (102 + 2 * b)), .val (.int (nI (decide ((W s).length < V.length)).toNat)), .val (.int (nI K.length)), w] [] (zMH h m) = some (.inl (some (.int (nI (decide ((W s).length < (ztN O S V n).1.length)).toNat))), zMH h' m') ∧ zHf 0 0 h h' ∧ zCf (fun g a => ((g = 402 ∨ g = 403) ∧ a = 115 + 7 * s) ∨ (g = 0 ∧ a = 117 + 7 * s)) m m' ∧ m' 403 (115 + 7 * s) 0 = (ztN O S V n).2 ∧ m' 403 (115 + 7 * s) 0 < 10000 ∧ zGl h' m' O R (zup W s (ztN O S V n).1) := by
    intro S
    induction S with
    | nil =>
      intro K V n h m w hw hR h3 hn hV z
      obtain ⟨b1, b2, b3⟩ := z.2.1 b hb
      rw [hR, List.append_nil] at b1 b2
      exact ⟨h, m, p63_4_4 z.1 hs hb (by omega) (by omega) (by omega), zHf_rf h, zCf_rf _ _, h3, by omega, z⟩
    | cons o S ih =>
      intro K V n h m w hw hR h3 hn hV z
      obtain ⟨b1, b2, b3⟩ := z.2.1 b hb
      have w0 := z.2.2 s hs
      rw [zup_eq] at w0
      have ln : (R b).length = K.length + 1 + S.length := by rw [hR]; simp only [List.length_append, List.length_cons]; omega
      have gi : (R b).getD K.length 0 = o := by
        rw [hR, List.getD_eq_getElem?_getD, List.getElem?_append_right (Nat.le_refl _), Nat.sub_self]
        rfl
      obtain ⟨r, ob⟩ := b3 K.length (by omega)
      rw [gi] at r ob
      have o4 := ob.1
      have hR' : R b = (K ++ [o]) ++ S := by rw [hR, List.append_assoc]; rfl
      have l1 : (K ++ [o]).length = K.length + 1 := by rw [List.length_append]; rfl
      have on := ob.2.2.2.2.1
      have w1 := w0.1
      have w2 := w0.2.1
      by_cases c1 : n < (O o).1
      · by_cases c2 : V.length < 40
        · have z2 := zGl_aV z (s := s) (o := o) (t := (O o).2.1) hs (by rw [zup_eq]; exact c2) ob on.2
          rw [zup_eq, zup_up] at z2
          have z3 := zGl_m (m' := u3 (u3 (u3 m 0 (117 + 7 * s) V.length (O o).2.1) 402 (115 + 7 * s) 0 (V.length + 1)) 403 (115 + 7 * s) 0 (O o).1) z2 (fun b' _ => u3_g (by decide)) fun s' _ => ⟨u3_g (by decide), fun i => u3_g (by decide)⟩
          have lv : (V ++ [(o, (O o).2.1)]).length = V.length + 1 := by rw [List.length_append]; rfl
          obtain ⟨h', m', e, f, g, g3, g4, g5⟩ := ih (K ++ [o]) (V ++ [(o, (O o).2.1)]) (O o).1 _ _ (.val (.ref o)) (by intro e; cases e) hR' (u3_eq _ _ _ _ _) on.1 (by omega) z3
          rw [l1, lv, decide_eq_true (show (W s).length < V.length + 1 by omega)] at e
          have ne : o ≠ 116 + 7 * s := by omega
          have st := p63_4_1 (L := L) (xs := xs) (m := m) (b := b) (s := s) (w4 := w) (x2 := decide ((W s).length < V.length)) (x3 := K.length) z.1 hs hb (by omega) r o4.2.2 ob.2.1 (by omega) (by omega) o4.2.2 ob.2.2.1 ob.2.1 (by omega) (by omega) (by omega) (by omega) (by omega) (by omega) (by omega) (by omega)
          rw [w1] at st
          refine ⟨h', m', ?_, zHf_tr (zHf_R ((zrow_t z.1).2 s hs)) f, zCf_tr (zCf_u (zCf_u (zCf_u (zCf_rf _ _) (Or.inr ⟨rfl, rfl⟩)) (Or.inl ⟨Or.inl rfl, rfl⟩)) (Or.inl ⟨Or.inr rfl, rfl⟩)) g, ?_, g4, ?_⟩ <;> unfold ztN <;> rw [if_pos ⟨c1, c2⟩]
          · exact st.trans e
          · exact g3
          · exact g5
        · obtain ⟨h', m', e, f, g, g3, g4, g5⟩ := ih (K ++ [o]) V n h m (.val (.ref o)) (by intro e; cases e) hR' h3 hn hV z
          rw [l1] at e
          have st := p63_4_2 (L := L) (xs := xs) (m := m) (b := b) (s := s) (w4 := w) (x2 := decide ((W s).length < V.length)) (x3 := K.length) z.1 hs hb (by omega) r o4.2.2 ob.2.1 (by omega) (by omega) (by omega) (by omega) (by omega) (by omega) (by omega) (by omega) (by omega)
          refine ⟨h', m', ?_, f, g, ?_, g4, ?_⟩ <;> unfold ztN <;> rw [if_neg (fun e => c2 e.2)]
          · exact st.trans e
          · exact g3
          · exact g5
      · obtain ⟨h', m', e, f, g, g3, g4, g5⟩ := ih (K ++ [o]) V n h m (.val (.ref o)) (by intro e; cases e) hR' h3 hn hV z
        rw [l1] at e
        have st := p63_4_3 (L := L) (xs := xs) (m := m) (b := b) (s := s) (w4 := w) (x2 := decide ((W s).length < V.length)) (x3 := K.length) z.1 hs hb (by omega) r o4.2.2 ob.2.1 (by omega) (by omega) (by omega) (by omega) (by omega) (by omega) (by omega)
        refine ⟨h', m', ?_, f, g, ?_, g4, ?_⟩ <;> unfold ztN <;> rw [if_neg (fun e => c1 e.1)]
        · exact st.trans e
        · exact g3
        · exact g5
  rw [en_63]
  obtain ⟨h', m', e, x⟩ := key (R b) [] (W s) _ h m .unset (by intro e; cases e) rfl rfl hn (Nat.le_refl _) (by rw [zup_id]; exact z)
  rw [decide_eq_false (Nat.lt_irrefl _)] at e
  exact ⟨h', m', (p63_0_1 z.1 hs hb).trans e, x⟩
end
