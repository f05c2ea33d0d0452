/-- what COPY adds -/
def ztQ (O : zOt) (M : Nat) : Nat → Nat → List (Nat × Nat) → List (Nat × Nat × Bool × List Nat)
  | _, _, [] => []
  | n, i, v :: V => if M.testBit i = true then (n, (O v.1).2.1, false, (O v.1).2.2.2) :: ztQ O M (n + 1) (i + 1) V else ztQ O M n (i + 1) V
theorem ztQ_cg {O O' : zOt} {M : Nat} : ∀ (V : List (Nat × Nat)) (n i : Nat), (∀ v ∈ V, O' v.1 = O v.1) → ztQ O' M n i V = ztQ O M n i V
  | [], _, _, _ => rfl
  | v :: V, n, i, h => by
    unfold ztQ
    rw [h v (List.mem_cons_self ..), ztQ_cg V (n + 1) (i + 1) fun x hx => h x (List.mem_cons_of_mem _ hx), ztQ_cg V n (i + 1) fun x hx => h x (List.mem_cons_of_mem _ hx)]
section
variable {L : Nat} {xs : Nat → Int32} {R : Nat → List Nat} {W : Nat → List (Nat × Nat)}
theorem zWv_lt {h : zH} {m : zMm} {O : zOt} {s : Nat} {V : List (Nat × Nat)} (w : zWv h m O s V) : ∀ v ∈ V, v.1 < zN h := fun v hv => by
  obtain ⟨i, hi, e⟩ := List.mem_iff_getElem.mp hv
  have := (w.2.2 i hi).2.2.2.1.2.1
  unfold zWo at this
  rw [List.getD_eq_getElem?_getD, List.getElem?_eq_getElem hi, Option.getD_some, e] at this
  exact this
theorem s56 {h : zH} {m : zMm} {O : zOt} {s b M : Nat} (hs : s < 3) (hb : b < 4) (z : zGl h m O R W) (hc : (R b).length + (ztQ O M (m 153 (102 + 2 * b) 0) 0 (W s)).length ≤ 10) (hn : m 153 (102 + 2 * b) 0 + (ztQ O M (m 153 (102 + 2 * b) 0) 0 (W s)).length < 10000) : ∃ h' m' N O', zCl (zPr L xs) 56 [.ref (111 + 7 * s), .long (nL M), .ref (102 + 2 * b)] (zMH h m) = some (.inl none, zMH h' m') ∧ zHf N.length (4 * N.length) h h' ∧ zCf (fun g a => (g = 153 ∨ g = 154) ∧ a = 102 + 2 * b) m m' ∧ m' 153 (102 + 2 * b) 0 = m 153 (102 + 2 * b) 0 + N.length ∧ (∀ o, o < zN h → O' o = O o) ∧ N.map O' = ztQ O M (m 153 (102 + 2 * b) 0) 0 (W s) ∧ ((∀ o ∈ N, zN h ≤ o) ∧ N.Nodup) ∧ zGl h' m' O' (zup R b (R b ++ N)) W := by
  have key : ∀ (S K : List (Nat × Nat)) (h : zH) (m : zMm) (O : zOt) (R : Nat → List Nat), W s = K ++ S → zGl h m O R W → (R b).length + (ztQ O M (m 153 (102 + 2 * b) 0) K.length S).length ≤ 10 → m 153 (102 + 2 * b) 0 + (ztQ O M (m 153 (102 + 2 * b) 0) K.length S).length < 10000 → ∃ h' m' N O', zEv (zPr L xs) 2 56 3 [.val (.ref (111 + 7 * s)), .val (.long (nL M)), .second, .val (.ref (102 + 2 * b)), .val (.int (nI K.length))] [] (zMH h m) = some (.inl none, zMH h' m') ∧ zHf N.length (4 * N.length) h h' ∧ zCf (fun g a => (g = 153 ∨ g = 154) ∧ a = 102 + 2 * b) m m' ∧ m' 153 (102 + 2 * b) 0 = m 153 (102 + 2 * b) 0 + N.length ∧ (∀ o, o < zN h → O' o = O o) ∧ N.map O' = ztQ O M (m 153 (102 + 2 * b) 0) K.length S ∧ ((∀ o ∈ N, zN h ≤ o) ∧ N.Nodup) ∧ zGl h' m' O' (zup R b (R b ++ N)) W := by
    intro S
    induction S with
    | nil =>
      intro K h m O R hW z hc hn
      obtain ⟨w1, w2, w3⟩ := z.2.2 s hs
      rw [hW, List.append_nil] at w1 w2
      exact ⟨h, m, [], O, p56_3_3 z.1 hs hb (by omega) (by omega) (by omega), zHf_rf h, zCf_rf _ _, rfl, fun _ _ => rfl, rfl, ⟨fun o ho => (by cases ho), List.nodup_nil⟩, by rw [List.append_nil, zup_id]; exact z⟩
    | cons x S ih =>
      intro K h m O R hW z hc hn
      obtain ⟨w1, w2, w3⟩ := z.2.2 s hs
      have ln : (W s).length = K.length + 1 + S.length := by rw [hW]; simp only [List.length_append, List.length_cons]; omega
      have gi : (W s).getD K.length (0, 0) = x := by
        rw [hW, List.getD_eq_getElem?_getD, List.getElem?_append_right (Nat.le_refl _), Nat.sub_self]
        rfl
      obtain ⟨c1, c2, c3, ob⟩ := w3 K.length (by omega)
      unfold zWo at c1 ob
      rw [gi] at c1 ob
      have o4 := ob.1
      have of := ob.2.2.2.2.1
      have hW' : W s = (K ++ [x]) ++ S := by rw [hW, List.append_assoc]; rfl
      have l1 : (K ++ [x]).length = K.length + 1 := by rw [List.length_append]; rfl
      unfold ztQ at hc hn
      cases q : M.testBit K.length with
      | false =>
        rw [q, if_neg Bool.noConfusion] at hc hn
        obtain ⟨h', m', N, O', e, y⟩ := ih (K ++ [x]) h m O R hW' z (by rw [l1]; exact hc) (by rw [l1]; exact hn)
        rw [l1] at e y
        refine ⟨h', m', N, O', (p56_3_2 z.1 hs hb (by omega) ((zbt_m (by omega)).2 q) (by omega) (by omega)).trans e, ?_⟩
        unfold ztQ
        rw [q, if_neg Bool.noConfusion]
        exact y
      | true =>
        rw [q, if_pos rfl, List.length_cons] at hc hn
        have nq : lg_cmp (((nL M) >>> ((nI K.length).toInt64 &&& 63)) &&& nL 1) 0 ≠ 0 := fun e => by
          rw [(zbt_m (by omega)).1 e] at q
          cases q
        obtain ⟨tx, x6, x7⟩ := ob.2.2.2.2.2
        obtain ⟨h1, m1, e1, f1, f2, n1, ⟨a1, a2⟩, z1⟩ := s21 (L := L) (xs := xs) hb z (by omega) of.2 x7 (by omega)
        have cg : ztQ (zup O (zN h) (m 153 (102 + 2 * b) 0, (O x.1).2.1, false, (O x.1).2.2.2)) M (m 153 (102 + 2 * b) 0 + 1) (K.length + 1) S = ztQ O M (m 153 (102 + 2 * b) 0 + 1) (K.length + 1) S := ztQ_cg _ _ _ fun v hv => zup_ne (Nat.ne_of_lt (zWv_lt (z.2.2 s hs) v (by rw [hW]; exact List.mem_append_right _ (List.mem_cons_of_mem _ hv))))
        obtain ⟨h', m', N, O', e, k1, k2, k3, k4, k5, ⟨k6, k7⟩, k8⟩ := ih (K ++ [x]) h1 m1 _ _ hW' z1 (by rw [zup_eq, l1, n1, cg, List.length_append]; show (R b).length + 1 + _ ≤ 10; omega) (by rw [l1, n1, cg]; omega)
        rw [l1] at e k5
        rw [n1, cg] at k5
        rw [zup_eq, zup_up, List.append_assoc] at k8
        have st := p56_3_1 (L := L) (xs := xs) (m := m) (b := b) (s := s) (x1 := M) (x4 := K.length) z.1 hs hb (by omega) nq c1 o4.2.2 ob.2.2.1 c1 o4.2.2 x6 e1 z1.1 (by omega) (by omega) (by omega) (by omega)
        have nn : (zN h :: N).length = N.length + 1 := rfl
        refine ⟨h', m', zN h :: N, O', st.trans e, zHf_w (zHf_tr f1 k1) (by omega) (by omega), zCf_tr f2 k2, by rw [k3, n1, nn]; omega, fun o ho => (k4 o (by omega)).trans (zup_ne (Nat.ne_of_lt ho)), ?_, ⟨fun o ho => ?_, ?_⟩, k8⟩
        · unfold ztQ
          rw [q, if_pos rfl, List.map_cons, k5, k4 _ a2, zup_eq]
        · rcases List.mem_cons.mp ho with g | g
          · omega
          · have := k6 o g; omega
        · exact List.nodup_cons.mpr ⟨fun g => by have := k6 _ g; omega, k7⟩
  rw [en_56]
  obtain ⟨h', m', N, O', e, y⟩ := key (W s) [] h m O R rfl z hc hn
  exact ⟨h', m', N, O', (p56_0_1 z.1 hs hb).trans e, y⟩
theorem s24 {h : zH} {m : zMm} {p q s : Nat} (hx : zFx h) (hs : s < 3) (t1 : zT h p = 5) (hp : 154 ≤ p) : zCl (zPr L xs) 24 [.ref p, .ref (112 + 7 * s), .int (nI q), .ref (115 + 7 * s)] (zMH h m) = some (.inl none, zMH (zsR (zsI (zsR h 250 p 0 (some (112 + 7 * s))) 251 p 0 (nI q)) 252 p 0 (some (115 + 7 * s))) m) := by
  rw [en_24]
  exact p24_0_1 hx hs t1 t1 t1 hp
end
