/-! ===== steps of the class's heap ===== -/
theorem zrow_t {h : zH} (hx : zFx h) : (∀ b, b < 4 → zT h (103 + 2 * b) = 31) ∧ ∀ s, s < 3 → zT h (116 + 7 * s) = 31 := by
  constructor
  · intro b hb
    have : ∀ b, b < 4 → zfT (103 + 2 * b) = 31 := by decide
    exact (hx.2.1 _ (by omega) (by omega)).1.trans (this b hb)
  · intro s hs
    have : ∀ s, s < 3 → zfT (116 + 7 * s) = 31 := by decide
    exact (hx.2.1 _ (by omega) (by omega)).1.trans (this s hs)
section
variable {h : zH} {m : zMm} {O : zOt} {R : Nat → List Nat} {W : Nat → List (Nat × Nat)}
theorem zGl_fl (z : zGl h m O R W) {o f : Nat} (ho : zOb h O o) (hf : f < 16) : zGl (zsI h 202 o 0 (nI f)) m (zup O o ((O o).1, f, (O o).2.2)) R W := by
  refine zGl_h z z.1 (fun _ _ _ => rfl) (fun _ _ _ => rfl) fun p hp => ?_
  exact zOb_I z.1 (Or.inl rfl) ho ⟨rfl, rfl, hf⟩ zsI_e ((zsI_g (by decide)).trans ho.2.2.2.1) hp
theorem zGl_go (z : zGl h m O R W) {o : Nat} (ho : zOb h O o) : zGl (zsI h 203 o 0 (nI 1)) m (zup O o ((O o).1, (O o).2.1, true, (O o).2.2.2)) R W := by
  refine zGl_h z z.1 (fun _ _ _ => rfl) (fun _ _ _ => rfl) fun p hp => ?_
  exact zOb_I z.1 (Or.inr rfl) ho ⟨rfl, rfl, ho.2.2.2.2.1.2⟩ ((zsI_g (by decide)).trans ho.2.2.1) zsI_e hp
/-- a row's cell is written over -/
theorem zGl_sB (z : zGl h m O R W) {b i o : Nat} (hb : b < 4) (hi : i < (R b).length) (ho : zOb h O o) : zGl (zsR h 0 (103 + 2 * b) i (some o)) m O (zup R b ((R b).set i o)) W := by
  obtain ⟨hx, zb, zw⟩ := z
  have t := (zrow_t hx).1 b hb
  have f : zMf h (zsR h 0 (103 + 2 * b) i (some o)) := zMf_R (by rw [t]; decide)
  have ob := fun {p} (hp : zOb h O p) => zMf_ob hx f hp
  refine ⟨zFx_sR0 hx (by omega), fun b' hb' => ?_, fun s hs => ?_⟩
  · obtain ⟨a1, a2, a3⟩ := zb b' hb'
    by_cases e : b' = b
    · subst e
      rw [zup_eq]
      refine ⟨by rw [List.length_set]; exact a1, by rw [List.length_set]; exact a2, fun j hj => ?_⟩
      rw [List.length_set] at hj
      rw [List.getD_eq_getElem?_getD, List.getElem?_set]
      by_cases e : i = j
      · subst e
        rw [if_pos rfl, if_pos hi]
        exact ⟨if_pos ⟨rfl, rfl, rfl⟩, ob ho⟩
      · rw [if_neg e, ← List.getD_eq_getElem?_getD]
        exact ⟨(if_neg fun q => e q.2.2.symm).trans (a3 j hj).1, ob (a3 j hj).2⟩
    · rw [zup_ne e]
      exact ⟨a1, a2, fun j hj => ⟨(if_neg fun q => e (by have := q.2.1; omega)).trans (a3 j hj).1, ob (a3 j hj).2⟩⟩
  · obtain ⟨a1, a2, a3⟩ := zw s hs
    exact ⟨a1, a2, fun j hj => ⟨(if_neg fun q => by have := q.2.1; omega).trans (a3 j hj).1, (a3 j hj).2.1, (a3 j hj).2.2.1, ob (a3 j hj).2.2.2⟩⟩
/-- a row is cut -/
theorem zGl_cB (z : zGl h m O R W) {b n : Nat} (hb : b < 4) (hn : n ≤ (R b).length) : zGl h (u3 m 154 (102 + 2 * b) 0 n) O (zup R b ((R b).take n)) W := by
  obtain ⟨hx, zb, zw⟩ := z
  refine ⟨hx, fun b' hb' => ?_, fun s hs => ?_⟩
  · obtain ⟨a1, a2, a3⟩ := zb b' hb'
    by_cases e : b' = b
    · subst e
      rw [zup_eq]
      have ln : ((R b').take n).length = n := by rw [List.length_take]; omega
      refine ⟨by rw [u3_eq, ln], by rw [ln]; omega, fun j hj => ?_⟩
      rw [ln] at hj
      rw [List.getD_eq_getElem?_getD, List.getElem?_take, if_pos hj, ← List.getD_eq_getElem?_getD]
      exact a3 j (by omega)
    · rw [zup_ne e]
      exact ⟨(u3_a (by omega)).trans a1, a2, a3⟩
  · obtain ⟨a1, a2, a3⟩ := zw s hs
    exact ⟨(u3_g (by decide)).trans a1, a2, fun j hj => ⟨(a3 j hj).1, (u3_g (by decide)).trans (a3 j hj).2.1, (a3 j hj).2.2⟩⟩
/-- a row grows -/
theorem zGl_aB (z : zGl h m O R W) {b o : Nat} (hb : b < 4) (hn : (R b).length < 10) (ho : zOb h O o) : zGl (zsR h 0 (103 + 2 * b) (R b).length (some o)) (u3 m 154 (102 + 2 * b) 0 ((R b).length + 1)) O (zup R b (R b ++ [o])) W := by
  obtain ⟨hx, zb, zw⟩ := z
  have t := (zrow_t hx).1 b hb
  have f : zMf h (zsR h 0 (103 + 2 * b) (R b).length (some o)) := zMf_R (by rw [t]; decide)
  have ob := fun {p} (hp : zOb h O p) => zMf_ob hx f hp
  refine ⟨zFx_sR0 hx (by omega), fun b' hb' => ?_, fun s hs => ?_⟩
  · obtain ⟨a1, a2, a3⟩ := zb b' hb'
    by_cases e : b' = b
    · subst e
      rw [zup_eq]
      have ln : (R b' ++ [o]).length = (R b').length + 1 := by rw [List.length_append]; rfl
      refine ⟨by rw [u3_eq, ln], by rw [ln]; omega, fun j hj => ?_⟩
      rw [ln] at hj
      rw [List.getD_eq_getElem?_getD, List.getElem?_append]
      by_cases e : j < (R b').length
      · rw [if_pos e, ← List.getD_eq_getElem?_getD]
        exact ⟨(if_neg fun q => by have := q.2.2; omega).trans (a3 j e).1, ob (a3 j e).2⟩
      · have : j = (R b').length := by omega
        subst this
        rw [if_neg e, Nat.sub_self]
        exact ⟨if_pos ⟨rfl, rfl, rfl⟩, ob ho⟩
    · rw [zup_ne e]
      exact ⟨(u3_a (by omega)).trans a1, a2, fun j hj => ⟨(if_neg fun q => e (by have := q.2.1; omega)).trans (a3 j hj).1, ob (a3 j hj).2⟩⟩
  · obtain ⟨a1, a2, a3⟩ := zw s hs
    exact ⟨(u3_g (by decide)).trans a1, a2, fun j hj => ⟨(if_neg fun q => by have := q.2.1; omega).trans (a3 j hj).1, (u3_g (by decide)).trans (a3 j hj).2.1, (a3 j hj).2.2.1, ob (a3 j hj).2.2.2⟩⟩
/-- a view's cell is written over -/
theorem zGl_sV (z : zGl h m O R W) {s i o t : Nat} (hs : s < 3) (hi : i < (W s).length) (ho : zOb h O o) (ht : t < 16) : zGl (zsR h 0 (116 + 7 * s) i (some o)) (u3 m 0 (117 + 7 * s) i t) O R (zup W s ((W s).set i (o, t))) := by
  obtain ⟨hx, zb, zw⟩ := z
  have ty := (zrow_t hx).2 s hs
  have f : zMf h (zsR h 0 (116 + 7 * s) i (some o)) := zMf_R (by rw [ty]; decide)
  have ob := fun {p} (hp : zOb h O p) => zMf_ob hx f hp
  refine ⟨zFx_sR0 hx (by omega), fun b hb => ?_, fun s' hs' => ?_⟩
  · obtain ⟨a1, a2, a3⟩ := zb b hb
    exact ⟨(u3_g (by decide)).trans a1, a2, fun j hj => ⟨(if_neg fun q => by have := q.2.1; omega).trans (a3 j hj).1, ob (a3 j hj).2⟩⟩
  · obtain ⟨a1, a2, a3⟩ := zw s' hs'
    by_cases e : s' = s
    · subst e
      rw [zup_eq]
      refine ⟨by rw [List.length_set]; exact (u3_g (by decide)).trans a1, by rw [List.length_set]; exact a2, fun j hj => ?_⟩
      rw [List.length_set] at hj
      obtain ⟨c1, c2, c3, c4⟩ := a3 j hj
      unfold zWo zWt
      rw [List.getD_eq_getElem?_getD, List.getElem?_set]
      by_cases e : i = j
      · subst e
        rw [if_pos rfl, if_pos hi]
        exact ⟨if_pos ⟨rfl, rfl, rfl⟩, u3_eq _ _ _ _ _, ht, ob ho⟩
      · rw [if_neg e, ← List.getD_eq_getElem?_getD]
        exact ⟨(if_neg fun q => e q.2.2.symm).trans c1, (u3_i (Ne.symm e)).trans c2, c3, ob c4⟩
    · rw [zup_ne e]
      refine ⟨(u3_g (by decide)).trans a1, a2, fun j hj => ?_⟩
      obtain ⟨c1, c2, c3, c4⟩ := a3 j hj
      exact ⟨(if_neg fun q => e (by have := q.2.1; omega)).trans c1, (u3_a (by omega)).trans c2, c3, ob c4⟩
/-- what was told is written over -/
theorem zGl_tV (z : zGl h m O R W) {s i t : Nat} (hs : s < 3) (hi : i < (W s).length) (ht : t < 16) : zGl h (u3 m 0 (117 + 7 * s) i t) O R (zup W s ((W s).set i (zWo (W s) i, t))) := by
  obtain ⟨hx, zb, zw⟩ := z
  refine ⟨hx, fun b hb => ?_, fun s' hs' => ?_⟩
  · obtain ⟨a1, a2, a3⟩ := zb b hb
    exact ⟨(u3_g (by decide)).trans a1, a2, a3⟩
  · obtain ⟨a1, a2, a3⟩ := zw s' hs'
    by_cases e : s' = s
    · subst e
      rw [zup_eq]
      refine ⟨by rw [List.length_set]; exact (u3_g (by decide)).trans a1, by rw [List.length_set]; exact a2, fun j hj => ?_⟩
      rw [List.length_set] at hj
      obtain ⟨c1, c2, c3, c4⟩ := a3 j hj
      by_cases e : i = j
      · subst e
        have e1 : zWo ((W s').set i (zWo (W s') i, t)) i = zWo (W s') i := by
          unfold zWo
          rw [List.getD_eq_getElem?_getD, List.getElem?_set, if_pos rfl, if_pos hi]
          rfl
        have e2 : zWt ((W s').set i (zWo (W s') i, t)) i = t := by
          unfold zWt
          rw [List.getD_eq_getElem?_getD, List.getElem?_set, if_pos rfl, if_pos hi]
          rfl
        rw [e1, e2]
        exact ⟨c1, u3_eq _ _ _ _ _, ht, c4⟩
      · have e1 : ∀ x, ((W s').set i x).getD j (0, 0) = (W s').getD j (0, 0) := fun x => by
          rw [List.getD_eq_getElem?_getD, List.getElem?_set, if_neg e, ← List.getD_eq_getElem?_getD]
        unfold zWo at c1 c4 ⊢
        unfold zWt at c2 c3 ⊢
        rw [e1]
        exact ⟨c1, (u3_i (Ne.symm e)).trans c2, c3, c4⟩
    · rw [zup_ne e]
      refine ⟨(u3_g (by decide)).trans a1, a2, fun j hj => ?_⟩
      obtain ⟨c1, c2, c3, c4⟩ := a3 j hj
      exact ⟨c1, (u3_a (by omega)).trans c2, c3, c4⟩
/-- a view is cut -/
theorem zGl_cV (z : zGl h m O R W) {s n : Nat} (hs : s < 3) (hn : n ≤ (W s).length) : zGl h (u3 m 402 (115 + 7 * s) 0 n) O R (zup W s ((W s).take n)) := by
  obtain ⟨hx, zb, zw⟩ := z
  refine ⟨hx, fun b hb => ?_, fun s' hs' => ?_⟩
  · obtain ⟨a1, a2, a3⟩ := zb b hb
    exact ⟨(u3_g (by decide)).trans a1, a2, a3⟩
  · obtain ⟨a1, a2, a3⟩ := zw s' hs'
    by_cases e : s' = s
    · subst e
      rw [zup_eq]
      have ln : ((W s').take n).length = n := by rw [List.length_take]; omega
      refine ⟨by rw [u3_eq, ln], by rw [ln]; omega, fun j hj => ?_⟩
      rw [ln] at hj
      obtain ⟨c1, c2, c3, c4⟩ := a3 j (by omega)
      unfold zWo at c1 c4 ⊢
      unfold zWt at c2 c3 ⊢
      rw [show ((W s').take n).getD j (0, 0) = (W s').getD j (0, 0) by rw [List.getD_eq_getElem?_getD, List.getElem?_take, if_pos hj, ← List.getD_eq_getElem?_getD]]
      exact ⟨c1, (u3_g (by decide)).trans c2, c3, c4⟩
    · rw [zup_ne e]
      exact ⟨(u3_a (by omega)).trans a1, a2, fun j hj => ⟨(a3 j hj).1, (u3_g (by decide)).trans (a3 j hj).2.1, (a3 j hj).2.2⟩⟩
/-- a view grows -/
theorem zGl_aV (z : zGl h m O R W) {s o t : Nat} (hs : s < 3) (hn : (W s).length < 40) (ho : zOb h O o) (ht : t < 16) : zGl (zsR h 0 (116 + 7 * s) (W s).length (some o)) (u3 (u3 m 0 (117 + 7 * s) (W s).length t) 402 (115 + 7 * s) 0 ((W s).length + 1)) O R (zup W s (W s ++ [(o, t)])) := by
  obtain ⟨hx, zb, zw⟩ := z
  have ty := (zrow_t hx).2 s hs
  have f : zMf h (zsR h 0 (116 + 7 * s) (W s).length (some o)) := zMf_R (by rw [ty]; decide)
  have ob := fun {p} (hp : zOb h O p) => zMf_ob hx f hp
  refine ⟨zFx_sR0 hx (by omega), fun b hb => ?_, fun s' hs' => ?_⟩
  · obtain ⟨a1, a2, a3⟩ := zb b hb
    exact ⟨(u3_g (by decide)).trans ((u3_g (by decide)).trans a1), a2, fun j hj => ⟨(if_neg fun q => by have := q.2.1; omega).trans (a3 j hj).1, ob (a3 j hj).2⟩⟩
  · obtain ⟨a1, a2, a3⟩ := zw s' hs'
    by_cases e : s' = s
    · subst e
      rw [zup_eq]
      have ln : (W s' ++ [(o, t)]).length = (W s').length + 1 := by rw [List.length_append]; rfl
      refine ⟨by rw [u3_eq, ln], by rw [ln]; omega, fun j hj => ?_⟩
      rw [ln] at hj
      unfold zWo zWt
      rw [List.getD_eq_getElem?_getD, List.getElem?_append]
      by_cases e : j < (W s').length
      · obtain ⟨c1, c2, c3, c4⟩ := a3 j e
        rw [if_pos e, ← List.getD_eq_getElem?_getD]
        exact ⟨(if_neg fun q => by have := q.2.2; omega).trans c1, (u3_g (by decide)).trans ((u3_i (by omega)).trans c2), c3, ob c4⟩
      · have : j = (W s').length := by omega
        subst this
        rw [if_neg e, Nat.sub_self]
        exact ⟨if_pos ⟨rfl, rfl, rfl⟩, (u3_g (by decide)).trans (u3_eq _ _ _ _ _), ht, ob ho⟩
    · rw [zup_ne e]
      refine ⟨(u3_a (by omega)).trans ((u3_g (by decide)).trans a1), a2, fun j hj => ?_⟩
      obtain ⟨c1, c2, c3, c4⟩ := a3 j hj
      exact ⟨(if_neg fun q => e (by have := q.2.1; omega)).trans c1, (u3_g (by decide)).trans ((u3_a (by omega)).trans c2), c3, ob c4⟩
end
