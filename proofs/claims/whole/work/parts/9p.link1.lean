/-! ===== the class's objects and the lists ===== -/
def zmA (O : zOt) (o : Nat) : zMg := ((O o).1, (O o).2.1, (O o).2.2.2)
def zMs (O : zOt) (R : List Nat) : List zMg := R.map (zmA O)
def zVs (O : zOt) (V : List (Nat × Nat)) : List (Nat × Nat) := V.map fun v => ((O v.1).1, v.2)
/-- a view and the row of its mailbox -/
def zLk (O : zOt) (R : List Nat) (V : List (Nat × Nat)) : Prop := (∀ v ∈ V, (O v.1).2.2.1 = false → v.1 ∈ R) ∧ (∀ r ∈ R, (O r).2.2.1 = false) ∧ ∀ v ∈ V, ∀ r ∈ R, (O v.1).1 = (O r).1 → v.1 = r
theorem zLk_tl {O : zOt} {R : List Nat} {v : Nat × Nat} {V : List (Nat × Nat)} (h : zLk O R (v :: V)) : zLk O R V := ⟨fun x hx => h.1 x (List.mem_cons_of_mem _ hx), h.2.1, fun x hx => h.2.2 x (List.mem_cons_of_mem _ hx)⟩
theorem zfind_lk {O : zOt} {v : Nat} : ∀ (R : List Nat), ((O v).2.2.1 = false → v ∈ R) → (∀ r ∈ R, (O r).2.2.1 = false) → (∀ r ∈ R, (O v).1 = (O r).1 → v = r) → zfind (zMs O R) (O v).1 = if (O v).2.2.1 = true then none else some (zmA O v)
  | [], h1, h2, h3 => by
    cases q : (O v).2.2.1 with
    | true => rfl
    | false => cases h1 q
  | r :: R, h1, h2, h3 => by
    unfold zfind zMs
    rw [List.map_cons, List.find?_cons]
    by_cases e : (O r).1 = (O v).1
    · have := h3 r (List.mem_cons_self ..) e.symm
      subst this
      rw [h2 v (List.mem_cons_self ..)]
      rw [show decide ((zmA O v).1 = (O v).1) = true from decide_eq_true rfl]
      rfl
    · rw [show decide ((zmA O r).1 = (O v).1) = false from decide_eq_false e]
      exact zfind_lk R (fun q => by
        rcases List.mem_cons.mp (h1 q) with g | g
        · exact absurd (by rw [g]) e
        · exact g) (fun x hx => h2 x (List.mem_cons_of_mem _ hx)) fun x hx => h3 x (List.mem_cons_of_mem _ hx)
theorem zfd_lk {O : zOt} {R : List Nat} {V : List (Nat × Nat)} (h : zLk O R V) {v : Nat × Nat} (hv : v ∈ V) : zfind (zMs O R) (O v.1).1 = if (O v.1).2.2.1 = true then none else some (zmA O v.1) := zfind_lk R (h.1 v hv) h.2.1 (h.2.2 v hv)
theorem ztG_lk {O : zOt} {R : List Nat} : ∀ (V : List (Nat × Nat)) (n : Nat), zLk O R V → zVs O (ztG O n V).1 = (zgn (zMs O R) n (zVs O V)).1 ∧ (ztG O n V).2 = (zgn (zMs O R) n (zVs O V)).2
  | [], _, _ => ⟨rfl, rfl⟩
  | v :: V, n, h => by
    have e := zfd_lk h (List.mem_cons_self ..)
    have i1 := ztG_lk V n (zLk_tl h)
    have i2 := ztG_lk V (n + 1) (zLk_tl h)
    show zVs O (ztG O n (v :: V)).1 = (zgn (zMs O R) n (((O v.1).1, v.2) :: zVs O V)).1 ∧ (ztG O n (v :: V)).2 = (zgn (zMs O R) n (((O v.1).1, v.2) :: zVs O V)).2
    unfold ztG zgn
    rw [e]
    cases q : (O v.1).2.2.1 with
    | true =>
      refine ⟨i1.1, ?_⟩
      show zxp n ++ _ = zxp n ++ _
      rw [i1.2]
    | false =>
      refine ⟨?_, i2.2⟩
      show ((O v.1).1, v.2) :: zVs O (ztG O (n + 1) V).1 = ((O v.1).1, v.2) :: _
      rw [i2.1]
theorem zVs_ap (O : zOt) (V U : List (Nat × Nat)) : zVs O (V ++ U) = zVs O V ++ zVs O U := List.map_append
theorem zVs_len (O : zOt) (V : List (Nat × Nat)) : (zVs O V).length = V.length := List.length_map ..
theorem ztN_lk {O : zOt} : ∀ (S : List Nat) (V : List (Nat × Nat)) (n : Nat), (S.map fun r => (O r).1).Pairwise (· < ·) → (∀ r ∈ S, (n < (O r).1 ↔ zhas (zVs O V) (O r).1 = false)) → zVs O (ztN O S V n).1 = ztk (zMs O S) (zVs O V)
  | [], _, _, _, _ => rfl
  | r :: S, V, n, hp, hh => by
    show zVs O (ztN O (r :: S) V n).1 = ztk (zmA O r :: zMs O S) (zVs O V)
    rw [List.map_cons, List.pairwise_cons] at hp
    unfold ztN ztk
    have h0 := hh r (List.mem_cons_self ..)
    by_cases c1 : n < (O r).1
    · by_cases c2 : V.length < 40
      · rw [if_pos ⟨c1, c2⟩, if_pos ⟨by rw [zVs_len]; exact c2, h0.1 c1⟩, ztN_lk S _ _ hp.2 (fun x hx => ?_), zVs_ap]
        · rfl
        · have lt := hp.1 _ (List.mem_map.mpr ⟨x, hx, rfl⟩)
          refine ⟨fun _ => ?_, fun _ => lt⟩
          have hz := (hh x (List.mem_cons_of_mem _ hx)).1 (by omega)
          rw [zVs_ap, zhas_f]
          intro q hq
          rcases List.mem_append.mp hq with g | g
          · exact zhas_f.1 hz q g
          · have := List.mem_singleton.mp g
            rw [this]
            exact Nat.ne_of_lt lt
      · rw [if_neg (fun e => c2 e.2), if_neg (fun e => c2 (by rw [← zVs_len O V]; exact e.1))]
        exact ztN_lk S V n hp.2 fun x hx => hh x (List.mem_cons_of_mem _ hx)
    · rw [if_neg (fun e => c1 e.1), if_neg (fun e => c1 (h0.2 e.2))]
      exact ztN_lk S V n hp.2 fun x hx => hh x (List.mem_cons_of_mem _ hx)
