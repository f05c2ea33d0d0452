/-- only what is gone is another -/
theorem zGn_m (O : zOt) (o p : Nat) : zmA (zGn O o) p = zmA O p ∧ (zGn O o p).2.2.1 = ((O p).2.2.1 || decide (p = o)) := by
  unfold zmA zGn zup
  by_cases e : p = o
  · rw [if_pos e, e, decide_eq_true rfl, Bool.or_true]
    exact ⟨rfl, rfl⟩
  · rw [if_neg e, decide_eq_false e, Bool.or_false]
    exact ⟨rfl, rfl⟩
theorem zGx_m : ∀ (S : List Nat) (O : zOt) (p : Nat), zmA (zGx O S) p = zmA O p ∧ ((zGx O S p).2.2.1 = true ↔ ((O p).2.2.1 = true ∨ (p ∈ S ∧ zgo1 O p = false)))
  | [], O, p => ⟨rfl, ⟨fun e => Or.inl e, fun e => e.elim id fun e => by cases e.1⟩⟩
  | o :: S, O, p => by
    unfold zGx
    by_cases q : zgo1 O o = true
    · rw [if_pos q]
      obtain ⟨i1, i2⟩ := zGx_m S O p
      refine ⟨i1, i2.trans ⟨fun e => e.elim Or.inl fun e => Or.inr ⟨List.mem_cons_of_mem _ e.1, e.2⟩, fun e => e.elim Or.inl fun e => ?_⟩⟩
      rcases List.mem_cons.mp e.1 with g | g
      · rw [g, q] at e
        cases e.2
      · exact Or.inr ⟨g, e.2⟩
    · rw [if_neg q]
      obtain ⟨i1, i2⟩ := zGx_m S (zGn O o) p
      obtain ⟨j1, j2⟩ := zGn_m O o p
      rw [zgo1_gn, j2, Bool.or_eq_true, decide_eq_true_eq] at i2
      refine ⟨i1.trans j1, i2.trans ⟨fun e => ?_, fun e => ?_⟩⟩
      · rcases e with (e | e) | e
        · exact Or.inl e
        · refine Or.inr ⟨by rw [e]; exact List.mem_cons_self .., ?_⟩
          rw [e]
          cases z : zgo1 O o with
          | true => exact absurd z q
          | false => rfl
        · exact Or.inr ⟨List.mem_cons_of_mem _ e.1, e.2⟩
      · rcases e with e | e
        · exact Or.inl (Or.inl e)
        · rcases List.mem_cons.mp e.1 with g | g
          · exact Or.inl (Or.inr g)
          · exact Or.inr ⟨g, e.2⟩
theorem zMs_cg {O O' : zOt} {R : List Nat} (h : ∀ r ∈ R, zmA O' r = zmA O r) : zMs O' R = zMs O R := List.map_congr_left h
theorem zVs_cg {O O' : zOt} {V : List (Nat × Nat)} (h : ∀ v ∈ V, (O' v.1).1 = (O v.1).1) : zVs O' V = zVs O V := List.map_congr_left fun v hv => by rw [h v hv]
theorem zMs_fl (O : zOt) : ∀ R : List Nat, zMs O (R.filter (zgo1 O)) = (zMs O R).filter zgd
  | [] => rfl
  | r :: R => by
    show zMs O ((r :: R).filter (zgo1 O)) = (zmA O r :: zMs O R).filter zgd
    have e : zgd (zmA O r) = zgo1 O r := rfl
    rw [List.filter_cons, List.filter_cons, e, ← zMs_fl O R]
    split <;> rfl
/-- the row after EXPUNGE -/
theorem zMs_gx (O : zOt) (R : List Nat) : zMs (zGx O R) (R.filter (zgo1 O)) = (zMs O R).filter zgd := (zMs_cg fun r _ => (zGx_m R O r).1).trans (zMs_fl O R)
theorem zVs_gx (O : zOt) (S : List Nat) (V : List (Nat × Nat)) : zVs (zGx O S) V = zVs O V := zVs_cg fun v _ => congrArg (fun g : zMg => g.1) (zGx_m S O v.1).1
theorem zLk_gx {O : zOt} {R : List Nat} {V : List (Nat × Nat)} (h : zLk O R V) : zLk (zGx O R) (R.filter (zgo1 O)) V := by
  have num : ∀ o, (zGx O R o).1 = (O o).1 := fun o => congrArg (fun g : zMg => g.1) (zGx_m R O o).1
  refine ⟨fun v hv q => ?_, fun r hr => ?_, fun v hv r hr e => ?_⟩
  · have ng : ¬ ((O v.1).2.2.1 = true ∨ (v.1 ∈ R ∧ zgo1 O v.1 = false)) := fun e => by
      rw [(zGx_m R O v.1).2.2 e] at q
      cases q
    have n1 : (O v.1).2.2.1 = false := by
      cases z : (O v.1).2.2.1 with
      | true => exact absurd (Or.inl z) ng
      | false => rfl
    have hR := h.1 v hv n1
    refine List.mem_filter.mpr ⟨hR, ?_⟩
    cases z : zgo1 O v.1 with
    | true => rfl
    | false => exact absurd (Or.inr ⟨hR, z⟩) ng
  · obtain ⟨r1, r2⟩ := List.mem_filter.mp hr
    cases z : (zGx O R r).2.2.1 with
    | false => rfl
    | true =>
      rcases (zGx_m R O r).2.1 z with e | e
      · rw [h.2.1 r r1] at e; cases e
      · rw [r2] at e; cases e.2
  · rw [num, num] at e
    exact h.2.2 v hv r (List.mem_filter.mp hr).1 e
/-- a view of another mailbox -/
theorem zLk_gy {O : zOt} {R S : List Nat} {V : List (Nat × Nat)} (h : zLk O R V) (d1 : ∀ r ∈ R, r ∉ S) (d2 : ∀ v ∈ V, v.1 ∉ S) : zLk (zGx O S) R V := by
  have num : ∀ o, (zGx O S o).1 = (O o).1 := fun o => congrArg (fun g : zMg => g.1) (zGx_m S O o).1
  have gn : ∀ o, o ∉ S → (zGx O S o).2.2.1 = (O o).2.2.1 := fun o ho => by
    have := (zGx_m S O o).2
    cases z : (O o).2.2.1 with
    | true => exact this.2 (Or.inl z)
    | false =>
      cases w : (zGx O S o).2.2.1 with
      | false => rfl
      | true =>
        rcases this.1 w with e | e
        · rw [z] at e; cases e
        · exact absurd e.1 ho
  refine ⟨fun v hv q => h.1 v hv (by rw [← gn _ (d2 v hv)]; exact q), fun r hr => by rw [gn _ (d1 r hr)]; exact h.2.1 r hr, fun v hv r hr e => h.2.2 v hv r hr (by rw [← num, ← num]; exact e)⟩
