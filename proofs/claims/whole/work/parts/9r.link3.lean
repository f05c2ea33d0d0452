theorem ztG_fl {O : zOt} : ∀ (V : List (Nat × Nat)) (n : Nat), (ztG O n V).1 = V.filter fun v => !(O v.1).2.2.1
  | [], _ => rfl
  | v :: V, n => by
    unfold ztG
    rw [List.filter_cons]
    cases q : (O v.1).2.2.1 with
    | true => exact ztG_fl V n
    | false =>
      show v :: (ztG O (n + 1) V).1 = v :: V.filter _
      rw [ztG_fl V (n + 1)]
theorem ztN_mem {O : zOt} : ∀ (S : List Nat) (V : List (Nat × Nat)) (n : Nat), ∀ x ∈ (ztN O S V n).1, x ∈ V ∨ x.1 ∈ S
  | [], _, _, x, hx => Or.inl hx
  | r :: S, V, n, x, hx => by
    unfold ztN at hx
    split at hx
    · rcases ztN_mem S _ _ x hx with g | g
      · rcases List.mem_append.mp g with g | g
        · exact Or.inl g
        · rw [List.mem_singleton.mp g]
          exact Or.inr (List.mem_cons_self ..)
      · exact Or.inr (List.mem_cons_of_mem _ g)
    · rcases ztN_mem S _ _ x hx with g | g
      · exact Or.inl g
      · exact Or.inr (List.mem_cons_of_mem _ g)
theorem znum_inj {O : zOt} : ∀ {R : List Nat}, (R.map fun r => (O r).1).Pairwise (· < ·) → ∀ a ∈ R, ∀ b ∈ R, (O a).1 = (O b).1 → a = b
  | [], _, a, ha, _, _, _ => by cases ha
  | r :: R, hp, a, ha, b, hb, e => by
    rw [List.map_cons, List.pairwise_cons] at hp
    rcases List.mem_cons.mp ha with g | g <;> rcases List.mem_cons.mp hb with g' | g'
    · rw [g, g']
    · have := hp.1 _ (List.mem_map.mpr ⟨b, g', rfl⟩)
      rw [g] at e
      omega
    · have := hp.1 _ (List.mem_map.mpr ⟨a, g, rfl⟩)
      rw [g'] at e
      omega
    · exact znum_inj hp.2 a g b g' e
theorem zLk_sub {O : zOt} {R : List Nat} {V U : List (Nat × Nat)} (h : zLk O R V) (s : ∀ x ∈ U, x ∈ V) : zLk O R U := ⟨fun x hx => h.1 x (s x hx), h.2.1, fun x hx => h.2.2 x (s x hx)⟩
theorem zLk_N {O : zOt} {R : List Nat} {V : List (Nat × Nat)} {n : Nat} (h : zLk O R V) (hp : (R.map fun r => (O r).1).Pairwise (· < ·)) : zLk O R (ztN O R V n).1 := by
  refine ⟨fun x hx q => ?_, h.2.1, fun x hx r hr e => ?_⟩ <;> rcases ztN_mem R V n x hx with g | g
  · exact h.1 x g q
  · exact g
  · exact h.2.2 x g r hr e
  · exact znum_inj hp _ g _ hr e
/-- what is told, on both sides -/
theorem ztC_lk {O : zOt} {R : List Nat} {V : List (Nat × Nat)} {n : Nat} {g : Bool} (T : List Nat) (h : zLk O R V) (hp : (R.map fun r => (O r).1).Pairwise (· < ·)) (hh : ∀ r ∈ R, (n < (O r).1 ↔ zhas (zVs O V) (O r).1 = false)) : ztell (zMs O R) (!g) (zVs O V) T = (zVs O (ztC O R g V n).1, T ++ (ztC O R g V n).2.1) := by
  have tail : ∀ (U : List (Nat × Nat)) (t : List Nat), zLk O R U → (∀ r ∈ R, (n < (O r).1 ↔ zhas (zVs O U) (O r).1 = false)) → zov (fun _ => true) (ztl1 (zMs O R)) (ztk (zMs O R) (zVs O U)).length 1 (ztk (zMs O R) (zVs O U), T ++ t ++ (if (zVs O U).length < (ztk (zMs O R) (zVs O U)).length then zex (ztk (zMs O R) (zVs O U)).length else [])) = (zVs O (ztF O 1 (ztN O R U n).1).1, T ++ (t ++ (if U.length < (ztN O R U n).1.length then zex (ztN O R U n).1.length else []) ++ (ztF O 1 (ztN O R U n).1).2)) := fun U t hl hu => by
    rw [← ztN_lk R U n hp hu, zVs_len, zVs_len]
    have := ztF_lk (O := O) (R := R) (ztN O R U n).1 [] (T ++ t ++ (if U.length < (ztN O R U n).1.length then zex (ztN O R U n).1.length else [])) (zLk_N hl hp)
    rw [List.nil_append, List.nil_append] at this
    refine this.trans (Prod.ext rfl ?_)
    simp only [List.append_assoc]
    rfl
  cases g with
  | false =>
    exact tail V [] h hh
  | true =>
    obtain ⟨g1, g2⟩ := ztG_lk (R := R) V 1 h
    have fl := ztG_fl (O := O) V 1
    have sub : ∀ x ∈ (ztG O 1 V).1, x ∈ V := fun x hx => by
      rw [fl] at hx
      exact (List.mem_filter.mp hx).1
    have := tail (ztG O 1 V).1 (ztG O 1 V).2 (zLk_sub h sub) fun r hr => (hh r hr).trans (by
      rw [zhas_f, zhas_f]
      constructor
      · intro z q hq
        obtain ⟨x, hx, e⟩ := List.mem_map.mp hq
        exact z q (List.mem_map.mpr ⟨x, sub x hx, e⟩)
      · intro z q hq e
        obtain ⟨x, hx, e'⟩ := List.mem_map.mp hq
        have en : (O x.1).1 = (O r).1 := by rw [← e, ← e']
        have er := h.2.2 x hx r hr en
        refine z q (List.mem_map.mpr ⟨x, ?_, e'⟩) e
        rw [fl]
        refine List.mem_filter.mpr ⟨hx, ?_⟩
        rw [er, h.2.1 r hr]
        rfl)
    rw [g1, g2] at this
    rw [← g2] at this
    unfold ztell ztC
    dsimp only [Bool.not_true]
    rw [if_neg Bool.noConfusion, if_pos rfl, ← g2]
    rw [← g1] at this ⊢
    exact this
