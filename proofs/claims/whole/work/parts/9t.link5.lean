/-- the mask's bits are the places that P names and that are not gone -/
def zMb (O : zOt) (M : Nat) (P : zHd) : Nat → List (Nat × Nat) → Prop
  | _, [] => True
  | i, v :: V => M.testBit i = (!(O v.1).2.2.1 && P (i + 1)) ∧ zMb O M P (i + 1) V
theorem zVs_at {O : zOt} {V K : List (Nat × Nat)} {v : Nat × Nat} {S : List (Nat × Nat)} (h : V = K ++ zVs O (v :: S)) : V[K.length + 1 - 1]? = some ((O v.1).1, v.2) ∧ V = (K ++ [((O v.1).1, v.2)]) ++ zVs O S := by
  subst h
  refine ⟨?_, ?_⟩
  · rw [Nat.add_sub_cancel, List.getElem?_append_right (Nat.le_refl _), Nat.sub_self]
    rfl
  · rw [List.append_assoc]
    rfl
theorem ztS_lk {O : zOt} {R : List Nat} {V : List (Nat × Nat)} {M : Nat} {P : zHd} {u : Bool} : ∀ (S K : List (Nat × Nat)) (T : List Nat), V = K ++ zVs O S → zLk O R S → zMb O M P K.length S → zov P (zfn1 (zMs O R) V u) S.length (K.length + 1) T = T ++ ztS O M u K.length S
  | [], K, T, _, _, _ => (List.append_nil T).symm
  | v :: S, K, T, hV, hl, hm => by
    have e := zfd_lk hl (List.mem_cons_self ..)
    obtain ⟨ga, gb⟩ := zVs_at hV
    obtain ⟨m1, m2⟩ := hm
    have l1 : (K ++ [((O v.1).1, v.2)]).length = K.length + 1 := by rw [List.length_append]; rfl
    have st : (if P (K.length + 1) = true then zfn1 (zMs O R) V u (K.length + 1) T else T) = T ++ (if M.testBit K.length = true then [32] ++ zds (if u = true then (O v.1).1 else K.length + 1) else []) := by
      unfold zfn1
      rw [ga]
      dsimp only
      rw [e, m1]
      cases q : (O v.1).2.2.1 <;> cases p : P (K.length + 1)
      · exact (List.append_nil T).symm
      · rfl
      · exact (List.append_nil T).symm
      · exact (List.append_nil T).symm
    show zov P (zfn1 (zMs O R) V u) S.length (K.length + 1 + 1) (if P (K.length + 1) = true then zfn1 (zMs O R) V u (K.length + 1) T else T) = _
    rw [st]
    have ih := ztS_lk (u := u) S (K ++ [((O v.1).1, v.2)]) (T ++ (if M.testBit K.length = true then [32] ++ zds (if u = true then (O v.1).1 else K.length + 1) else [])) gb (zLk_tl hl) (by rw [l1]; exact m2)
    rw [l1, List.append_assoc] at ih
    exact ih
theorem ztQ_lk {O : zOt} {R : List Nat} {V : List (Nat × Nat)} {M : Nat} {P : zHd} : ∀ (S K : List (Nat × Nat)) (n : Nat) (T : List zMg), V = K ++ zVs O S → zLk O R S → zMb O M P K.length S → zov P (zcp1 (zMs O R) V) S.length (K.length + 1) (n, T) = (n + (ztQ O M n K.length S).length, T ++ (ztQ O M n K.length S).map fun g => (g.1, g.2.1, g.2.2.2))
  | [], K, n, T, _, _, _ => Prod.ext rfl (List.append_nil T).symm
  | v :: S, K, n, T, hV, hl, hm => by
    have e := zfd_lk hl (List.mem_cons_self ..)
    obtain ⟨ga, gb⟩ := zVs_at hV
    obtain ⟨m1, m2⟩ := hm
    have l1 : (K ++ [((O v.1).1, v.2)]).length = K.length + 1 := by rw [List.length_append]; rfl
    have st : (if P (K.length + 1) = true then zcp1 (zMs O R) V (K.length + 1) (n, T) else (n, T)) = if M.testBit K.length = true then (n + 1, T ++ [(n, (O v.1).2.1, (O v.1).2.2.2)]) else (n, T) := by
      unfold zcp1
      rw [ga]
      dsimp only
      rw [e, m1]
      cases q : (O v.1).2.2.1 <;> cases p : P (K.length + 1) <;> rfl
    show zov P (zcp1 (zMs O R) V) S.length (K.length + 1 + 1) (if P (K.length + 1) = true then zcp1 (zMs O R) V (K.length + 1) (n, T) else (n, T)) = _
    rw [st]
    unfold ztQ
    have ih := fun n T => ztQ_lk S (K ++ [((O v.1).1, v.2)]) n T gb (zLk_tl hl) (by rw [l1]; exact m2)
    rw [l1] at ih
    by_cases q : M.testBit K.length = true
    · rw [if_pos q, if_pos q, ih]
      refine Prod.ext ?_ ?_
      · show n + 1 + _ = n + (_ + 1)
        omega
      · show (T ++ [_]) ++ _ = T ++ (_ :: _)
        rw [List.append_assoc]
        rfl
    · rw [if_neg q, if_neg q, ih]
