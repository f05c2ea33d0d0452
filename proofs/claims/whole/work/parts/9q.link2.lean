/-- flags that were not told: by places -/
theorem ztF_lk {O : zOt} {R : List Nat} : ∀ (S : List (Nat × Nat)) (K : List (Nat × Nat)) (T : List Nat), zLk O R S → zov (fun _ => true) (ztl1 (zMs O R)) S.length (K.length + 1) (K ++ zVs O S, T) = (K ++ zVs O (ztF O (K.length + 1) S).1, T ++ (ztF O (K.length + 1) S).2)
  | [], K, T, _ => by
    show (K ++ [], T) = (K ++ [], T ++ [])
    rw [List.append_nil, List.append_nil]
  | v :: S, K, T, h => by
    have e := zfd_lk h (List.mem_cons_self ..)
    have gi : (K ++ zVs O (v :: S))[K.length + 1 - 1]? = some ((O v.1).1, v.2) := by
      rw [Nat.add_sub_cancel, List.getElem?_append_right (Nat.le_refl _), Nat.sub_self]
      rfl
    have l1 : ∀ y : Nat × Nat, (K ++ [y]).length = K.length + 1 := fun y => by rw [List.length_append]; rfl
    have st : ztl1 (zMs O R) (K.length + 1) (K ++ zVs O (v :: S), T) = if (O v.1).2.2.1 = false ∧ (O v.1).2.1 ≠ v.2 then (K ++ ((O v.1).1, (O v.1).2.1) :: zVs O S, T ++ zft (K.length + 1) (O v.1).2.1) else (K ++ ((O v.1).1, v.2) :: zVs O S, T) := by
      unfold ztl1
      dsimp only
      rw [gi]
      dsimp only
      rw [e]
      cases q : (O v.1).2.2.1 with
      | true =>
        rw [if_pos rfl, if_neg (fun z => by cases z.1)]
        rfl
      | false =>
        rw [if_neg Bool.noConfusion]
        dsimp only
        by_cases q2 : (O v.1).2.1 = v.2
        · rw [if_pos (show (zmA O v.1).2.1 = v.2 from q2), if_neg (fun z => z.2 q2)]
          rfl
        · rw [if_neg (show ¬ (zmA O v.1).2.1 = v.2 from q2), if_pos ⟨rfl, q2⟩]
          refine Prod.ext ?_ rfl
          show (K ++ ((O v.1).1, v.2) :: zVs O S).set K.length ((O v.1).1, (O v.1).2.1) = _
          simp
    show zov (fun _ => true) (ztl1 (zMs O R)) S.length (K.length + 1 + 1) (if true = true then ztl1 (zMs O R) (K.length + 1) (K ++ zVs O (v :: S), T) else _) = _
    rw [if_pos rfl, st]
    unfold ztF
    by_cases q : (O v.1).2.2.1 = false ∧ (O v.1).2.1 ≠ v.2
    · rw [if_pos q, if_pos q]
      have ih := ztF_lk S (K ++ [((O v.1).1, (O v.1).2.1)]) (T ++ zft (K.length + 1) (O v.1).2.1) (zLk_tl h)
      rw [l1, List.append_assoc, List.append_assoc, List.append_assoc] at ih
      exact ih
    · rw [if_neg q, if_neg q]
      have ih := ztF_lk S (K ++ [((O v.1).1, v.2)]) T (zLk_tl h)
      rw [l1, List.append_assoc, List.append_assoc] at ih
      exact ih
