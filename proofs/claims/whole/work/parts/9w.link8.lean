theorem zFl_id (O : zOt) (o : Nat) : zFl O o (O o).2.1 = O := zup_id O o
theorem zEs_e {it : Nat} (hit : it ≤ 2) (wr : Bool) (O : zOt) (i : Nat) (v : Nat × Nat) : zEs it wr O i v = (zFl O v.1 (if it = 2 ∧ wr = true then (O v.1).2.1 ||| 1 else (O v.1).2.1), (v.1, if it = 0 then (O v.1).2.1 else v.2), if it = 0 then zft (i + 1) (O v.1).2.1 else if it = 1 then zfu (i + 1) (O v.1).1 else zfx (i + 1) (O v.1).2.2.2) := by
  have : it = 0 ∨ it = 1 ∨ it = 2 := by omega
  unfold zEs
  rcases this with g | g | g <;> subst g
  · rw [if_pos rfl, if_neg (fun e => by cases e.1), zFl_id]
    rfl
  · rw [if_neg (by decide), if_pos rfl, if_neg (show ¬ (1 = 2 ∧ wr = true) from fun e => by cases e.1), zFl_id]
    rfl
  · cases wr with
    | true => rfl
    | false =>
      rw [if_neg (by decide), if_neg (by decide), if_neg (show ¬ (2 = 2 ∧ false = true) from fun e => by cases e.2), zFl_id]
      rfl
theorem ztE_lk {R : List Nat} {M sg mk it k : Nat} {wr : Bool} {P : zHd} (hk : k ≠ 10) (hit : it ≤ 2) : ∀ (S K : List (Nat × Nat)) (T : List Nat) (O : zOt), zLk O R S → zMb O M P K.length S → zov P (zsF1 k sg mk it wr) S.length (K.length + 1) (zMs O R, K ++ zVs O S, T) = (zMs (ztE it wr M O K.length S).1 R, K ++ zVs O (ztE it wr M O K.length S).2.1, T ++ (ztE it wr M O K.length S).2.2)
  | [], K, T, O, _, _ => Prod.ext rfl (Prod.ext rfl (List.append_nil T).symm)
  | v :: S, K, T, O, hl, hm => by
    have e := zfd_lk hl (List.mem_cons_self ..)
    obtain ⟨ga, gb⟩ := zVs_at (O := O) (K := K) (v := v) (S := S) rfl
    obtain ⟨m1, m2⟩ := hm
    have l1 : ∀ y : Nat × Nat, (K ++ [y]).length = K.length + 1 := fun y => by rw [List.length_append]; rfl
    have st : (if P (K.length + 1) = true then zsF1 k sg mk it wr (K.length + 1) (zMs O R, K ++ zVs O (v :: S), T) else (zMs O R, K ++ zVs O (v :: S), T)) = if M.testBit K.length = true then (zMs (zEs it wr O K.length v).1 R, (K ++ [((O v.1).1, (zEs it wr O K.length v).2.1.2)]) ++ zVs O S, T ++ (zEs it wr O K.length v).2.2) else (zMs O R, (K ++ [((O v.1).1, v.2)]) ++ zVs O S, T) := by
      rw [zEs_e hit]
      unfold zsF1
      dsimp only
      rw [ga]
      dsimp only
      rw [e, m1]
      cases q : (O v.1).2.2.1 <;> cases p : P (K.length + 1)
      · exact Prod.ext rfl (Prod.ext gb rfl)
      · rw [if_pos rfl, if_neg Bool.noConfusion]
        dsimp only
        rw [if_neg hk]
        refine Prod.ext ?_ (Prod.ext ?_ rfl)
        · exact zsetf_lk (hl.2.2 v (List.mem_cons_self ..))
        · show (K ++ ((O v.1).1, v.2) :: zVs O S).set K.length _ = _
          rw [show ∀ y : Nat × Nat, (K ++ ((O v.1).1, v.2) :: zVs O S).set K.length y = (K ++ [y]) ++ zVs O S from fun y => by simp]
          rfl
      · exact Prod.ext rfl (Prod.ext gb rfl)
      · exact Prod.ext rfl (Prod.ext gb rfl)
    show zov P (zsF1 k sg mk it wr) S.length (K.length + 1 + 1) (if P (K.length + 1) = true then zsF1 k sg mk it wr (K.length + 1) (zMs O R, K ++ zVs O (v :: S), T) else (zMs O R, K ++ zVs O (v :: S), T)) = _
    rw [st]
    unfold ztE
    by_cases q : M.testBit K.length = true
    · rw [if_pos q, if_pos q]
      have c : ∀ p, ((zEs it wr O K.length v).1 p).1 = (O p).1 ∧ ((zEs it wr O K.length v).1 p).2.2 = (O p).2.2 := by
        rw [zEs_e hit]
        exact zFl_n O v.1 _
      have c1 : (zEs it wr O K.length v).2.1.1 = v.1 := by rw [zEs_e hit]
      generalize zEs it wr O K.length v = E at c c1
      have ih := ztE_lk (M := M) (sg := sg) (mk := mk) (it := it) (wr := wr) (P := P) hk hit S (K ++ [((O v.1).1, E.2.1.2)]) (T ++ E.2.2) E.1 (zLk_cg (zLk_tl hl) c) (by rw [l1]; exact zMb_cg (fun p => (c p).2) _ _ m2)
      rw [l1, zVs_cg (V := S) (fun x _ => (c x.1).1), zVs_cg (O := O) (V := (ztE it wr M E.1 (K.length + 1) S).2.1) (fun x _ => (c x.1).1)] at ih
      refine ih.trans (Prod.ext rfl (Prod.ext ?_ ?_))
      · show (K ++ [_]) ++ _ = K ++ (((O E.2.1.1).1, E.2.1.2) :: zVs O (ztE it wr M E.1 (K.length + 1) S).2.1)
        rw [List.append_assoc, c1]
        rfl
      · show (T ++ _) ++ _ = T ++ (_ ++ _)
        rw [List.append_assoc]
    · rw [if_neg q, if_neg q]
      have ih := ztE_lk (M := M) (sg := sg) (mk := mk) (it := it) (wr := wr) (P := P) hk hit S (K ++ [((O v.1).1, v.2)]) T O (zLk_tl hl) (by rw [l1]; exact m2)
      rw [l1] at ih
      refine ih.trans (Prod.ext rfl (Prod.ext ?_ rfl))
      show (K ++ [_]) ++ _ = K ++ (_ :: _)
      rw [List.append_assoc]
      rfl
