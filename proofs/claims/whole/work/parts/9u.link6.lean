theorem zMb_mk {O : zOt} {W : List (Nat × Nat)} {P : zHd} : ∀ (S K : List (Nat × Nat)), W = K ++ S → zMb O (zMk (fun n => zPg O W n && P n) W.length) P K.length S
  | [], _, _ => trivial
  | v :: S, K, h => by
    have l1 : (K ++ [v]).length = K.length + 1 := by rw [List.length_append]; rfl
    refine ⟨?_, ?_⟩
    · have ln : K.length < W.length := by rw [h, List.length_append, List.length_cons]; omega
      have gi : W.getD K.length (0, 0) = v := by
        rw [h, List.getD_eq_getElem?_getD, List.getElem?_append_right (Nat.le_refl _), Nat.sub_self]
        rfl
      rw [zMk_tb, decide_eq_true ln, Bool.true_and]
      show (zPg O W (K.length + 1) && P (K.length + 1)) = _
      unfold zPg zWo
      rw [Nat.add_sub_cancel, gi]
    · have ih := zMb_mk (O := O) (W := W) (P := P) S (K ++ [v]) (by rw [h, List.append_assoc]; rfl)
      rw [l1] at ih
      exact ih
/-- the class's SEARCH and COPY as the lists have them -/
theorem ztS_all {O : zOt} {R : List Nat} {W : List (Nat × Nat)} {P : zHd} {u : Bool} (T : List Nat) (h : zLk O R W) : zov P (zfn1 (zMs O R) (zVs O W) u) (zVs O W).length 1 T = T ++ ztS O (zMk (fun n => zPg O W n && P n) W.length) u 0 W := by
  have := ztS_lk (O := O) (R := R) (V := zVs O W) (M := zMk (fun n => zPg O W n && P n) W.length) (P := P) (u := u) W [] T rfl h (zMb_mk W [] rfl)
  rw [zVs_len]
  exact this
theorem ztQ_all {O : zOt} {R : List Nat} {W : List (Nat × Nat)} {P : zHd} (n : Nat) (T : List zMg) (h : zLk O R W) : zov P (zcp1 (zMs O R) (zVs O W)) (zVs O W).length 1 (n, T) = (n + (ztQ O (zMk (fun n => zPg O W n && P n) W.length) n 0 W).length, T ++ (ztQ O (zMk (fun n => zPg O W n && P n) W.length) n 0 W).map fun g => (g.1, g.2.1, g.2.2.2)) := by
  have := ztQ_lk (O := O) (R := R) (V := zVs O W) (M := zMk (fun n => zPg O W n && P n) W.length) (P := P) W [] n T rfl h (zMb_mk W [] rfl)
  rw [zVs_len]
  exact this
