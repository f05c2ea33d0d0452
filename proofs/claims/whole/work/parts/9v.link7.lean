/-- another value of the flags -/
def zFl (O : zOt) (o f : Nat) : zOt := zup O o ((O o).1, f, (O o).2.2)
theorem zFl_n (O : zOt) (o f p : Nat) : (zFl O o f p).1 = (O p).1 ∧ (zFl O o f p).2.2 = (O p).2.2 := by
  unfold zFl zup
  by_cases e : p = o
  · rw [if_pos e, e]; exact ⟨rfl, rfl⟩
  · rw [if_neg e]; exact ⟨rfl, rfl⟩
theorem zLk_cg {O O' : zOt} {R : List Nat} {V : List (Nat × Nat)} (h : zLk O R V) (c : ∀ p, (O' p).1 = (O p).1 ∧ (O' p).2.2 = (O p).2.2) : zLk O' R V := ⟨fun v hv q => h.1 v hv (by rw [← (c v.1).2]; exact q), fun r hr => by rw [(c r).2]; exact h.2.1 r hr, fun v hv r hr e => h.2.2 v hv r hr (by rw [← (c v.1).1, ← (c r).1]; exact e)⟩
theorem zMb_cg {O O' : zOt} {M : Nat} {P : zHd} (c : ∀ p, (O' p).2.2 = (O p).2.2) : ∀ (V : List (Nat × Nat)) (i : Nat), zMb O M P i V → zMb O' M P i V
  | [], _, _ => trivial
  | v :: V, i, h => ⟨by rw [c]; exact h.1, zMb_cg c V (i + 1) h.2⟩
theorem zsetf_lk {O : zOt} {o f : Nat} {R : List Nat} (h : ∀ r ∈ R, (O o).1 = (O r).1 → o = r) : zsetf (zMs O R) (O o).1 f = zMs (zFl O o f) R := by
  unfold zsetf zMs
  rw [List.map_map]
  refine List.map_congr_left fun r hr => ?_
  show (if (O r).1 = (O o).1 then ((O r).1, f, (O r).2.2.2) else zmA O r) = zmA (zFl O o f) r
  by_cases e : (O r).1 = (O o).1
  · have := h r hr e.symm
    subst this
    rw [if_pos rfl]
    unfold zmA zFl
    rw [zup_eq]
  · rw [if_neg e]
    unfold zmA zFl
    rw [zup_ne (fun q => e (by rw [q]))]
theorem ztU_lk {R : List Nat} {M sg mk it : Nat} {wr : Bool} {P : zHd} : ∀ (S K : List (Nat × Nat)) (T : List Nat) (O : zOt), zLk O R S → zMb O M P K.length S → zov P (zsF1 10 sg mk it wr) S.length (K.length + 1) (zMs O R, K ++ zVs O S, T) = (zMs (ztU sg mk M O K.length S).1 R, K ++ zVs O (ztU sg mk M O K.length S).2.1, T ++ (ztU sg mk M O K.length S).2.2)
  | [], K, T, O, _, _ => Prod.ext rfl (Prod.ext rfl (List.append_nil T).symm)
  | v :: S, K, T, O, hl, hm => by
    have e := zfd_lk hl (List.mem_cons_self ..)
    obtain ⟨ga, gb⟩ := zVs_at (O := O) (K := K) (v := v) (S := S) rfl
    obtain ⟨m1, m2⟩ := hm
    have l1 : ∀ y : Nat × Nat, (K ++ [y]).length = K.length + 1 := fun y => by rw [List.length_append]; rfl
    have st : (if P (K.length + 1) = true then zsF1 10 sg mk it wr (K.length + 1) (zMs O R, K ++ zVs O (v :: S), T) else (zMs O R, K ++ zVs O (v :: S), T)) = if M.testBit K.length = true then (zMs (zFl O v.1 (zsf sg (O v.1).2.1 mk)) R, (K ++ [((O v.1).1, zsf sg (O v.1).2.1 mk)]) ++ zVs O S, T ++ zft (K.length + 1) (zsf sg (O v.1).2.1 mk)) else (zMs O R, (K ++ [((O v.1).1, v.2)]) ++ zVs O S, T) := by
      unfold zsF1
      dsimp only
      rw [ga]
      dsimp only
      rw [e, m1]
      cases q : (O v.1).2.2.1 <;> cases p : P (K.length + 1)
      · exact Prod.ext rfl (Prod.ext gb rfl)
      · refine Prod.ext ?_ (Prod.ext ?_ rfl)
        · exact zsetf_lk (hl.2.2 v (List.mem_cons_self ..))
        · show (K ++ ((O v.1).1, v.2) :: zVs O S).set K.length ((O v.1).1, zsf sg (O v.1).2.1 mk) = _
          simp
      · exact Prod.ext rfl (Prod.ext gb rfl)
      · exact Prod.ext rfl (Prod.ext gb rfl)
    show zov P (zsF1 10 sg mk it wr) S.length (K.length + 1 + 1) (if P (K.length + 1) = true then zsF1 10 sg mk it wr (K.length + 1) (zMs O R, K ++ zVs O (v :: S), T) else (zMs O R, K ++ zVs O (v :: S), T)) = _
    rw [st]
    unfold ztU
    by_cases q : M.testBit K.length = true
    · rw [if_pos q, if_pos q]
      have c := zFl_n O v.1 (zsf sg (O v.1).2.1 mk)
      have ih := ztU_lk (M := M) (sg := sg) (mk := mk) (it := it) (wr := wr) (P := P) S (K ++ [((O v.1).1, zsf sg (O v.1).2.1 mk)]) (T ++ zft (K.length + 1) (zsf sg (O v.1).2.1 mk)) (zFl O v.1 (zsf sg (O v.1).2.1 mk)) (zLk_cg (zLk_tl hl) c) (by rw [l1]; exact zMb_cg (fun p => (c p).2) _ _ m2)
      rw [l1, zVs_cg (V := S) (fun x _ => (c x.1).1), zVs_cg (O := O) (V := (ztU sg mk M (zFl O v.1 (zsf sg (O v.1).2.1 mk)) (K.length + 1) S).2.1) (fun x _ => (c x.1).1)] at ih
      refine ih.trans (Prod.ext rfl (Prod.ext ?_ ?_))
      · show (K ++ [_]) ++ _ = K ++ (_ :: _)
        rw [List.append_assoc]
        rfl
      · show (T ++ _) ++ _ = T ++ (_ ++ _)
        rw [List.append_assoc]
        rfl
    · rw [if_neg q, if_neg q]
      have ih := ztU_lk (M := M) (sg := sg) (mk := mk) (it := it) (wr := wr) (P := P) S (K ++ [((O v.1).1, v.2)]) T O (zLk_tl hl) (by rw [l1]; exact m2)
      rw [l1] at ih
      refine ih.trans (Prod.ext rfl (Prod.ext ?_ rfl))
      show (K ++ [_]) ++ _ = K ++ (_ :: _)
      rw [List.append_assoc]
      rfl
