/-- STORE and FETCH as the lists have them -/
theorem ztU_all {O : zOt} {R : List Nat} {W : List (Nat × Nat)} {sg mk it : Nat} {wr : Bool} {P : zHd} (T : List Nat) (h : zLk O R W) : zov P (zsF1 10 sg mk it wr) (zVs O W).length 1 (zMs O R, zVs O W, T) = (zMs (ztU sg mk (zMk (fun n => zPg O W n && P n) W.length) O 0 W).1 R, zVs O (ztU sg mk (zMk (fun n => zPg O W n && P n) W.length) O 0 W).2.1, T ++ (ztU sg mk (zMk (fun n => zPg O W n && P n) W.length) O 0 W).2.2) := by
  have := ztU_lk (O := O) (R := R) (M := zMk (fun n => zPg O W n && P n) W.length) (P := P) (sg := sg) (mk := mk) (it := it) (wr := wr) W [] T h (zMb_mk W [] rfl)
  rw [zVs_len]
  exact this
theorem ztE_all {O : zOt} {R : List Nat} {W : List (Nat × Nat)} {sg mk it k : Nat} {wr : Bool} {P : zHd} (hk : k ≠ 10) (hit : it ≤ 2) (T : List Nat) (h : zLk O R W) : zov P (zsF1 k sg mk it wr) (zVs O W).length 1 (zMs O R, zVs O W, T) = (zMs (ztE it wr (zMk (fun n => zPg O W n && P n) W.length) O 0 W).1 R, zVs O (ztE it wr (zMk (fun n => zPg O W n && P n) W.length) O 0 W).2.1, T ++ (ztE it wr (zMk (fun n => zPg O W n && P n) W.length) O 0 W).2.2) := by
  have := ztE_lk (R := R) (M := zMk (fun n => zPg O W n && P n) W.length) (P := P) (sg := sg) (mk := mk) (wr := wr) hk hit W [] T O h (zMb_mk W [] rfl)
  rw [zVs_len]
  exact this
