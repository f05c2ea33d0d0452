/-! ===== lists of messages and views against the reference's memory ===== -/
def zfind (M : List zMg) (v : Nat) : Option zMg := M.find? fun g => decide (g.1 = v)
def zsetf (M : List zMg) (v f : Nat) : List zMg := M.map fun g => if g.1 = v then (g.1, f, g.2.2) else g
theorem zbm_r (m : zMm) (b : Nat) : zbm m b = (List.range' (10 * b) (m 0 136 b)).map (zmg m) := by
  unfold zbm
  rw [List.range'_eq_map_range, List.map_map]
  rfl
theorem zvw_r (m : zMm) (s : Nat) : zvw m s = (List.range' (40 * s) (m 0 144 s)).map fun i => (m 0 145 i, m 0 146 i) := by
  unfold zvw
  rw [List.range'_eq_map_range, List.map_map]
  rfl
theorem zfind_r (m : zMm) (v : Nat) : ∀ k i, zfind ((List.range' i k).map (zmg m)) v = (zfi (fun j => m 0 137 j) v k i).map (zmg m) := by
  intro k
  induction k with
  | zero => intro i; rfl
  | succ k ih =>
    intro i
    unfold zfi
    rw [List.range'_succ, List.map_cons]
    unfold zfind
    rw [List.find?_cons]
    show (match decide (m 0 137 i = v) with | true => some (zmg m i) | false => zfind ((List.range' (i + 1) k).map (zmg m)) v) = _
    by_cases q : m 0 137 i = v
    · rw [decide_eq_true q, if_pos q]; rfl
    · rw [decide_eq_false q, if_neg q]; exact ih (i + 1)
theorem zfind_mt (m : zMm) (n : Nat) : zfind (zbm m (zsb m)) (zvn m n) = (zmt m n).map (zmg m) := by
  rw [zbm_r]; exact zfind_r m _ _ _
/-- numbers rise, below the next one -/
def zUp (m : zMm) : Prop := ∀ b, b < 4 → (∀ p q, p < q → q < m 0 136 b → m 0 137 (10 * b + p) < m 0 137 (10 * b + q)) ∧ ∀ p, p < m 0 136 b → m 0 137 (10 * b + p) < m 0 135 b
theorem zUp_one {m : zMm} (h : zUp m) {b p q : Nat} (hb : b < 4) (hp : p < m 0 136 b) (hq : q < m 0 136 b) (e : m 0 137 (10 * b + p) = m 0 137 (10 * b + q)) : p = q := by
  have := (h b hb).1
  rcases Nat.lt_trichotomy p q with g | g | g
  · have := this p q g hq; omega
  · exact g
  · have := this q p g hp; omega
theorem zTell_mg {m m' : zMm} {j f i g : Nat} {t : List Nat} (h : zTell m m' j f i g t) (q : Nat) : zmg m' q = if q = j then (m 0 137 q, f, ztx m q) else zmg m q := by
  obtain ⟨a1, a2, -⟩ := h
  have e1 : m' 0 137 q = m 0 137 q := a1 _ _ _ (by decide)
  have e2 : ztx m' q = ztx m q := by
    unfold ztx
    rw [show m' 0 139 q = m 0 139 q from a1 _ _ _ (by decide)]
    exact List.map_congr_left fun k _ => a1 _ _ _ (by decide)
  unfold zmg
  rw [e1, e2, a2]
  split <;> rfl
theorem zTell_bm {m m' : zMm} {j f i g b p : Nat} {t : List Nat} (h : zTell m m' j f i g t) (hu : zUp m) (hb : b < 4) (hp : p < m 0 136 b) (hj : j = 10 * b + p) (h10 : ∀ b, b < 4 → m 0 136 b ≤ 10) : zbm m' b = zsetf (zbm m b) (m 0 137 j) f ∧ ∀ b', b' < 4 → b' ≠ b → zbm m' b' = zbm m b' := by
  have cn : ∀ b, m' 0 136 b = m 0 136 b := fun b => h.1 _ _ _ (by decide)
  constructor
  · unfold zbm zsetf
    rw [cn, List.map_map]
    refine List.map_congr_left fun q hq => ?_
    have hq := List.mem_range.mp hq
    show zmg m' (10 * b + q) = if (zmg m (10 * b + q)).1 = m 0 137 j then ((zmg m (10 * b + q)).1, f, (zmg m (10 * b + q)).2.2) else zmg m (10 * b + q)
    rw [zTell_mg h]
    by_cases e : q = p
    · rw [if_pos (by omega), if_pos (by show m 0 137 (10 * b + q) = _; rw [hj, e])]; rfl
    · rw [if_neg (by omega), if_neg]
      intro z
      have z : m 0 137 (10 * b + q) = m 0 137 j := z
      rw [hj] at z
      exact e (zUp_one hu hb hq hp z)
  · intro b' hb' hne
    unfold zbm
    rw [cn]
    refine List.map_congr_left fun q hq => ?_
    have hq := List.mem_range.mp hq
    have h1 := h10 b hb
    have h2 := h10 b' hb'
    rw [zTell_mg h, if_neg (by omega)]
theorem zset_map {α : Type} (F G : Nat → α) : ∀ (k a i : Nat) (x : α), i < k → (∀ q, F q = if q = a + i then x else G q) → (List.range' a k).map F = ((List.range' a k).map G).set i x := by
  intro k
  induction k with
  | zero => intro a i x h; exact absurd h (Nat.not_lt_zero _)
  | succ k ih =>
    intro a i x h hF
    rw [List.range'_succ, List.map_cons, List.map_cons]
    cases i with
    | zero =>
      rw [List.set_cons_zero, hF, if_pos (Nat.add_zero a).symm]
      congr 1
      exact List.map_congr_left fun q hq => by
        have := List.mem_range'_1.mp hq
        rw [hF, if_neg (by omega)]
    | succ i =>
      rw [List.set_cons_succ, hF, if_neg (by omega), ih (a + 1) i x (by omega) (fun q => by rw [hF, show a + 1 + i = a + (i + 1) by omega])]
theorem zTell_vw {m m' : zMm} {j f g n s : Nat} {t : List Nat} (h : zTell m m' j f (40 * s + n - 1) g t) (hn : 1 ≤ n ∧ n ≤ m 0 144 s) (h40 : ∀ s, s < 3 → m 0 144 s ≤ 40) (hs : s < 3) : zvw m' s = (zvw m s).set (n - 1) (m 0 145 (40 * s + n - 1), g) ∧ ∀ s', s' < 3 → s' ≠ s → zvw m' s' = zvw m s' := by
  have pl : ∀ s, m' 0 144 s = m 0 144 s := fun s => h.1 _ _ _ (by decide)
  have vw : ∀ q, m' 0 145 q = m 0 145 q := fun q => h.1 _ _ _ (by decide)
  obtain ⟨-, -, a3, -⟩ := h
  constructor
  · rw [zvw_r, zvw_r, pl]
    refine zset_map _ _ _ _ _ _ (by omega) fun q => ?_
    show (m' 0 145 q, m' 0 146 q) = _
    rw [vw, a3]
    by_cases e : q = 40 * s + n - 1
    · rw [if_pos e, if_pos (by omega), e]
    · rw [if_neg e, if_neg (by omega)]
  · intro s' hs' hne
    rw [zvw_r, zvw_r, pl]
    refine List.map_congr_left fun q hq => ?_
    have := List.mem_range'_1.mp hq
    have h1 := h40 s hs
    have h2 := h40 s' hs'
    show (m' 0 145 q, m' 0 146 q) = (m 0 145 q, m 0 146 q)
    rw [vw, a3, if_neg (by omega)]
theorem zvw_at {m : zMm} {s n : Nat} (hn : 1 ≤ n ∧ n ≤ m 0 144 s) : (zvw m s)[n - 1]? = some (m 0 145 (40 * s + n - 1), m 0 146 (40 * s + n - 1)) := by
  unfold zvw
  rw [List.getElem?_map, List.getElem?_range (by omega)]
  show some (m 0 145 (40 * s + (n - 1)), m 0 146 (40 * s + (n - 1))) = _
  rw [show 40 * s + (n - 1) = 40 * s + n - 1 by omega]
/-- messages, view, reply -/
abbrev zSg : Type := List zMg × List (Nat × Nat) × List Nat
/-- STORE or FETCH of place n -/
def zsF1 (k sg mk it : Nat) (wr : Bool) (n : Nat) (σ : zSg) : zSg := match σ.2.1[n - 1]? with
  | none => σ
  | some (v, told) => match zfind σ.1 v with
    | none => σ
    | some g =>
      if k = 10 then (zsetf σ.1 v (zsf sg g.2.1 mk), σ.2.1.set (n - 1) (v, zsf sg g.2.1 mk), σ.2.2 ++ zft n (zsf sg g.2.1 mk))
      else (zsetf σ.1 v (if it = 2 ∧ wr = true then g.2.1 ||| 1 else g.2.1), σ.2.1.set (n - 1) (v, if it = 0 then g.2.1 else told), σ.2.2 ++ (if it = 0 then zft n g.2.1 else if it = 1 then zfu n v else zfx n g.2.2))
/-- over the places for which P holds -/
def zov {α : Type} (P : zHd) (step : Nat → α → α) : Nat → Nat → α → α
  | 0, _, σ => σ
  | f + 1, n, σ => zov P step f (n + 1) (if P n then step n σ else σ)
def zsgm (m : zMm) : zSg := (zbm m (zsb m), zvw m (m 520 132 0), zrt m)
/-- the numbers of every view rise, and are below the mailbox's next -/
def zVu (m : zMm) : Prop := ∀ s, s < 3 → m 0 142 s < 4 → (∀ p q, p < q → q < m 0 144 s → m 0 145 (40 * s + p) < m 0 145 (40 * s + q)) ∧ ∀ p, p < m 0 144 s → m 0 145 (40 * s + p) < m 0 135 (m 0 142 s)
/-- at most as many places are not gone as there are messages -/
theorem zmpc_few {m : zMm} {P : zHd} (hv : zVB m) (hu : zUp m) (hw : zVu m) : ∀ f n lo, 1 ≤ n → n + f ≤ znp m + 1 → (∀ q j, n ≤ q → q ≤ znp m → zmt m q = some j → lo ≤ j) → lo ≤ 10 * zsb m + m 0 136 (zsb m) → zmpc m P f n ≤ 10 * zsb m + m 0 136 (zsb m) - lo := by
  intro f
  induction f with
  | zero => intro n lo _ _ _ _; exact Nat.zero_le _
  | succ f ih =>
    intro n lo h1 h2 h3 h4
    unfold zmpc
    cases q : zmn m P n with
    | false =>
      rw [if_neg (by decide), Nat.zero_add]
      exact ih (n + 1) lo (by omega) (by omega) (fun q j hq => h3 q j (by omega)) h4
    | true =>
      rw [if_pos rfl]
      have : ∃ j, zmt m n = some j := by
        unfold zmn at q
        cases z : zmt m n with
        | none => rw [z] at q; cases q
        | some j => exact ⟨j, rfl⟩
      obtain ⟨j, hj⟩ := this
      have lj := zmt_lt hv hj
      have g := h3 n j (Nat.le_refl _) (by omega) hj
      have := ih (n + 1) (j + 1) (by omega) (by omega) (fun q j' hq hq2 hj' => by
        have lj' := zmt_lt hv hj'
        have r := (hw (m 520 132 0) hv.1 hv.2.1).1 (n - 1) (q - 1) (by omega) (by show q - 1 < znp m; omega)
        have e1 : zvn m n = m 0 145 (40 * (m 520 132 0) + (n - 1)) := by unfold zvn; rw [show 40 * (m 520 132 0) + n - 1 = 40 * (m 520 132 0) + (n - 1) by omega]
        have e2 : zvn m q = m 0 145 (40 * (m 520 132 0) + (q - 1)) := by unfold zvn; rw [show 40 * (m 520 132 0) + q - 1 = 40 * (m 520 132 0) + (q - 1) by omega]
        rw [← e1, ← e2, ← lj.2.2.2, ← lj'.2.2.2] at r
        refine Nat.lt_of_not_le fun z => ?_
        rcases Nat.lt_or_ge j' j with y | y
        · have := (hu (zsb m) hv.2.1).1 (j' - 10 * zsb m) (j - 10 * zsb m) (by omega) (by omega)
          rw [show 10 * zsb m + (j' - 10 * zsb m) = j' by omega, show 10 * zsb m + (j - 10 * zsb m) = j by omega] at this
          omega
        · have : j' = j := by omega
          rw [this] at r; omega) (by omega)
      omega
theorem zmp_few {m : zMm} {P : zHd} (hv : zVB m) (hu : zUp m) (hw : zVu m) : zmp m P ≤ 10 := by
  have := zmpc_few (P := P) hv hu hw (znp m) 1 (10 * zsb m) (by decide) (by omega) (fun q j h1 h2 h3 => (zmt_lt hv h3).2.1) (by omega)
  have := hv.2.2.1
  unfold zmp
  omega
