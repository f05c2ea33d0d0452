section
variable {L : Nat} {xs : Nat → Int32} {m : zMm} {O : zOt} {W : List (Nat × Nat)} {p s len : Nat} {c : Nat → Nat}
/-- further keys at depth d, behind M -/
def zSL (L : Nat) (xs : Nat → Int32) (m : zMm) (O : zOt) (W : List (Nat × Nat)) (p s len : Nat) (c : Nat → Nat) (f : Nat) : Prop := ∀ (d a i : Nat) (bd wr : Bool) (M : Nat) (h : zH), zFx h → zWv h m O s W → zRr h p s len a bd wr → d ≤ 9 → i ≤ 48 → (bd = true ∨ i ≤ a) → (bd = false → c a = 32 → 2 * (49 - (a + 1)) + 2 ≤ f) → ∃ h' M' a' bd' wr', zEv (zPr L xs) (6 + 2 * (10 - (nI d).toNatClampNeg) + 1) 35 9 [.val (.ref p), .val (.int (nI d)), .val (.long (nL M)), .second, .val (.int (nI i))] [] (zMH h m) = some (.inl (some (.long (nL M'))), zMH h' m) ∧ a ≤ a' ∧ zRr h' p s len a' bd' wr' ∧ zRf p (a' - a) (4 * (a' - a)) h h' ∧ (bd = true → bd' = true) ∧ (bd = false → if c a = 32 then (match zks c (zEc O W c) f true d (a + 1) with
  | some (e, w, P) => bd' = false ∧ a' = e ∧ M' = M &&& zMk (fun n => zPg O W n && P n) W.length ∧ wr' = (wr || w)
  | none => bd' = true ∨ zdm (c a') = true) else bd' = false ∧ a' = a ∧ M' = M ∧ wr' = wr)
theorem zSK_0 (hs : s < 3) : zSK L xs m O W p s len c 0 := by
  intro d a bd wr h hx hW r hd hf
  have b1 : 154 ≤ p := by have := r.1.1.1; omega
  have bf := r.2.2.2.2.2.1
  cases hbd : bd with
  | false => have := hf hbd; omega
  | true =>
    rw [hbd] at bf r
    have f1 := zRf_sI p h (g := 254) (nI 1) (Or.inr (Or.inl rfl))
    rw [en_36]
    exact ⟨_, 0, a, true, wr, p36_0_10 hx hs r.1.2.1 bf (by decide) b1 (by decide), Nat.le_refl a, zRr_bd r, zRf_w f1 (Nat.zero_le _) (Nat.zero_le _), fun _ => rfl, fun z => by cases z⟩
theorem zSL_s (hs : s < 3) (hl : zLm m s len c) (f : Nat) (H : ∀ g, f = g + 1 → zSK L xs m O W p s len c g ∧ zSL L xs m O W p s len c g) : zSL L xs m O W p s len c f := by
  intro d a i bd wr M h hx hW r hd hi hb hf
  have b1 : 154 ≤ p := by have := r.1.1.1; omega
  have h48 := r.1.2.2
  have hc := zLm_ch hl r.1.2.2.2
  have bf := r.2.2.2.2.2.1
  have z0 : ∀ x y : Nat, zRf p 0 0 h h → zRf p x y h h := fun x y f => zRf_w f (Nat.zero_le _) (Nat.zero_le _)
  by_cases i8 : i < 48
  · cases hbd : bd with
    | true =>
      rw [hbd] at bf r
      exact ⟨h, M, a, true, wr, p35_9_3 hx hs i8 r.1.2.1 bf (by decide) (by omega) b1 (by decide), Nat.le_refl a, r, z0 _ _ (zRf_rf p h), fun _ => rfl, fun z => by cases z⟩
    | false =>
      rw [hbd] at bf r
      have hf := hf hbd
      have ia : i ≤ a := by
        rcases hb with z | z
        · rw [hbd] at z; cases z
        · exact z
      obtain ⟨h1, e1, r1, f1⟩ := s40 (L := L) (xs := xs) hx hs hl r (x := 32) (by decide) (by decide)
      have hx1 := zFx_rf hx f1
      have W1 := zWv_rf hx hs r.1.2.1 f1 hW
      by_cases q : c a = 32
      · rw [if_pos q] at r1
        rw [decide_eq_true q] at e1
        have hf := hf q
        obtain ⟨g, hg⟩ : ∃ g, f = g + 1 := ⟨f - 1, by omega⟩
        obtain ⟨HK, HL⟩ := H g hg
        have zs : zks c (zEc O W c) f true d (a + 1) = match zks c (zEc O W c) g false d (a + 1) with
          | none => none
          | some (e, w, k) => if c e = 32 then (match zks c (zEc O W c) g true d (e + 1) with
            | none => none
            | some (e2, w2, k2) => some (e2, w || w2, fun n => k n && k2 n)) else some (e, w, k) := by rw [hg]; rfl
        obtain ⟨h2, M2, a2, bd2, wr2, e2, la2, r2, f2, z2⟩ := HK d (a + 1) false wr h1 hx1 W1 r1 hd (fun _ => by omega)
        have hx2 := zFx_rf hx1 f2
        have W2 := zWv_rf hx1 hs r1.1.2.1 f2 W1
        have st := p35_9_1 (L := L) (xs := xs) (m := m) (s := s) (p := p) (q := d) (x2 := M) (x4 := i) hx hs i8 r.1.2.1 bf rfl (y1 := true) e1 hx1 rfl r1.1.2.1 e2 hx2 (by omega) b1
        have z2 := z2.2 rfl
        have fuel : bd2 = false → c a2 = 32 → 2 * (49 - (a2 + 1)) + 2 ≤ g := fun y1 y2 => by
          cases hz : zks c (zEc O W c) g false d (a + 1) with
          | none =>
            rw [hz] at z2
            rcases z2 with w | w
            · rw [y1] at w; cases w
            · rw [y2] at w; cases w
          | some y =>
            obtain ⟨e, w, k⟩ := y
            rw [hz] at z2
            have ge := zks_ge hc _ _ _ _ _ _ _ hz
            have := z2.2.1
            omega
        obtain ⟨h3, M3, a3, bd3, wr3, e3, la3, r3, f3, z3⟩ := HL d a2 (i + 1) bd2 wr2 (M &&& M2) h2 hx2 W2 r2 hd (by omega) (Or.inr (by omega)) fuel
        have fz := zRf_w (zRf_tr (zRf_tr f1 f2) f3) (show 0 + (a2 - (a + 1)) + (a3 - a2) ≤ a3 - a by omega) (show 0 + 4 * (a2 - (a + 1)) + 4 * (a3 - a2) ≤ 4 * (a3 - a) by omega)
        refine ⟨h3, M3, a3, bd3, wr3, st.trans e3, by omega, r3, fz, (fun z => by cases z), fun _ => ?_⟩
        rw [if_pos q, zs]
        cases hz : zks c (zEc O W c) g false d (a + 1) with
        | none =>
          rw [hz] at z2
          cases hb2 : bd2 with
          | true => exact Or.inl (z3.1 hb2)
          | false =>
            rcases z2 with w | w
            · rw [hb2] at w; cases w
            · have z3 := z3.2 hb2
              rw [if_neg (fun y => by rw [y] at w; cases w)] at z3
              exact Or.inr (by rw [z3.2.1]; exact w)
        | some y =>
          obtain ⟨e, w, k⟩ := y
          rw [hz] at z2
          obtain ⟨y1, y2, y3, y4⟩ := z2
          have z3 := z3.2 y1
          dsimp only
          rw [← y2]
          by_cases u : c a2 = 32
          · rw [if_pos u] at z3 ⊢
            cases hz2 : zks c (zEc O W c) g true d (a2 + 1) with
            | none =>
              rw [hz2] at z3
              exact z3
            | some y' =>
              obtain ⟨e', w', k'⟩ := y'
              rw [hz2] at z3
              obtain ⟨x1, x2, x3, x4⟩ := z3
              refine ⟨x1, x2, ?_, by rw [x4, y4, Bool.or_assoc]⟩
              rw [x3, y3, Nat.and_assoc, zMk_and]
              congr 1
              exact zMk_cg _ fun n _ _ => by dsimp only; cases zPg O W n <;> rfl
          · rw [if_neg u] at z3 ⊢
            obtain ⟨x1, x2, x3, x4⟩ := z3
            exact ⟨x1, x2, by rw [x3, y3], by rw [x4, y4]⟩
      · rw [if_neg q] at r1
        rw [decide_eq_false q] at e1
        refine ⟨h1, M, a, false, wr, p35_9_2 hx hs i8 r.1.2.1 bf rfl (y1 := false) e1 hx1 rfl (by omega) b1, Nat.le_refl a, r1, zRf_w f1 (Nat.zero_le _) (Nat.zero_le _), (fun z => by cases z), fun _ => ?_⟩
        rw [if_neg q]
        exact ⟨rfl, rfl, rfl, rfl⟩
  · refine ⟨h, M, a, bd, wr, p35_9_4 hx hs (by omega) (by omega), Nat.le_refl a, r, z0 _ _ (zRf_rf p h), fun z => z, fun z => ?_⟩
    have ia : i ≤ a := by
      rcases hb with y | y
      · rw [z] at y; cases y
      · exact y
    rw [if_neg (by rw [hc.1 a (by omega)]; decide)]
    exact ⟨z, rfl, rfl, rfl⟩
theorem zSS_s (hs : s < 3) (hl : zLm m s len c) (f g : Nat) (hg : f = g + 1 ∨ f = 0) (HK : zSK L xs m O W p s len c g) (HL : zSL L xs m O W p s len c g) : zSS L xs m O W p s len c f := by
  intro d a bd wr h hx hW r hd hf
  have b1 : 154 ≤ p := by have := r.1.1.1; omega
  have hc := zLm_ch hl r.1.2.2.2
  obtain ⟨h2, M2, a2, bd2, wr2, e2, la2, r2, f2, z2⟩ := HK d a bd wr h hx hW r hd (fun z => by have := hf z; omega)
  have hx2 := zFx_rf hx f2
  have W2 := zWv_rf hx hs r.1.2.1 f2 hW
  rw [en_35]
  have st := p35_0_1 (L := L) (xs := xs) (m := m) (s := s) (p := p) (q := d) hx hs r.1.2.1 e2 hx2
  have fuel : bd2 = false → c a2 = 32 → 2 * (49 - (a2 + 1)) + 2 ≤ g := fun y1 y2 => by
    cases hbd : bd with
    | true => rw [z2.1 hbd] at y1; cases y1
    | false =>
      have hf := hf hbd
      have z2 := z2.2 hbd
      cases hz : zks c (zEc O W c) g false d a with
      | none =>
        rw [hz] at z2
        rcases z2 with w | w
        · rw [y1] at w; cases w
        · rw [y2] at w; cases w
      | some y =>
        obtain ⟨e, w, k⟩ := y
        rw [hz] at z2
        have ge := zks_ge hc _ _ _ _ _ _ _ hz
        have := z2.2.1
        omega
  obtain ⟨h3, M3, a3, bd3, wr3, e3, la3, r3, f3, z3⟩ := HL d a2 0 bd2 wr2 M2 h2 hx2 W2 r2 hd (by decide) (Or.inr (Nat.zero_le _)) fuel
  have fz := zRf_w (zRf_tr f2 f3) (show (a2 - a) + (a3 - a2) ≤ a3 - a by omega) (show 4 * (a2 - a) + 4 * (a3 - a2) ≤ 4 * (a3 - a) by omega)
  refine ⟨h3, M3, a3, bd3, wr3, st.trans e3, by omega, r3, fz, fun z => z3.1 (z2.1 z), fun z => ?_⟩
  have hfz := hf z
  have fg : f = g + 1 := by omega
  have z2 := z2.2 z
  have zs : zks c (zEc O W c) f true d a = match zks c (zEc O W c) g false d a with
    | none => none
    | some (e, w, k) => if c e = 32 then (match zks c (zEc O W c) g true d (e + 1) with
      | none => none
      | some (e2, w2, k2) => some (e2, w || w2, fun n => k n && k2 n)) else some (e, w, k) := by rw [fg]; rfl
  rw [zs]
  cases hz : zks c (zEc O W c) g false d a with
  | none =>
    rw [hz] at z2
    cases hb2 : bd2 with
    | true => exact Or.inl (z3.1 hb2)
    | false =>
      rcases z2 with w | w
      · rw [hb2] at w; cases w
      · have z3 := z3.2 hb2
        rw [if_neg (fun y => by rw [y] at w; cases w)] at z3
        exact Or.inr (by rw [z3.2.1]; exact w)
  | some y =>
    obtain ⟨e, w, k⟩ := y
    rw [hz] at z2
    obtain ⟨y1, y2, y3, y4⟩ := z2
    have z3 := z3.2 y1
    dsimp only
    rw [← y2]
    by_cases u : c a2 = 32
    · rw [if_pos u] at z3 ⊢
      cases hz2 : zks c (zEc O W c) g true d (a2 + 1) with
      | none =>
        rw [hz2] at z3
        exact z3
      | some y' =>
        obtain ⟨e', w', k'⟩ := y'
        rw [hz2] at z3
        obtain ⟨x1, x2, x3, x4⟩ := z3
        refine ⟨x1, x2, ?_, by rw [x4, y4, Bool.or_assoc]⟩
        rw [x3, y3, zMk_and]
        exact zMk_cg _ fun n _ _ => by dsimp only; cases zPg O W n <;> rfl
    · rw [if_neg u] at z3 ⊢
      obtain ⟨x1, x2, x3, x4⟩ := z3
      exact ⟨x1, x2, by rw [x3, y3], by rw [x4, y4]⟩
theorem zSall (hs : s < 3) (hl : zLm m s len c) : ∀ f, zSK L xs m O W p s len c f ∧ zSL L xs m O W p s len c f ∧ zSS L xs m O W p s len c f
  | 0 => by
    have k0 : zSK L xs m O W p s len c 0 := zSK_0 hs
    have l0 : zSL L xs m O W p s len c 0 := zSL_s hs hl 0 fun g hg => by omega
    exact ⟨k0, l0, zSS_s hs hl 0 0 (Or.inr rfl) k0 l0⟩
  | f + 1 => by
    obtain ⟨kf, lf, sf⟩ := zSall hs hl f
    exact ⟨zSK_s hs hl kf sf, zSL_s hs hl (f + 1) fun g hg => by
      have : g = f := by omega
      rw [this]
      exact ⟨kf, lf⟩, zSS_s hs hl (f + 1) f (Or.inl rfl) kf lf⟩
end
