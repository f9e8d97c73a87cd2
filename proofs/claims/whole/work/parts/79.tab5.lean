section
variable {g : Gm}
theorem ms_can (w : qF g) {x : Nat} (hx : x < nx g) : ms g (plc g (can g x)) = ms g (plc g x) := by
  obtain ⟨s, h1, h2, h3⟩ := can_mem (g := g) x
  obtain ⟨-, -, e3⟩ := plc_im w (isSy_sq h2) hx
  rw [h3, e3]
  unfold ms
  refine cN_cg (fun m _ => decide_eq_decide.mpr ?_)
  have := trn_lt' w (isSy_sq h2) (plc_le hx m)
  show sq g ≤ trn g s (plc g x m) ↔ _
  omega
theorem ms_mv (w : qF g) {x : Nat} {v : Nat × Nat × Option Nat × Nat} (hP : Ps g x = true) (hv : v ∈ mvs g x) : ms g (plc g v.2.2.2) = ms g (plc g x) + (if v.2.2.1.isSome = true then 1 else 0) := by
  obtain ⟨hx, hC, hck⟩ := (Ps_iff w).mp hP
  obtain ⟨m, t, hm, ht, hme, hPm, hgo, hr, hk, e⟩ := mvs_mem hv
  have hn : qn g ≤ 3 := w.2.2.2.2.2.2.1
  obtain ⟨-, hq, -⟩ := gone_pos w (by omega) hC hck hm ht hme hPm hgo hr
  obtain ⟨-, -, e3⟩ := plc_ixo (s := 1 - x % 2) (by omega) (fun i (_ : i < 3) => gone_le (plc_le hx) (m := m) ht i)
  rw [e]
  show ms g (plc g (ixo g (gone g (plc g x) m t) (1 - x % 2))) = _ + (if (mat g (plc g x) t).isSome = true then 1 else 0)
  have e4 : ms g (plc g (ixo g (gone g (plc g x) m t) (1 - x % 2))) = ms g (gone g (plc g x) m t) := by
    unfold ms
    exact cN_cg (fun i hi => by rw [e3 i (by omega)])
  rw [e4]
  unfold ms gone
  cases hmt : mat g (plc g x) t with
  | none =>
    simp only [Option.isSome_none, Bool.false_eq_true, if_false, Nat.add_zero]
    refine cN_cg (fun i hi => decide_eq_decide.mpr ?_)
    unfold uP
    by_cases c : i = m
    · rw [if_pos c, c]; omega
    · rw [if_neg c]
  | some q =>
    obtain ⟨q1, q2, q3, -⟩ := hq q hmt
    simp only [Option.isSome_some, if_true]
    refine cN_add (y := q) (decide_eq_false (by omega)) ?_ (fun i hi => decide_eq_decide.mpr ?_) q1
    · have e9 : (if q = q then sq g else if q = m then t else plc g x q) = sq g := if_pos rfl
      exact decide_eq_true (Nat.le_of_eq e9.symm)
    · unfold uP
      rw [if_neg hi]
      by_cases c : i = m
      · rw [if_pos c, c]; omega
      · rw [if_neg c]
theorem Ld_5 {y : Nat} (he : (mvs g y).isEmpty = false) : ∀ n, (Ld g n y).1 ≠ 0 → ∃ k, k < n ∧ (Ld g n y).2.1 = nI (k + 1)
  | 0, h => by rw [Ld, he, Bool.and_false, if_neg (by decide)] at h; exact absurd rfl h
  | n + 1, h => by
    rw [Ld] at h ⊢
    by_cases c1 : (Ps g y && !(Ld g n y).2.2) = true
    · rw [if_pos c1] at h ⊢
      by_cases c2 : ((suc g y).any fun y => (Ld g n y).1 == -1) = true
      · rw [if_pos c2]; exact ⟨n, by omega, rfl⟩
      · rw [if_neg c2] at h ⊢
        by_cases c3 : ((suc g y).all fun y => (Ld g n y).1 == 1) = true
        · rw [if_pos c3]; exact ⟨n, by omega, rfl⟩
        · rw [if_neg c3] at h; exact absurd rfl h
    · rw [if_neg c1] at h ⊢
      obtain ⟨k, h1, h2⟩ := Ld_5 he n h
      exact ⟨k, by omega, h2⟩
theorem Lf_end {y : Nat} (hP : Ps g y = true) (h : (Lf g y).1 ≠ 0) : ((Lf g y).2.1 == 0) = (mvs g y).isEmpty := by
  cases he : (mvs g y).isEmpty with
  | true =>
    unfold Lf at h ⊢
    obtain ⟨e, -⟩ := endd hP he 4394
    rw [e] at h ⊢
    rw [Ld0_5, if_neg h]; rfl
  | false =>
    obtain ⟨k, h1, h2⟩ := Ld_5 he 4394 h
    show ((Ld g 4394 y).2.1 == 0) = false
    rw [h2]
    have := nI_ne0 (show 0 < k + 1 by omega) (show k + 1 < 2 ^ 31 by omega)
    simpa using this
theorem all1 (v : qV g) {x : Nat} (he : (mvs g x).isEmpty = false) : ∀ n, (Ld g n x).1 = -1 → ∀ y, y ∈ suc g x → (Ld g n y).1 = 1
  | 0, h => by rw [Ld, he, Bool.and_false, if_neg (by decide)] at h; exact absurd (show (0 : Int32) = -1 from h) (by decide)
  | n + 1, h => by
    have keep : (∀ y, y ∈ suc g x → (Ld g n y).1 = 1) → ∀ y, y ∈ suc g x → (Ld g (n + 1) y).1 = 1 := fun q y hy => by
      have q1 := q y hy
      rcases Ld_inv v n y with ⟨z, -⟩ | ⟨-, z, -⟩
      · rw [q1] at z; exact absurd z (by decide)
      · rw [Ld_keep z]; exact q1
    rw [Ld] at h
    by_cases c1 : (Ps g x && !(Ld g n x).2.2) = true
    · rw [if_pos c1] at h
      by_cases c2 : ((suc g x).any fun y => (Ld g n y).1 == -1) = true
      · rw [if_pos c2] at h; exact absurd (show (1 : Int32) = -1 from h) (by decide)
      · rw [if_neg c2] at h
        by_cases c3 : ((suc g x).all fun y => (Ld g n y).1 == 1) = true
        · exact keep (fun y hy => by have := List.all_eq_true.mp c3 y hy; simpa using this)
        · rw [if_neg c3] at h; exact absurd (show (0 : Int32) = -1 from h) (by decide)
    · rw [if_neg c1] at h
      exact keep (all1 v he n h)
def cvB (g : Gm) (n x : Nat) : Bool := if (Lf g x).1 == 1 then (mvs g x).any (fun v => (now g v || (Cv g n v.2.2.2).2) && (Lf g v.2.2.2).1 == -1) else (mvs g x).all (fun v => now g v || (Cv g n v.2.2.2).2)
theorem Cv_suc (n x : Nat) : Cv g (n + 1) x = if (Ps g x && (Lf g x).2.2 && !(Cv g n x).2) = true then (if cvB g n x = true then (nI (n + 1), true) else Cv g n x) else Cv g n x := by rw [Cv]; rfl
theorem Cv_step {n x : Nat} (h1 : Ps g x = true) (h2 : (Lf g x).2.2 = true) (h3 : (Cv g n x).2 = false) : Cv g (n + 1) x = if cvB g n x = true then (nI (n + 1), true) else Cv g n x := by
  rw [Cv_suc, h1, h2, h3, if_pos (show (true && true && !false) = true from rfl)]
theorem Cv_keep {n x : Nat} (h : (Cv g n x).2 = true) : Cv g (n + 1) x = Cv g n x := by
  rw [Cv, h, Bool.not_true, Bool.and_false, if_neg (by decide)]
theorem Cv_und {n x : Nat} (h : (Lf g x).2.2 = false) : Cv g (n + 1) x = Cv g n x := by
  rw [Cv, h, Bool.and_false, Bool.false_and, if_neg (by decide)]
theorem Cv_neg {x : Nat} : ∀ n, (Cv g n x).2 = false → (Cv g n x).1 = -5
  | 0, h => by
    rw [Cv] at h ⊢
    split
    · rename_i c; rw [if_pos c] at h; cases h
    · rfl
  | n + 1, h => by
    have h' : (Cv g n x).2 = false := by
      rw [Bool.eq_false_iff]; intro q; rw [Cv_mono n x q] at h; cases h
    have ih := Cv_neg n h'
    rw [Cv_suc] at h ⊢
    by_cases c1 : (Ps g x && (Lf g x).2.2 && !(Cv g n x).2) = true
    · rw [if_pos c1] at h ⊢
      by_cases c2 : cvB g n x = true
      · rw [if_pos c2] at h; exact Bool.noConfusion (show true = false from h)
      · rw [if_neg c2]; exact ih
    · rw [if_neg c1]; exact ih
theorem Cv_pos {x : Nat} (hP : Ps g x = true) (hl : (Lf g x).1 ≠ 0) : ∀ n, n < 2 ^ 30 → (Cv g n x).2 = true → 0 ≤ (Cv g n x).1
  | 0, _, h => by
    rw [Cv] at h ⊢
    by_cases c : (Ps g x && (mvs g x).isEmpty) = true
    · rw [if_pos c]
      simp only [Bool.and_eq_true] at c
      unfold Lf at hl
      rw [(endd hP c.2 4394).1] at hl
      show 0 ≤ (Ld g 0 x).2.1
      rw [Ld0_5, if_neg hl]; decide
    · rw [if_neg c] at h; cases h
  | n + 1, hn, h => by
    cases h' : (Cv g n x).2 with
    | true => rw [Cv_keep h']; exact Cv_pos hP hl n (by omega) h'
    | false =>
      rw [Cv_suc] at h ⊢
      by_cases c1 : (Ps g x && (Lf g x).2.2 && !(Cv g n x).2) = true
      · rw [if_pos c1] at h ⊢
        by_cases c2 : cvB g n x = true
        · rw [if_pos c2]; exact nI_pos' (by omega)
        · rw [if_neg c2, h'] at h; cases h
      · rw [if_neg c1, h'] at h; cases h
def Ck (g : Gm) (n x : Nat) : Int32 × Bool := if Ps g x = true ∧ can g x = x then Cv g n x else Cv g 0 x
def Cm (g : Gm) (n i x : Nat) : Int32 × Bool := if x < i then Ck g (n + 1) x else Ck g n x
def TW (A : Nat → Nat → Int32) (g : Gm) (S : Nat → Int32 × Bool) : Prop := ∀ x, x < nx g → A 5 x = (S x).1
theorem Cm_or {n i z : Nat} (hP : Ps g z = true) (hc : can g z = z) : Cm g n i z = Cv g n z ∨ Cm g n i z = Cv g (n + 1) z := by
  have e : ∀ n, Ck g n z = Cv g n z := fun n => by unfold Ck; rw [if_pos ⟨hP, hc⟩]
  unfold Cm
  rw [e, e]
  by_cases q : z < i
  · rw [if_pos q]; exact Or.inr rfl
  · rw [if_neg q]; exact Or.inl rfl
theorem num_eq (v : qV g) {n z : Nat} (hn : n < 2 ^ 29) (hP : Ps g z = true) (hl : (Lf g z).1 ≠ 0) {S : Int32 × Bool} (hS : S = Cv g n z ∨ S = Cv g (n + 1) z) : (S.1 < 0 → (Cv g n z).2 = false) ∧ (nI (n + 1) ≤ S.1 → (Cv g n z).2 = false) ∧ (¬ S.1 < 0 → ¬ nI (n + 1) ≤ S.1 → (Cv g n z).2 = true) := by
  have h0 := cbf_eq v (n := n) (y := z) (by omega) hS
  have h1 : S.2 = true → 0 ≤ S.1 := fun q => by
    rcases hS with rfl | rfl
    · exact Cv_pos hP hl n (by omega) q
    · exact Cv_pos hP hl (n + 1) (by omega) q
  have h2 : S.2 = false → S.1 = -5 := fun q => by
    rcases hS with rfl | rfl
    · exact Cv_neg n q
    · exact Cv_neg (n + 1) q
  refine ⟨fun q => ?_, fun q => ?_, fun q q2 => ?_⟩
  · rw [← h0]
    cases hb : S.2 with
    | false => rfl
    | true => exact absurd q (Int32.not_lt.mpr (h1 hb))
  · rw [← h0, decide_eq_false (fun z => z q), Bool.and_false]
  · rw [← h0]
    cases hb : S.2 with
    | false => rw [h2 hb] at q; exact absurd (by decide) q
    | true => rw [decide_eq_true q2]; rfl
def vO (g : Gm) (x k : Nat) : Nat × Nat × Option Nat × Nat := ((mvs g x)[k]?).getD (0, 0, none, 0)
theorem vO_in {x k : Nat} (hk : k < (mvs g x).length) : vO g x k ∈ mvs g x ∧ (vO g x k).2.2.2 = yO g x k := by
  have e := List.getElem?_eq_getElem hk
  have e2 : vO g x k = (mvs g x)[k] := by unfold vO; rw [e]; rfl
  exact ⟨by rw [e2]; exact List.getElem_mem hk, by rw [e2, yO_get e]⟩
theorem mv_any {x : Nat} {p : Nat × Nat × Option Nat × Nat → Bool} : (mvs g x).any p = (List.range (mvs g x).length).any (fun k => p (vO g x k)) := by
  rw [Bool.eq_iff_iff, List.any_eq_true, List.any_eq_true]
  constructor
  · rintro ⟨v, h1, h2⟩
    obtain ⟨k, hk, e⟩ := List.mem_iff_getElem.mp h1
    have e2 : vO g x k = v := by unfold vO; rw [List.getElem?_eq_getElem hk, e]; rfl
    exact ⟨k, List.mem_range.mpr hk, by rw [e2]; exact h2⟩
  · rintro ⟨k, h1, h2⟩
    exact ⟨_, (vO_in (List.mem_range.mp h1)).1, h2⟩
theorem mv_all {x : Nat} {p : Nat × Nat × Option Nat × Nat → Bool} : (mvs g x).all p = (List.range (mvs g x).length).all (fun k => p (vO g x k)) := by
  have h := mv_any (g := g) (x := x) (p := fun y => !p y)
  rw [List.any_eq_not_all_not, List.any_eq_not_all_not] at h
  simpa using h
def nr (g : Gm) (n x k : Nat) : Bool := decide (ms g (plc g x) < ms g (plc g (yO g x k))) || ((mvs g (yO g x k)).isEmpty || (Cv g n (yO g x k)).2)
theorem nr_eq (w : qF g) {n x k : Nat} (hP : Ps g x = true) (hk : k < (mvs g x).length) (hl : (Lf g (yO g x k)).1 ≠ 0) : nr g n x k = (now g (vO g x k) || (Cv g n (vO g x k).2.2.2).2) := by
  obtain ⟨h1, h2⟩ := vO_in hk
  have h3 := ms_mv w hP h1
  have hy := yO_Ps w hP hk
  unfold nr now
  rw [h2] at h3 ⊢
  rw [Lf_end hy hl, h3, Bool.or_assoc]
  congr 1
  cases (vO g x k).2.2.1 with
  | none => simp
  | some q => simp
end
section
variable {E : Wd} {h : Hp} {t r : Nat} {g : Gm} {A : Nat → Nat → Int32} {a b c : Int32} {d : Nat}
theorem c_isConverted {Q : Int32 → Hp → Prop} {n i x : Nat} (T : Tb E h t r g A a (nI (nx g)) c) (G : Tg A g) (w : qF g) (v : qV g) (bd : bnd g) (V : TV A g (Lk g 4394)) (W : TW A g (Cm g n i)) (hP : Ps g x = true) (hc : can g x = x) (hl : (Lf g x).1 ≠ 0) (he : (mvs g x).isEmpty = false) (hn : n < 2 ^ 29) (hq : Q (bI (cvB g n x)) h) : OkI E YX6_isConverted (d + 3) [.ref t, .int (nI x), .int (nI (n + 1))] h Q := by
  refine rnX6_isConverted (fun K23 k23 => ?_)
  have hnx := nx_le w
  have hx := Ps_lt hP
  have hb := bnd_le bd (show x + 1 ≤ nx g by omega)
  rw [stN_at hP] at hb
  have t6 := T.gt (j := 6) (i := x) (by omega) (by show x < 4395; omega)
  have t6' := T.gt (j := 6) (i := x + 1) (by omega) (by show x + 1 < 4395; omega)
  have a6 := G.2.1 x (by omega)
  have a6' := G.2.1 (x + 1) (by omega)
  rw [stN_at hP] at a6'
  rw [a6] at t6
  rw [a6'] at t6'
  have LkC : ∀ y, y < nx g → Ps g y = true → A 3 (can g y) = (Lf g y).1 := fun y hy hPy => by
    have := (V (can g y) (can_lt w hy)).1
    unfold Lk at this
    rw [if_pos ⟨by rw [Ps_can w hy]; exact hPy, can_can w hy⟩] at this
    rw [this]
    show (Ld g 4394 (can g y)).1 = _
    rw [Ld_can w hy]; rfl
  obtain ⟨won, hwon⟩ : ∃ won : Bool, won = ((Lf g x).1 == 1) := ⟨_, rfl⟩
  have hx3 : A 3 x = (Lf g x).1 := by have := LkC x hx hP; rw [hc] at this; exact this
  have hcase : (won = true ∧ (Lf g x).1 = 1) ∨ (won = false ∧ (Lf g x).1 = -1) := by
    rcases Ld_c v 4394 x with e | e | e
    · right; exact ⟨by rw [hwon]; show ((Ld g 4394 x).1 == 1) = false; rw [e]; rfl, e⟩
    · exact absurd e hl
    · left; exact ⟨by rw [hwon]; show ((Ld g 4394 x).1 == 1) = true; rw [e]; rfl, e⟩
  -- what the loop looks for
  have main : K23 t (nI x) (nI (n + 1)) (bI won) (nI (stN g x)) h := by
    have look : ∀ k, k < (mvs g x).length → (Lf g (yO g x k)).1 ≠ 0 → vcX6_isConverted_112 E (d + 2) K23 t (nI x) (nI (n + 1)) (bI won) (nI (stN g x + k)) (bI (nr g n x k)) h Q → vcX6_isConverted_65 E (d + 2) K23 t (nI x) (nI (n + 1)) (bI won) (nI (stN g x + k)) (nI (can g (yO g x k))) h Q := fun k hk hlk H => by
      have hy := yO_Ps w hP hk
      have hyx := Ps_lt hy
      have hcl := can_lt w hyx
      have hPc : Ps g (can g (yO g x k)) = true := by rw [Ps_can w hyx]; exact hy
      have L84 : nr g n x k = true → vcX6_isConverted_84 E (d + 2) K23 t (nI x) (nI (n + 1)) (bI won) (nI (stN g x + k)) h Q := fun e => by
        rw [e] at H
        exact ⟨fun q => absurd q (by decide), fun _ => ⟨fun q => absurd q (nI_nle (by omega) (by omega)), fun _ => H⟩⟩
      refine ⟨⟨_, T.1⟩, c_captures T G w hx hcl (bI_c' (fun q => ?_) (fun q => L84 ?_))⟩
      · refine ⟨⟨_, T.1⟩, c_isEnd T G w hPc (bI_c (fun q2 => ⟨⟨_, T.1⟩, c_toConversionOf T w hcl ?_⟩) (fun q2 => L84 ?_))⟩
        · rw [W _ hcl]
          obtain ⟨n1, n2, n3⟩ := num_eq v hn hPc (by show (Ld g 4394 (can g _)).1 ≠ 0; rw [Ld_can w hyx]; exact hlk) (Cm_or (n := n) (i := i) hPc (can_can w hyx))
          rw [Cv_can w hyx] at n1 n2 n3
          rw [ms_can w hyx] at q
          rw [emp_can w hy] at q2
          have enr : nr g n x k = (Cv g n (yO g x k)).2 := by unfold nr; rw [q, q2, Bool.false_or, Bool.false_or]
          rw [enr] at H
          refine ⟨fun z => ?_, fun z => ⟨fun z2 => ?_, fun z2 => ?_⟩⟩
          · rw [n1 z] at H; exact H
          · rw [n2 z2] at H; exact H
          · rw [n3 z z2] at H; exact H
        · rw [emp_can w hy] at q2
          unfold nr; rw [q2, Bool.true_or, Bool.or_true]
      · rw [ms_can w hyx] at q
        unfold nr; rw [q, Bool.true_or]
    have step : ∀ k, k < (mvs g x).length → ∀ R : Prop, (won = false → vcX6_isConverted_65 E (d + 2) K23 t (nI x) (nI (n + 1)) (bI won) (nI (stN g x + k)) (nI (can g (yO g x k))) h Q) → (won = true → ((Lf g (yO g x k)).1 < 0 → vcX6_isConverted_65 E (d + 2) K23 t (nI x) (nI (n + 1)) (bI won) (nI (stN g x + k)) (nI (can g (yO g x k))) h Q) ∧ (¬ (Lf g (yO g x k)).1 < 0 → K23 t (nI x) (nI (n + 1)) (bI won) (nI (stN g x + (k + 1))) h)) → K23 t (nI x) (nI (n + 1)) (bI won) (nI (stN g x + k)) h := fun k hk _ H0 H1 => by
      refine k23 _ _ _ _ _ _ ?_
      have hy := yO_Ps w hP hk
      have hyx := Ps_lt hy
      have hcl := can_lt w hyx
      have t7 := T.gt (j := 7) (i := stN g x + k) (by omega) (by show _ < 7200; omega)
      rw [G.2.2 x hP k hk] at t7
      simp only [vcX6_isConverted_23, T.fs, true_and, nI_1, t6', t7, nI_leI (show stN g x + (mvs g x).length < 2 ^ 31 by omega) (show stN g x + k < 2 ^ 31 by omega)]
      refine ⟨fun q => absurd q (by omega), fun _ => c_canonicalOf T w hyx ?_⟩
      rw [(G.1 _ hyx).1, if_pos hy]
      refine bI_c (fun q => H0 q) (fun q => ⟨⟨_, T.1⟩, c_valueOf T w hcl ?_⟩)
      rw [LkC _ hyx hy]
      exact H1 q
    have fin : ∀ b : Bool, b = !won → cvB g n x = b → K23 t (nI x) (nI (n + 1)) (bI won) (nI (stN g x + (mvs g x).length)) h := fun b hb e => by
      refine k23 _ _ _ _ _ _ ?_
      simp only [vcX6_isConverted_23, T.fs, true_and, nI_1, t6']
      rw [e, hb] at hq
      refine ⟨fun _ => bI_c' (fun q => ⟨Or.inr rfl, ?_⟩) (fun q => ⟨Or.inl rfl, ?_⟩), fun q => absurd (Int32.le_refl _) q⟩
      · rw [q] at hq; exact hq
      · rw [q] at hq; exact hq
    rcases hcase with ⟨cw, cl⟩ | ⟨cw, cl⟩
    · -- a won one
      have ecv : cvB g n x = (List.range (mvs g x).length).any (fun k => (now g (vO g x k) || (Cv g n (vO g x k).2.2.2).2) && (Lf g (vO g x k).2.2.2).1 == -1) := by
        unfold cvB; rw [cl, if_pos (by decide), mv_any]
      refine lp_up (K := fun k => (List.range k).any (fun k => (now g (vO g x k) || (Cv g n (vO g x k).2.2.2).2) && (Lf g (vO g x k).2.2.2).1 == -1) = false → K23 t (nI x) (nI (n + 1)) (bI won) (nI (stN g x + k)) h) (mvs g x).length (fun k hk ih hf => ?_) (fun hf => ?_) 0 (Nat.zero_le _) rfl
      · have e1 : ∀ z, (List.range (k + 1)).any (fun k => (now g (vO g x k) || (Cv g n (vO g x k).2.2.2).2) && (Lf g (vO g x k).2.2.2).1 == -1) = z → ((now g (vO g x k) || (Cv g n (vO g x k).2.2.2).2) && (Lf g (yO g x k)).1 == -1) = z := fun z hz => by
          rw [List.range_succ, List.any_append, hf, Bool.false_or] at hz
          rw [← hz, ← (vO_in hk).2]; simp
        refine step k hk True (fun q => by rw [cw] at q; cases q) (fun _ => ⟨fun q => ?_, fun q => ih ?_⟩)
        · have hy1 : (Lf g (yO g x k)).1 = -1 := by
            rcases Ld_c v 4394 (yO g x k) with e | e | e
            · exact e
            · rw [show (Lf g (yO g x k)).1 = 0 from e] at q; exact absurd q (by decide)
            · rw [show (Lf g (yO g x k)).1 = 1 from e] at q; exact absurd q (by decide)
          have hy0 : (Lf g (yO g x k)).1 ≠ 0 := by rw [hy1]; decide
          refine look k hk hy0 ?_
          have en := nr_eq w (n := n) hP hk hy0
          rw [cw]
          cases hnr : nr g n x k with
          | true =>
            refine ⟨fun z => absurd rfl z, fun _ => ⟨Or.inr rfl, ?_⟩⟩
            have : cvB g n x = true := by
              rw [ecv, List.any_eq_true]
              refine ⟨k, List.mem_range.mpr hk, ?_⟩
              rw [← en, hnr, (vO_in hk).2, hy1]; rfl
            rw [this] at hq; exact hq
          | false =>
            refine ⟨fun _ => ?_, fun z => absurd z (by decide)⟩
            have := ih (by rw [List.range_succ, List.any_append, hf, Bool.false_or]; simp [← en, hnr])
            rw [cw] at this
            rw [nI_1, Nat.add_assoc]; exact this
        · rw [List.range_succ, List.any_append, hf, Bool.false_or]
          have : ((Lf g (vO g x k).2.2.2).1 == -1) = false := by
            rw [(vO_in hk).2, Bool.eq_false_iff]
            intro z
            rw [beq_iff_eq] at z
            rw [z] at q
            exact q (by decide)
          simp [this]
      · exact fin false (by rw [cw]; rfl) (by rw [ecv]; exact hf)
    · -- a lost one
      have ecv : cvB g n x = (List.range (mvs g x).length).all (fun k => now g (vO g x k) || (Cv g n (vO g x k).2.2.2).2) := by
        unfold cvB; rw [cl, if_neg (by decide), mv_all]
      have ones := all1 v he 4394 cl
      refine lp_up (K := fun k => (List.range k).all (fun k => now g (vO g x k) || (Cv g n (vO g x k).2.2.2).2) = true → K23 t (nI x) (nI (n + 1)) (bI won) (nI (stN g x + k)) h) (mvs g x).length (fun k hk ih hf => ?_) (fun hf => ?_) 0 (Nat.zero_le _) rfl
      · refine step k hk True (fun _ => ?_) (fun q => by rw [cw] at q; cases q)
        have hy1 : (Lf g (yO g x k)).1 = 1 := ones _ (List.mem_map.mpr ⟨_, (vO_in hk).1, (vO_in hk).2⟩)
        have hy0 : (Lf g (yO g x k)).1 ≠ 0 := by rw [hy1]; decide
        refine look k hk hy0 ?_
        have en := nr_eq w (n := n) hP hk hy0
        rw [cw]
        cases hnr : nr g n x k with
        | true =>
          refine ⟨fun _ => ?_, fun z => absurd z (by decide)⟩
          have := ih (by rw [List.range_succ, List.all_append, hf, Bool.true_and]; simp [← en, hnr])
          rw [cw] at this
          rw [nI_1, Nat.add_assoc]; exact this
        | false =>
          refine ⟨fun z => absurd rfl z, fun _ => ⟨Or.inl rfl, ?_⟩⟩
          have : cvB g n x = false := by
            rw [ecv, Bool.eq_false_iff]
            intro z
            have := List.all_eq_true.mp z k (List.mem_range.mpr hk)
            rw [← en, hnr] at this; cases this
          rw [this] at hq; exact hq
      · exact fin true (by rw [cw]; rfl) (by rw [ecv]; exact hf)
  have tx3 := (T.tt (show x < 4394 by omega)).2.2.1
  rw [hx3] at tx3
  have L14 : ∀ z, z = bI won → vcX6_isConverted_14 E (d + 2) K23 t (nI x) (nI (n + 1)) z h Q := fun z hz => by
    rw [hz]
    simp only [vcX6_isConverted_14, T.fs, true_and, t6]
    exact main
  simp only [vcX6_isConverted_0, T.fs, true_and, tx3]
  rcases hcase with ⟨cw, cl⟩ | ⟨cw, cl⟩
  · rw [cl]
    exact ⟨fun q => absurd q (by decide), fun _ => L14 1 (by rw [cw]; rfl)⟩
  · rw [cl]
    exact ⟨fun _ => L14 0 (by rw [cw]; rfl), fun q => absurd (by decide) q⟩
end
