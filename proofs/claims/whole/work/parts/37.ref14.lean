def btw (a b : Int32) (v : Int32) : Bool := decide (a ≤ v ∧ v ≤ b)
def gmA (g : Gm) (w : Int32) : Int32 :=
  if btw 10 (nI (9 + qn g)) w = true then nI (qk g (w.toNatClampNeg - 10)) else if w = 7 then nI (cN (isSy g) 8) else if w = 8 then nI (cN (Ps g) (nx g)) else
  if btw 0 6 w = true then (if w = 0 then nI (qw g) else if w = 1 then nI (qh g) else if w = 2 then nI (qn g) else if w = 3 then nI (qb g) else if w = 4 then nI (qo g) else if w = 5 then qs g else ql g) else -1
def plV (g : Gm) (v : Int32) : Nat := if 0 ≤ v then v.toNatClampNeg else sq g
def isPc (g : Gm) (m : Nat) (v : Int32) : Bool := btw (-1) (if m < qn g then nI (sq g - 1) else -1) v
def stX (g : Gm) (a b c : Int32) (s : Nat) : Nat := ixo g (fun m => if m = 0 then plV g a else if m = 1 then plV g b else plV g c) s
def sSet (s : Sg) (a b c e : Int32) : Sg × Int32 := match sG s with
  | none => (s, -3)
  | some g => if btw 0 1 e && isPc g 0 a && isPc g 1 b && isPc g 2 c then (if Ps g (stX g a b c e.toNatClampNeg) then (sPl s (plB (stX g a b c e.toNatClampNeg)), nI (stX g a b c e.toNatClampNeg)) else (s, -5)) else (s, -2)
def sLoad (s : Sg) (i : Int32) : Sg × Int32 := match sG s with
  | none => (s, -3)
  | some g => if btw 0 (nI (nx g) - 1) i && Ps g i.toNatClampNeg then (sPl s (plB i.toNatClampNeg), nI (i.toNatClampNeg % 2)) else (s, -5)
def sGame (s : Sg) (w : Int32) : Int32 := match sG s with
  | none => -3
  | some g => gmA g w
theorem btw_in {v : Int32} {b : Nat} (hb : b < 2 ^ 31) (h : btw 0 (nI b - 1) v = true) : ∃ j, j < b ∧ v = nI j := by
  unfold btw at h
  simp only [decide_eq_true_eq] at h
  obtain ⟨h1, h2⟩ := h
  rcases pk_ix v hb with q | q | ⟨j, q1, q2⟩
  · exact absurd h1 (Int32.not_le.mpr q)
  · cases b with
    | zero =>
      exfalso
      have := Int32.le_trans h1 h2
      revert this; decide
    | succ b =>
      rw [nI_pred] at h2
      exact absurd (Int32.le_trans q h2) (nI_ge (by omega) hb)
  · exact ⟨j, q1, q2⟩
theorem btw_of {j b : Nat} (hj : j < b) (hb : b < 2 ^ 31) : btw 0 (nI b - 1) (nI j) = true := by
  unfold btw
  obtain ⟨c, rfl⟩ : ∃ c, b = c + 1 := ⟨b - 1, by omega⟩
  rw [nI_pred]
  exact decide_eq_true ⟨nI_pos' (by omega), nI_le (by omega) (by omega)⟩
theorem btw_10 {v : Int32} {n : Nat} (hn : n ≤ 3) (h : btw 10 (nI (9 + n)) v = true) : ∃ m, m < n ∧ v = nI (10 + m) := by
  unfold btw at h
  simp only [decide_eq_true_eq] at h
  obtain ⟨h1, h2⟩ := h
  rcases pk_ix v (show 10 + n < 2 ^ 31 by omega) with q | q | ⟨j, q1, q2⟩
  · exact absurd h1 (Int32.not_le.mpr (Int32.lt_of_lt_of_le q (by decide)))
  · exact absurd (Int32.le_trans q h2) (nI_ge (by omega) (by omega))
  · subst q2
    have : 10 ≤ j := (nI_leI (a := 10) (by omega) (by omega)).mp h1
    exact ⟨j - 10, by omega, by rw [show 10 + (j - 10) = j by omega]⟩
theorem isPc_in {g : Gm} (w : qF g) {m : Nat} {v : Int32} (h : isPc g m v = true) : (v = -1 ∧ plV g v = sq g) ∨ ∃ j, m < qn g ∧ j < sq g ∧ v = nI j ∧ plV g v = j := by
  have hsq := w.sq_lt
  by_cases c : v = -1
  · subst c; exact Or.inl ⟨rfl, by unfold plV; rw [if_neg (by decide)]⟩
  · unfold isPc btw at h
    simp only [decide_eq_true_eq] at h
    obtain ⟨h1, h2⟩ := h
    by_cases cm : m < qn g
    · rw [if_pos cm] at h2
      have h0 : 0 ≤ v := by
        rw [Int32.le_iff_toInt_le] at h1 ⊢
        have hne : v.toInt ≠ -1 := fun e => c (Int32.toInt_inj.mp e)
        have e1 : (-1 : Int32).toInt = -1 := rfl
        have e2 : (0 : Int32).toInt = 0 := rfl
        omega
      obtain ⟨j, hj, e⟩ := btw_in (v := v) (b := sq g) (by omega) (by unfold btw; rw [n_lit1, n_sub (by omega)]; exact decide_eq_true ⟨h0, h2⟩)
      refine Or.inr ⟨j, cm, hj, e, ?_⟩
      unfold plV; rw [if_pos h0, e, n_cl]
    · rw [if_neg cm] at h2
      exact absurd (Int32.le_antisymm h2 h1) c
section
variable {E : Wd} {h0 h : Hp} {M : Nat} {A : Nat → Nat → Int32} {f : Nat → Int32} {g : Gm} {d : Nat} {s : Sg}
theorem k_game {Q : Int32 → Hp → Prop} {x : Int32} (R : Rf E h0 h M A f) (S : RS A f s) (hq : Q (sGame s x) h) : OkI E YX8_game (d + 4) [.ref M, .int x] h Q := by
  refine rnX8_game ?_
  cases hg : sG s with
  | none =>
    have e7 : f 7 = 0 := by have := S.2.1; rw [hg] at this; exact this
    simp only [vcX8_game_0, R.fs, true_and, e7]
    refine ⟨fun c => absurd trivial c, fun _ => ?_⟩
    rw [sGame, hg] at hq; exact hq
  | some g =>
    have e7 : f 7 = 1 := by have := S.2.1; rw [hg] at this; exact this.1
    have G := S.go hg
    have hga := G.1
    have w := G.2.1
    have hn : qn g ≤ 3 := w.2.2.2.2.2.2.1
    rw [sGame, hg] at hq
    simp only [vcX8_game_0, R.fs, R.gm hga, true_and, e7]
    refine ⟨fun _ => ?_, fun c => absurd c (by decide)⟩
    rw [show (9 : Int32) + nI (qn g) = nI (9 + qn g) from nI_add 9 _]
    refine k_isBetween (bI_c (fun c => ?_) (fun c => ?_))
    · have c' : btw 10 (nI (9 + qn g)) x = false := c
      simp only [gmA, c', Bool.false_eq_true, if_false] at hq
      refine ⟨fun c1 => ?_, fun c1 => ⟨fun c2 => ?_, fun c2 => ?_⟩⟩
      · rw [if_pos c1] at hq
        exact ⟨⟨_, R.obj⟩, k_countSymmetries R hga w hq⟩
      · rw [if_neg c1, if_pos c2] at hq
        exact ⟨⟨_, R.obj⟩, k_countPossible R G hq⟩
      · rw [if_neg c1, if_neg c2] at hq
        refine k_isBetween (bI_c (fun c3 => ?_) (fun c3 => ?_))
        · rw [if_neg (by rw [show btw 0 6 x = false from c3]; decide)] at hq; exact hq
        · rw [if_pos (show btw 0 6 x = true from c3)] at hq
          obtain ⟨j, hj, e⟩ := btw_in (b := 7) (by omega) c3
          subst e
          simp only [R.fs, true_and]
          refine ⟨R.oR 2 _ rfl rfl (vpn (n := 10) (by omega)), ?_⟩
          rw [R.gR 2 _ rfl, n_cl]
          have hj' : j = 0 ∨ j = 1 ∨ j = 2 ∨ j = 3 ∨ j = 4 ∨ j = 5 ∨ j = 6 := by omega
          obtain ⟨a0, a1, a2, a3, a4, a5, a6, -⟩ := hga
          rcases hj' with rfl | rfl | rfl | rfl | rfl | rfl | rfl
          · rw [a0]; exact hq
          · rw [a1]; exact hq
          · rw [a2]; exact hq
          · rw [a3]; exact hq
          · rw [a4]; exact hq
          · rw [a5]; exact hq
          · rw [a6]; exact hq
    · obtain ⟨m, hm, e⟩ := btw_10 hn c
      have hq : Q (gmA g x) h := hq
      unfold gmA at hq
      rw [if_pos (show btw 10 (nI (9 + qn g)) x = true from c)] at hq
      subst e
      simp only [R.fs, true_and]
      rw [show (7 : Int32) + nI (10 + m) - 10 = nI (7 + m) by rw [show (7 : Int32) = nI 7 from rfl, show (10 : Int32) = nI 10 from rfl, nI_add, n_sub (by omega), show 7 + (10 + m) - 10 = 7 + m by omega]]
      refine ⟨R.oR 2 _ rfl rfl (vpn (n := 10) (by omega)), ?_⟩
      rw [R.gR 2 _ rfl, n_cl, hga.2.2.2.2.2.2.2 m (by omega)]
      rw [n_cl, show 10 + m - 10 = m by omega] at hq
      exact hq
theorem k_isPlace {Q : Int32 → Hp → Prop} {m : Nat} {v : Int32} (R : Rf E h0 h M A f) (hg : rA (A 2) g) (w : qF g) (hm : m < 3) (hq : Q (bI (isPc g m v)) h) : OkI E YX8_isPlace (d + 1) [.ref M, .int (nI m), .int v] h Q := by
  refine rnX8_isPlace ?_
  have hn : qn g ≤ 3 := w.2.2.2.2.2.2.1
  have hsq := w.sq_lt
  simp only [vcX8_isPlace_0, R.fs, R.gm hg, true_and, nI_leI (show qn g < 2 ^ 31 by omega) (show m < 2 ^ 31 by omega)]
  refine ⟨fun c => k_isBetween ⟨bI_m _, ?_⟩, fun c => k_squares R hg (k_isBetween ⟨bI_m _, ?_⟩)⟩
  · rw [isPc, if_neg (by omega)] at hq; exact hq
  · rw [isPc, if_pos (by omega)] at hq
    rw [n_lit1, n_sub (by omega)]; exact hq
theorem k_load {Q : Int32 → Hp → Prop} {x : Int32} (R : Rf E h0 h M A f) (S : RS A f s)
    (hq : ∀ h' A' f', Rf E h0 h' M A' f' → RS A' f' (sLoad s x).1 → Q (sLoad s x).2 h') : OkI E YX8_load (d + 1) [.ref M, .int x] h Q := by
  refine rnX8_load ?_
  cases hg : sG s with
  | none =>
    have e7 : f 7 = 0 := by have := S.2.1; rw [hg] at this; exact this
    simp only [vcX8_load_0, R.fs, true_and, e7]
    refine ⟨fun c => absurd trivial c, fun _ => ?_⟩
    have := hq h A f R
    simp only [sLoad, hg] at this; exact this S
  | some g =>
    have e7 : f 7 = 1 := by have := S.2.1; rw [hg] at this; exact this.1
    obtain ⟨hga, w, v, hf, T, Tc⟩ := S.go hg
    have hnx := nx_le w
    simp only [sLoad, hg] at hq
    simp only [vcX8_load_0, R.fs, true_and, e7, hf]
    refine ⟨fun _ => ?_, fun c => absurd c (by decide)⟩
    refine k_isBetween (bI_c (fun c => ?_) (fun c => ?_))
    · rw [show btw 0 (nI (nx g) - 1) x = false from c] at hq
      exact hq h A f R S
    · obtain ⟨j, hj, e⟩ := btw_in (b := nx g) (by omega) c
      rw [show btw 0 (nI (nx g) - 1) x = true from c] at hq
      subst e
      rw [n_cl, Bool.true_and] at hq
      simp only [R.fs, true_and, R.tb (show j < 4394 by omega), (T j hj).1]
      refine bI_c' (fun c2 => ?_) (fun c2 => ?_)
      · rw [c2] at hq
        exact hq h A f R S
      · rw [c2] at hq
        refine k_begin R S hg c2 (fun h' A' f' R' S' => ?_)
        refine ⟨by decide, ?_⟩
        rw [n_lit2, pk_rem (by omega) (by omega) (by omega)]
        exact hq h' A' f' R' S'
theorem k_setup {Q : Int32 → Hp → Prop} {a b c e : Int32} (R : Rf E h0 h M A f) (S : RS A f s)
    (hq : ∀ h' A' f', Rf E h0 h' M A' f' → RS A' f' (sSet s a b c e).1 → Q (sSet s a b c e).2 h') : OkI E YX8_setup (d + 2) [.ref M, .int a, .int b, .int c, .int e] h Q := by
  refine rnX8_setup ?_
  cases hg : sG s with
  | none =>
    have e7 : f 7 = 0 := by have := S.2.1; rw [hg] at this; exact this
    simp only [vcX8_setup_0, R.fs, true_and, e7]
    refine ⟨fun c => absurd trivial c, fun _ => ?_⟩
    have := hq h A f R
    simp only [sSet, hg] at this; exact this S
  | some g =>
    have e7 : f 7 = 1 := by have := S.2.1; rw [hg] at this; exact this.1
    obtain ⟨hga, w, v, hf, T, Tc⟩ := S.go hg
    have hnx := nx_le w
    have hsq := w.sq_lt
    simp only [sSet, hg] at hq
    simp only [vcX8_setup_0, R.fs, true_and, e7]
    refine ⟨fun _ => ?_, fun c => absurd c (by decide)⟩
    have bad : (btw 0 1 e && isPc g 0 a && isPc g 1 b && isPc g 2 c) = false → Q (-2) h := fun q => by
      rw [q] at hq
      exact hq h A f R S
    refine k_isBetween (bI_c (fun c1 => ?_) (fun c1 => ?_))
    · exact bad (by rw [show btw 0 1 e = false from c1]; rfl)
    have c1' : btw 0 1 e = true := c1
    refine ⟨⟨_, R.obj⟩, k_isPlace (m := 0) R hga w (by omega) ?_⟩
    refine bI_c (fun c2 => ?_) (fun c2 => ?_)
    · exact bad (by rw [c2, Bool.and_false]; rfl)
    refine ⟨⟨_, R.obj⟩, k_isPlace (m := 1) R hga w (by omega) ?_⟩
    refine bI_c (fun c3 => ?_) (fun c3 => ?_)
    · exact bad (by rw [c3, Bool.and_false]; rfl)
    refine ⟨⟨_, R.obj⟩, k_isPlace (m := 2) R hga w (by omega) ?_⟩
    refine bI_c' (fun c4 => ?_) (fun c4 => ?_)
    · exact bad (by rw [c4, Bool.and_false])
    rw [c1', c2, c3, c4] at hq
    obtain ⟨t, ht, et⟩ := btw_in (v := e) (b := 2) (by omega) c1
    subst et
    have hcl : (nI t).toNatClampNeg = t := n_cl
    simp only [Bool.and_self, if_true, hcl] at hq
    have pl : ∀ m x, isPc g m x = true → (0 ≤ x → x = nI (plV g x)) ∧ (¬ 0 ≤ x → sq g = plV g x) ∧ plV g x ≤ sq g := fun m x hx => by
      rcases isPc_in w hx with ⟨e1, e2⟩ | ⟨j, _, hj, e1, e2⟩
      · refine ⟨fun q => by rw [e1] at q; exact absurd q (by decide), fun _ => e2.symm, by omega⟩
      · refine ⟨fun q => by rw [e2]; exact e1, fun q => absurd (by rw [e1]; exact nI_pos' (by omega)) q, by omega⟩
    obtain ⟨pa1, pa2, pa3⟩ := pl 0 a c2
    obtain ⟨pb1, pb2, pb3⟩ := pl 1 b c3
    obtain ⟨pc1, pc2, pc3⟩ := pl 2 c c4
    -- the three squares written
    have L103 : ∀ h3 A3 x, Rf E h0 h3 M A3 f → FI A A3 → A3 47 0 = nI (plV g a) → A3 47 1 = nI (plV g b) → x = nI (plV g c) → vcX8_setup_103 E (d + 1) M (nI t) (M + 47) (nI 2) x h3 Q := fun h3 A3 x R3 F3 p0 p1 ex => by
      simp only [vcX8_setup_103]
      refine ⟨R3.oR 47 _ rfl rfl (vpd rfl), fun h4 e4 => ?_⟩
      subst e4
      have R4 := R3.st (j := 47) (nI 2) x rfl
      rw [n_cl (n := 2)] at R4
      have F4 : FI A (up2 A3 47 2 x) := fun j i o1 o2 => by simp only [up2, o1, false_and, if_false]; exact F3 j i o1 o2
      simp only [R4.fs, true_and]
      have hp : ∀ m, m < 3 → up2 A3 47 2 x 47 m = nI ((fun m => if m = 0 then plV g a else if m = 1 then plV g b else plV g c) m) := fun m hm => by
        have : m = 0 ∨ m = 1 ∨ m = 2 := by omega
        rcases this with rfl | rfl | rfl
        · simp [up2, p0]
        · simp [up2, p1]
        · simp [up2, ex]
      refine k_indexOf (j := 47) R4 (F4.g2 hga) (Or.inr (Or.inl rfl)) hp ?_
      have hX : ixo g (fun m => if m = 0 then plV g a else if m = 1 then plV g b else plV g c) t = stX g a b c t := rfl
      rw [hX]
      have hlt : stX g a b c t < nx g := (plc_ixo (by omega) (fun m hm => by
        have : m = 0 ∨ m = 1 ∨ m = 2 := by omega
        rcases this with rfl | rfl | rfl
        · exact pa3
        · exact pb3
        · exact pc3)).2.1
      have S4 := S.of F4.fs
      obtain ⟨-, -, -, -, T4, -⟩ := S4.go hg
      simp only [R4.fs, true_and, R4.tb (show stX g a b c t < 4394 by omega), (T4 _ hlt).1]
      refine bI_c' (fun c5 => ?_) (fun c5 => ?_)
      · rw [c5] at hq
        exact hq _ _ _ R4 S4
      · rw [c5] at hq
        exact k_begin R4 S4 hg c5 (fun h' A' f' R' S' => hq h' A' f' R' S')
    have L85 : ∀ h3 A3 x, Rf E h0 h3 M A3 f → FI A A3 → A3 47 0 = nI (plV g a) → x = nI (plV g b) → vcX8_setup_85 E (d + 1) M c (nI t) (M + 47) (nI 1) x h3 Q := fun h3 A3 x R3 F3 p0 ex => by
      simp only [vcX8_setup_85]
      refine ⟨R3.oR 47 _ rfl rfl (vpd rfl), fun h4 e4 => ?_⟩
      subst e4
      have R4 := R3.st (j := 47) (nI 1) x rfl
      rw [n_cl (n := 1)] at R4
      have F4 : FI A (up2 A3 47 1 x) := fun j i o1 o2 => by simp only [up2, o1, false_and, if_false]; exact F3 j i o1 o2
      simp only [R4.fs, true_and]
      refine ⟨fun q => L103 _ _ _ R4 F4 (by simp [up2, p0]) (by simp [up2, ex]) (pc1 q), fun q => k_squares R4 (F4.g2 hga) (L103 _ _ _ R4 F4 (by simp [up2, p0]) (by simp [up2, ex]) (by rw [pc2 q]))⟩
    have L67 : ∀ x, x = nI (plV g a) → vcX8_setup_67 E (d + 1) M b c (nI t) (M + 47) (nI 0) x h Q := fun x ex => by
      simp only [vcX8_setup_67]
      refine ⟨R.oR 47 _ rfl rfl (vpd rfl), fun h4 e4 => ?_⟩
      subst e4
      have R4 := R.st (j := 47) (nI 0) x rfl
      rw [n_cl (n := 0)] at R4
      have F4 : FI A (up2 A 47 0 x) := fun j i o1 o2 => by simp only [up2, o1, false_and, if_false]
      simp only [R4.fs, true_and]
      refine ⟨fun q => L85 _ _ _ R4 F4 (by simp [up2, ex]) (pb1 q), fun q => k_squares R4 (F4.g2 hga) (L85 _ _ _ R4 F4 (by simp [up2, ex]) (by rw [pb2 q]))⟩
    simp only [R.fs, true_and]
    exact ⟨fun q => L67 _ (pa1 q), fun q => k_squares R hga (L67 _ (by rw [pa2 q]))⟩
end
