def grd (g : Gm) : Nat := (2 ^ sq g - 1) &&& (qo g ^^^ 4294967295)
def bs (g : Gm) : Nat := sq g + 1
def wt (g : Gm) (m : Nat) : Nat := if m = 0 then 2 * bs g * bs g else if m = 1 then 2 * bs g else 2
def eom (g : Gm) (s : Nat) : Nat := if s = 0 then qb g else qn g
def krf (r : Nat) (g : Gm) : List Value := [.int (nI (qw g)), .int (nI (qh g)), .int (nI (sq g)), .int (nI (qo g)), .int (nI (grd g)), .int (nI (qn g)), .int (nI (qb g)), .int (qs g), .int (ql g), .int (nI (bs g)), .int (nI (nx g)), .ref (r + 1), .ref (r + 2)]
def Kr (E : Wd) (h : Hp) (r : Nat) (g : Gm) : Prop := h.2 r = some (.inr (4, krf r g)) ∧ (∃ F, h.2 (r + 1) = some (.inl (eA E 0, 3, .inl F)) ∧ ∀ m, m < 3 → F m = if m < qn g then nI (qk g m) else -1) ∧ ∃ F, h.2 (r + 2) = some (.inl (eA E 0, 3, .inl F)) ∧ ∀ m, m < 3 → F m = nI (wt g m)
def isM (g : Gm) (x : Int32) : Bool := !decide (x < 0) && !decide (nI (qn g) ≤ x) && !decide ((3 : Int32) ≤ x)
def kdO (g : Gm) (x : Int32) : Int32 := if isM g x then nI (qk g x.toNatClampNeg) else -1
section
variable {E : Wd} {h : Hp} {r : Nat} {g : Gm} {d : Nat}
theorem Kr.fs (K : Kr E h r g) : isO h r 4 ∧ okI h r 4 0 ∧ vI (hF h r 0) = nI (qw g) ∧ okI h r 4 1 ∧ vI (hF h r 1) = nI (qh g) ∧ okI h r 4 2 ∧ vI (hF h r 2) = nI (sq g) ∧ okI h r 4 3 ∧ vI (hF h r 3) = nI (qo g) ∧ okI h r 4 4 ∧ vI (hF h r 4) = nI (grd g) ∧ okI h r 4 5 ∧ vI (hF h r 5) = nI (qn g) ∧ okI h r 4 6 ∧ vI (hF h r 6) = nI (qb g) ∧ okI h r 4 7 ∧ vI (hF h r 7) = qs g ∧ okI h r 4 8 ∧ vI (hF h r 8) = ql g ∧ okI h r 4 9 ∧ vI (hF h r 9) = nI (bs g) ∧ okI h r 4 10 ∧ vI (hF h r 10) = nI (nx g) ∧ okA h r 4 11 ∧ vA (hF h r 11) = r + 1 ∧ okA h r 4 12 ∧ vA (hF h r 12) = r + 2 := by
  have e := K.1
  refine ⟨⟨_, e⟩, ⟨_, _, e, rfl⟩, (by rw [hF_of e rfl]; rfl), ⟨_, _, e, rfl⟩, (by rw [hF_of e rfl]; rfl), ⟨_, _, e, rfl⟩, (by rw [hF_of e rfl]; rfl), ⟨_, _, e, rfl⟩, (by rw [hF_of e rfl]; rfl), ⟨_, _, e, rfl⟩, (by rw [hF_of e rfl]; rfl), ⟨_, _, e, rfl⟩, (by rw [hF_of e rfl]; rfl), ⟨_, _, e, rfl⟩, (by rw [hF_of e rfl]; rfl), ⟨_, _, e, rfl⟩, (by rw [hF_of e rfl]; rfl), ⟨_, _, e, rfl⟩, (by rw [hF_of e rfl]; rfl), ⟨_, _, e, rfl⟩, (by rw [hF_of e rfl]; rfl), ⟨_, _, e, rfl⟩, (by rw [hF_of e rfl]; rfl), ⟨_, _, e, rfl⟩, (by rw [hF_of e rfl]; rfl), ⟨_, _, e, rfl⟩, (by rw [hF_of e rfl]; rfl)⟩
theorem Kr.of {h' : Hp} (K : Kr E h r g) (e : ∀ j, j < 3 → h'.2 (r + j) = h.2 (r + j)) : Kr E h' r g := by
  obtain ⟨k1, k2, k3⟩ := K
  refine ⟨by rw [← k1]; exact e 0 (by omega), ?_, ?_⟩
  · rw [e 1 (by omega)]; exact k2
  · rw [e 2 (by omega)]; exact k3
theorem Kr.kd (K : Kr E h r g) {m : Nat} (hm : m < 3) : okR E h (r + 1) 0 (nI m) ∧ gA h (r + 1) (nI m) = if m < qn g then nI (qk g m) else -1 := by
  obtain ⟨-, ⟨F, e1, e2⟩, -⟩ := K
  exact ⟨⟨_, _, e1, vpn hm⟩, by rw [gA_of e1, n_cl]; exact e2 m hm⟩
theorem Kr.wt (K : Kr E h r g) {m : Nat} (hm : m < 3) : okR E h (r + 2) 0 (nI m) ∧ gA h (r + 2) (nI m) = nI (wt g m) ∧ okL E h (r + 2) 0 ∧ lA h (r + 2) = 3 := by
  obtain ⟨-, -, ⟨F, e1, e2⟩⟩ := K
  exact ⟨⟨_, _, e1, vpn hm⟩, by rw [gA_of e1, n_cl]; exact e2 m hm, ⟨_, e1⟩, by simp [lA, e1]⟩
theorem isM_nat (w : qF g) {m : Nat} (hm : m < 2 ^ 31) : isM g (nI m) = decide (m < qn g) := by
  have hn : qn g ≤ 3 := w.2.2.2.2.2.2.1
  unfold isM
  rw [decide_eq_false (nI_pos hm)]
  by_cases c : m < qn g
  · rw [decide_eq_false (nI_ge c (by omega)), decide_eq_false (show ¬ (3 : Int32) ≤ nI m from nI_ge (a := m) (b := 3) (by omega) (by omega)), decide_eq_true c]; rfl
  · rw [decide_eq_true (nI_le (by omega) hm), decide_eq_false c]; rfl
theorem isM_in (w : qF g) {x : Int32} (h : isM g x = true) : ∃ m, m < qn g ∧ x = nI m := by
  unfold isM at h
  simp only [Bool.and_eq_true, Bool.not_eq_true', decide_eq_false_iff_not] at h
  have hn : qn g ≤ 3 := w.2.2.2.2.2.2.1
  rcases pk_ix x (show qn g < 2 ^ 31 by omega) with q | q | ⟨j, q1, q2⟩
  · exact absurd q h.1.1
  · exact absurd q h.1.2
  · exact ⟨j, q1, q2⟩
theorem c_isMan {Q : Int32 → Hp → Prop} {x : Int32} (K : Kr E h r g) (hq : Q (bI (isM g x)) h) : OkI E YX4_isMan d [.ref r, .int x] h Q := by
  refine rnX4_isMan ?_
  simp only [vcX4_isMan_0, K.fs, true_and]
  unfold isM at hq
  refine ⟨fun c => ⟨Or.inl rfl, ?_⟩, fun c => ⟨fun c2 => ⟨Or.inl rfl, ?_⟩, fun c2 => ⟨fun c3 => ⟨Or.inl rfl, ?_⟩, fun c3 => ⟨Or.inr rfl, ?_⟩⟩⟩⟩
  · rw [decide_eq_true c] at hq; exact hq
  · rw [decide_eq_true c2, Bool.not_true, Bool.and_false] at hq; exact hq
  · rw [decide_eq_true c3, Bool.not_true, Bool.and_false] at hq; exact hq
  · rw [decide_eq_false c, decide_eq_false c2, decide_eq_false c3] at hq; exact hq
theorem c_kindOf {Q : Int32 → Hp → Prop} {x : Int32} (K : Kr E h r g) (w : qF g) (hq : Q (kdO g x) h) : OkI E YX4_kindOf (d + 1) [.ref r, .int x] h Q := by
  refine rnX4_kindOf ?_
  refine ⟨⟨_, K.1⟩, c_isMan K (bI_c (fun c => ?_) (fun c => ?_))⟩
  · rw [kdO, c] at hq; exact hq
  · obtain ⟨m, hm, e⟩ := isM_in w c
    have hn : qn g ≤ 3 := w.2.2.2.2.2.2.1
    subst e
    rw [kdO, c] at hq
    simp only [K.fs, true_and, K.kd (show m < 3 by omega), hm, if_true]
    rw [n_cl] at hq; exact hq
theorem c_sideOf {Q : Int32 → Hp → Prop} {m : Nat} (K : Kr E h r g) (w : qF g) (hm : m < 2 ^ 31) (hq : Q (nI (if m < qb g then 0 else 1)) h) : OkI E YX4_sideOf d [.ref r, .int (nI m)] h Q := by
  refine rnX4_sideOf ?_
  have hb : qb g < 3 := by have := w.2.2.2.2.2.2; omega
  simp only [vcX4_sideOf_0, K.fs, true_and, nI_leI (show qb g < 2 ^ 31 by omega) hm]
  refine ⟨fun c => ?_, fun c => ?_⟩
  · rw [if_neg (by omega)] at hq; exact hq
  · rw [if_pos (by omega)] at hq; exact hq
theorem c_firstMan {Q : Int32 → Hp → Prop} {s : Nat} (K : Kr E h r g) (hs : s < 2 ^ 31) (hq : Q (nI (roy g s)) h) : OkI E YX4_firstMan d [.ref r, .int (nI s)] h Q := by
  refine rnX4_firstMan ?_
  simp only [vcX4_firstMan_0, K.fs, true_and, (ks hs).1]
  unfold roy at hq
  refine ⟨fun c => ?_, fun c => ?_⟩
  · rw [if_neg c] at hq; exact hq
  · rw [if_pos c] at hq; exact hq
theorem c_endOfMen {Q : Int32 → Hp → Prop} {s : Nat} (K : Kr E h r g) (hs : s < 2 ^ 31) (hq : Q (nI (eom g s)) h) : OkI E YX4_endOfMen d [.ref r, .int (nI s)] h Q := by
  refine rnX4_endOfMen ?_
  simp only [vcX4_endOfMen_0, K.fs, true_and, (ks hs).1]
  unfold eom at hq
  refine ⟨fun c => ?_, fun c => ?_⟩
  · rw [if_neg c] at hq; exact hq
  · rw [if_pos c] at hq; exact hq
theorem c_canTell {Q : Int32 → Hp → Prop} {m : Nat} {v : Int32} (K : Kr E h r g) (w : qF g) (hm : m < 3) (hq : Q (bI (isPc g m v)) h) : OkI E YX4_canTell (d + 1) [.ref r, .int (nI m), .int v] h Q := by
  refine rnX4_canTell ?_
  have hsq := w.sq_lt
  refine ⟨fun c => ⟨Or.inr rfl, ?_⟩, fun c => ⟨⟨_, K.1⟩, c_isMan K ?_⟩⟩
  · have : isPc g m v = true := by
      subst c
      unfold isPc btw
      refine decide_eq_true ⟨by decide, ?_⟩
      split
      · exact Int32.le_trans (by decide) (nI_pos' (by omega))
      · decide
    rw [this] at hq; exact hq
  · rw [isM_nat w (by omega)]
    refine bI_c (fun c2 => ⟨Or.inl rfl, ?_⟩) (fun c2 => ?_)
    · have c2 : ¬ m < qn g := by simpa using c2
      have : isPc g m v = false := by
        unfold isPc btw
        rw [if_neg c2]
        exact decide_eq_false (fun q => c (Int32.le_antisymm q.2 q.1))
      rw [this] at hq; exact hq
    · have c2 : m < qn g := by simpa using c2
      simp only [K.fs, true_and]
      refine ⟨fun c3 => ⟨Or.inl rfl, ?_⟩, fun c3 => ⟨fun c4 => ⟨Or.inl rfl, ?_⟩, fun c4 => ⟨Or.inr rfl, ?_⟩⟩⟩
      · have : isPc g m v = false := by
          refine Bool.eq_false_iff.mpr (fun q => ?_)
          rcases isPc_in w q with ⟨e, -⟩ | ⟨j, -, hj, e, -⟩
          · exact c e
          · rw [e] at c3; exact nI_pos (by omega) c3
        rw [this] at hq; exact hq
      · have : isPc g m v = false := by
          refine Bool.eq_false_iff.mpr (fun q => ?_)
          rcases isPc_in w q with ⟨e, -⟩ | ⟨j, -, hj, e, -⟩
          · exact c e
          · rw [e] at c4; exact nI_ge hj (by omega) c4
        rw [this] at hq; exact hq
      · obtain ⟨j, hj, e⟩ : ∃ j, j < sq g ∧ v = nI j := by
          rcases pk_ix v (show sq g < 2 ^ 31 by omega) with q | q | q
          · exact absurd q c3
          · exact absurd q c4
          · exact q
        have : isPc g m v = true := by
          unfold isPc btw
          rw [if_pos c2, e]
          exact decide_eq_true ⟨Int32.le_trans (by decide) (nI_pos' (by omega)), nI_le (by omega) (by omega)⟩
        rw [this] at hq; exact hq
theorem c_weighed {Q : Int32 → Hp → Prop} {m : Nat} {v : Int32} (K : Kr E h r g) (hm : m < 3) (hq : Q (nI (wt g m) * (if 0 ≤ v then v else nI (sq g))) h) : OkI E YX4_weighed d [.ref r, .int (nI m), .int v] h Q := by
  refine rnX4_weighed ?_
  simp only [vcX4_weighed_0, K.fs, true_and, K.wt hm]
  refine ⟨fun c => absurd c (nI_pos (by omega)), fun _ => ⟨fun _ => ⟨fun c => ?_, fun c => ?_⟩, fun c => absurd (nI_lt (a := m) (b := 3) hm (by omega)) c⟩⟩
  · rw [if_pos c] at hq; exact hq
  · rw [if_neg c] at hq; exact hq
theorem c_indexOf {Q : Int32 → Hp → Prop} {s : Nat} {a b c : Int32} {P : Nat → Nat} (K : Kr E h r g) (ha : (if 0 ≤ a then a else nI (sq g)) = nI (P 0)) (hb : (if 0 ≤ b then b else nI (sq g)) = nI (P 1)) (hc : (if 0 ≤ c then c else nI (sq g)) = nI (P 2)) (hq : Q (nI (ixo g P s)) h) : OkI E YX4_indexOf (d + 1) [.ref r, .int a, .int b, .int c, .int (nI s)] h Q := by
  refine rnX4_indexOf ?_
  refine ⟨⟨_, K.1⟩, c_weighed (m := 0) K (by omega) ⟨⟨_, K.1⟩, c_weighed (m := 1) K (by omega) ⟨⟨_, K.1⟩, c_weighed (m := 2) K (by omega) ?_⟩⟩⟩
  rw [ha, hb, hc, pk_mul, pk_mul, pk_mul, nI_add, nI_add, nI_add]
  have e : wt g 0 * P 0 + wt g 1 * P 1 + wt g 2 * P 2 + s = ixo g P s := by
    show 2 * bs g * bs g * P 0 + 2 * bs g * P 1 + 2 * P 2 + s = ((P 0 * bs g + P 1) * bs g + P 2) * 2 + s
    have e1 : 2 * bs g * bs g * P 0 = P 0 * bs g * bs g * 2 := by simp only [Nat.mul_comm, Nat.mul_left_comm, Nat.mul_assoc]
    have e2 : 2 * bs g * P 1 = P 1 * bs g * 2 := by simp only [Nat.mul_comm, Nat.mul_left_comm]
    rw [Nat.add_mul, Nat.add_mul, Nat.add_mul, e1, e2]
    omega
  rw [e]; exact hq
theorem c_squareOf {Q : Int32 → Hp → Prop} {x m : Nat} (K : Kr E h r g) (w : qF g) (hx : x < nx g) (hm : m < 3) (hq : Q (nI (plc g x m)) h) : OkI E YX4_squareOf d [.ref r, .int (nI x), .int (nI m)] h Q := by
  refine rnX4_squareOf ?_
  have hnx := nx_le w
  have hsq := w.sq_lt
  have hbs : bs g ≤ 13 ∧ 1 ≤ bs g := by unfold bs; omega
  have hwt : 1 ≤ wt g m ∧ wt g m ≤ 338 := by
    have h1 : bs g * bs g ≤ 13 * 13 := Nat.mul_le_mul hbs.1 hbs.1
    have h2 : 1 * 1 ≤ bs g * bs g := Nat.mul_le_mul hbs.2 hbs.2
    unfold wt
    rw [Nat.mul_assoc]
    split
    · omega
    · split <;> omega
  simp only [vcX4_squareOf_0, K.fs, true_and, K.wt hm]
  refine ⟨fun c => absurd c (nI_pos (by omega)), fun _ => ⟨fun _ => ⟨fun c => absurd c (nI_nle (by omega) (by omega)), fun _ => ⟨fun c => absurd c (nI_nle (by omega) (by omega)), fun _ => ⟨nI_ne0 (by omega) (by omega), nI_ne0 (by omega) (by omega), ?_⟩⟩⟩, fun c => absurd (nI_lt (a := m) (b := 3) hm (by omega)) c⟩⟩
  rw [pk_div (by omega) (by omega) (by omega), pk_rem (Nat.lt_of_le_of_lt (Nat.div_le_self _ _) (by omega)) (by omega) (by omega)]
  have e : x / wt g m % bs g = plc g x m := by
    have hb : sq g + 1 = bs g := rfl
    have : m = 0 ∨ m = 1 ∨ m = 2 := by omega
    rcases this with rfl | rfl | rfl
    · have := plc_le hx 0
      have e1 : plc g x 0 = x / 2 / bs g / bs g := rfl
      show x / (2 * bs g * bs g) % bs g = plc g x 0
      rw [← Nat.div_div_eq_div_mul, ← Nat.div_div_eq_div_mul, ← e1, Nat.mod_eq_of_lt]
      unfold bs; omega
    · show x / (2 * bs g) % bs g = x / 2 / bs g % bs g
      rw [← Nat.div_div_eq_div_mul]
    · rfl
  rw [e]; exact hq
end
