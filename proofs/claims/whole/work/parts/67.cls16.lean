def rpt (g : Gm) (x : Nat) (l : List Nat) (k : Nat) (n : Nat) : Bool := (List.range n).any (fun j => imI g x (l.getD j 0) == imI g x (l.getD k 0))
theorem rpt_succ (g : Gm) (x : Nat) (l : List Nat) (k n : Nat) : rpt g x l k (n + 1) = (rpt g x l k n || imI g x (l.getD n 0) == imI g x (l.getD k 0)) := by
  unfold rpt
  rw [List.range_succ, List.any_append]
  simp
def mnL (g : Gm) (x : Nat) (l : List Nat) : Nat → Nat
  | 0 => x
  | k + 1 => min (imI g x (l.getD k 0)) (mnL g x l k)
theorem getD_some {l : List Nat} {k : Nat} (hk : k < l.length) : l[k]? = some (l.getD k 0) := by
  rw [List.getD_eq_getElem?_getD, List.getElem?_eq_getElem hk]; rfl
theorem syL_succ (g : Gm) (n : Nat) : syL g (n + 1) = syL g n ++ (if isSy g n = true then [n] else []) := by
  unfold syL
  rw [List.range_succ, List.filter_append]
  congr 1
  by_cases h : isSy g n = true
  · rw [if_pos h, List.filter_cons_of_pos h]; rfl
  · rw [if_neg h, List.filter_cons_of_neg h]; rfl
theorem syL_len (g : Gm) (n : Nat) : (syL g n).length ≤ n := by
  have := List.length_filter_le (isSy g) (List.range n)
  rw [List.length_range] at this
  exact this
section
variable {E : Wd} {h hb : Hp} {y r : Nat} {g : Gm} {d : Nat} {l : List Nat}
theorem Kq.lt (K : Kq E h y r g l) (w : qF g) {x k : Nat} (hx : x < nx g) (hk : k < l.length) : imI g x (l.getD k 0) < nx g := by
  obtain ⟨-, -, ⟨F, -, e⟩, -⟩ := K
  exact imI_lt w hx (e k _ (getD_some hk)).2.1
theorem Kq.of {h' : Hp} (K : Kq E h y r g l) (e : ∀ j, j < 3 → h'.2 (r + j) = h.2 (r + j)) (e2 : ∀ j, j < 2 → h'.2 (y + j) = h.2 (y + j)) : Kq E h' y r g l := by
  obtain ⟨k1, k2, k3, k4⟩ := K
  exact ⟨k1.of e, by rw [← k2]; exact e2 0 (by omega), by rw [e2 1 (by omega)]; exact k3, k4⟩
theorem c_leastImage {Q : Int32 → Hp → Prop} {x : Nat} (K : Kq E h y r g l) (w : qF g) (hx : x < nx g) (hq : Q (nI (mnL g x l l.length)) h) : OkI E YX5_leastImage (d + 2) [.ref y, .int (nI x)] h Q := by
  refine rnX5_leastImage (fun K4 k4 => ?_)
  have hnx := nx_le w
  have h8 := K.2.2.2
  have lt : ∀ k, k ≤ l.length → mnL g x l k < nx g := by
    intro k
    induction k with
    | zero => intro _; exact hx
    | succ k ih =>
      intro hk
      rw [mnL]
      exact Nat.lt_of_le_of_lt (Nat.min_le_right _ _) (ih (by omega))
  refine lp_up (K := fun k => K4 y (nI x) (nI (mnL g x l k)) (nI k) h) l.length (fun k hk ih => ?_) ?_ 0 (Nat.zero_le _)
  · refine k4 _ _ _ _ _ ?_
    simp only [vcX5_leastImage_4, K.fs, true_and, nI_leI (show l.length < 2 ^ 31 by omega) (show k < 2 ^ 31 by omega)]
    refine ⟨fun q => absurd q (by omega), fun _ => c_imageOf K w hx (getD_some hk) ?_⟩
    have := K.lt w hx hk
    have := lt k (by omega)
    rw [nI_min (by omega) (by omega), nI_1]
    rw [mnL] at ih
    exact ih
  · refine k4 _ _ _ _ _ ?_
    simp only [vcX5_leastImage_4, K.fs, true_and]
    exact ⟨fun _ => hq, fun q => absurd (nI_le (Nat.le_refl _) (by omega)) q⟩
theorem c_isRepeated {Q : Int32 → Hp → Prop} {x k : Nat} (K : Kq E h y r g l) (w : qF g) (hx : x < nx g) (hk : k < l.length) (hq : Q (bI (rpt g x l k k)) h) : OkI E YX5_isRepeated (d + 2) [.ref y, .int (nI x), .int (nI k)] h Q := by
  refine rnX5_isRepeated (fun K10 k10 => ?_)
  have hnx := nx_le w
  have h8 := K.2.2.2
  have hm := K.lt w hx hk
  have hy : isO h y 5 := ⟨_, K.2.1⟩
  refine ⟨hy, c_imageOf K w hx (getD_some hk) ?_⟩
  have stop : ∀ j n, j ≤ n → rpt g x l k j = true → rpt g x l k n = true := by
    intro j n hn hj
    unfold rpt at hj ⊢
    obtain ⟨i, hi, e⟩ := List.any_eq_true.mp hj
    exact List.any_eq_true.mpr ⟨i, List.mem_range.mpr (by have := List.mem_range.mp hi; omega), e⟩
  refine lp_up (K := fun j => rpt g x l k j = false → K10 y (nI x) (nI k) (nI (imI g x (l.getD k 0))) (nI j) h) k (fun j hj ih hf => ?_) (fun hf => ?_) 0 (Nat.zero_le _) rfl
  · refine k10 _ _ _ _ _ _ ?_
    rw [vcX5_isRepeated_10, nI_leI (by omega) (by omega)]
    refine ⟨fun q => absurd q (by omega), fun _ => ⟨hy, c_imageOf K w hx (getD_some (by omega)) ?_⟩⟩
    have hj' := K.lt w hx (show j < l.length by omega)
    rw [nI_eq (by omega) (by omega), nI_1]
    refine ⟨fun q => ih ?_, fun q => ⟨Or.inr rfl, ?_⟩⟩
    · rw [rpt_succ, hf, Bool.false_or]; simpa using q
    · rw [stop (j + 1) k (by omega) (by rw [rpt_succ, q]; simp)] at hq; exact hq
  · refine k10 _ _ _ _ _ _ ?_
    rw [vcX5_isRepeated_10]
    rw [hf] at hq
    exact ⟨fun _ => ⟨Or.inl rfl, hq⟩, fun q => absurd (nI_le (Nat.le_refl _) (by omega)) q⟩
theorem c_differentImages {Q : Int32 → Hp → Prop} {x : Nat} (K : Kq E h y r g l) (w : qF g) (hx : x < nx g) (hq : Q (nI (cN (fun k => !rpt g x l k k) l.length)) h) : OkI E YX5_differentImages (d + 3) [.ref y, .int (nI x)] h Q := by
  refine rnX5_differentImages (fun K4 k4 => ?_)
  have h8 := K.2.2.2
  refine lp_up (K := fun k => K4 y (nI x) (nI (cN (fun k => !rpt g x l k k) k)) (nI k) h) l.length (fun k hk ih => ?_) ?_ 0 (Nat.zero_le _)
  · refine k4 _ _ _ _ _ ?_
    simp only [vcX5_differentImages_4, K.fs, true_and, nI_leI (show l.length < 2 ^ 31 by omega) (show k < 2 ^ 31 by omega)]
    refine ⟨fun q => absurd q (by omega), fun _ => c_isRepeated K w hx hk ?_⟩
    rw [← nI_1, cN] at ih
    refine bI_c' (fun q => ?_) (fun q => ?_)
    · rw [if_pos (by rw [q]; rfl)] at ih
      rw [n_lit1, nI_add]; exact ih
    · rw [if_neg (by rw [q]; decide)] at ih; exact ih
  · refine k4 _ _ _ _ _ ?_
    simp only [vcX5_differentImages_4, K.fs, true_and]
    exact ⟨fun _ => hq, fun q => absurd (nI_le (Nat.le_refl _) (by omega)) q⟩
def SI (E : Wd) (hb : Hp) (r : Nat) (g : Gm) (k : Nat) (h : Hp) : Prop := h.1 = hb.1 + 2 ∧ (∀ a, a < hb.1 → h.2 a = hb.2 a) ∧ h.2 hb.1 = some (.inr (5, [.ref r, .ref (hb.1 + 1), .int (nI (syL g k).length)])) ∧ ∃ F, h.2 (hb.1 + 1) = some (.inl (eA E 0, 104, .inl F)) ∧ ∀ j s, (syL g k)[j]? = some s → ∀ p, p ≤ sq g → F (j * 13 + p) = nI (trn g s p)
theorem c_symInit {Q : Hp → Prop} {mc ms : Nat} (K : Kr E hb r g) (w : qF g) (hr : r + 3 ≤ hb.1) (hcm : 1 ≤ mc ∧ 104 ≤ ms) (hq : ∀ h', Kq E h' hb.1 r g (syL g 8) → h'.1 = hb.1 + 2 → (∀ a, a < hb.1 → h'.2 a = hb.2 a) → Q h') : OkW E YX5_init (d + 3) mc ms [.ref hb.1, .ref r] (nO hb 5 [.null, .null, .int 0]) Q := by
  refine rnX5_init (fun K48 k48 => ?_)
  have hsq := w.sq_lt
  have hw6 := w.2.1
  have hh6 := w.2.2.2.1
  have SK : ∀ {k h}, SI E hb r g k h → Kr E h r g := fun S => K.of (fun j hj => S.2.1 _ (by omega))
  -- the loop, for a number of kinds
  have main : ∀ N, N ≤ 8 → (∀ k, k < N → isSy g k = isSyN g k (sq g) ∧ (k.testBit 2 = true → qw g = qh g)) → (∀ k, N ≤ k → k < 8 → isSy g k = false) → ∀ h, SI E hb r g 0 h → K48 hb.1 r (nI N) 0 h := fun N hN h1 h2 => by
    have e8 : ∀ n, N ≤ n → n ≤ 8 → syL g n = syL g N := by
      intro n
      induction n with
      | zero => intro q _; rw [show N = 0 by omega]
      | succ n ih =>
        intro q q2
        by_cases c : N = n + 1
        · rw [c]
        · rw [syL_succ, h2 n (by omega) (by omega), if_neg (by decide), List.append_nil]
          exact ih (by omega) (by omega)
    refine lp_up (K := fun k => ∀ h, SI E hb r g k h → K48 hb.1 r (nI N) (nI k) h) N (fun k hk ih h S => ?_) (fun h S => ?_) 0 (Nat.zero_le _)
    · refine k48 _ _ _ _ _ ?_
      have Kh := SK S
      have hl := syL_len g k
      obtain ⟨s1, s2, s3, F, s4, s5⟩ := S
      obtain ⟨i1, i2⟩ := h1 k hk
      have o1 : okA h hb.1 5 1 := ⟨_, _, s3, rfl⟩
      have e1 : fA h hb.1 1 = hb.1 + 1 := by show vA (hF h hb.1 1) = _; rw [hF_of s3 rfl]; rfl
      have o2 : okI h hb.1 5 2 := ⟨_, _, s3, rfl⟩
      have e2 : fI h hb.1 2 = nI (syL g k).length := by show vI (hF h hb.1 2) = _; rw [hF_of s3 rfl]; rfl
      rw [vcX5_init_48, nI_leI (by omega) (by omega)]
      simp only [o1, e1, o2, e2, true_and, show (13 : Int32) = nI 13 from rfl, pk_mul]
      refine ⟨hcm, fun q => absurd q (by omega), fun _ => ?_⟩
      refine c_writeMap Kh w (by omega) i2 ⟨by omega, by omega, by omega⟩ s4 (by omega) (fun h3 W => ?_)
      obtain ⟨w1, w2, F', w3, w4, w5⟩ := W
      have t3 : h3.2 hb.1 = some (.inr (5, [.ref r, .ref (hb.1 + 1), .int (nI (syL g k).length)])) := by rw [w2 _ (by omega)]; exact s3
      have keep : ∀ j s, (syL g k)[j]? = some s → ∀ p, p ≤ sq g → F' (j * 13 + p) = nI (trn g s p) := fun j s hj p hp => by
        have hjl : j < (syL g k).length := (List.getElem?_eq_some_iff.mp hj).1
        rw [w4 _ (by omega)]; exact s5 j s hj p hp
      rw [← i1]
      refine bI_c (fun c => ?_) (fun c => ?_)
      · rw [nI_1]
        refine ih h3 ⟨by omega, fun a ha => by rw [w2 _ (by omega)]; exact s2 a ha, ?_, F', w3, ?_⟩
        · rw [syL_succ, c, if_neg (by decide), List.append_nil]; exact t3
        · rw [syL_succ, c, if_neg (by decide), List.append_nil]; exact keep
      · refine ⟨⟨_, _, t3, rfl⟩, ⟨_, t3, by simp⟩, fun h4 e4 => ?_⟩
        have e3 : fI h3 hb.1 2 = nI (syL g k).length := by show vI (hF h3 hb.1 2) = _; rw [hF_of t3 rfl]; rfl
        rw [e3, nI_1] at e4
        subst e4
        rw [nI_1]
        have es : syL g (k + 1) = syL g k ++ [k] := by rw [syL_succ, if_pos c]
        have ne : hb.1 + 1 ≠ hb.1 := by omega
        refine ih _ ⟨by show h3.1 = _; omega, fun a ha => ?_, ?_, F', ?_, fun j s hj p hp => ?_⟩
        · have : a ≠ hb.1 := by omega
          simp only [pF, this, if_false]
          rw [w2 _ (by omega)]; exact s2 a ha
        · rw [es, List.length_append]
          simp [pF, t3]
        · simp only [pF, ne, if_false]; exact w3
        · rw [es] at hj
          by_cases c2 : j < (syL g k).length
          · rw [List.getElem?_append_left c2] at hj; exact keep j s hj p hp
          · rw [List.getElem?_append_right (by omega)] at hj
            have hj0 : j - (syL g k).length = 0 := by
              have := (List.getElem?_eq_some_iff.mp hj).1
              simp at this; omega
            rw [hj0] at hj
            simp at hj
            subst hj
            rw [show j = (syL g k).length by omega]
            exact w5 p (by omega)
    · refine k48 _ _ _ _ _ ?_
      rw [vcX5_init_48]
      refine ⟨hcm, fun _ => ?_, fun q => absurd (nI_le (Nat.le_refl _) (by omega)) q⟩
      have Kh := SK S
      obtain ⟨s1, s2, s3, F, s4, s5⟩ := S
      rw [← e8 8 hN (Nat.le_refl _)] at s3 s5
      refine hq h ⟨Kh, s3, ⟨F, s4, fun j s hj => ⟨?_, ?_, s5 j s hj⟩⟩, syL_len g 8⟩ s1 s2
      · have := List.mem_of_getElem? hj
        unfold syL at this
        exact List.mem_range.mp (List.mem_filter.mp this).1
      · have := List.mem_of_getElem? hj
        unfold syL at this
        exact isSy_sq (List.mem_filter.mp this).2
  rw [vcX5_init_0]
  refine ⟨hcm, fun h1 e1 => ?_⟩
  have a1 : h1.1 = hb.1 + 2 ∧ h1.2 (hb.1 + 1) = some (.inl (eA E 0, 104, .inl (fun _ => 0))) ∧ h1.2 hb.1 = some (.inr (5, [.null, .null, .int 0])) ∧ ∀ a, a < hb.1 → h1.2 a = hb.2 a := by
    rw [e1]
    refine ⟨rfl, by simp [nA, nO], by simp [nA, nO], fun a ha => ?_⟩
    have q1 : a ≠ hb.1 + 1 := by omega
    have q2 : a ≠ hb.1 := by omega
    simp [nA, nO, q1, q2]
  clear e1
  obtain ⟨a2, a3, a4, a5⟩ := a1
  refine ⟨⟨_, a4, by decide⟩, fun h3 e3 => ?_⟩
  have b1 : h3.1 = hb.1 + 2 ∧ h3.2 (hb.1 + 1) = some (.inl (eA E 0, 104, .inl (fun _ => 0))) ∧ h3.2 hb.1 = some (.inr (5, [.null, .ref (hb.1 + 1), .int 0])) ∧ ∀ a, a < hb.1 → h3.2 a = hb.2 a := by
    rw [e3]
    refine ⟨a2, by simp [pF, a3], by simp [pF, a4, nO], fun a ha => ?_⟩
    have q2 : a ≠ hb.1 := by omega
    simp [pF, q2, a5 a ha]
  clear e3
  obtain ⟨b2, b3, b4, b5⟩ := b1
  refine ⟨⟨_, b4, by simp⟩, fun h4 e4 => ?_⟩
  have S : SI E hb r g 0 h4 := by
    rw [e4]
    refine ⟨b2, fun a ha => ?_, by simp [pF, b4, syL, nI_0], _, by simp [pF]; exact b3, fun j s hj => by simp [syL] at hj⟩
    have q2 : a ≠ hb.1 := by omega
    simp [pF, q2, b5 a ha]
  clear e4
  have K4 := SK S
  refine ⟨⟨_, K4.1⟩, c_hasPawns K4 w (bI_c (fun c => ?_) (fun c => ?_))⟩
  · simp only [K4.fs, true_and]
    rw [nI_eq (by omega) (by omega)]
    have noP : ∀ k, (pawns g (qn g) && decide (1 < k)) = false := fun k => by rw [c]; rfl
    refine ⟨fun c2 => main 4 (by omega) (fun k hk => ?_) (fun k hk hk8 => ?_) h4 S, fun c2 => main 8 (by omega) (fun k hk => ?_) (fun k hk hk8 => by omega) h4 S⟩
    · have b : k.testBit 2 = false := Nat.testBit_lt_two_pow (show k < 2 ^ 2 by omega)
      refine ⟨?_, fun q => by rw [b] at q; cases q⟩
      unfold isSy
      rw [noP, b]; rfl
    · have b : k.testBit 2 = true := by
        have : k = 4 ∨ k = 5 ∨ k = 6 ∨ k = 7 := by omega
        rcases this with rfl | rfl | rfl | rfl <;> decide
      unfold isSy
      rw [b, decide_eq_true c2]; simp
    · refine ⟨?_, fun _ => c2⟩
      unfold isSy
      rw [noP, decide_eq_false (show ¬ qw g ≠ qh g from fun q => q c2)]; simp
  · refine main 2 (by omega) (fun k hk => ?_) (fun k hk hk8 => ?_) h4 S
    · have b : k.testBit 2 = false := Nat.testBit_lt_two_pow (show k < 2 ^ 2 by omega)
      refine ⟨?_, fun q => by rw [b] at q; cases q⟩
      unfold isSy
      rw [b, decide_eq_false (show ¬ 1 < k by omega)]; simp
    · unfold isSy
      rw [c, decide_eq_true (show 1 < k by omega)]; rfl
end
