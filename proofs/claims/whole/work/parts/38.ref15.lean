def boA (g : Gm) (x : Nat) (w : Int32) : Int32 :=
  if btw 10 (nI (9 + qn g)) w = true then (if plc g x (w.toNatClampNeg - 10) < sq g then nI (plc g x (w.toNatClampNeg - 10)) else -5) else
  if w = 0 then nI x else if w = 1 then nI (x % 2) else if w = 2 then val g x else if w = 3 then tE g x else if w = 4 then tC g x else if w = 5 then vdt g x else
  if w = 6 then bI (chk g (plc g x) (x % 2)) else if w = 7 then nI (mvs g x).length else if w = 8 then nI (can g x) else if w = 9 then nI (cN (newI g x) 8) else -1
def sBoard (s : Sg) (w : Int32) : Int32 := match sG s with
  | none => -3
  | some g => if pN (sP s) = 0 then -3 else boA g (pHe (sP s)) w
def mvW (g : Gm) (v : Nat × Nat × Option Nat × Nat) (w : Int32) : Int32 :=
  if w = 0 then nI v.1 else if w = 1 then nI v.2.1 else if w = 2 then mI v.2.2.1 else if w = 3 then val g v.2.2.2 else if w = 4 then tE g v.2.2.2 else if w = 5 then tC g v.2.2.2 else if w = 6 then nI v.2.2.2 else -1
def mvO (g : Gm) (x : Nat) (k : Int32) : Option (Nat × Nat × Option Nat × Nat) := if k < 0 then none else (mvs g x)[k.toNatClampNeg]?
def sMove (s : Sg) (k w : Int32) : Int32 := match sG s with
  | none => -3
  | some g => if pN (sP s) = 0 then -3 else match mvO g (pHe (sP s)) k with
    | none => -1
    | some v => mvW g v w
def sMake (s : Sg) (k : Int32) : Sg × Int32 := match sG s with
  | none => (s, -3)
  | some g => if pN (sP s) = 0 then (s, -3) else match mvO g (pHe (sP s)) k with
    | none => (s, -1)
    | some v => if pN (sP s) = 41 then (s, -4) else (sPl s (plA (sP s) v.2.2.2 v.2.2.1.isSome), nI (ocP (plA (sP s) v.2.2.2 v.2.2.1.isSome)))
def sBack (s : Sg) : Sg × Int32 := if pN (sP s) ≤ 1 then (s, -3) else (sPl s (plK (sP s)), nI (pN (sP s) - 2))
theorem mvO_b {g : Gm} {x : Nat} {k : Int32} (hl : (mvs g x).length < 2 ^ 31) : (btw 0 (nI (mvs g x).length - 1) k = false → mvO g x k = none) ∧ (btw 0 (nI (mvs g x).length - 1) k = true → ∃ j v, j < (mvs g x).length ∧ k = nI j ∧ (mvs g x)[j]? = some v ∧ mvO g x k = some v) := by
  refine ⟨fun h => ?_, fun h => ?_⟩
  · unfold mvO
    by_cases c : k < 0
    · rw [if_pos c]
    · rw [if_neg c]
      rcases pk_ix k hl with q | q | ⟨j, q1, q2⟩
      · exact absurd q c
      · obtain ⟨i, hi, e⟩ := nI_of c
        subst e
        rw [n_cl, List.getElem?_eq_none_iff]
        exact (nI_leI hl hi).mp q
      · rw [q2, btw_of q1 hl] at h; cases h
  · obtain ⟨j, h1, h2⟩ := btw_in hl h
    subst h2
    refine ⟨j, (mvs g x)[j], h1, rfl, List.getElem?_eq_getElem h1, ?_⟩
    unfold mvO
    rw [if_neg (nI_pos (by omega)), n_cl, List.getElem?_eq_getElem h1]
theorem mvs_len {g : Gm} (w : qF g) (x : Nat) : (mvs g x).length ≤ 36 := by
  have h1 := mvA_len g w (plc g x) (x % 2) (qn g)
  have h2 := w.2.2.2.2.2.2.1
  unfold mvs
  omega
theorem RPl.cut {A : Nat → Nat → Int32} {a b : Nat} {x y : Int32} {go : Option Gm} {p : Pl} {m : Nat} (P : RPl A a b x go p) (hm : m ≤ pN p) (hy : y = nI m - 1) : RPl A a b y go (m, pP p, pC p) := by
  obtain ⟨h1, h2, h3, h4⟩ := P
  exact ⟨Nat.le_trans hm h1, hy, ⟨fun e => by show m = 0; have := h3.1 e; omega, h3.2⟩, fun k hk => h4 k (Nat.lt_of_lt_of_le hk hm)⟩
section
variable {E : Wd} {h0 h : Hp} {M : Nat} {A : Nat → Nat → Int32} {f : Nat → Int32} {g : Gm} {d : Nat} {s : Sg}
theorem Rf.row0 (R : Rf E h0 h M A f) : gW h (M + 5) 0 = M + (6 + 0) ∧ gW h (M + 13) 0 = M + (14 + 0) ∧ gW h (M + 20) 0 = M + (21 + 0) ∧ gW h (M + 27) 0 = M + (28 + 0) ∧ gW h (M + 34) 0 = M + (35 + 0) ∧
    okW E h (M + 5) 0 ∧ okW E h (M + 13) 0 ∧ okW E h (M + 20) 0 ∧ okW E h (M + 27) 0 ∧ okW E h (M + 34) 0 ∧ okR E h (M + 12) 0 0 ∧ gA h (M + 12) 0 = A 12 0 := R.rows (e := 0) (by omega)
theorem MVs.at (R : Rf E h0 h M A f) {e : Nat} (he : e < 6) {L : List (Nat × Nat × Option Nat × Nat)} (V : MVs A e L) {k : Nat} (hk : k < 36) {v : Nat × Nat × Option Nat × Nat} (hv : L[k]? = some v) :
    gA h (M + (14 + e)) (nI k) = nI v.1 ∧ gA h (M + (21 + e)) (nI k) = nI v.2.1 ∧ gA h (M + (28 + e)) (nI k) = mI v.2.2.1 ∧ gA h (M + (35 + e)) (nI k) = nI v.2.2.2 ∧
    okR E h (M + (14 + e)) 0 (nI k) ∧ okR E h (M + (21 + e)) 0 (nI k) ∧ okR E h (M + (28 + e)) 0 (nI k) ∧ okR E h (M + (35 + e)) 0 (nI k) := by
  obtain ⟨r1, r2, r3, r4, r5⟩ := rK_rows he
  obtain ⟨v1, v2, v3, v4⟩ := V.2 k v hv
  have hc : (nI k).toNatClampNeg = k := n_cl
  refine ⟨?_, ?_, ?_, ?_, R.oR _ _ r2.1 r2.2.1 (by rw [r2.2.2]; exact vpn hk), R.oR _ _ r3.1 r3.2.1 (by rw [r3.2.2]; exact vpn hk), R.oR _ _ r4.1 r4.2.1 (by rw [r4.2.2]; exact vpn hk), R.oR _ _ r5.1 r5.2.1 (by rw [r5.2.2]; exact vpn hk)⟩
  · rw [R.gR _ _ r2.1, hc, v1]
  · rw [R.gR _ _ r3.1, hc, v2]
  · rw [R.gR _ _ r4.1, hc, v3]
  · rw [R.gR _ _ r5.1, hc, v4]
theorem Ps_un {x : Nat} (w : qF g) (h : Ps g x = true) : x < nx g ∧ poss g (plc g x) (x % 2) = true := by
  refine ⟨((Ps_iff w).mp h).1, ?_⟩
  simp only [Ps, Bool.and_eq_true] at h; exact h.2
theorem k_board {Q : Int32 → Hp → Prop} {x : Int32} (R : Rf E h0 h M A f) (S : RS A f s)
    (hq : ∀ h' A', Rf E h0 h' M A' f → FS A A' → Q (sBoard s x) h') : OkI E YX8_board (d + 7) [.ref M, .int x] h Q := by
  refine rnX8_board ?_
  refine ⟨⟨_, R.obj⟩, k_isPlaying R S (bI_c' (fun c => ?_) (fun c => ?_))⟩
  · have := hq h A R (FS.rfl A)
    rw [sBoard] at this
    simp only [decide_eq_false_iff_not, Decidable.not_not] at c
    cases hg : sG s with
    | none => rw [hg] at this; exact this
    | some g => rw [hg] at this; simp only [c, if_true] at this; exact this
  · have c := of_decide_eq_true c
    obtain ⟨g, m, e1, e2, e3, e4, e5, e6⟩ := S.pl c
    obtain ⟨hg, w, v, hf, T, Tc⟩ := S.go e1
    obtain ⟨y, hy⟩ : ∃ y, pHe (sP s) = y := ⟨_, rfl⟩
    rw [sBoard, e1] at hq
    simp only [c, if_false, hy] at hq
    rw [hy] at e6
    refine ⟨⟨_, R.obj⟩, k_here R S c ⟨⟨_, R.obj⟩, ?_⟩⟩
    obtain ⟨hx, hpo⟩ := Ps_un w e6
    have hnx := nx_le w
    have hn : qn g ≤ 3 := w.2.2.2.2.2.2.1
    have hsq := w.sq_lt
    rw [hy]
    refine k_findMoves (e := 0) R hg w (by omega) hx hpo (fun h2 A2 R2 F2 => ?_)
    have S2 := S.of (F2.fs (by omega))
    have hq := hq h2 A2 R2 (F2.fs (by omega))
    obtain ⟨hg2, -, -, hf2, T2, Tc2⟩ := S2.go e1
    simp only [R2.fs, R2.gm hg2, true_and]
    rw [show (9 : Int32) + nI (qn g) = nI (9 + qn g) from nI_add 9 _]
    have tb := R2.tb (show y < 4394 by omega)
    obtain ⟨t1, t2, t3, t4⟩ := T2 y hx
    obtain ⟨t5, t6⟩ := Tc2 y hx
    have r0 := R2.row0
    refine k_isBetween (bI_c (fun c1 => ?_) (fun c1 => ?_))
    · have c1' : btw 10 (nI (9 + qn g)) x = false := c1
      rw [boA, c1', if_neg (by decide)] at hq
      simp only [R2.fs, tb, t3, t4, t6, true_and, r0, F2.1.1]
      have hrem : nI y - nI y / 2 * 2 = nI (y % 2) := by rw [n_lit2]; exact pk_rem (by omega) (by omega) (by omega)
      rw [hrem]
      refine ⟨fun q => ?_, fun q0 => ⟨fun q => ⟨by decide, ?_⟩, fun q1 => ⟨fun q => ?_, fun q2 => ⟨fun q => ?_, fun q3 => ⟨fun q => ?_, fun q4 => ⟨fun q => ?_, fun q5 => ⟨fun q => ⟨by decide, ?_⟩, fun q6 => ⟨fun q => ?_, fun q7 => ⟨fun q => ?_, fun q8 => ⟨fun q => ?_, fun q9 => ?_⟩⟩⟩⟩⟩⟩⟩⟩⟩⟩
      · rw [if_pos q] at hq; exact hq
      · rw [if_neg q0, if_pos q] at hq; exact hq
      · rw [if_neg q0, if_neg q1, if_pos q] at hq; exact hq
      · rw [if_neg q0, if_neg q1, if_neg q2, if_pos q] at hq; exact hq
      · rw [if_neg q0, if_neg q1, if_neg q2, if_neg q3, if_pos q] at hq; exact hq
      · rw [if_neg q0, if_neg q1, if_neg q2, if_neg q3, if_neg q4, if_pos q] at hq
        exact k_verdict R2 (S2.go e1) hx hq
      · rw [if_neg q0, if_neg q1, if_neg q2, if_neg q3, if_neg q4, if_neg q5, if_pos q] at hq
        refine k_isInCheck (j := 6 + 0) R2 hg2 w (Or.inl ⟨by omega, by omega⟩) F2.2.1 (fun m hm => by have := plc_le hx m; omega) (by omega) (by have := poss_roy w hpo (y % 2); omega) (bI_c (fun c2 => ?_) (fun c2 => ?_))
        · rw [c2] at hq; exact hq
        · rw [c2] at hq; exact hq
      · rw [if_neg q0, if_neg q1, if_neg q2, if_neg q3, if_neg q4, if_neg q5, if_neg q6, if_pos q] at hq; exact hq
      · rename_i hq'
        rw [if_neg q0, if_neg q1, if_neg q2, if_neg q3, if_neg q4, if_neg q5, if_neg q6, if_neg q7, if_pos q] at hq
        refine k_canonical R2 hg2 w hx (fun h3 A3 R3 F3 => ?_)
        have := hq' h3 A3 R3 ((F2.fs (by omega)).tr F3.fs)
        rw [boA, c1', if_neg (by decide), if_neg q0, if_neg q1, if_neg q2, if_neg q3, if_neg q4, if_neg q5, if_neg q6, if_neg q7, if_pos q] at this
        exact this
      · rename_i hq'
        refine k_countImages R2 hg2 w hx (fun h3 A3 R3 F3 => ?_)
        have := hq' h3 A3 R3 ((F2.fs (by omega)).tr F3.fs)
        rw [boA, c1', if_neg (by decide), if_neg q0, if_neg q1, if_neg q2, if_neg q3, if_neg q4, if_neg q5, if_neg q6, if_neg q7, if_neg q8, if_pos q] at this
        exact this
      · rw [if_neg q0, if_neg q1, if_neg q2, if_neg q3, if_neg q4, if_neg q5, if_neg q6, if_neg q7, if_neg q8, if_neg q9] at hq; exact hq
    · obtain ⟨k, hk, e⟩ := btw_10 hn c1
      unfold boA at hq
      rw [if_pos (show btw 10 (nI (9 + qn g)) x = true from c1)] at hq
      subst e
      have hk10 : (nI (10 + k)).toNatClampNeg - 10 = k := by rw [n_cl]; omega
      rw [hk10] at hq
      rw [show nI (10 + k) - 10 = nI k by rw [show (10 : Int32) = nI 10 from rfl, n_sub (by omega), show 10 + k - 10 = k by omega]]
      have pm := R2.plm (j := 6 + 0) (Or.inl ⟨by omega, by omega⟩) F2.2.1 (show k < 3 by omega)
      simp only [R2.fs, r0, pm, true_and]
      have hpl := plc_le hx k
      refine k_squares R2 hg2 ?_
      rw [nI_leI (by omega) (by omega)]
      refine ⟨fun c2 => ?_, fun c2 => ?_⟩
      · rw [if_neg (by omega)] at hq; exact hq
      · rw [if_pos (by omega)] at hq
        simp only [R2.fs, r0, pm, true_and]
        exact hq
theorem k_move {Q : Int32 → Hp → Prop} {k x : Int32} (R : Rf E h0 h M A f) (S : RS A f s)
    (hq : ∀ h' A', Rf E h0 h' M A' f → FS A A' → Q (sMove s k x) h') : OkI E YX8_move (d + 7) [.ref M, .int k, .int x] h Q := by
  refine rnX8_move ?_
  refine ⟨⟨_, R.obj⟩, k_isPlaying R S (bI_c' (fun c => ?_) (fun c => ?_))⟩
  · have := hq h A R (FS.rfl A)
    rw [sMove] at this
    simp only [decide_eq_false_iff_not, Decidable.not_not] at c
    cases hg : sG s with
    | none => rw [hg] at this; exact this
    | some g => rw [hg] at this; simp only [c, if_true] at this; exact this
  · have c := of_decide_eq_true c
    obtain ⟨g, m, e1, e2, e3, e4, e5, e6⟩ := S.pl c
    obtain ⟨hg, w, v, hf, T, Tc⟩ := S.go e1
    obtain ⟨y, hy⟩ : ∃ y, pHe (sP s) = y := ⟨_, rfl⟩
    rw [sMove, e1] at hq
    simp only [c, if_false, hy] at hq
    rw [hy] at e6
    refine ⟨⟨_, R.obj⟩, k_here R S c ⟨⟨_, R.obj⟩, ?_⟩⟩
    obtain ⟨hx, hpo⟩ := Ps_un w e6
    have hnx := nx_le w
    have hlen := mvs_len w y
    rw [hy]
    refine k_findMoves (e := 0) R hg w (by omega) hx hpo (fun h2 A2 R2 F2 => ?_)
    have S2 := S.of (F2.fs (by omega))
    have hq2 := hq h2 A2 R2 (F2.fs (by omega))
    clear hq
    obtain ⟨hg2, -, -, hf2, T2, Tc2⟩ := S2.go e1
    have r0 := R2.row0
    simp only [R2.fs, r0, F2.1.1, true_and]
    obtain ⟨b1, b2⟩ := mvO_b (g := g) (x := y) (k := k) (by omega)
    refine k_isBetween (bI_c' (fun c1 => ?_) (fun c1 => ?_))
    · rw [b1 c1] at hq2; exact hq2
    · obtain ⟨j, mv, q1, q2, q3, q4⟩ := b2 c1
      rw [q4] at hq2
      subst q2
      have at' := F2.1.at R2 (by omega) (by omega) q3
      have hz := suc_Ps w e6 (List.mem_of_getElem? q3)
      obtain ⟨hz1, -⟩ := Ps_un w hz
      have tb := R2.tb (show mv.2.2.2 < 4394 by omega)
      obtain ⟨t1, t2, t3, t4⟩ := T2 _ hz1
      obtain ⟨t5, t6⟩ := Tc2 _ hz1
      simp only [R2.fs, r0, at', tb, t3, t4, t6, true_and]
      have hq : Q (mvW g mv x) h2 := hq2
      unfold mvW at hq
      refine ⟨fun q => ?_, fun q0 => ⟨fun q => ?_, fun q1 => ⟨fun q => ?_, fun q2 => ⟨fun q => ?_, fun q3 => ⟨fun q => ?_, fun q4 => ⟨fun q => ?_, fun q5 => ⟨fun q => ?_, fun q6 => ?_⟩⟩⟩⟩⟩⟩⟩
      · rw [if_pos q] at hq; exact hq
      · rw [if_neg q0, if_pos q] at hq; exact hq
      · rw [if_neg q0, if_neg q1, if_pos q] at hq; exact hq
      · rw [if_neg q0, if_neg q1, if_neg q2, if_pos q] at hq; exact hq
      · rw [if_neg q0, if_neg q1, if_neg q2, if_neg q3, if_pos q] at hq; exact hq
      · rw [if_neg q0, if_neg q1, if_neg q2, if_neg q3, if_neg q4, if_pos q] at hq; exact hq
      · rw [if_neg q0, if_neg q1, if_neg q2, if_neg q3, if_neg q4, if_neg q5, if_pos q] at hq; exact hq
      · rw [if_neg q0, if_neg q1, if_neg q2, if_neg q3, if_neg q4, if_neg q5, if_neg q6] at hq; exact hq
theorem k_occurrences {Q : Int32 → Hp → Prop} (R : Rf E h0 h M A f) (S : RS A f s) (c : pN (sP s) ≠ 0) (hq : Q (nI (ocP (sP s))) h) : OkI E YX8_occurrences (d + 1) [.ref M] h Q := by
  refine rnX8_occurrences (fun K4 k4 => ?_)
  obtain ⟨g, m, e1, e2, e3, e4, e5, e6⟩ := S.pl c
  have h6 := S.2.2.1.2.2.2
  obtain ⟨hg, w, -⟩ := S.go e1
  have hnx := nx_le w
  refine lp_up (K := fun k => K4 M (nI (cN (fun k => pP (sP s) k == pHe (sP s)) k)) (nI k) h) (m + 1) (fun k hk ih => ?_) ?_ 0 (Nat.zero_le _)
  · refine k4 _ _ _ _ ?_
    have hk41 : k < 41 := by omega
    obtain ⟨u1, u2, u3⟩ := h6 k (by omega)
    have l1 := (Ps_un w (u3 g e1)).1
    have l2 := (Ps_un w e6).1
    simp only [vcX8_occurrences_4, R.fs, true_and, e4, R.oR 49 _ rfl rfl (vpn (n := 41) hk41), nI_ltI (show m < 2 ^ 31 by omega) (show k < 2 ^ 31 by omega)]
    refine ⟨fun q => absurd q (by omega), fun _ => k_here R S c ?_⟩
    rw [R.gR 49 _ rfl, n_cl, u1, nI_eq (by omega) (by omega)]
    rw [← nI_1, cN] at ih
    refine ⟨fun q => ?_, fun q => ?_⟩
    · rw [if_neg (by simpa using q)] at ih
      rw [n_lit0, nI_add]; exact ih
    · rw [if_pos (by simpa using q)] at ih
      rw [n_lit1, nI_add]; exact ih
  · refine k4 _ _ _ _ ?_
    simp only [vcX8_occurrences_4, R.fs, true_and, e4]
    refine ⟨fun _ => ?_, fun q => absurd (nI_lt (show m < m + 1 by omega) (by omega)) q⟩
    rw [ocP, e2] at hq; exact hq
theorem k_back {Q : Int32 → Hp → Prop} (R : Rf E h0 h M A f) (S : RS A f s)
    (hq : ∀ h' A' f', Rf E h0 h' M A' f' → RS A' f' (sBack s).1 → Q (sBack s).2 h') : OkI E YX8_back (d + 1) [.ref M] h Q := by
  refine rnX8_back ?_
  refine ⟨⟨_, R.obj⟩, k_isPlaying R S (bI_c (fun c => ?_) (fun c => ?_))⟩
  · simp only [decide_eq_false_iff_not, Decidable.not_not] at c
    have := hq h A f R
    rw [sBack, if_pos (by omega)] at this
    exact this S
  · have c := of_decide_eq_true c
    obtain ⟨g, m, e1, e2, e3, e4, e5, e6⟩ := S.pl c
    simp only [R.fs, true_and, e4, (ks (show m < 2 ^ 31 by omega)).1]
    refine ⟨fun c2 => ?_, fun c2 => ?_⟩
    · intro h3 e
      rw [n_lit1, n_sub (by omega)] at e
      subst e
      have R3 := R.put (k := 23) (x := nI (m - 1)) rfl
      simp only [R3.fs, true_and]
      have := hq _ _ _ R3
      rw [sBack, if_neg (by omega), e2, show m + 1 - 2 = m - 1 by omega] at this
      refine this ?_
      obtain ⟨s1, s2, s3, s4⟩ := S
      refine ⟨s1, ?_, ?_, ?_⟩
      · show RGo A (upd f 23 _) (sG s)
        rw [e1] at s2 ⊢
        exact s2
      · show RPl A 49 51 (nI (m - 1)) (sG s) (pN (sP s) - 1, pP (sP s), pC (sP s))
        exact s3.cut (by omega) (by rw [e2, show m + 1 - 1 = (m - 1) + 1 by omega, nI_pred])
      · show RKp A (upd f 23 _) (sK s)
        cases hk : sK s with
        | none => rw [hk] at s4; exact s4
        | some k => rw [hk] at s4; exact s4
    · have := hq h A f R
      rw [sBack, if_pos (by omega)] at this
      exact this S
theorem k_make {Q : Int32 → Hp → Prop} {k : Int32} (R : Rf E h0 h M A f) (S : RS A f s)
    (hq : ∀ h' A' f', Rf E h0 h' M A' f' → RS A' f' (sMake s k).1 → Q (sMake s k).2 h') : OkI E YX8_make (d + 7) [.ref M, .int k] h Q := by
  refine rnX8_make ?_
  refine ⟨⟨_, R.obj⟩, k_isPlaying R S (bI_c' (fun c => ?_) (fun c => ?_))⟩
  · have := hq h A f R
    rw [sMake] at this
    simp only [decide_eq_false_iff_not, Decidable.not_not] at c
    cases hg : sG s with
    | none => rw [hg] at this; exact this S
    | some g => rw [hg] at this; simp only [c, if_true] at this; exact this S
  · have c := of_decide_eq_true c
    obtain ⟨g, m, e1, e2, e3, e4, e5, e6⟩ := S.pl c
    obtain ⟨hg, w, v, hf, T, Tc⟩ := S.go e1
    obtain ⟨y, hy⟩ : ∃ y, pHe (sP s) = y := ⟨_, rfl⟩
    rw [sMake, e1] at hq
    simp only [c, if_false, hy] at hq
    rw [hy] at e6
    refine ⟨⟨_, R.obj⟩, k_here R S c ⟨⟨_, R.obj⟩, ?_⟩⟩
    obtain ⟨hx, hpo⟩ := Ps_un w e6
    have hnx := nx_le w
    have hlen := mvs_len w y
    rw [hy]
    refine k_findMoves (e := 0) R hg w (by omega) hx hpo (fun h2 A2 R2 F2 => ?_)
    have S2 := S.of (F2.fs (by omega))
    have r0 := R2.row0
    simp only [R2.fs, r0, F2.1.1, true_and]
    obtain ⟨b1, b2⟩ := mvO_b (g := g) (x := y) (k := k) (by omega)
    refine k_isBetween (bI_c' (fun c1 => ?_) (fun c1 => ?_))
    · have := hq h2 A2 f R2
      rw [b1 c1] at this; exact this S2
    · obtain ⟨j, mv, q1, q2, q3, q4⟩ := b2 c1
      rw [q4] at hq
      subst q2
      have hz := suc_Ps w e6 (List.mem_of_getElem? q3)
      obtain ⟨hz1, -⟩ := Ps_un w hz
      simp only [R2.fs, true_and, e4, show (40 : Int32) = nI 40 from rfl, nI_eq (show m < 2 ^ 31 by omega) (show 40 < 2 ^ 31 by omega)]
      refine ⟨fun c2 => ?_, fun c2 => ?_⟩
      · rw [nI_1]
        intro h8 e8
        subst e8
        have R8 := R2.put (k := 23) (x := nI (m + 1)) rfl
        have r8 := R8.row0
        have at8 := F2.1.at R8 (by omega) (by omega) q3
        simp only [R8.fs, true_and, r8, at8, show upd f 23 (nI (m + 1)) 23 = nI (m + 1) from rfl, R8.oR 49 _ rfl rfl (vpn (n := 41) (show m + 1 < 41 by omega))]
        intro h9 e9
        subst e9
        have R9 := R8.st (j := 49) (nI (m + 1)) (nI mv.2.2.2) rfl
        rw [n_cl (n := m + 1)] at R9
        have r9 := R9.row0
        have V9 : MVs (up2 A2 49 (m + 1) (nI mv.2.2.2)) 0 (mvs g y) := by
          refine ⟨F2.1.1, fun i v hv => ?_⟩
          have := F2.1.2 i v hv
          simpa [up2] using this
        have at9 := V9.at R9 (by omega) (by omega) q3
        have hmI : mI mv.2.2.1 < 0 ↔ mv.2.2.1 = none := mI_lt (fun q hq' => by
          obtain ⟨m', t, -, -, -, -, -, -, -, e⟩ := mvs_mem (List.mem_of_getElem? q3)
          rw [e] at hq'
          have := matN_lt _ _ _ q hq'
          have := w.2.2.2.2.2.2.1
          omega)
        simp only [R9.fs, true_and, r9, at9, show upd f 23 (nI (m + 1)) 23 = nI (m + 1) from rfl, R9.oZ 51 _ rfl rfl (vpn (n := 41) (show m + 1 < 41 by omega)), hmI]
        have go : ∀ b : Bool, b = mv.2.2.1.isSome → ∀ h5, h5 = sA (sA (pF h2 M 23 (.int (nI (m + 1)))) (M + 49) (nI (m + 1)) (nI mv.2.2.2)) (M + 51) (nI (m + 1)) (bI b) → isO h5 M 8 ∧ OkI E YX8_occurrences (d + 6) [.ref M] h5 (fun r12 h11 => Q r12 h11) := by
          intro b hb h5 e
          subst e
          have R5 := R9.st (j := 51) (nI (m + 1)) (bI b) rfl
          rw [n_cl (n := m + 1)] at R5
          have := hq _ _ _ R5
          simp only [e2, show ¬ (m + 1 = 41) by omega, if_false] at this
          have hn : ∀ j, j ≠ 49 → j ≠ 51 → up2 (up2 A2 49 (m + 1) (nI mv.2.2.2)) 51 (m + 1) (bI b) j = A2 j := fun j o1 o2 => funext fun i => by simp only [up2, o1, o2, false_and, if_false]
          have S5 : RS (up2 (up2 A2 49 (m + 1) (nI mv.2.2.2)) 51 (m + 1) (bI b)) (upd f 23 (nI (m + 1))) (sPl s (plA (sP s) mv.2.2.2 mv.2.2.1.isSome)) := by
            obtain ⟨s1, s2, s3, s4⟩ := S2
            refine ⟨?_, ?_, ?_, ?_⟩
            · show RTp _ (upd f 23 _) (sL s) (sB s)
              unfold RTp at s1 ⊢
              rw [hn 1 (by omega) (by omega)]; exact s1
            · show RGo _ (upd f 23 _) (sG s)
              rw [e1] at s2 ⊢
              have G2 : RG A2 (upd f 23 (nI (m + 1))) g := s2.2
              exact ⟨s2.1, G2.of (fun j hj => hn j (by omega) (by omega))⟩
            · show RPl _ 49 51 (nI (m + 1)) (sG s) (plA (sP s) mv.2.2.2 mv.2.2.1.isSome)
              refine ⟨(by show pN (sP s) + 1 ≤ 41; omega), (by show _ = nI (pN (sP s) + 1) - 1; rw [e2, nI_pred]), ⟨(fun e => by rw [e1] at e; cases e), fun k hk => ?_⟩, fun k hk => ?_⟩
              · by_cases c : k = m + 1
                · subst c; rw [up2, if_pos ⟨rfl, rfl⟩]; exact bI_m _
                · have := s3.2.2.1.2 k hk
                  simpa [up2, c] using this
              have hk : k < m + 2 := by have : k < pN (sP s) + 1 := hk; omega
              by_cases ck : k = m + 1
              · subst ck
                refine ⟨by simp [up2, plA, pP, pN, e2], by simp [up2, plA, pC, pN, e2, hb], fun g' e => ?_⟩
                rw [e1] at e
                cases e
                simpa [plA, pP, pN, e2] using hz
              · have ck2 : ¬ k = pN (sP s) := by omega
                have := s3.2.2.2 k (by omega)
                simpa [up2, plA, pP, pC, pN, ck, ck2] using this
            · show RKp _ (upd f 23 _) (sK s)
              cases hk : sK s with
              | none => rw [hk] at s4; exact s4
              | some k =>
                rw [hk] at s4
                exact ⟨s4.1, s4.2.1, fun g e => by rw [hn 4 (by omega) (by omega)]; exact s4.2.2.1 g e, s4.2.2.2.of (hn 50 (by omega) (by omega)) (hn 52 (by omega) (by omega))⟩
          exact ⟨⟨_, R5.obj⟩, k_occurrences R5 S5 (by show pN (sP s) + 1 ≠ 0; omega) (this S5)⟩
        refine ⟨fun c3 => ⟨Or.inl rfl, fun h5 e => go false (by rw [c3]; rfl) h5 e⟩, fun c3 => ⟨Or.inr rfl, fun h5 e => go true ?_ h5 e⟩⟩
        cases h' : mv.2.2.1 with
        | none => exact absurd h' c3
        | some _ => rfl
      · have := hq h2 A2 f R2
        simp only [e2, c2, if_true] at this
        exact this S2
end
