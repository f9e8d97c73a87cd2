def capN (g : Gm) (x n : Nat) : Bool := (List.range n).any (fun m => plc g x m == sq g)
def cap (g : Gm) (x : Nat) : Bool := capN g x (qn g)
theorem capN_succ (g : Gm) (x n : Nat) : capN g x (n + 1) = (capN g x n || plc g x n == sq g) := by
  unfold capN
  rw [List.range_succ, List.any_append]
  simp
def pqP (g : Gm) (v c : Int32) (x : Nat) : Bool := Ps g x && val g x == v && (c == 2 || cap g x == (c == 1))
def dst (g : Gm) (k : Int32) (x : Nat) : Int32 := if k = 0 then tE g x else tC g x
def spP (g : Gm) (k l : Int32) (x : Nat) : Bool := Ps g x && dst g k x == l
def lgN (g : Gm) (k : Int32) : Nat → Int32 × Int32
  | 0 => (-5, -5)
  | x + 1 => if Ps g x && decide (¬ dst g k x ≤ (lgN g k x).1) then (dst g k x, nI x) else lgN g k x
def zzP (g : Gm) (x : Nat) : Bool := Ps g x && Ps g (x + 1) && decide (¬ -(val g (x + 1)) ≤ val g x)
def zgC (g : Gm) (n : Nat) : Nat := cN (fun i => zzP g (2 * i)) n
def zgF (g : Gm) (k : Int32) : Nat → Int32
  | 0 => -1
  | n + 1 => if zzP g (2 * n) && nI (zgC g n) == k then nI (2 * n) else zgF g k n
def ulP (g : Gm) (m x : Nat) : Bool := Ps g x && can g x == can g m && (val g x != val g m || (srV g 2 x != 0 && srV g 2 x != val g x))
def dfP (p : Pl) : Nat := cN (fun k => (List.range k).all (fun b => pP p b != pP p k)) (pN p)
def siN (p : Pl) : Nat → Nat → Nat
  | 0, k => k
  | r + 1, k => if pC p (pN p - 1 - k) then k else siN p r (k + 1)
def siP (p : Pl) : Nat := siN p (pN p - 1) 0
def sPos (s : Sg) (a v c : Int32) : Int32 := match sG s with
  | none => -3
  | some g => if btw 0 1 a && btw (-1) 1 v && btw 0 2 c then nI (cN (fun i => pqP g v c (a.toNatClampNeg + 2 * i)) (nx g / 2)) else -1
def sSpr (s : Sg) (k a l : Int32) : Int32 := match sG s with
  | none => -3
  | some g => if btw 0 1 k && btw 0 1 a then (if 0 ≤ l then nI (cN (fun i => spP g k l (a.toNatClampNeg + 2 * i)) (nx g / 2)) else -2) else -1
def sLon (s : Sg) (k c : Int32) : Int32 := match sG s with
  | none => -3
  | some g => if btw 0 1 k && btw 0 1 c then (if c = 0 then (lgN g k (nx g)).1 else (lgN g k (nx g)).2) else -1
def sZug (s : Sg) (i : Int32) : Int32 := match sG s with
  | none => -3
  | some g => if i = -1 then nI (zgC g (nx g / 2)) else zgF g i (nx g / 2)
def sUnl (s : Sg) : Int32 := match sG s with
  | none => -3
  | some g => if pN (sP s) = 0 then -3 else nI (cN (ulP g (pHe (sP s))) (nx g))
def sCnt (s : Sg) (w : Int32) : Int32 := if w = 0 then nI (pN (sP s) - 1) else if w = 1 then nI (sL s) else if w = 2 then nI (ocP (sP s)) else if w = 3 then nI (dfP (sP s)) else if w = 4 then nI (siP (sP s)) else -1
theorem nx_even (g : Gm) : nx g = 2 * (nx g / 2) := by
  unfold nx
  omega
section
variable {E : Wd} {h0 h : Hp} {M : Nat} {A : Nat → Nat → Int32} {f : Nat → Int32} {g : Gm} {d : Nat} {s : Sg}
theorem k_hasCaptured {Q : Int32 → Hp → Prop} {x : Nat} (R : Rf E h0 h M A f) (hg : rA (A 2) g) (w : qF g) (hx : x < nx g)
    (hq : ∀ h' A', Rf E h0 h' M A' f → FI A A' → Q (bI (cap g x)) h') : OkI E YX8_hasCaptured (d + 2) [.ref M, .int (nI x)] h Q := by
  refine rnX8_hasCaptured (fun K13 k13 => ?_)
  have hnx := nx_le w
  have hn : qn g ≤ 3 := w.2.2.2.2.2.2.1
  have hsq := w.sq_lt
  simp only [vcX8_hasCaptured_0, R.fs, true_and]
  refine k_decode (j := 47) R hg w (Or.inr (Or.inl rfl)) (by omega) (fun h1 A1 R1 P1 E1 => ?_)
  have F1 : FI A A1 := fun j i o1 o2 => E1 j i o1
  have hg1 := F1.g2 hg
  refine lp_up (K := fun m => K13 M (bI (capN g x m)) (nI m) h1) (qn g) (fun m hm ih => ?_) ?_ 0 (Nat.zero_le _)
  · refine k13 _ _ _ _ ?_
    have pm := R1.plm (j := 47) (Or.inr (Or.inl rfl)) P1 (show m < 3 by omega)
    have hp := plc_le hx m
    simp only [vcX8_hasCaptured_13, R1.fs, R1.gm hg1, true_and, nI_leI (show qn g < 2 ^ 31 by omega) (show m < 2 ^ 31 by omega), pm]
    refine ⟨fun c => absurd c (by omega), fun _ => k_squares R1 hg1 ?_⟩
    rw [nI_eq (by omega) (by omega)]
    rw [← nI_1, capN_succ, ← bI_or] at ih
    refine ⟨fun c => ?_, fun c => ?_⟩
    · rw [show (plc g x m == sq g) = false by simpa using c] at ih; exact ih
    · rw [show (plc g x m == sq g) = true by simpa using c] at ih; exact ih
  · refine k13 _ _ _ _ ?_
    simp only [vcX8_hasCaptured_13, R1.fs, R1.gm hg1, true_and]
    exact ⟨fun _ => ⟨bI_m _, hq h1 A1 R1 F1⟩, fun c => absurd (nI_le (Nat.le_refl _) (by omega)) c⟩
theorem k_distanceOf {Q : Int32 → Hp → Prop} {x : Nat} {k : Int32} (R : Rf E h0 h M A f) (G : RG A f g) (hx : x < nx g) (hq : Q (dst g k x) h) : OkI E YX8_distanceOf d [.ref M, .int k, .int (nI x)] h Q := by
  refine rnX8_distanceOf ?_
  obtain ⟨hg, w, v, hf, T, Tc⟩ := G
  have hnx := nx_le w
  simp only [vcX8_distanceOf_0, R.fs, R.tb (show x < 4394 by omega), (T x hx).2.2.2, (Tc x hx).2, true_and]
  refine ⟨fun c => ?_, fun c => ?_⟩
  · rw [dst, if_neg c] at hq; exact hq
  · rw [dst, if_pos c] at hq; exact hq
theorem RS.f7 (S : RS A f s) : (sG s = none → f 7 = 0) ∧ ∀ g, sG s = some g → f 7 = 1 := by
  have := S.2.1
  refine ⟨fun e => ?_, fun g e => ?_⟩
  · rw [e] at this; exact this
  · rw [e] at this; exact this.1
theorem k_positions {Q : Int32 → Hp → Prop} {a v c : Int32} (R : Rf E h0 h M A f) (S : RS A f s)
    (hq : ∀ h' A', Rf E h0 h' M A' f → FS A A' → Q (sPos s a v c) h') : OkI E YX8_positions (d + 3) [.ref M, .int a, .int v, .int c] h Q := by
  refine rnX8_positions (fun K45 k45 => ?_)
  cases hg : sG s with
  | none =>
    have hq := hq h A R (FS.rfl A)
    rw [sPos, hg] at hq
    simp only [vcX8_positions_0, R.fs, true_and, S.f7.1 hg]
    exact ⟨fun c => absurd trivial c, fun _ => hq⟩
  | some g =>
    obtain ⟨hga, w, vv, hf, T, Tc⟩ := S.go hg
    have G := S.go hg
    have hnx := nx_le w
    have hev := nx_even g
    rw [sPos, hg] at hq
    simp only [vcX8_positions_0, R.fs, true_and, S.f7.2 g hg]
    refine ⟨fun _ => ?_, fun c => absurd c (by decide)⟩
    have bad : (btw 0 1 a && btw (-1) 1 v && btw 0 2 c) = false → Q (-1) h := fun q => by
      have := hq h A R (FS.rfl A)
      simp only [q, Bool.false_eq_true, if_false] at this
      exact this
    refine k_isBetween (bI_c (fun c1 => ?_) (fun c1 => ?_))
    · exact bad (by rw [show btw 0 1 a = false from c1]; rfl)
    refine k_isBetween (bI_c (fun c2 => ?_) (fun c2 => ?_))
    · exact bad (by rw [show btw (-1) 1 v = false from c2, Bool.and_false]; rfl)
    refine k_isBetween (bI_c' (fun c3 => ?_) (fun c3 => ?_))
    · exact bad (by rw [show btw 0 2 c = false from c3, Bool.and_false])
    obtain ⟨t, ht, et⟩ := btw_in (v := a) (b := 2) (by omega) c1
    subst et
    simp only [show btw 0 1 (nI t) = true from c1, show btw (-1) 1 v = true from c2, show btw 0 2 c = true from c3, Bool.and_self, if_true, n_cl (n := t)] at hq
    refine lp_up (K := fun i => ∀ h1 A1, Rf E h0 h1 M A1 f → FI A A1 → K45 M v c (nI (cN (fun i => pqP g v c (t + 2 * i)) i)) (nI (t + 2 * i)) h1) (nx g / 2) (fun i hi ih h1 A1 R1 F1 => ?_) (fun h1 A1 R1 F1 => ?_) 0 (Nat.zero_le _) h A R (FI.rfl A)
    · refine k45 _ _ _ _ _ _ ?_
      have hx : t + 2 * i < nx g := by omega
      obtain ⟨x, ex⟩ : ∃ x, t + 2 * i = x := ⟨_, rfl⟩
      have ih1 : ∀ h2 A2, Rf E h0 h2 M A2 f → FI A A2 → K45 M v c (nI (cN (fun i => pqP g v c (t + 2 * i)) i + (if pqP g v c x = true then 1 else 0))) (nI x + 2) h2 := fun h2 A2 R2 F2 => by
        have := ih h2 A2 R2 F2
        rw [cN, ex, show t + 2 * (i + 1) = x + 2 by omega, ← nI_add x 2] at this
        exact this
      rw [ex] at hx ⊢
      obtain ⟨N, hN⟩ : ∃ N, cN (fun i => pqP g v c (t + 2 * i)) i = N := ⟨_, rfl⟩
      rw [hN] at ih1 ⊢
      -- the last tests
      have L83 : ∀ b : Bool, b = (c == 2 || cap g x == (c == 1)) → ∀ h2 A2, Rf E h0 h2 M A2 f → FI A A2 → vcX8_positions_83 E (d + 2) K45 M v c (nI N) (nI x) (bI b) h2 Q := fun b hb h2 A2 R2 F2 => by
        have ih2 := ih1 h2 A2 R2 F2
        obtain ⟨-, -, -, hf2, T2, Tc2⟩ := F2.rg G
        have no : pqP g v c x = false → vcX8_positions_117 E (d + 2) K45 M v c (nI x) (nI N) h2 Q := fun q => by
          rw [q, if_neg (by decide)] at ih2
          rw [vcX8_positions_117, n_lit0, nI_add]; exact ih2
        simp only [vcX8_positions_83, R2.fs, true_and, R2.tb (show x < 4394 by omega), (T2 x hx).1, (T2 x hx).2.2.1]
        refine bI_c (fun c4 => no (by simp [pqP, c4])) (fun c4 => ⟨fun c5 => no ?_, fun c5 => bI_c (fun c6 => no ?_) (fun c6 => ?_)⟩)
        · have : (val g x == v) = false := beq_eq_false_iff_ne.mpr c5
          simp [pqP, this]
        · rw [pqP, ← hb, c6, Bool.and_false]
        · have : (val g x == v) = true := beq_iff_eq.mpr c5
          rw [show pqP g v c x = true by rw [pqP, ← hb, c6, c4, this]; rfl, if_pos rfl] at ih2
          rw [n_lit1, nI_add]; exact ih2
      simp only [vcX8_positions_45, R1.fs, true_and, hf, nI_leI (show nx g < 2 ^ 31 by omega) (show x < 2 ^ 31 by omega)]
      refine ⟨fun q => absurd q (by omega), fun _ => ⟨fun q => ?_, fun q => ?_⟩⟩
      · exact L83 true (by rw [show (c == 2) = true by simpa using q]; rfl) h1 A1 R1 F1
      · refine k_hasCaptured R1 (F1.g2 hga) w hx (fun h2 A2 R2 F2 => ?_)
        have q' : (c == 2) = false := by simpa using q
        have both : ∀ b : Bool, b = (c == 1) → vcX8_positions_75 E (d + 2) K45 M v c (nI N) (nI x) (bI (cap g x)) (bI b) h2 Q := fun b hb => by
          rw [vcX8_positions_75]
          refine ⟨fun c4 => L83 false ?_ h2 A2 R2 (F1.tr F2), fun c4 => L83 true ?_ h2 A2 R2 (F1.tr F2)⟩
          · rw [q', ← hb]
            revert c4
            cases cap g x <;> cases b <;> simp [bI]
          · rw [q', ← hb]
            revert c4
            cases cap g x <;> cases b <;> simp [bI]
        exact ⟨fun c4 => both false (by simpa using c4), fun c4 => both true (by simpa using c4)⟩
    · refine k45 _ _ _ _ _ _ ?_
      simp only [vcX8_positions_45, R1.fs, true_and, hf]
      exact ⟨fun _ => hq h1 A1 R1 F1.fs, fun q => absurd (nI_le (by omega) (by omega)) q⟩
theorem k_spread {Q : Int32 → Hp → Prop} {k a l : Int32} (R : Rf E h0 h M A f) (S : RS A f s) (hq : Q (sSpr s k a l) h) : OkI E YX8_spread (d + 1) [.ref M, .int k, .int a, .int l] h Q := by
  refine rnX8_spread (fun K43 k43 => ?_)
  cases hg : sG s with
  | none =>
    rw [sSpr, hg] at hq
    simp only [vcX8_spread_0, R.fs, true_and, S.f7.1 hg]
    exact ⟨fun c => absurd trivial c, fun _ => hq⟩
  | some g =>
    obtain ⟨hga, w, vv, hf, T, Tc⟩ := S.go hg
    have G := S.go hg
    have hnx := nx_le w
    have hev := nx_even g
    rw [sSpr, hg] at hq
    simp only [vcX8_spread_0, R.fs, true_and, S.f7.2 g hg]
    refine ⟨fun _ => ?_, fun c => absurd c (by decide)⟩
    have bad : (btw 0 1 k && btw 0 1 a) = false → Q (-1) h := fun q => by
      simp only [q, Bool.false_eq_true, if_false] at hq
      exact hq
    refine k_isBetween (bI_c (fun c1 => ?_) (fun c1 => ?_))
    · exact bad (by rw [show btw 0 1 k = false from c1]; rfl)
    refine k_isBetween (bI_c' (fun c2 => ?_) (fun c2 => ?_))
    · exact bad (by rw [show btw 0 1 a = false from c2, Bool.and_false])
    obtain ⟨t, ht, et⟩ := btw_in (v := a) (b := 2) (by omega) c2
    subst et
    simp only [show btw 0 1 k = true from c1, show btw 0 1 (nI t) = true from c2, Bool.and_self, if_true, n_cl (n := t)] at hq
    refine ⟨fun c3 => ?_, fun c3 => ?_⟩
    · rw [if_pos c3] at hq
      refine lp_up (K := fun i => K43 M k l (nI (cN (fun i => spP g k l (t + 2 * i)) i)) (nI (t + 2 * i)) h) (nx g / 2) (fun i hi ih => ?_) ?_ 0 (Nat.zero_le _)
      · refine k43 _ _ _ _ _ _ ?_
        have hx : t + 2 * i < nx g := by omega
        obtain ⟨x, ex⟩ : ∃ x, t + 2 * i = x := ⟨_, rfl⟩
        rw [cN, ex, show t + 2 * (i + 1) = x + 2 by omega, ← nI_add x 2] at ih
        rw [ex] at hx ⊢
        have no : spP g k l x = false → vcX8_spread_79 E d K43 M k l (nI x) (nI (cN (fun i => spP g k l (t + 2 * i)) i)) h Q := fun q => by
          rw [q, if_neg (by decide)] at ih
          rw [vcX8_spread_79, n_lit0, nI_add]; exact ih
        simp only [vcX8_spread_43, R.fs, true_and, hf, nI_leI (show nx g < 2 ^ 31 by omega) (show x < 2 ^ 31 by omega), R.tb (show x < 4394 by omega), (T x hx).1]
        refine ⟨fun q => absurd q (by omega), fun _ => bI_c (fun c4 => no (by simp [spP, c4])) (fun c4 => k_distanceOf R G hx ⟨fun c5 => no ?_, fun c5 => ?_⟩)⟩
        · have : (dst g k x == l) = false := by simpa using c5
          simp [spP, this]
        · have : (dst g k x == l) = true := by simpa using c5
          rw [show spP g k l x = true by rw [spP, c4, this]; rfl, if_pos rfl] at ih
          rw [n_lit1, nI_add]
          exact ih
      · refine k43 _ _ _ _ _ _ ?_
        simp only [vcX8_spread_43, R.fs, true_and, hf]
        exact ⟨fun _ => hq, fun q => absurd (nI_le (by omega) (by omega)) q⟩
    · rw [if_neg c3] at hq; exact hq
theorem k_longest {Q : Int32 → Hp → Prop} {k c : Int32} (R : Rf E h0 h M A f) (S : RS A f s) (hq : Q (sLon s k c) h) : OkI E YX8_longest (d + 1) [.ref M, .int k, .int c] h Q := by
  refine rnX8_longest (fun K40 k40 => ?_)
  cases hg : sG s with
  | none =>
    rw [sLon, hg] at hq
    simp only [vcX8_longest_0, R.fs, true_and, S.f7.1 hg]
    exact ⟨fun c => absurd trivial c, fun _ => hq⟩
  | some g =>
    obtain ⟨hga, w, vv, hf, T, Tc⟩ := S.go hg
    have G := S.go hg
    have hnx := nx_le w
    rw [sLon, hg] at hq
    simp only [vcX8_longest_0, R.fs, true_and, S.f7.2 g hg]
    refine ⟨fun _ => ?_, fun c => absurd c (by decide)⟩
    have bad : (btw 0 1 k && btw 0 1 c) = false → Q (-1) h := fun q => by
      simp only [q, Bool.false_eq_true, if_false] at hq
      exact hq
    refine k_isBetween (bI_c (fun c1 => ?_) (fun c1 => ?_))
    · exact bad (by rw [show btw 0 1 k = false from c1]; rfl)
    refine k_isBetween (bI_c' (fun c2 => ?_) (fun c2 => ?_))
    · exact bad (by rw [show btw 0 1 c = false from c2, Bool.and_false])
    simp only [show btw 0 1 k = true from c1, show btw 0 1 c = true from c2, Bool.and_self, if_true] at hq
    refine lp_up (K := fun x => K40 M k c (lgN g k x).1 (lgN g k x).2 (nI x) h) (nx g) (fun x hx ih => ?_) ?_ 0 (Nat.zero_le _)
    · refine k40 _ _ _ _ _ _ _ ?_
      rw [lgN, ← nI_1] at ih
      simp only [vcX8_longest_40, R.fs, true_and, hf, nI_leI (show nx g < 2 ^ 31 by omega) (show x < 2 ^ 31 by omega), R.tb (show x < 4394 by omega), (T x hx).1]
      have no : (Ps g x && decide (¬ dst g k x ≤ (lgN g k x).1)) = false → K40 M k c (lgN g k x).1 (lgN g k x).2 (nI x + 1) h := fun q => by
        rw [q] at ih
        exact ih
      refine ⟨fun q => absurd q (by omega), fun _ => bI_c (fun c4 => no (by rw [c4]; rfl)) (fun c4 => k_distanceOf R G hx ⟨fun c5 => no (by simp [c5]), fun c5 => ?_⟩)⟩
      simp only [R.fs, true_and]
      refine k_distanceOf R G hx ?_
      rw [show (Ps g x && decide (¬ dst g k x ≤ (lgN g k x).1)) = true by rw [c4, decide_eq_true c5]; rfl] at ih
      exact ih
    · refine k40 _ _ _ _ _ _ _ ?_
      simp only [vcX8_longest_40, R.fs, true_and, hf]
      refine ⟨fun _ => ⟨fun c3 => ?_, fun c3 => ?_⟩, fun q => absurd (nI_le (by omega) (by omega)) q⟩
      · rw [if_neg c3] at hq; exact hq
      · rw [if_pos c3] at hq; exact hq
theorem k_zugzwang {Q : Int32 → Hp → Prop} {k : Int32} (R : Rf E h0 h M A f) (S : RS A f s) (hq : Q (sZug s k) h) : OkI E YX8_zugzwang d [.ref M, .int k] h Q := by
  refine rnX8_zugzwang (fun K17 k17 => ?_)
  cases hg : sG s with
  | none =>
    rw [sZug, hg] at hq
    simp only [vcX8_zugzwang_0, R.fs, true_and, S.f7.1 hg]
    exact ⟨fun c => absurd trivial c, fun _ => hq⟩
  | some g =>
    obtain ⟨hga, w, vv, hf, T, Tc⟩ := S.go hg
    have G := S.go hg
    have hnx := nx_le w
    have hev := nx_even g
    rw [sZug, hg] at hq
    simp only [vcX8_zugzwang_0, R.fs, true_and, S.f7.2 g hg]
    refine ⟨fun _ => ?_, fun c => absurd c (by decide)⟩
    refine lp_up (K := fun i => K17 M k (zgF g k i) (nI (zgC g i)) (nI (2 * i)) h) (nx g / 2) (fun i hi ih => ?_) ?_ 0 (Nat.zero_le _)
    · refine k17 _ _ _ _ _ _ ?_
      have hx : 2 * i < nx g := by omega
      have hx1 : 2 * i + 1 < nx g := by omega
      have hC : zgC g (i + 1) = zgC g i + (if zzP g (2 * i) = true then 1 else 0) := rfl
      rw [zgF, hC, show 2 * (i + 1) = 2 * i + 2 by omega, ← nI_add (2 * i) 2] at ih
      obtain ⟨x, ex⟩ : ∃ x, 2 * i = x := ⟨_, rfl⟩
      rw [ex] at ih hx hx1 ⊢
      have no : zzP g x = false → K17 M k (zgF g k i) (nI (zgC g i)) (nI x + 2) h := fun q => by
        rw [q] at ih
        exact ih
      simp only [vcX8_zugzwang_17, nI_1, R.fs, true_and, hf, nI_leI (show nx g < 2 ^ 31 by omega) (show x < 2 ^ 31 by omega), R.tb (show x < 4394 by omega), R.tb (show x + 1 < 4394 by omega), (T x hx).1, (T _ hx1).1, (T x hx).2.2.1, (T _ hx1).2.2.1]
      refine ⟨fun q => absurd q (by omega), fun _ => bI_c (fun c4 => no (by simp [zzP, c4])) (fun c4 => bI_c (fun c5 => no (by simp [zzP, c5])) (fun c5 => ⟨fun c6 => no ?_, fun c6 => ?_⟩))⟩
      · have : -(val g (x + 1)) ≤ val g x := c6
        simp [zzP, this]
      · have c6' : ¬ -(val g (x + 1)) ≤ val g x := c6
        rw [show zzP g x = true by rw [zzP, c4, c5, decide_eq_true c6']; rfl] at ih
        refine ⟨fun c7 => ?_, fun c7 => ?_⟩
        · rw [show (nI (zgC g i) == k) = false by simpa using c7] at ih
          exact ih
        · rw [show (nI (zgC g i) == k) = true by simpa using c7] at ih
          exact ih
    · refine k17 _ _ _ _ _ _ ?_
      simp only [vcX8_zugzwang_17, R.fs, true_and, hf]
      refine ⟨fun _ => ⟨fun c3 => ?_, fun c3 => ?_⟩, fun q => absurd (nI_le (by omega) (by omega)) q⟩
      · simp only [c3, if_false] at hq; exact hq
      · simp only [c3, if_true] at hq; exact hq
theorem k_unlike {Q : Int32 → Hp → Prop} (R : Rf E h0 h M A f) (S : RS A f s)
    (hq : ∀ h' A', Rf E h0 h' M A' f → FS A A' → Q (sUnl s) h') : OkI E YX8_unlike (d + 10) [.ref M] h Q := by
  refine rnX8_unlike (fun K19 k19 => ?_)
  refine ⟨⟨_, R.obj⟩, k_isPlaying R S (bI_c' (fun c => ?_) (fun c => ?_))⟩
  · have := hq h A R (FS.rfl A)
    rw [sUnl] at this
    simp only [decide_eq_false_iff_not, Decidable.not_not] at c
    cases hg : sG s with
    | none => rw [hg] at this; exact this
    | some g => rw [hg] at this; simp only [c, if_true] at this; exact this
  · have c := of_decide_eq_true c
    obtain ⟨g, m, e1, e2, e3, e4, e5, e6⟩ := S.pl c
    have G := S.go e1
    have w := G.2.1
    have hnx := nx_le w
    rw [sUnl, e1] at hq
    simp only [c, if_false] at hq
    refine ⟨⟨_, R.obj⟩, k_here R S c ?_⟩
    obtain ⟨y, hy⟩ : ∃ y, pHe (sP s) = y := ⟨_, rfl⟩
    rw [hy] at e6 hq ⊢
    obtain ⟨hy1, -⟩ := Ps_un w e6
    refine lp_up (K := fun x => ∀ h1 A1, Rf E h0 h1 M A1 f → FS A A1 → K19 M (nI y) (nI (cN (ulP g y) x)) (nI x) h1) (nx g) (fun x hx ih h1 A1 R1 F1 => ?_) (fun h1 A1 R1 F1 => ?_) 0 (Nat.zero_le _) h A R (FS.rfl A)
    · refine k19 _ _ _ _ _ ?_
      have G1 : RG A1 f g := G.of (fun j o => F1 j (by omega))
      obtain ⟨hg1, -, vv, hf, T, Tc⟩ := id G1
      simp only [vcX8_unlike_19, R1.fs, true_and, hf, nI_leI (show nx g < 2 ^ 31 by omega) (show x < 2 ^ 31 by omega), R1.tb (show x < 4394 by omega), (T x hx).1]
      have no : ulP g y x = false → ∀ h2 A2, Rf E h0 h2 M A2 f → FS A A2 → K19 M (nI y) (nI (cN (ulP g y) x)) (nI x + 1) h2 := fun q h2 A2 R2 F2 => by
        have := ih h2 A2 R2 F2
        rw [cN, q, ← nI_1 x] at this
        exact this
      refine ⟨fun q => absurd q (by omega), fun _ => bI_c (fun c4 => no (by simp [ulP, c4]) h1 A1 R1 F1) (fun c4 => ?_)⟩
      refine k_canonical R1 hg1 w hx (fun h2 A2 R2 F2 => ⟨⟨_, R2.obj⟩, k_canonical R2 (F2.g2 hg1) w hy1 (fun h3 A3 R3 F3 => ?_)⟩)
      have F13 := F1.tr (F2.tr F3).fs
      have l1 := canN_lt w hx 8
      have l2 := canN_lt w hy1 8
      rw [nI_eq (show can g x < 2 ^ 31 by unfold can; omega) (show can g y < 2 ^ 31 by unfold can; omega)]
      refine ⟨fun c5 => no (by simp [ulP, c5]) h3 A3 R3 F13, fun c5 => ⟨⟨_, R3.obj⟩, ?_⟩⟩
      have G3 : RG A3 f g := (F2.tr F3).rg G1
      rw [show (2 : Int32) = nI 2 from rfl]
      refine k_searchFrom (Q := Q) (d := d) w 2 x h3 A3 _ (by omega) R3 G3 c4 (fun h4 A4 R4 F4 => ?_)
      have F14 := F13.tr (FR.fs (by omega) F4)
      have G4 : RG A4 f g := G3.of (fun j o => FR.fs (by omega) F4 j (by omega))
      obtain ⟨hg4, -, -, hf4, T4, Tc4⟩ := G4
      simp only [R4.fs, true_and, R4.tb (show x < 4394 by omega), R4.tb (show y < 4394 by omega), (T4 x hx).2.2.1, (T4 y hy1).2.2.1]
      have e5' : (can g x == can g y) = true := by simpa using c5
      have yes : (val g x != val g y || (srV g 2 x != 0 && srV g 2 x != val g x)) = true → vcX8_unlike_89 E (d + 9) K19 M (nI y) (nI x) (nI (cN (ulP g y) x)) h4 Q := fun q => by
        have := ih h4 A4 R4 F14
        rw [cN, show ulP g y x = true by rw [ulP, c4, e5', q]; rfl, if_pos rfl, ← nI_1 x] at this
        rw [vcX8_unlike_89, show nI (cN (ulP g y) x) + 1 = nI (cN (ulP g y) x + 1) from nI_1 _]
        exact this
      have no' : (val g x != val g y || (srV g 2 x != 0 && srV g 2 x != val g x)) = false → vcX8_unlike_93 E (d + 9) K19 M (nI y) (nI x) (nI (cN (ulP g y) x)) h4 Q := fun q => by
        have := no (by rw [ulP, q, Bool.and_false]) h4 A4 R4 F14
        rw [vcX8_unlike_93, show nI (cN (ulP g y) x) + 0 = nI (cN (ulP g y) x) from nI_add _ 0]
        exact this
      refine ⟨fun c6 => yes ?_, fun c6 => ⟨fun c7 => no' ?_, fun c7 => ⟨fun c8 => no' ?_, fun c8 => yes ?_⟩⟩⟩
      · have : (val g x != val g y) = true := bne_iff_ne.mpr c6
        rw [this]; rfl
      · have : (val g x != val g y) = false := by rw [show val g x = val g y from c6]; exact bne_self_eq_false _
        rw [this, show (srV g 2 x != 0) = false by simpa using c7]; rfl
      · have : (val g x != val g y) = false := by rw [show val g x = val g y from c6]; exact bne_self_eq_false _
        have q : (srV g 2 x != val g x) = false := by rw [show srV g 2 x = val g x from c8]; exact bne_self_eq_false _
        rw [this, q, Bool.and_false]; rfl
      · have q : (srV g 2 x != val g x) = true := bne_iff_ne.mpr c8
        rw [q, show (srV g 2 x != 0) = true by simpa using c7, Bool.and_self, Bool.or_true]
    · refine k19 _ _ _ _ _ ?_
      have hf : f 20 = nI (nx g) := G.2.2.2.1
      simp only [vcX8_unlike_19, R1.fs, true_and, hf]
      exact ⟨fun _ => hq h1 A1 R1 F1, fun q => absurd (nI_le (Nat.le_refl _) (by omega)) q⟩
theorem k_countDifferent {Q : Int32 → Hp → Prop} (R : Rf E h0 h M A f) (S : RS A f s) (c : pN (sP s) ≠ 0) (hq : Q (nI (dfP (sP s))) h) : OkI E YX8_countDifferent d [.ref M] h Q := by
  refine rnX8_countDifferent (fun K4 K17 k4 k17 => ?_)
  obtain ⟨g, m, e1, e2, e3, e4, e5, e6⟩ := S.pl c
  have h6 := S.2.2.1.2.2.2
  obtain ⟨hg, w, -⟩ := S.go e1
  have hnx := nx_le w
  have row : ∀ k, k < m + 1 → gA h (M + 49) (nI k) = nI (pP (sP s) k) ∧ okR E h (M + 49) 0 (nI k) ∧ pP (sP s) k < 2 ^ 31 := fun k hk => by
    obtain ⟨u1, u2, u3⟩ := h6 k (by omega)
    refine ⟨by rw [R.gR 49 _ rfl, n_cl, u1], R.oR 49 _ rfl rfl (vpn (n := 41) (by omega)), ?_⟩
    have := (Ps_un w (u3 g e1)).1
    omega
  refine lp_up (K := fun k => K4 M (nI (cN (fun k => (List.range k).all (fun b => pP (sP s) b != pP (sP s) k)) k)) (nI k) h) (m + 1) (fun k hk ih => ?_) ?_ 0 (Nat.zero_le _)
  · refine k4 _ _ _ _ ?_
    simp only [vcX8_countDifferent_4, R.fs, true_and, e4, nI_ltI (show m < 2 ^ 31 by omega) (show k < 2 ^ 31 by omega)]
    refine ⟨fun q => absurd q (by omega), fun _ => ?_⟩
    obtain ⟨N, hN⟩ : ∃ N, cN (fun k => (List.range k).all (fun b => pP (sP s) b != pP (sP s) k)) k = N := ⟨_, rfl⟩
    rw [cN, hN, ← nI_1 k] at ih
    rw [hN]
    refine lp_up (K := fun b => K17 M (nI N) (nI k) (bI ((List.range b).all (fun b => pP (sP s) b != pP (sP s) k))) (nI b) h) k (fun b hb ihb => ?_) ?_ 0 (Nat.zero_le _)
    · refine k17 _ _ _ _ _ _ ?_
      obtain ⟨r1, r2, r3⟩ := row b (by omega)
      obtain ⟨r4, r5, r6⟩ := row k (by omega)
      simp only [vcX8_countDifferent_17, R.fs, true_and, nI_leI (show k < 2 ^ 31 by omega) (show b < 2 ^ 31 by omega), r1, r2, r4, r5, nI_eq r3 r6]
      rw [← nI_1, List.range_succ, List.all_append, List.all_cons, List.all_nil, Bool.and_true, ← bI_and] at ihb
      refine ⟨fun q => absurd q (by omega), fun _ => ⟨fun q => ?_, fun q => ?_⟩⟩
      · rw [show (pP (sP s) b != pP (sP s) k) = false by simpa using q] at ihb; exact ihb
      · rw [show (pP (sP s) b != pP (sP s) k) = true by simpa using q] at ihb; exact ihb
    · refine k17 _ _ _ _ _ _ ?_
      refine ⟨fun _ => bI_c (fun q => ?_) (fun q => ?_), fun q => absurd (nI_le (Nat.le_refl _) (by omega)) q⟩
      · rw [if_neg (by rw [q]; decide)] at ih
        rw [n_lit0, nI_add]; exact ih
      · rw [if_pos q] at ih
        rw [n_lit1, nI_add]; exact ih
  · refine k4 _ _ _ _ ?_
    simp only [vcX8_countDifferent_4, R.fs, true_and, e4]
    refine ⟨fun _ => ?_, fun q => absurd (nI_lt (show m < m + 1 by omega) (by omega)) q⟩
    rw [dfP, e2] at hq; exact hq
theorem k_countSinceCapture {Q : Int32 → Hp → Prop} (R : Rf E h0 h M A f) (S : RS A f s) (c : pN (sP s) ≠ 0) (hq : Q (nI (siP (sP s))) h) : OkI E YX8_countSinceCapture d [.ref M] h Q := by
  refine rnX8_countSinceCapture (fun K2 k2 => ?_)
  obtain ⟨g, m, e1, e2, e3, e4, e5, e6⟩ := S.pl c
  have h6 := S.2.2.1.2.2.2
  have loop : ∀ r k, r + k = m → siN (sP s) r k = siP (sP s) → K2 M (nI k) h := by
    intro r
    induction r with
    | zero =>
      intro k e q
      refine k2 _ _ _ ?_
      simp only [vcX8_countSinceCapture_2, R.fs, true_and, e4]
      refine ⟨fun _ => ?_, fun q2 => absurd (nI_le (show m ≤ k by omega) (by omega)) q2⟩
      rw [siN] at q
      rw [q]; exact hq
    | succ r ih =>
      intro k e q
      refine k2 _ _ _ ?_
      obtain ⟨u1, u2, u3⟩ := h6 (m - k) (by omega)
      rw [siN, e2, show m + 1 - 1 - k = m - k by omega] at q
      simp only [vcX8_countSinceCapture_2, R.fs, true_and, e4, nI_leI (show m < 2 ^ 31 by omega) (show k < 2 ^ 31 by omega)]
      refine ⟨fun q2 => absurd q2 (by omega), fun _ => ?_⟩
      rw [n_sub (by omega)]
      refine ⟨R.oZ 51 _ rfl rfl (vpn (n := 41) (by omega)), ?_⟩
      rw [R.gR 51 _ rfl, n_cl, u2]
      refine bI_c' (fun q2 => ?_) (fun q2 => ?_)
      · rw [q2] at q
        rw [nI_1]
        exact ih (k + 1) (by omega) q
      · rw [q2, if_pos rfl] at q
        rw [q]; exact hq
  exact loop m 0 (by omega) (by rw [siP, e2]; rfl)
theorem k_count {Q : Int32 → Hp → Prop} {x : Int32} (R : Rf E h0 h M A f) (S : RS A f s) (hq : Q (sCnt s x) h) : OkI E YX8_count (d + 2) [.ref M, .int x] h Q := by
  refine rnX8_count ?_
  have z : pN (sP s) = 0 → ocP (sP s) = 0 ∧ dfP (sP s) = 0 ∧ siP (sP s) = 0 := fun c => by
    refine ⟨by rw [ocP, c]; rfl, by rw [dfP, c]; rfl, by rw [siP, c]; rfl⟩
  unfold sCnt at hq
  simp only [vcX8_count_0, R.fs, true_and]
  have cn : ∀ {b : Bool}, b = decide (pN (sP s) ≠ 0) → (b = false → pN (sP s) = 0) ∧ (b = true → pN (sP s) ≠ 0) := by
    rintro b rfl
    exact ⟨fun q => by simpa using q, fun q => of_decide_eq_true q⟩
  refine ⟨fun q => ?_, fun q0 => ⟨fun q => ?_, fun q1 => ⟨fun q => ?_, fun q2 => ⟨fun q => ?_, fun q3 => ⟨fun q => ?_, fun q4 => ?_⟩⟩⟩⟩⟩
  · rw [if_pos q] at hq
    refine k_isPlaying R S (bI_c (fun c => ?_) (fun c => ?_))
    · rw [(cn rfl).1 c] at hq; exact hq
    · obtain ⟨g, m, e1, e2, e3, e4, e5, e6⟩ := S.pl ((cn rfl).2 c)
      simp only [R.fs, true_and, e4]
      rw [e2] at hq; exact hq
  · rw [if_neg q0, if_pos q] at hq
    rw [S.1.1]; exact hq
  · rw [if_neg q0, if_neg q1, if_pos q] at hq
    refine k_isPlaying R S (bI_c (fun c => ?_) (fun c => ⟨⟨_, R.obj⟩, k_occurrences R S ((cn rfl).2 c) hq⟩))
    rw [(z ((cn rfl).1 c)).1] at hq; exact hq
  · rw [if_neg q0, if_neg q1, if_neg q2, if_pos q] at hq
    refine k_isPlaying R S (bI_c (fun c => ?_) (fun c => ⟨⟨_, R.obj⟩, k_countDifferent R S ((cn rfl).2 c) hq⟩))
    rw [(z ((cn rfl).1 c)).2.1] at hq; exact hq
  · rw [if_neg q0, if_neg q1, if_neg q2, if_neg q3, if_pos q] at hq
    refine k_isPlaying R S (bI_c (fun c => ?_) (fun c => ⟨⟨_, R.obj⟩, k_countSinceCapture R S ((cn rfl).2 c) hq⟩))
    rw [(z ((cn rfl).1 c)).2.2] at hq; exact hq
  · rw [if_neg q0, if_neg q1, if_neg q2, if_neg q3, if_neg q4] at hq; exact hq
end
