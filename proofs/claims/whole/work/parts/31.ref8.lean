def qV (g : Gm) : Prop := (qs g = -1 ∨ qs g = 0 ∨ qs g = 1) ∧ (ql g = -5 ∨ ∃ n, n < 100 ∧ ql g = nI n)
theorem endV_c {g : Gm} (v : qV g) (x : Nat) : endV g x = -1 ∨ endV g x = 0 ∨ endV g x = 1 := by
  unfold endV
  split
  · exact Or.inl rfl
  · exact v.1
theorem Ld_inv {g : Gm} (v : qV g) : ∀ n x, ((Ld g n x).1 = 0 ∧ (Ld g n x).2.1 = -5) ∨ (((Ld g n x).1 = 1 ∨ (Ld g n x).1 = -1) ∧ (Ld g n x).2.2 = true ∧ ∃ k, k ≤ n ∧ (Ld g n x).2.1 = nI k)
  | 0, x => by
    rw [Ld]
    split
    · rcases endV_c v x with e | e | e <;> simp [e]
      · exact rfl
      · exact rfl
    · exact Or.inl ⟨rfl, rfl⟩
  | n + 1, x => by
    have ih := Ld_inv v n x
    rw [Ld]
    split
    · split
      · exact Or.inr ⟨Or.inl rfl, rfl, n + 1, Nat.le_refl _, rfl⟩
      · split
        · exact Or.inr ⟨Or.inr rfl, rfl, n + 1, Nat.le_refl _, rfl⟩
        · exact Or.inl ⟨rfl, rfl⟩
    · rcases ih with h | ⟨h1, h2, k, h3, h4⟩
      · exact Or.inl h
      · exact Or.inr ⟨h1, h2, k, by omega, h4⟩
theorem Ld_no {g : Gm} {x : Nat} (h : Ps g x = false) : ∀ n, Ld g n x = (0, -5, false)
  | 0 => by rw [Ld, h]; rfl
  | n + 1 => by rw [Ld, h]; simpa using Ld_no h n
def bef (S : Int32 × Int32 × Bool) (l : Int32) : Bool := S.2.2 && decide (¬ S.2.1 < 0) && decide (¬ l ≤ S.2.1)
theorem bef_eq {g : Gm} (v : qV g) {n y : Nat} (hn : n < 2 ^ 30) {S : Int32 × Int32 × Bool} (hS : S = Ld g n y ∨ S = Ld g (n + 1) y) (c : Int32) (hc : c = 1 ∨ c = -1) : (bef S (nI (n + 1)) && S.1 == c) = ((Ld g n y).1 == c) := by
  have key : ∀ S : Int32 × Int32 × Bool, S = Ld g n y → (bef S (nI (n + 1)) && S.1 == c) = ((Ld g n y).1 == c) := by
    rintro S rfl
    rcases Ld_inv v n y with ⟨h1, h2⟩ | ⟨h1, h2, k, h3, h4⟩
    · rw [h1]
      rcases hc with rfl | rfl <;> simp
    · have : bef (Ld g n y) (nI (n + 1)) = true := by
        simp only [bef, h2, h4, Bool.true_and, Bool.and_eq_true, decide_eq_true_eq]
        exact ⟨nI_pos (by omega), nI_ge (by omega) (by omega)⟩
      rw [this, Bool.true_and]
  rcases hS with hS | hS
  · exact key S hS
  · by_cases c1 : (Ps g y && !(Ld g n y).2.2) = true
    · simp only [Bool.and_eq_true, Bool.not_eq_true'] at c1
      have h0 : (Ld g n y).1 = 0 := by
        rcases Ld_inv v n y with ⟨h1, h2⟩ | ⟨h1, h2, -⟩
        · exact h1
        · rw [h2] at c1; exact absurd c1.2 (by simp)
      rw [h0]
      have h5 : ((0 : Int32) == c) = false := by rcases hc with rfl | rfl <;> rfl
      rw [h5]
      subst hS
      rw [Ld, if_pos (by simp [c1])]
      have h6 : ∀ a : Int32, bef (a, nI (n + 1), true) (nI (n + 1)) = false := by
        intro a
        simp [bef]
      split
      · rw [h6, Bool.false_and]
      · split
        · rw [h6, Bool.false_and]
        · rfl
    · refine key S ?_
      rw [hS, Ld, if_neg c1]
def TB (A : Nat → Nat → Int32) (g : Gm) (S : Nat → Int32 × Int32 × Bool) : Prop := ∀ x, x < nx g → A 41 x = bI (Ps g x) ∧ A 42 x = bI (S x).2.2 ∧ A 44 x = (S x).1 ∧ A 45 x = (S x).2.1
def mixD (g : Gm) (n i x : Nat) : Int32 × Int32 × Bool := if x < i then Ld g (n + 1) x else Ld g n x
theorem mixD_or (g : Gm) (n i x : Nat) : mixD g n i x = Ld g n x ∨ mixD g n i x = Ld g (n + 1) x := by unfold mixD; split <;> simp
def chg (g : Gm) (n x : Nat) : Bool := Ps g x && !(Ld g n x).2.2 && (Ld g (n + 1) x).2.2
def anyN (g : Gm) (n i : Nat) : Bool := (List.range i).any (chg g n)
theorem anyN_succ (g : Gm) (n i : Nat) : anyN g n (i + 1) = (anyN g n i || chg g n i) := by
  unfold anyN
  rw [List.range_succ, List.any_append]
  simp
def FD (A A' : Nat → Nat → Int32) : Prop := ∀ j i, j ≠ 6 → offM 0 j i → j ≠ 42 → j ≠ 44 → j ≠ 45 → A' j i = A j i
theorem FD.g2 {A A' : Nat → Nat → Int32} {g : Gm} (F : FD A A') (hg : rA (A 2) g) : rA (A' 2) g := by
  have : A' 2 = A 2 := funext fun i => F 2 i (by omega) ⟨by omega, by omega, by omega, by omega, by omega⟩ (by omega) (by omega) (by omega)
  rw [this]; exact hg
theorem FM.tab {g : Gm} {A A' : Nat → Nat → Int32} {e : Nat} {P : Nat → Nat} {L : List (Nat × Nat × Option Nat × Nat)} (he : e < 6) (F : FM g A A' e P L) {j : Nat} (hj : 41 ≤ j) : A' j = A j := funext fun i => F.2.2 j i (by omega) ⟨by omega, by omega, by omega, by omega, by omega⟩
section
variable {E : Wd} {h0 h : Hp} {M : Nat} {A : Nat → Nat → Int32} {f : Nat → Int32} {g : Gm} {d : Nat}
theorem Rf.tb (R : Rf E h0 h M A f) {i : Nat} (hi : i < 4394) : gA h (M + 41) (nI i) = A 41 i ∧ gA h (M + 42) (nI i) = A 42 i ∧ gA h (M + 43) (nI i) = A 43 i ∧ gA h (M + 44) (nI i) = A 44 i ∧ gA h (M + 45) (nI i) = A 45 i ∧ gA h (M + 46) (nI i) = A 46 i ∧
    okR E h (M + 41) 1 (nI i) ∧ okR E h (M + 42) 1 (nI i) ∧ okR E h (M + 43) 1 (nI i) ∧ okR E h (M + 44) 0 (nI i) ∧ okR E h (M + 45) 0 (nI i) ∧ okR E h (M + 46) 0 (nI i) := by
  have hc : (nI i).toNatClampNeg = i := n_cl
  have hv : vp_in (nI i) 4394 := vpn hi
  refine ⟨?_, ?_, ?_, ?_, ?_, ?_, R.oZ 41 _ rfl rfl hv, R.oZ 42 _ rfl rfl hv, R.oZ 43 _ rfl rfl hv, R.oR 44 _ rfl rfl hv, R.oR 45 _ rfl rfl hv, R.oR 46 _ rfl rfl hv⟩
  · rw [R.gR 41 _ rfl, hc]
  · rw [R.gR 42 _ rfl, hc]
  · rw [R.gR 43 _ rfl, hc]
  · rw [R.gR 44 _ rfl, hc]
  · rw [R.gR 45 _ rfl, hc]
  · rw [R.gR 46 _ rfl, hc]
theorem k_decide {Q : Int32 → Hp → Prop} {n : Nat} (R : Rf E h0 h M A f) (hg : rA (A 2) g) (w : qF g) (v : qV g) (hf : f 20 = nI (nx g)) (hT : TB A g (Ld g n)) (hn : n < 2 ^ 30)
    (hq : ∀ h' A', Rf E h0 h' M A' f → TB A' g (Ld g (n + 1)) → FD A A' → Q (bI (anyN g n (nx g))) h') : OkI E YX8_decide (d + 7) [.ref M, .int (nI (n + 1))] h Q := by
  refine rnX8_decide (fun K4 K45 k4 k45 => ?_)
  have hnx := nx_le w
  have loop := lp_up (K := fun i => ∀ h' A', Rf E h0 h' M A' f → TB A' g (mixD g n i) → FD A A' → K4 M (nI (n + 1)) (bI (anyN g n i)) (nI i) h') (nx g) (fun i hi ih h' A' R' T' F' => by
    have hg' := F'.g2 hg
    have tb := R'.tb (show i < 4394 by omega)
    obtain ⟨t1, t2, t3, t4⟩ := T' i hi
    have hmi : mixD g n i i = Ld g n i := by unfold mixD; rw [if_neg (by omega)]
    rw [hmi] at t2 t3 t4
    refine k4 _ _ _ _ _ ?_
    simp only [vcX8_decide_4, R'.fs, tb, true_and, hf, t1, t2, nI_leI (show nx g < 2 ^ 31 by omega) (show i < 2 ^ 31 by omega)]
    -- what stays as it was
    have same : Ld g (n + 1) i = Ld g n i → chg g n i = false → ∀ h2 A2, Rf E h0 h2 M A2 f → TB A2 g (mixD g n i) → FD A A2 → K4 M (nI (n + 1)) (bI (anyN g n i)) (nI i + 1) h2 := fun e1 e2 h2 A2 R2 T2 F2 => by
      have e3 : mixD g n (i + 1) = mixD g n i := by
        funext x
        unfold mixD
        by_cases c1 : x < i
        · rw [if_pos c1, if_pos (by omega)]
        · by_cases c2 : x = i
          · subst c2; rw [if_pos (by omega), if_neg c1, e1]
          · rw [if_neg c1, if_neg (by omega)]
      have := ih h2 A2 R2 (by rw [e3]; exact T2) F2
      rw [anyN_succ, e2, Bool.or_false] at this
      rw [nI_1]; exact this
    refine ⟨fun c => absurd c (by omega), fun _ => bI_c (fun c => ?_) (fun c => bI_c' (fun c2 => ?_) (fun c2 => ?_))⟩
    · exact same (by rw [Ld, c]; rfl) (by simp [chg, c]) h' A' R' T' F'
    · obtain ⟨hx1, -, -⟩ := (Ps_iff w).mp c
      have hpo : poss g (plc g i) (i % 2) = true := by simp only [Ps, Bool.and_eq_true] at c; exact c.2
      refine k_findMoves (e := 0) R' hg' w (by omega) hx1 hpo (fun h2 A2 R2 F2 => ?_)
      have T2 : TB A2 g (mixD g n i) := fun x hx => by
        rw [F2.tab (by omega) (show 41 ≤ 41 by omega), F2.tab (by omega) (show 41 ≤ 42 by omega), F2.tab (by omega) (show 41 ≤ 44 by omega), F2.tab (by omega) (show 41 ≤ 45 by omega)]; exact T' x hx
      have FD2 : FD A A2 := fun j i' o1 o2 o3 o4 o5 => by rw [F2.2.2 j i' (by omega) o2]; exact F' j i' o1 o2 o3 o4 o5
      have hlen : (mvs g i).length < 37 := by
        have h1 := mvA_len g w (plc g i) (i % 2) (qn g)
        have h2 := w.2.2.2.2.2.2.1
        unfold mvs
        omega
      have hsl : (suc g i).length = (mvs g i).length := by unfold suc; rw [List.length_map]
      have hk0 : A2 12 0 = nI (mvs g i).length := F2.1.1
      have rw2 := R2.rows (e := 0) (by omega)
      have inner := lp_up (K := fun k => K45 M (nI (n + 1)) (bI (anyN g n i)) (nI i) (bI (((suc g i).take k).any (fun y => (Ld g n y).1 == -1))) (bI (((suc g i).take k).all (fun y => (Ld g n y).1 == 1))) (nI k) h2) (mvs g i).length (fun k hk ihk => by
        obtain ⟨mv, hmv⟩ : ∃ mv, (mvs g i)[k]? = some mv := ⟨_, List.getElem?_eq_getElem hk⟩
        obtain ⟨y, hy⟩ : ∃ y, mv.2.2.2 = y := ⟨_, rfl⟩
        have hmem : mv ∈ mvs g i := List.mem_of_getElem? hmv
        have hyP := suc_Ps w c hmem
        rw [hy] at hyP
        have hy1 := ((Ps_iff w).mp hyP).1
        have hsk : (suc g i)[k]? = some y := by unfold suc; rw [List.getElem?_map, hmv, ← hy]; rfl
        have hrow : gA h2 (M + (35 + 0)) (nI k) = nI y := by
          rw [R2.gR (35 + 0) _ rfl, n_cl, (F2.1.2 k mv hmv).2.2.2, hy]
        have hokr : okR E h2 (M + (35 + 0)) 0 (nI k) := R2.oR (35 + 0) _ rfl rfl (vpn (n := 36) (by have := mvA_len g w (plc g i) (i % 2) (qn g); have h2' := w.2.2.2.2.2.2.1; unfold mvs at hk; omega) (by omega))
        have tby := R2.tb (show y < 4394 by omega)
        obtain ⟨u1, u2, u3, u4⟩ := T2 y hy1
        have htake : (suc g i).take (k + 1) = (suc g i).take k ++ [y] := by rw [List.take_succ, hsk]; rfl
        have b1 := bef_eq v hn (mixD_or g n i y) (-1) (Or.inr rfl)
        have b2 := bef_eq v hn (mixD_or g n i y) 1 (Or.inl rfl)
        rw [htake, List.any_append, List.all_append] at ihk
        simp only [List.any_cons, List.any_nil, Bool.or_false, List.all_cons, List.all_nil, Bool.and_true] at ihk
        rw [← b1, ← b2, ← nI_1 k] at ihk
        obtain ⟨S, hS⟩ : ∃ S, mixD g n i y = S := ⟨_, rfl⟩
        rw [hS] at u2 u3 u4 ihk
        obtain ⟨wn, hwn⟩ : ∃ wn, ((suc g i).take k).any (fun y => (Ld g n y).1 == -1) = wn := ⟨_, rfl⟩
        obtain ⟨ln, hln⟩ : ∃ ln, ((suc g i).take k).all (fun y => (Ld g n y).1 == 1) = ln := ⟨_, rfl⟩
        rw [hwn, hln] at ihk ⊢
        refine k45 _ _ _ _ _ _ _ _ ?_
        have L153 : ∀ W : Bool, (bef S (nI (n + 1)) && S.1 == 1) = false → W = (wn || (bef S (nI (n + 1)) && S.1 == -1)) → vcX8_decide_153 E (d + 6) K4 K45 M (nI (n + 1)) (bI (anyN g n i)) (nI i) (bI W) (nI k) (bI ln) h2 Q := by
          intro W e1 e2
          rw [e1, ← e2, Bool.and_false] at ihk
          simp only [vcX8_decide_153]
          rw [show bI ln &&& (0 : Int32) = bI false by rw [← bI_f, bI_and, Bool.and_false]]
          exact ihk
        have L128 : ∀ a : Bool, a = (bef S (nI (n + 1)) && S.1 == -1) → vcX8_decide_128 E (d + 6) K4 K45 M (nI (n + 1)) (bI (anyN g n i)) (nI i) (bI ln) (nI k) (nI y) (bI (bef S (nI (n + 1)))) (bI wn) (bI a) h2 Q := by
          intro a ha
          simp only [vcX8_decide_128, bI_or, R2.fs, tby, true_and, u3]
          refine bI_c (fun c3 => L153 _ (by rw [c3]; rfl) (by rw [ha])) (fun c3 => ⟨fun c4 => L153 _ (by rw [c3]; simpa using c4) (by rw [ha]), fun c4 => ?_⟩)
          rw [show (bef S (nI (n + 1)) && S.1 == 1) = true by rw [c3, c4]; rfl, ← ha, Bool.and_true] at ihk
          rw [show bI ln &&& (1 : Int32) = bI ln by rw [← bI_t, bI_and, Bool.and_true]]
          exact ihk
        have L103 : ∀ b : Bool, b = bef S (nI (n + 1)) → vcX8_decide_103 E (d + 6) K4 K45 M (nI (n + 1)) (bI (anyN g n i)) (nI i) (bI wn) (bI ln) (nI k) (nI y) (bI b) h2 Q := by
          rintro b rfl
          simp only [vcX8_decide_103, vcX8_decide_127, R2.fs, tby, true_and, u3]
          refine bI_c (fun c3 => ?_) (fun c3 => ⟨fun c4 => ?_, fun c4 => ?_⟩)
          · exact L128 false (by rw [c3]; rfl)
          · exact L128 false (by rw [c3]; simpa using (show (false = (S.1 == -1)) by simpa using c4))
          · exact L128 true (by rw [c3, c4]; rfl)
        simp only [vcX8_decide_45, R2.fs, rw2, R2.oR 12 0 rfl rfl (vpd rfl), R2.gR 12 0 rfl, show (0 : Int32).toNatClampNeg = 0 from rfl, hk0, true_and, nI_leI (show (mvs g i).length < 2 ^ 31 by omega) (show k < 2 ^ 31 by omega)]
        have rw3 : gW h2 (M + 34) 0 = M + (35 + 0) ∧ okW E h2 (M + 34) 0 := ⟨rw2.2.2.2.2.1, rw2.2.2.2.2.2.2.2.2.2.1⟩
        refine ⟨fun c3 => absurd c3 (by omega), fun _ => ?_⟩
        simp only [rw3, hrow, hokr, tby, u2, u4, true_and, vcX8_decide_102]
        refine bI_c (fun c3 => ?_) (fun c3 => ⟨fun c4 => ?_, fun c4 => ⟨fun c5 => ?_, fun c5 => ?_⟩⟩)
        · exact L103 false (by simp [bef, c3])
        · exact L103 false (by simp [bef, c4])
        · exact L103 false (by simp [bef, c5])
        · exact L103 true (by simp [bef, c3, c4, c5])) (by
        refine k45 _ _ _ _ _ _ _ _ ?_
        have htk : (suc g i).take (mvs g i).length = suc g i := by rw [← hsl, List.take_length]
        rw [htk]
        simp only [vcX8_decide_45, R2.fs, R2.oR 12 0 rfl rfl (vpd rfl), R2.gR 12 0 rfl, show (0 : Int32).toNatClampNeg = 0 from rfl, hk0, true_and]
        refine ⟨fun _ => ?_, fun c3 => absurd (nI_le (Nat.le_refl _) (by omega)) c3⟩
        have done : ∀ r : Int32, Ld g (n + 1) i = (r, nI (n + 1), true) → vcX8_decide_188 E (d + 6) K4 K45 M (nI (n + 1)) (nI i) (M + 44) (nI i) r h2 Q := by
          intro r hr
          simp only [vcX8_decide_188, R2.tb (show i < 4394 by omega), true_and]
          intro h3 e3
          subst e3
          have R3 := R2.st (j := 44) (nI i) r rfl
          simp only [R3.fs, R3.tb (show i < 4394 by omega), true_and]
          intro h4 e4
          subst e4
          have R4 := R3.st (j := 45) (nI i) (nI (n + 1)) rfl
          simp only [R4.fs, R4.tb (show i < 4394 by omega), true_and]
          refine ⟨Or.inr rfl, fun h5 e5 => ?_⟩
          subst e5
          have R5 := R4.st (j := 42) (nI i) 1 rfl
          rw [n_cl (n := i)] at R3 R4 R5
          have := ih _ _ R5 (fun x hx => by
            obtain ⟨z1, z2, z3, z4⟩ := T2 x hx
            by_cases c4 : x = i
            · subst c4
              simp [up2, mixD, hr, z1, bI]
            · have : mixD g n (i + 1) x = mixD g n i x := by
                unfold mixD
                by_cases c5 : x < i
                · rw [if_pos c5, if_pos (by omega)]
                · rw [if_neg c5, if_neg (by omega)]
              rw [this]
              simp [up2, c4, z1, z2, z3, z4]) (fun j i' o1 o2 o3 o4 o5 => by
            simp only [up2, o3, o4, o5, false_and, if_false]; exact FD2 j i' o1 o2 o3 o4 o5)
          rw [anyN_succ, show chg g n i = true by simp [chg, c, c2, hr], Bool.or_true] at this
          rw [nI_1]; exact this
        have hLd : Ld g (n + 1) i = if (suc g i).any (fun y => (Ld g n y).1 == -1) then (1, nI (n + 1), true) else if (suc g i).all (fun y => (Ld g n y).1 == 1) then (-1, nI (n + 1), true) else (0, -5, false) := by
          rw [Ld, if_pos (by simp [c, c2])]
        simp only [vcX8_decide_173, R2.fs, true_and]
        refine bI_c' (fun c3 => bI_c (fun c4 => ?_) (fun c4 => ?_)) (fun c3 => ?_)
        · have h00 : Ld g n i = (0, -5, false) := by
            have e1 : (Ld g n i).2.2 = false := c2
            rcases Ld_inv v n i with ⟨h1, h2⟩ | ⟨h1, h2, -⟩
            · exact Prod.ext h1 (Prod.ext h2 e1)
            · rw [h2] at e1; cases e1
          exact same (by rw [hLd, c3, c4, h00]; rfl) (by simp [chg, hLd, c3, c4]) h2 A2 R2 T2 FD2
        · exact bI_c (fun _ => done (-1) (by rw [hLd, c3, c4]; rfl)) (fun c5 => by rw [c3] at c5; cases c5)
        · exact bI_c (fun c5 => by rw [c3] at c5; cases c5) (fun _ => done 1 (by rw [hLd, c3]; rfl))) 0 (Nat.zero_le _)
      exact inner
    · exact same (by rw [Ld, if_neg (by simp [c2])]) (by simp [chg, c2]) h' A' R' T' F') (fun h' A' R' T' F' => by
    refine k4 _ _ _ _ _ ?_
    simp only [vcX8_decide_4, R'.fs, true_and, hf]
    refine ⟨fun _ => ⟨bI_m _, hq h' A' R' (fun x hx => ?_) F'⟩, fun c => absurd (nI_le (Nat.le_refl _) (by omega)) c⟩
    have := T' x hx
    unfold mixD at this
    rw [if_pos hx] at this
    exact this) 0 (Nat.zero_le _)
  have e0 : mixD g n 0 = Ld g n := by funext x; unfold mixD; rw [if_neg (by omega)]
  refine loop h A R (by rw [e0]; exact hT) (fun _ _ _ _ _ _ _ => rfl)
end
