def MVs (A : Nat → Nat → Int32) (e : Nat) (L : List (Nat × Nat × Option Nat × Nat)) : Prop :=
  A 12 e = nI L.length ∧ ∀ i v, L[i]? = some v → A (14 + e) i = nI v.1 ∧ A (21 + e) i = nI v.2.1 ∧ A (28 + e) i = mI v.2.2.1 ∧ A (35 + e) i = nI v.2.2.2
def offM (e j i : Nat) : Prop := j ≠ 14 + e ∧ j ≠ 21 + e ∧ j ≠ 28 + e ∧ j ≠ 35 + e ∧ ¬ (j = 12 ∧ i = e)
theorem rK_rows {e : Nat} (he : e < 6) : (rK (6 + e) = true ∧ rty (6 + e) = 0 ∧ rlen (6 + e) = 3) ∧ (rK (14 + e) = true ∧ rty (14 + e) = 0 ∧ rlen (14 + e) = 36) ∧ (rK (21 + e) = true ∧ rty (21 + e) = 0 ∧ rlen (21 + e) = 36) ∧ (rK (28 + e) = true ∧ rty (28 + e) = 0 ∧ rlen (28 + e) = 36) ∧ (rK (35 + e) = true ∧ rty (35 + e) = 0 ∧ rlen (35 + e) = 36) := by
  have : e = 0 ∨ e = 1 ∨ e = 2 ∨ e = 3 ∨ e = 4 ∨ e = 5 := by omega
  rcases this with rfl | rfl | rfl | rfl | rfl | rfl <;> exact ⟨⟨rfl, rfl, rfl⟩, ⟨rfl, rfl, rfl⟩, ⟨rfl, rfl, rfl⟩, ⟨rfl, rfl, rfl⟩, ⟨rfl, rfl, rfl⟩⟩
theorem mI_lt {o : Option Nat} (h : ∀ q, o = some q → q < 2 ^ 31) : mI o < 0 ↔ o = none := by
  cases o with
  | none => simp [mI]
  | some q => simp [mI, nI_pos (h q rfl)]
theorem matN_lt (P : Nat → Nat) (t : Nat) : ∀ n q, matN P t n = some q → q < n ∧ P q = t
  | 0, q, h => by simp [matN] at h
  | n + 1, q, h => by
    rw [matN] at h
    by_cases c : P n = t
    · rw [if_pos c] at h; cases h; exact ⟨Nat.lt_succ_self _, c⟩
    · rw [if_neg c] at h
      have := matN_lt P t n q h
      exact ⟨by omega, this.2⟩
section
variable {E : Wd} {h0 h : Hp} {M : Nat} {A : Nat → Nat → Int32} {f : Nat → Int32} {g : Gm} {d : Nat}
theorem k_decode {Q : Hp → Prop} {j x : Nat} (R : Rf E h0 h M A f) (hg : rA (A 2) g) (w : qF g) (hj : rP j) (hx : x < 2 ^ 31) (hq : ∀ h' A', Rf E h0 h' M A' f → (∀ m, m < 3 → A' j m = nI (plc g x m)) → (∀ j' i, j' ≠ j → A' j' i = A j' i) → Q h') : OkV E YX8_decode (d + 1) [.ref M, .int (nI x), .ref (M + j)] h Q := by
  refine rnX8_decode ?_
  have hs := w.sq_lt
  obtain ⟨k1, k2, k3⟩ := hj.k
  have d2 : ∀ y : Nat, y < 2 ^ 31 → nI y / (2 : Int32) = nI (y / 2) := fun y hy => pk_div hy (d := 2) (by omega) (by omega)
  have hb : ∀ y : Nat, y < 2 ^ 31 → nI y / nI (sq g + 1) = nI (y / (sq g + 1)) := fun y hy => pk_div hy (by omega) (by omega)
  have hr : ∀ y : Nat, y < 2 ^ 31 → nI y - nI y / nI (sq g + 1) * nI (sq g + 1) = nI (y % (sq g + 1)) := fun y hy => pk_rem hy (by omega) (by omega)
  have l1 := Nat.div_le_self x 2
  have l2 := Nat.div_le_self (x / 2) (sq g + 1)
  have hne : ¬ nI (sq g + 1) = (0 : Int32) := nI_ne0 (by omega) (by omega)
  have h20 : ¬ (2 : Int32) = (0 : Int32) := by decide
  refine ⟨⟨_, R.obj⟩, k_squares R hg ?_⟩
  rw [nI_1, d2 x hx, hr (x / 2) (by omega), hb (x / 2) (by omega), hr (x / 2 / (sq g + 1)) (by omega), hb (x / 2 / (sq g + 1)) (by omega)]
  refine ⟨h20, hne, R.oR j _ k1 k2 (by rw [k3]; exact vpd rfl), fun h3 e3 => ?_⟩
  subst e3
  have R1 := R.st (2 : Int32) (nI (x / 2 % (sq g + 1))) k1
  refine ⟨h20, hne, hne, R1.oR j _ k1 k2 (by rw [k3]; exact vpd rfl), fun h4 e4 => ?_⟩
  subst e4
  have R2 := R1.st (1 : Int32) (nI (x / 2 / (sq g + 1) % (sq g + 1))) k1
  refine ⟨h20, hne, hne, R2.oR j _ k1 k2 (by rw [k3]; exact vpd rfl), fun h5 e5 => ?_⟩
  subst e5
  have R3 := R2.st (0 : Int32) (nI (x / 2 / (sq g + 1) / (sq g + 1))) k1
  refine hq _ _ R3 (fun m hm => ?_) (fun j' i hj' => ?_)
  · have : m = 0 ∨ m = 1 ∨ m = 2 := by omega
    rcases this with rfl | rfl | rfl <;> simp [up2, plc, show (0 : Int32).toNatClampNeg = 0 from rfl, show (1 : Int32).toNatClampNeg = 1 from rfl, show (2 : Int32).toNatClampNeg = 2 from rfl]
  · simp [up2, hj']
theorem Rf.rows (R : Rf E h0 h M A f) {e : Nat} (he : e < 6) : gW h (M + 5) (nI e) = M + (6 + e) ∧ gW h (M + 13) (nI e) = M + (14 + e) ∧ gW h (M + 20) (nI e) = M + (21 + e) ∧ gW h (M + 27) (nI e) = M + (28 + e) ∧ gW h (M + 34) (nI e) = M + (35 + e) ∧
    okW E h (M + 5) (nI e) ∧ okW E h (M + 13) (nI e) ∧ okW E h (M + 20) (nI e) ∧ okW E h (M + 27) (nI e) ∧ okW E h (M + 34) (nI e) ∧ okR E h (M + 12) 0 (nI e) ∧ gA h (M + 12) (nI e) = A 12 e := by
  have hv : vp_in (nI e) 6 := vpn he
  have hc : (nI e).toNatClampNeg = e := n_cl
  refine ⟨?_, ?_, ?_, ?_, ?_, R.oW 5 _ rfl hv, R.oW 13 _ rfl hv, R.oW 20 _ rfl hv, R.oW 27 _ rfl hv, R.oW 34 _ rfl hv, R.oR 12 _ rfl rfl hv, ?_⟩
  · rw [R.gV 5 _ rfl hv, hc]
  · rw [R.gV 13 _ rfl hv, hc]
  · rw [R.gV 20 _ rfl hv, hc]
  · rw [R.gV 27 _ rfl hv, hc]
  · rw [R.gV 34 _ rfl hv, hc]
  · rw [R.gR 12 _ rfl, hc]
theorem k_tryMove {Q : Hp → Prop} {e m t s : Nat} {P : Nat → Nat} {L : List (Nat × Nat × Option Nat × Nat)} (R : Rf E h0 h M A f) (hg : rA (A 2) g) (w : qF g) (he : e < 6) (hp : ∀ m, m < 3 → A (6 + e) m = nI (P m)) (hP : ∀ m, m < 3 → P m ≤ sq g) (hm : m < qn g) (hPm : P m < sq g) (ht : t < sq g) (hs : s ≤ 1) (hme : iof g m s = true) (hroy : P (roy g s) < sq g)
    (hL : MVs A e L) (hLl : L.length < 36) (hq : ∀ h' A', Rf E h0 h' M A' f → MVs A' e (L ++ (mvT g P s m t).toList) → (∀ j i, offM e j i → A' j i = A j i) → Q h') : OkV E YX8_tryMove (d + 5) [.ref M, .int (nI e), .int (nI m), .int (nI t), .int (nI s)] h Q := by
  refine rnX8_tryMove ?_
  have hn : qn g ≤ 3 := w.2.2.2.2.2.2.1
  have hsq := w.sq_lt
  have hP' : ∀ m, m < 3 → P m < 2 ^ 31 := fun m hm => by have := hP m hm; omega
  have hj : rP (6 + e) := Or.inl ⟨by omega, by omega⟩
  have rows := rK_rows he
  have hRW := R.rows he
  have hpl := R.plm hj hp (show m < 3 by omega)
  have hmat : ∀ q, mat g P t = some q → q < 3 ∧ P q = t := fun q hq => by have := matN_lt P t _ q hq; exact ⟨by omega, this.2⟩
  have hno : mvT g P s m t = none → Q h := fun c => hq h A R (by rw [c]; simpa using hL) (fun _ _ _ => rfl)
  simp only [vcX8_tryMove_0, R.fs, hRW, hpl, true_and]
  refine k_manAt R hg w hj hp hP' (by omega) ?_
  simp only [R.fs, R.gm hg, true_and]
  refine k_has w.ho (by omega) ?_
  have hlt := mI_lt (o := mat g P t) (fun q hq => by have := hmat q hq; omega)
  have L63 : ∀ b : Bool, b = canGo g P s m t → vcX8_tryMove_63 E (d + 4) M (nI e) (nI m) (nI t) (nI s) (M + (6 + e)) (nI (P m)) (mI (mat g P t)) (bI b) h Q := by
    intro b hb
    simp only [vcX8_tryMove_63]
    refine bI_c (fun c => hno (by rw [c] at hb; simp [mvT, ← hb])) (fun c => ⟨⟨_, R.obj⟩, ?_⟩)
    rw [c] at hb
    refine k_occupied R hg w hj hp hP' ?_
    have L91 : ∀ cap : Bool, cap = (mat g P t).isSome → vcX8_tryMove_91 E (d + 4) M (nI e) (nI m) (nI t) (nI s) (M + (6 + e)) (nI (P m)) (mI (mat g P t)) M (nI m) (nI (P m)) (nI t) (nI (occ g P)) (bI cap) h Q := by
      intro cap hcap
      refine ⟨⟨_, R.obj⟩, k_reaches R hg w (by omega) (by omega) (by omega) (occN_lt w P _) (bI_c' (fun c2 => hno (by rw [hcap] at c2; simp [mvT, ← hb, c2])) (fun c2 => ?_))⟩
      rw [hcap] at c2
      simp only [hpl, true_and]
      intro h3 e3
      subst e3
      have R1 := R.st (nI m) (nI t) rows.1.1
      rw [n_cl (n := m)] at R1
      have hg1 : rA (up2 A (6 + e) m (nI t) 2) g := by
        have : up2 A (6 + e) m (nI t) 2 = A 2 := by funext i; simp [up2, show ¬ 2 = 6 + e by omega]
        rw [this]; exact hg
      have L196 : ∀ h1 A1, Rf E h0 h1 M A1 f → (∀ i, i < 3 → i ≠ m → mat g P t ≠ some i → A1 (6 + e) i = A (6 + e) i) → (∀ i, 3 ≤ i → A1 (6 + e) i = A (6 + e) i) → (∀ j i, j ≠ 6 + e → offM e j i → A1 j i = A j i) → MVs A1 e (L ++ (mvT g P s m t).toList) → vcX8_tryMove_196 E (d + 4) (nI m) (nI t) (M + (6 + e)) (nI (P m)) (mI (mat g P t)) h1 Q := by
        intro h1 A1 R' u1 u1' u2 u3
        simp only [vcX8_tryMove_196]
        refine ⟨R'.oR _ _ rows.1.1 rows.1.2.1 (by rw [rows.1.2.2]; exact vpn (by omega)), fun h4 e4 => ?_⟩
        subst e4
        have R2 := R'.st (nI m) (nI (P m)) rows.1.1
        rw [n_cl (n := m)] at R2
        have hMV : ∀ k y, MVs (up2 A1 (6 + e) k y) e (L ++ (mvT g P s m t).toList) → True := fun _ _ _ => trivial
        rw [hlt]
        refine ⟨fun c4 => ?_, fun c4 => ?_⟩
        · refine hq _ _ R2 ⟨?_, fun i v hv => ?_⟩ (fun j i ho => ?_)
          · have := u3.1
            simp only [up2, show ¬ (12 = 6 + e) by omega, false_and, if_false]; exact this
          · have := u3.2 i v hv
            simp only [up2, show ¬ (14 + e = 6 + e) by omega, show ¬ (21 + e = 6 + e) by omega, show ¬ (28 + e = 6 + e) by omega, show ¬ (35 + e = 6 + e) by omega, false_and, if_false]; exact this
          · by_cases c5 : j = 6 + e
            · subst c5
              by_cases c6 : i = m
              · subst c6; simp [up2, hp i (by omega)]
              · simp only [up2, c6, and_false, if_false]
                by_cases c7 : i < 3
                · exact u1 i c7 c6 (by rw [c4]; simp)
                · exact u1' i (by omega)
            · simp only [up2, c5, false_and, if_false]; exact u2 j i c5 ho
        · obtain ⟨q, hqe⟩ : ∃ q, mat g P t = some q := Option.ne_none_iff_exists'.mp c4
          obtain ⟨hq1, hq2⟩ := hmat q hqe
          rw [hqe]
          simp only [mI]
          refine ⟨R2.oR _ _ rows.1.1 rows.1.2.1 (by rw [rows.1.2.2]; exact vpn (by omega)), fun h5 e5 => ?_⟩
          subst e5
          have R3 := R2.st (nI q) (nI t) rows.1.1
          rw [n_cl (n := q)] at R3
          have hqm : q ≠ m := by
            intro c5
            subst c5
            simp [canGo, hqe, hme] at hb
          refine hq _ _ R3 ⟨?_, fun i v hv => ?_⟩ (fun j i ho => ?_)
          · have := u3.1
            simp only [up2, show ¬ (12 = 6 + e) by omega, false_and, if_false]; exact this
          · have := u3.2 i v hv
            simp only [up2, show ¬ (14 + e = 6 + e) by omega, show ¬ (21 + e = 6 + e) by omega, show ¬ (28 + e = 6 + e) by omega, show ¬ (35 + e = 6 + e) by omega, false_and, if_false]; exact this
          · by_cases c5 : j = 6 + e
            · subst c5
              by_cases c8 : i = q
              · subst c8; simp [up2, hp i hq1, hq2]
              · by_cases c6 : i = m
                · subst c6; simp [up2, c8, hp i (by omega)]
                · simp only [up2, c6, c8, and_false, if_false]
                  by_cases c7 : i < 3
                  · exact u1 i c7 c6 (by rw [hqe]; simpa using fun q => c8 q.symm)
                  · exact u1' i (by omega)
            · simp only [up2, c5, false_and, if_false]; exact u2 j i c5 ho
      have L117 : ∀ h1 A1, Rf E h0 h1 M A1 f → (∀ i, i < 3 → A1 (6 + e) i = nI (gone g P m t i)) → (∀ i, 3 ≤ i → A1 (6 + e) i = A (6 + e) i) → (∀ j i, j ≠ 6 + e → A1 j i = A j i) → vcX8_tryMove_117 E (d + 4) M (nI e) (nI m) (nI t) (nI s) (M + (6 + e)) (nI (P m)) (mI (mat g P t)) h1 Q := by
        intro h1 A1 R' u1 u1' u2
        have hg' : rA (A1 2) g := by
          have : A1 2 = A 2 := funext fun i => u2 2 i (by omega)
          rw [this]; exact hg
        have hgo : ∀ i, i < 3 → gone g P m t i ≤ sq g := by
          intro i hi
          have h8 := hP i hi
          unfold gone
          cases hqe : mat g P t with
          | none =>
            simp only [uP]
            by_cases c5 : i = m <;> simp [c5] <;> first | omega | (subst c5; omega) | exact h8
          | some q =>
            simp only [uP]
            by_cases c6 : i = q
            · simp [c6]
            · by_cases c5 : i = m <;> simp [c5, c6] <;> first | omega | exact h8 | (split <;> omega)
        have hgo' : ∀ i, i < 3 → gone g P m t i < 2 ^ 31 := fun i hi => by have := hgo i hi; omega
        have hgr : gone g P m t (roy g s) < 12 := by
          have h7 : iof g (roy g s) s = true := by
            unfold iof roy
            have := w.2.2.2.2.2.2.2.1
            by_cases c : s = 0
            · simp [c]; omega
            · simp [c]
          unfold gone
          cases hqe : mat g P t with
          | none => simp only [uP]; split <;> omega
          | some q =>
            have : roy g s ≠ q := by
              intro c5
              rw [c5] at h7
              simp [canGo, hqe, h7] at hb
            simp only [uP, this, if_false]; split <;> omega
        refine ⟨⟨_, R'.obj⟩, k_isInCheck R' hg' w hj u1 hgo' hs hgr (bI_c' (fun c3 => ?_) (fun c3 => ?_))⟩
        · have hT : mvT g P s m t = some (m, t, mat g P t, ixo g (gone g P m t) (1 - s)) := by simp [mvT, ← hb, c2, c3]
          have hk : A1 12 e = nI L.length := (u2 12 e (by omega)).trans hL.1
          have v36 : vp_in (nI L.length) 36 := vpn hLl
          have hc36 : (nI L.length).toNatClampNeg = L.length := n_cl
          simp only [R'.fs, R'.rows he, true_and, hk]
          refine ⟨R'.oR _ _ rows.2.1.1 rows.2.1.2.1 (by rw [rows.2.1.2.2]; exact v36), fun h3 e3 => ?_⟩
          subst e3
          have R2 := R'.st (nI L.length) (nI m) rows.2.1.1
          simp only [R2.fs, R2.rows he, true_and]
          refine ⟨R2.oR _ _ rows.2.2.1.1 rows.2.2.1.2.1 (by rw [rows.2.2.1.2.2]; exact v36), fun h4 e4 => ?_⟩
          subst e4
          have R3 := R2.st (nI L.length) (nI t) rows.2.2.1.1
          simp only [R3.fs, R3.rows he, true_and]
          refine ⟨R3.oR _ _ rows.2.2.2.1.1 rows.2.2.2.1.2.1 (by rw [rows.2.2.2.1.2.2]; exact v36), fun h5 e5 => ?_⟩
          subst e5
          have R4 := R3.st (nI L.length) (mI (mat g P t)) rows.2.2.2.1.1
          simp only [R4.fs, R4.rows he, true_and]
          rw [show (1 : Int32) - nI s = nI (1 - s) from pk_sub (a := 1) hs]
          rw [hc36] at R2 R3 R4
          refine k_indexOf (P := gone g P m t) R4 (by
            have : ∀ i, up2 (up2 (up2 A1 (14 + e) L.length (nI m)) (21 + e) L.length (nI t)) (28 + e) L.length (mI (mat g P t)) 2 i = A1 2 i := fun i => by simp [up2, show ¬ 2 = 14 + e by omega, show ¬ 2 = 21 + e by omega, show ¬ 2 = 28 + e by omega]
            rw [funext this]; exact hg') hj (fun i hi => by
            have : up2 (up2 (up2 A1 (14 + e) L.length (nI m)) (21 + e) L.length (nI t)) (28 + e) L.length (mI (mat g P t)) (6 + e) i = A1 (6 + e) i := by simp [up2, show ¬ 6 + e = 14 + e by omega, show ¬ 6 + e = 21 + e by omega, show ¬ 6 + e = 28 + e by omega]
            rw [this]; exact u1 i hi) ?_
          refine ⟨R4.oR _ _ rows.2.2.2.2.1 rows.2.2.2.2.2.1 (by rw [rows.2.2.2.2.2.2]; exact v36), fun h8 e8 => ?_⟩
          subst e8
          have R5 := R4.st (nI L.length) (nI (ixo g (gone g P m t) (1 - s))) rows.2.2.2.2.1
          rw [hc36] at R5
          simp only [R5.fs, R5.rows he, true_and]
          intro h9 e9
          subst e9
          have hk5 : up2 (up2 (up2 (up2 A1 (14 + e) L.length (nI m)) (21 + e) L.length (nI t)) (28 + e) L.length (mI (mat g P t))) (35 + e) L.length (nI (ixo g (gone g P m t) (1 - s))) 12 e = nI L.length := by
            simp [up2, show ¬ 12 = 14 + e by omega, show ¬ 12 = 21 + e by omega, show ¬ 12 = 28 + e by omega, show ¬ 12 = 35 + e by omega, hk]
          rw [hk5, nI_1]
          have R6 := R5.st (j := 12) (nI e) (nI (L.length + 1)) rfl
          rw [n_cl (n := e)] at R6
          refine L196 _ _ R6 (fun i hi c5 c6 => ?_) (fun i hi => ?_) (fun j i c5 ho => ?_) ⟨?_, fun i v hv => ?_⟩
          · simp only [up2, show ¬ 6 + e = 14 + e by omega, show ¬ 6 + e = 21 + e by omega, show ¬ 6 + e = 28 + e by omega, show ¬ 6 + e = 35 + e by omega, show ¬ 6 + e = 12 by omega, false_and, if_false]
            rw [u1 i hi, hp i hi]
            congr 1
            unfold gone
            cases hqe : mat g P t with
            | none => simp [uP, c5]
            | some q =>
              have : ¬ i = q := fun c7 => c6 (by rw [hqe, c7])
              simp [uP, c5, this]
          · simp only [up2, show ¬ 6 + e = 14 + e by omega, show ¬ 6 + e = 21 + e by omega, show ¬ 6 + e = 28 + e by omega, show ¬ 6 + e = 35 + e by omega, show ¬ 6 + e = 12 by omega, false_and, if_false]
            exact u1' i hi
          · obtain ⟨o1, o2, o3, o4, o5⟩ := ho
            simp only [up2, o1, o2, o3, o4, o5, false_and, if_false]
            exact u2 j i c5
          · simp [up2, hT]
          · rw [hT] at hv
            simp only [up2, show ¬ 14 + e = 21 + e by omega, show ¬ 14 + e = 28 + e by omega, show ¬ 14 + e = 35 + e by omega, show ¬ 14 + e = 12 by omega, show ¬ 21 + e = 14 + e by omega, show ¬ 21 + e = 28 + e by omega, show ¬ 21 + e = 35 + e by omega, show ¬ 21 + e = 12 by omega, show ¬ 28 + e = 14 + e by omega, show ¬ 28 + e = 21 + e by omega, show ¬ 28 + e = 35 + e by omega, show ¬ 28 + e = 12 by omega, show ¬ 35 + e = 14 + e by omega, show ¬ 35 + e = 21 + e by omega, show ¬ 35 + e = 28 + e by omega, show ¬ 35 + e = 12 by omega, false_and, true_and, if_false]
            by_cases c5 : i < L.length
            · rw [List.getElem?_append_left c5] at hv
              have := hL.2 i v hv
              simp only [show ¬ i = L.length by omega, if_false, u2 (14 + e) i (by omega), u2 (21 + e) i (by omega), u2 (28 + e) i (by omega), u2 (35 + e) i (by omega)]
              exact this
            · rw [List.getElem?_append_right (by omega)] at hv
              have c6 : i = L.length := by
                rcases Nat.lt_or_ge (i - L.length) 1 with c7 | c7
                · omega
                · rw [List.getElem?_eq_none (by simpa using c7)] at hv; cases hv
              subst c6
              simp at hv
              subst hv
              simp
        · refine L196 _ _ R' (fun i hi c5 c6 => ?_) u1' (fun j i c5 _ => u2 j i c5) ?_
          · rw [u1 i hi, hp i hi]
            congr 1
            unfold gone
            cases hqe : mat g P t with
            | none => simp [uP, c5]
            | some q =>
              have : ¬ i = q := fun c7 => c6 (by rw [hqe, c7])
              simp [uP, c5, this]
          · have hT : mvT g P s m t = none := by simp [mvT, ← hb, c2, c3]
            rw [hT]
            refine ⟨by rw [u2 12 e (by omega)]; simpa using hL.1, fun i v hv => ?_⟩
            rw [u2 _ _ (by omega), u2 _ _ (by omega), u2 _ _ (by omega), u2 _ _ (by omega)]
            exact hL.2 i v (by simpa using hv)
      rw [hlt]
      refine ⟨fun c3 => ?_, fun c3 => ⟨⟨_, R1.obj⟩, k_squares R1 hg1 ?_⟩⟩
      · refine L117 _ _ R1 (fun i hi => ?_) (fun i hi => ?_) (fun j i c5 => by simp [up2, c5])
        · by_cases c6 : i = m
          · subst c6; simp [up2, gone, c3, uP]
          · simp [up2, gone, c3, uP, c6, hp i hi]
        · simp [up2, show ¬ i = m by omega]
      · obtain ⟨q, hqe⟩ : ∃ q, mat g P t = some q := Option.ne_none_iff_exists'.mp c3
        obtain ⟨hq1, hq2⟩ := hmat q hqe
        have L' := L117
        rw [hqe] at L' ⊢
        simp only [mI] at L' ⊢
        refine ⟨R1.oR _ _ rows.1.1 rows.1.2.1 (by rw [rows.1.2.2]; exact vpn (by omega)), fun h5 e5 => ?_⟩
        subst e5
        have R2 := R1.st (nI q) (nI (sq g)) rows.1.1
        rw [n_cl (n := q)] at R2
        refine L' _ _ R2 (fun i hi => ?_) (fun i hi => ?_) (fun j i c5 => by simp [up2, c5])
        · by_cases c8 : i = q
          · subst c8; simp [up2, gone, hqe, uP]
          · by_cases c6 : i = m
            · subst c6; simp [up2, gone, hqe, uP, c8]
            · simp [up2, gone, hqe, uP, c6, c8, hp i hi]
        · simp [up2, show ¬ i = m by omega, show ¬ i = q by omega]
    rw [hlt]
    refine ⟨fun c3 => ?_, fun c3 => ?_⟩
    · have := L91 false (by rw [c3]; rfl); exact this
    · have := L91 true (by cases h9 : mat g P t with
        | none => exact absurd h9 c3
        | some q => rfl); exact this
  simp only [vcX8_tryMove_62, vcX8_tryMove_58]
  rw [nI_eq (show t < 2 ^ 31 by omega) (show P m < 2 ^ 31 by omega), hlt]
  refine bI_c' (fun c => ⟨fun c2 => L63 false (by simp [canGo, c2]), fun c2 => ⟨fun c3 => L63 true (by simp [canGo, c, c2, c3]), fun c3 => ⟨⟨_, R.obj⟩, ?_⟩⟩⟩) (fun c => L63 false (by simp [canGo, c]))
  obtain ⟨q, hqe⟩ : ∃ q, mat g P t = some q := Option.ne_none_iff_exists'.mp c3
  obtain ⟨hq1, hq2⟩ := hmat q hqe
  have L' := L63
  rw [hqe] at L' ⊢
  simp only [mI] at L' ⊢
  refine k_isOf R hg w (by omega) (by omega) (bI_c' (fun c4 => L' true (by simp [canGo, c, c2, hqe, c4])) (fun c4 => L' false (by simp [canGo, hqe, c4])))
end
