/-- maps of a game: the kinds of symmetry in their order -/
def syL (g : Gm) (n : Nat) : List Nat := (List.range n).filter (isSy g)
def Kq (E : Wd) (h : Hp) (y r : Nat) (g : Gm) (l : List Nat) : Prop := Kr E h r g ∧ h.2 y = some (.inr (5, [.ref r, .ref (y + 1), .int (nI l.length)])) ∧ (∃ F, h.2 (y + 1) = some (.inl (eA E 0, 104, .inl F)) ∧ ∀ k s, l[k]? = some s → s < 8 ∧ (s.testBit 2 = true → qw g = qh g) ∧ ∀ p, p ≤ sq g → F (k * 13 + p) = nI (trn g s p)) ∧ l.length ≤ 8
section
variable {E : Wd} {h : Hp} {y r : Nat} {g : Gm} {d : Nat} {l : List Nat}
theorem Kq.fs (K : Kq E h y r g l) : isO h y 5 ∧ okA h y 5 0 ∧ vA (hF h y 0) = r ∧ okA h y 5 1 ∧ vA (hF h y 1) = y + 1 ∧ okI h y 5 2 ∧ vI (hF h y 2) = nI l.length ∧ okL E h (y + 1) 0 ∧ lA h (y + 1) = nI 104 := by
  obtain ⟨-, e, ⟨F, e1, -⟩, -⟩ := K
  exact ⟨⟨_, e⟩, ⟨_, _, e, rfl⟩, (by rw [hF_of e rfl]; rfl), ⟨_, _, e, rfl⟩, (by rw [hF_of e rfl]; rfl), ⟨_, _, e, rfl⟩, (by rw [hF_of e rfl]; rfl), ⟨_, e1⟩, by simp [lA, e1, nI]⟩
theorem c_imageOf {Q : Int32 → Hp → Prop} {x k s : Nat} (K : Kq E h y r g l) (w : qF g) (hx : x < nx g) (hk : l[k]? = some s) (hq : Q (nI (imI g x s)) h) : OkI E YX5_imageOf (d + 1) [.ref y, .int (nI x), .int (nI k)] h Q := by
  refine rnX5_imageOf (fun K7 k7 => ?_)
  have hnx := nx_le w
  have hsq := w.sq_lt
  have hk8 : k < 8 := by
    have := (List.getElem?_eq_some_iff.mp hk).1
    have := K.2.2.2
    omega
  rw [vcX5_imageOf_0, show nI x &&& 1 = nI (x % 2) by rw [show (1 : Int32) = nI 1 from rfl, nx_and, Nat.and_one_is_mod]]
  obtain ⟨hs8, hsw, hF⟩ : s < 8 ∧ (s.testBit 2 = true → qw g = qh g) ∧ ∃ F, h.2 (y + 1) = some (.inl (eA E 0, 104, .inl F)) ∧ ∀ p, p ≤ sq g → F (k * 13 + p) = nI (trn g s p) := by
    obtain ⟨-, -, ⟨F, e1, e2⟩, -⟩ := K
    have := e2 k s hk
    exact ⟨this.1, this.2.1, F, e1, this.2.2⟩
  obtain ⟨F, e1, e2⟩ := hF
  have T : ∀ m, m < 3 → trn g s (plc g x m) ≤ sq g := fun m _ => trn_le w hsw (plc_le hx m)
  have step : ∀ m, m < 3 → ∀ acc : Nat, K7 y (nI x) (nI k) (nI (acc + wt g m * trn g s (plc g x m))) (nI (m + 1)) h → K7 y (nI x) (nI k) (nI acc) (nI m) h := fun m hm acc hn => by
    refine k7 _ _ _ _ _ _ ?_
    have hp := plc_le hx m
    simp only [vcX5_imageOf_7, K.fs, true_and, nI_leI (show 3 < 2 ^ 31 by omega) (show m < 2 ^ 31 by omega)]
    refine ⟨fun q => absurd q (nI_ge (a := m) (b := 3) hm (by omega)), fun _ => ⟨⟨_, K.1.1⟩, c_squareOf K.1 w hx hm ?_⟩⟩
    rw [show (13 : Int32) = nI 13 from rfl, pk_mul, nI_add]
    simp only [K.fs, true_and, nI_leI (show 104 < 2 ^ 31 by omega) (show k * 13 + plc g x m < 2 ^ 31 by omega)]
    refine ⟨fun q => absurd q (nI_pos (by omega)), fun _ => ⟨fun q => absurd q (by omega), fun _ => ⟨⟨_, _, e1, vpn (by omega)⟩, ⟨_, K.1.1⟩, c_weighed K.1 hm ?_⟩⟩⟩
    rw [gA_of e1, n_cl, e2 _ hp, if_pos (nI_pos' (by have := T m hm; omega)), pk_mul, nI_add, nI_1]
    exact hn
  refine step 0 (by omega) _ (step 1 (by omega) _ (step 2 (by omega) _ ?_))
  refine k7 _ _ _ _ _ _ ⟨fun _ => ?_, fun q => absurd (nI_le (a := 3) (b := 3) (Nat.le_refl _) (by omega)) q⟩
  have e : x % 2 + wt g 0 * trn g s (plc g x 0) + wt g 1 * trn g s (plc g x 1) + wt g 2 * trn g s (plc g x 2) = imI g x s := by
    show x % 2 + 2 * bs g * bs g * trn g s (plc g x 0) + 2 * bs g * trn g s (plc g x 1) + 2 * trn g s (plc g x 2) = ((trn g s (plc g x 0) * bs g + trn g s (plc g x 1)) * bs g + trn g s (plc g x 2)) * 2 + x % 2
    generalize trn g s (plc g x 0) = a
    generalize trn g s (plc g x 1) = b
    generalize trn g s (plc g x 2) = c
    have e1 : 2 * bs g * bs g * a = a * bs g * bs g * 2 := by simp only [Nat.mul_comm, Nat.mul_left_comm, Nat.mul_assoc]
    have e2 : 2 * bs g * b = b * bs g * 2 := by simp only [Nat.mul_comm, Nat.mul_left_comm]
    rw [Nat.add_mul, Nat.add_mul, Nat.add_mul, e1, e2]
    omega
  rw [e]; exact hq
end
