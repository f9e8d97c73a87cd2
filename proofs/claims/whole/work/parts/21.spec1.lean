abbrev Gm : Type := Nat × Nat × Nat × Nat × Nat × Int32 × Int32 × (Nat → Nat)
abbrev qw (g : Gm) : Nat := g.1
abbrev qh (g : Gm) : Nat := g.2.1
abbrev qn (g : Gm) : Nat := g.2.2.1
abbrev qb (g : Gm) : Nat := g.2.2.2.1
abbrev qo (g : Gm) : Nat := g.2.2.2.2.1
abbrev qs (g : Gm) : Int32 := g.2.2.2.2.2.1
abbrev ql (g : Gm) : Int32 := g.2.2.2.2.2.2.1
abbrev qk (g : Gm) : Nat → Nat := g.2.2.2.2.2.2.2
def qF (g : Gm) : Prop := 2 ≤ qw g ∧ qw g ≤ 6 ∧ 2 ≤ qh g ∧ qh g ≤ 6 ∧ qw g * qh g ≤ 12 ∧ 2 ≤ qn g ∧ qn g ≤ 3 ∧ 1 ≤ qb g ∧ qb g < qn g ∧ qo g < 2 ^ (qw g * qh g) ∧ ∀ m, qk g m < 10
def sq (g : Gm) : Nat := qw g * qh g
def iof (g : Gm) (m s : Nat) : Bool := decide (m < qb g) == (s == 0)
def roy (g : Gm) (s : Nat) : Nat := if s = 0 then 0 else qb g
def plc (g : Gm) (x m : Nat) : Nat := if m = 0 then x / 2 / (sq g + 1) / (sq g + 1) else if m = 1 then x / 2 / (sq g + 1) % (sq g + 1) else x / 2 % (sq g + 1)
def ixo (g : Gm) (P : Nat → Nat) (s : Nat) : Nat := ((P 0 * (sq g + 1) + P 1) * (sq g + 1) + P 2) * 2 + s
def occN (g : Gm) (P : Nat → Nat) : Nat → Nat
  | 0 => qo g
  | m + 1 => occN g P m ||| (if P m < sq g then 2 ^ P m else 0)
def occ (g : Gm) (P : Nat → Nat) : Nat := occN g P (qn g)
def ddf (a b : Nat) : Nat := (a - b) + (b - a)
def dxx (w f t : Nat) : Nat := ddf (t % w) (f % w)
def dyy (w f t : Nat) : Nat := ddf (t / w) (f / w)
def sgn (a b : Nat) : Int := if a < b then -1 else if b < a then 1 else 0
def strd (w f t : Nat) : Int := sgn (t / w) (f / w) * w + sgn (t % w) (f % w)
def steps (w f t : Nat) : Nat := max (dxx w f t) (dyy w f t)
def wayN (w f t : Nat) : Nat → Nat
  | 0 => 0
  | i + 1 => wayN w f t i ||| 2 ^ ((f : Int) + ((i + 1 : Nat) : Int) * strd w f t).toNat
def way (w f t : Nat) : Nat := wayN w f t (steps w f t - 1)
def clr (w f t o : Nat) : Bool := way w f t &&& o == 0
def rch (g : Gm) (m f t o : Nat) (cap : Bool) : Bool :=
  let x := dxx (qw g) f t
  let y := dyy (qw g) f t
  let k := qk g m
  if k = 0 then x + y == 1
  else if k = 1 then x == 1 && y == 1
  else if k = 2 then x ≤ 1 && y ≤ 1 && 0 < x + y
  else if k = 3 then (x == 1 && y == 2) || (x == 2 && y == 1)
  else if k = 4 then x == 2 && y == 2
  else if k = 5 then ((x == 0) != (y == 0)) && clr (qw g) f t o
  else if k = 6 then (x == y && 0 < x) && clr (qw g) f t o
  else if k = 7 then (((x == 0) != (y == 0)) || (x == y && 0 < x)) && clr (qw g) f t o
  else if k = 8 then (x == 2 && y == 0) || (x == 0 && y == 2)
  else (if m < qb g then t / qw g == f / qw g + 1 else t / qw g + 1 == f / qw g) && x == (if cap then 1 else 0)
theorem lp_up {K : Nat → Prop} (N : Nat) (hs : ∀ m, m < N → K (m + 1) → K m) (he : K N) : ∀ m, m ≤ N → K m := by
  intro m hm
  obtain ⟨n, hn⟩ : ∃ n, n = N - m := ⟨_, rfl⟩
  induction n generalizing m with
  | zero => rw [show m = N by omega]; exact he
  | succ n ih => exact hs m (by omega) (ih (m + 1) (by omega) (by omega))
def rA (B : Nat → Int32) (g : Gm) : Prop := B 0 = nI (qw g) ∧ B 1 = nI (qh g) ∧ B 2 = nI (qn g) ∧ B 3 = nI (qb g) ∧ B 4 = nI (qo g) ∧ B 5 = qs g ∧ B 6 = ql g ∧ ∀ m, m < 3 → B (7 + m) = nI (qk g m)
theorem qF.sq_lt {g : Gm} (w : qF g) : sq g ≤ 12 ∧ 4 ≤ sq g := by
  obtain ⟨h1, h2, h3, h4, h5, -⟩ := w
  exact ⟨h5, Nat.mul_le_mul h1 h3⟩
theorem qF.ho {g : Gm} (w : qF g) : qo g < 4096 := by
  have h1 := w.2.2.2.2.2.2.2.2.2.1
  have h2 : 2 ^ (qw g * qh g) ≤ 2 ^ 12 := Nat.pow_le_pow_right (by omega) w.2.2.2.2.1
  omega
theorem occN_lt {g : Gm} (w : qF g) (P : Nat → Nat) : ∀ m, occN g P m < 4096
  | 0 => w.ho
  | m + 1 => by
    have h1 := occN_lt w P m
    show occN g P m ||| _ < 2 ^ 12
    refine Nat.or_lt_two_pow h1 ?_
    by_cases h : P m < sq g
    · rw [if_pos h]
      exact Nat.pow_lt_pow_right (by omega) (by have := w.sq_lt; omega)
    · rw [if_neg h]; omega
