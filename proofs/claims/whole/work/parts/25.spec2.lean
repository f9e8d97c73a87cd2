def attN (g : Gm) (P : Nat → Nat) (t b : Nat) : Nat → Bool
  | 0 => false
  | m + 1 => attN g P t b m || (iof g m b && decide (P m < sq g) && rch g m (P m) t (occ g P) true)
def att (g : Gm) (P : Nat → Nat) (t b : Nat) : Bool := attN g P t b (qn g)
def chk (g : Gm) (P : Nat → Nat) (s : Nat) : Bool := att g P (P (roy g s)) (1 - s)
def thr (g : Gm) (P : Nat → Nat) (m : Nat) : Bool := decide (m < qn g) && decide (P m < sq g)
def setN (g : Gm) (P : Nat → Nat) : Nat → Nat
  | 0 => qo g
  | m + 1 => setN g P m ||| (if thr g P m = true then 2 ^ P m else 0)
def posN (g : Gm) (P : Nat → Nat) : Nat → Bool
  | 0 => true
  | m + 1 => posN g P m && ((thr g P m || !(m == 0 || m == qb g)) && !(thr g P m && (setN g P m).testBit (P m)) && (decide (m < qn g) || P m == sq g))
def poss (g : Gm) (P : Nat → Nat) (s : Nat) : Bool := posN g P 3 && !chk g P (1 - s)
def matN (P : Nat → Nat) (t : Nat) : Nat → Option Nat
  | 0 => none
  | m + 1 => if P m = t then some m else matN P t m
def mat (g : Gm) (P : Nat → Nat) (t : Nat) : Option Nat := matN P t (qn g)
def mI : Option Nat → Int32
  | none => -5
  | some m => nI m
def uP (P : Nat → Nat) (m t : Nat) : Nat → Nat := fun i => if i = m then t else P i
def gone (g : Gm) (P : Nat → Nat) (m t : Nat) : Nat → Nat := match mat g P t with
  | none => uP P m t
  | some q => uP (uP P m t) q (sq g)
def canGo (g : Gm) (P : Nat → Nat) (s m t : Nat) : Bool := !(qo g).testBit t && !(t == P m) && (match mat g P t with
  | none => true
  | some q => !iof g q s)
def mvT (g : Gm) (P : Nat → Nat) (s m t : Nat) : Option (Nat × Nat × Option Nat × Nat) :=
  if (canGo g P s m t && rch g m (P m) t (occ g P) (mat g P t).isSome && !chk g (gone g P m t) s) = true then some (m, t, mat g P t, ixo g (gone g P m t) (1 - s)) else none
def mvR (g : Gm) (P : Nat → Nat) (s m : Nat) (n : Nat) : List (Nat × Nat × Option Nat × Nat) := (List.range n).filterMap (mvT g P s m)
def mvM (g : Gm) (P : Nat → Nat) (s m : Nat) : List (Nat × Nat × Option Nat × Nat) := if (iof g m s && decide (P m < sq g)) = true then mvR g P s m (sq g) else []
def mvA (g : Gm) (P : Nat → Nat) (s : Nat) (n : Nat) : List (Nat × Nat × Option Nat × Nat) := (List.range n).flatMap (mvM g P s)
def mvs (g : Gm) (x : Nat) : List (Nat × Nat × Option Nat × Nat) := mvA g (plc g x) (x % 2) (qn g)
theorem mvR_succ (g : Gm) (P : Nat → Nat) (s m n : Nat) : mvR g P s m (n + 1) = mvR g P s m n ++ (mvT g P s m n).toList := by
  unfold mvR
  rw [List.range_succ, List.filterMap_append]
  cases h : mvT g P s m n <;> simp [h]
theorem mvA_succ (g : Gm) (P : Nat → Nat) (s n : Nat) : mvA g P s (n + 1) = mvA g P s n ++ mvM g P s n := by
  unfold mvA
  rw [List.range_succ, List.flatMap_append]
  simp
theorem mvR_len (g : Gm) (P : Nat → Nat) (s m n : Nat) : (mvR g P s m n).length ≤ n := by
  have := List.length_filterMap_le (mvT g P s m) (List.range n)
  rw [List.length_range] at this
  exact this
theorem mvA_len (g : Gm) (w : qF g) (P : Nat → Nat) (s : Nat) : ∀ n, (mvA g P s n).length ≤ 12 * n
  | 0 => by simp [mvA]
  | n + 1 => by
    rw [mvA_succ, List.length_append]
    have h1 := mvA_len g w P s n
    have h2 : (mvM g P s n).length ≤ 12 := by
      unfold mvM
      split
      · have := mvR_len g P s n (sq g)
        have := w.sq_lt
        omega
      · simp
    omega
theorem setN_lt {g : Gm} (w : qF g) (P : Nat → Nat) : ∀ m, setN g P m < 4096
  | 0 => w.ho
  | m + 1 => by
    have h1 := setN_lt w P m
    show setN g P m ||| _ < 2 ^ 12
    refine Nat.or_lt_two_pow h1 ?_
    by_cases h : thr g P m = true
    · rw [if_pos h]
      have : P m < sq g := by simp [thr] at h; exact h.2
      exact Nat.pow_lt_pow_right (by omega) (by have := w.sq_lt; omega)
    · rw [if_neg h]; omega
theorem roy_lt {g : Gm} (w : qF g) (s : Nat) : roy g s < qn g := by
  unfold roy
  have h1 := w.2.2.2.2.2.1
  have h2 := w.2.2.2.2.2.2.2.2.1
  split <;> omega
