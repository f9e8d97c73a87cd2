abbrev Rr : Type := Bool × Nat × Gm
def see (L : Nat) (B : Nat → Nat) (lo hi : Nat) (r : Rr) : Bool := r.1 && decide (r.2.1 < L) && decide (lo ≤ B r.2.1) && decide (B r.2.1 ≤ hi)
def stp (r : Rr) : Rr := (r.1, r.2.1 + 1, r.2.2)
def bad (r : Rr) : Rr := (false, r.2.1, r.2.2)
def rdg (L : Nat) (B : Nat → Nat) (lo hi : Nat) (r : Rr) : Rr × Nat := if see L B lo hi r then (stp r, B r.2.1 - 48) else (bad r, 0)
def rtk (L : Nat) (B : Nat → Nat) (c : Nat) (r : Rr) : Rr := if see L B c c r then stp r else r
def rlt (L : Nat) (B : Nat → Nat) (r : Rr) : Option Nat := if r.1 && decide (r.2.1 < L) then lix (B r.2.1) else none
def gAdd (g : Gm) (i : Nat) : Gm := (qw g, qh g, qn g + 1, qb g, qo g, qs g, ql g, fun m => if m = qn g then i else qk g m)
def gW' (g : Gm) (x : Nat) : Gm := (x, qh g, qn g, qb g, qo g, qs g, ql g, qk g)
def gH (g : Gm) (x : Nat) : Gm := (qw g, x, qn g, qb g, qo g, qs g, ql g, qk g)
def gB (g : Gm) : Gm := (qw g, qh g, qn g, qn g, qo g, qs g, ql g, qk g)
def gO (g : Gm) (x : Nat) : Gm := (qw g, qh g, qn g, qb g, x, qs g, ql g, qk g)
def gS (g : Gm) (x : Int32) : Gm := (qw g, qh g, qn g, qb g, qo g, x, ql g, qk g)
def gL (g : Gm) (x : Int32) : Gm := (qw g, qh g, qn g, qb g, qo g, qs g, x, qk g)
def onG (F : Gm → Gm) (r : Rr) : Rr := (r.1, r.2.1, F r.2.2)
def rmL (L : Nat) (B : Nat → Nat) : Nat → Rr → Rr
  | 0, r => r
  | k + 1, r => match rlt L B r with
    | none => r
    | some i => if qn r.2.2 = 3 then bad r else rmL L B k (stp (onG (fun g => gAdd g i) r))
def rmn (L : Nat) (B : Nat → Nat) (r : Rr) : Rr := if (rlt L B r).isSome then rmL L B 4 r else bad r
def rnm (L : Nat) (B : Nat → Nat) (r : Rr) : Rr × Nat :=
  if 0 < (rdg L B 48 57 r).2 ∧ see L B 48 57 (rdg L B 48 57 r).1 = true then ((rdg L B 48 57 (rdg L B 48 57 r).1).1, 10 * (rdg L B 48 57 r).2 + (rdg L B 48 57 (rdg L B 48 57 r).1).2) else rdg L B 48 57 r
def rsq (L : Nat) (B : Nat → Nat) (r : Rr) : Rr :=
  if (rnm L B r).1.1 = true then (if (rnm L B r).2 < qw (rnm L B r).1.2.2 * qh (rnm L B r).1.2.2 then onG (fun g => gO g (qo g ||| 2 ^ ((rnm L B r).2 % 32))) (rnm L B r).1 else (false, r.2.1, (rnm L B r).1.2.2)) else (rnm L B r).1
def rhc (L : Nat) (B : Nat → Nat) : Nat → Rr → Rr
  | 0, r => r
  | k + 1, r => if see L B 44 44 r then rhc L B k (rsq L B (stp r)) else r
def rcl (L : Nat) (B : Nat → Nat) (r : Rr) : Rr :=
  if see L B 120 120 r then rhc L B 41 (rsq L B (stp r)) else
  if see L B 109 109 r then onG (fun g => gL g (nI (rnm L B (stp r)).2)) (rnm L B (stp r)).1 else
  if see L B 100 100 r then onG (fun g => gS g 0) (stp r) else
  if see L B 108 108 r then onG (fun g => gS g (-1)) (stp r) else
  if see L B 119 119 r then onG (fun g => gS g 1) (stp r) else bad r
def rcL (L : Nat) (B : Nat → Nat) : Nat → Rr → Rr
  | 0, r => r
  | k + 1, r => if r.1 && decide (r.2.1 < L) then (if see L B 59 59 r then rcL L B k (rcl L B (stp r)) else bad r) else r
def g00 : Gm := (0, 0, 0, 0, 0, 0, -5, fun _ => 0)
def rwd (L : Nat) (B : Nat → Nat) : Rr := onG (fun g => gW' g (rdg L B 50 54 (true, 0, g00)).2) (rdg L B 50 54 (true, 0, g00)).1
def rht (L : Nat) (B : Nat → Nat) : Rr := onG (fun g => gH g (rdg L B 50 54 (rwd L B)).2) (rdg L B 50 54 (rwd L B)).1
def rsz (L : Nat) (B : Nat → Nat) : Rr := if (rht L B).1 = true ∧ 12 < qw (rht L B).2.2 * qh (rht L B).2.2 then (false, (rht L B).2.1 - 1, (rht L B).2.2) else rht L B
def rsp (L : Nat) (B : Nat → Nat) (c : Nat) (r : Rr) : Rr := if see L B c c r then stp r else bad r
def rg1 (L : Nat) (B : Nat → Nat) : Rr := onG gB (rmn L B (rsp L B 59 (rsz L B)))
def rg2 (L : Nat) (B : Nat → Nat) : Rr := rmn L B (rsp L B 45 (rg1 L B))
def rgm (L : Nat) (B : Nat → Nat) : Rr := rcL L B 41 (rg2 L B)
theorem lxF_lt (c : Nat) : ∀ r i j, lxF c r i = some j → j < r + i
  | 0, _, _, h => by cases h
  | r + 1, i, j, h => by
    rw [lxF] at h
    split at h
    · cases h; omega
    · have := lxF_lt c r (i + 1) j h; omega
theorem lix_lt {c j : Nat} (h : lix c = some j) : j < 10 := lxF_lt c 10 0 j h
theorem rlt_lt {L : Nat} {B : Nat → Nat} {r : Rr} {i : Nat} (h : rlt L B r = some i) : i < 10 := by
  unfold rlt at h
  split at h
  · exact lix_lt h
  · cases h
theorem see_iff {L : Nat} {B : Nat → Nat} {lo hi : Nat} {r : Rr} : see L B lo hi r = true ↔ r.1 = true ∧ r.2.1 < L ∧ lo ≤ B r.2.1 ∧ B r.2.1 ≤ hi := by
  unfold see
  simp only [Bool.and_eq_true, decide_eq_true_eq, and_assoc]
theorem rdg_lt {L : Nat} {B : Nat → Nat} {r : Rr} : (rdg L B 48 57 r).2 ≤ 9 := by
  unfold rdg
  split
  · rename_i h
    have := see_iff.mp h
    show B r.2.1 - 48 ≤ 9
    omega
  · exact Nat.zero_le _
theorem rnm_lt {L : Nat} {B : Nat → Nat} {r : Rr} : (rnm L B r).2 < 100 := by
  have h1 := @rdg_lt L B r
  unfold rnm
  split
  · have h2 := @rdg_lt L B (rdg L B 48 57 r).1
    show 10 * _ + _ < 100
    omega
  · omega
