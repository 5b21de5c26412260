/-! PATTERNS: trees, and how a text of signs is read into one. sg i: the sign at place i, -1 behind the end, -2 for a byte that can't stand anywhere -/
abbrev qT : Type := Int.Internal.Linear.Expr
/-- rounds: least, most (-1: no bound), manner (0 more first, 1 less first, 2 kept), in one number -/
def rl (k : Int) : Int := k % 32
def rh (k : Int) : Int := k / 32 % 32 - 1
def rg (k : Int) : Int := k / 1024
def rc (l h g : Int) : Int := l + 32 * (h + 1) + 1024 * g
theorem rc_l {l h g : Int} (h1 : 0 ≤ l) (h2 : l < 32) : rl (rc l h g) = l := by unfold rl rc; omega
theorem rc_h {l h g : Int} (h1 : 0 ≤ l) (h2 : l < 32) (h3 : -1 ≤ h) (h4 : h < 31) : rh (rc l h g) = h := by unfold rh rc; omega
theorem rc_g {l h g : Int} (h1 : 0 ≤ l) (h2 : l < 32) (h3 : -1 ≤ h) (h4 : h < 31) : rg (rc l h g) = g := by unfold rg rc; omega
/-- the weight of rounds of what weighs w -/
def wRep (w k : Int) : Int := rl k * w + (if rh k < 0 then w + 1 else (rh k - rl k) * (w + 1)) + (if rg k = 2 then 1 else 0)
/-- the weight as the reference counts it -/
def wR : qT → Int
  | .num k => if k = 0 then 0 else 1
  | .var _ => 1
  | .add a b => wR a + wR b
  | .sub a b => wR a + wR b + 1
  | .neg a => wR a + 1
  | .mulL k a => wR a + (if 1 ≤ k then 2 else 1)
  | .mulR a k => if wRep (wR a) k < 100000 then wRep (wR a) k else 100000
/-- has it a lookahead or kept rounds within -/
def aT : qT → Bool
  | .num _ => false
  | .var _ => false
  | .add a b => aT a || aT b
  | .sub a b => aT a || aT b
  | .neg a => aT a
  | .mulL k a => aT a || decide (k ≤ 0)
  | .mulR a k => aT a || decide (rg k = 2)
/-- no quantifier stands behind these -/
def noq : qT → Bool
  | .num k => decide (k ≠ 0)
  | .mulL k _ => decide (k ≤ 0)
  | _ => false
/-- as many signs at least -/
def ln : qT → Int
  | .num k => if k = 0 then 0 else 1
  | .var _ => 1
  | .add a b => ln a + ln b
  | .sub a b => ln a + ln b + 1
  | .neg a => ln a + 1
  | .mulL _ a => ln a + 1
  | .mulR a _ => ln a + 1
/-- numbers in their ranges -/
def wf : qT → Prop
  | .num k => 0 ≤ k ∧ k ≤ 4
  | .var _ => True
  | .add a b => wf a ∧ wf b
  | .sub a b => wf a ∧ wf b
  | .neg a => wf a
  | .mulL k a => -1 ≤ k ∧ k ≤ 9 ∧ wf a
  | .mulR a k => 0 ≤ rl k ∧ rl k ≤ 20 ∧ (rh k = -1 ∨ rl k ≤ rh k) ∧ rh k ≤ 20 ∧ 0 ≤ rg k ∧ rg k ≤ 2 ∧ wf a
theorem ln_nn : ∀ e : qT, 0 ≤ ln e := by
  intro e
  induction e with
  | num k => unfold ln; split <;> omega
  | var _ => unfold ln; omega
  | add a b h1 h2 => unfold ln; omega
  | sub a b h1 h2 => unfold ln; omega
  | neg a h => unfold ln; omega
  | mulL k a h => unfold ln; omega
  | mulR a k h => unfold ln; omega
theorem wR_bd : ∀ e : qT, wf e → 0 ≤ wR e ∧ wR e ≤ 100000 * ln e := by
  intro e
  induction e with
  | num k => intro _; unfold wR ln; split <;> omega
  | var _ => intro _; unfold wR ln; omega
  | add a b h1 h2 => intro h; have := h1 h.1; have := h2 h.2; unfold wR ln; omega
  | sub a b h1 h2 => intro h; have := h1 h.1; have := h2 h.2; unfold wR ln; omega
  | neg a h1 => intro h; have := h1 h; unfold wR ln; omega
  | mulL k a h1 => intro h; have := h1 h.2.2; unfold wR ln; split <;> omega
  | mulR a k h1 =>
    intro h
    obtain ⟨g1, g2, g3, g4, g5, g6, g7⟩ := h
    have h2 := h1 g7
    have h3 := ln_nn a
    have hw : 0 ≤ wRep (wR a) k := by
      unfold wRep
      have e1 : 0 ≤ rl k * wR a := Int.mul_nonneg g1 h2.1
      have e2 : 0 ≤ (if rh k < 0 then wR a + 1 else (rh k - rl k) * (wR a + 1)) := by
        split
        · omega
        · exact Int.mul_nonneg (by omega) (by omega)
      split <;> omega
    unfold wR ln
    split <;> omega
theorem wRep_bd {w k : Int} (hw : 0 ≤ w) (hw2 : w ≤ 20000000) (g1 : 0 ≤ rl k) (g2 : rl k ≤ 20) (g3 : rh k = -1 ∨ rl k ≤ rh k) (g4 : rh k ≤ 20) : 0 ≤ wRep w k ∧ wRep w k ≤ 900000000 := by
  unfold wRep
  have e1 : 0 ≤ rl k * w := Int.mul_nonneg g1 hw
  have e2 : rl k * w ≤ 20 * w := Int.mul_le_mul_of_nonneg_right g2 hw
  by_cases h : rh k < 0
  · rw [if_pos h]
    split <;> omega
  · rw [if_neg h]
    have e3 : 0 ≤ (rh k - rl k) * (w + 1) := Int.mul_nonneg (by omega) (by omega)
    have e4 : (rh k - rl k) * (w + 1) ≤ 20 * (w + 1) := Int.mul_le_mul_of_nonneg_right (by omega) (by omega)
    split <;> omega
/-! signs -/
def isDg (s : Int) : Bool := decide (48 ≤ s) && decide (s ≤ 57)
def isLt (s : Int) : Bool := (decide (97 ≤ s) && decide (s ≤ 122)) || (decide (65 ≤ s) && decide (s ≤ 90))
def isWd (s : Int) : Bool := isLt s || isDg s || decide (s = 95)
def isBk (s : Int) : Bool := (decide (9 ≤ s) && decide (s ≤ 13)) || decide (s = 32)
def isKl (s : Int) : Bool := decide (s = 100) || decide (s = 119) || decide (s = 115) || decide (s = 68) || decide (s = 87) || decide (s = 83)
def isQt (s : Int) : Bool := decide (s = 42) || decide (s = 43) || decide (s = 63) || decide (s = 123)
def kindP (d : Int) (c : Nat) : Bool := if d = 100 then isDg c else if d = 119 then isWd c else if d = 115 then isBk c else if d = 68 then !isDg c else if d = 87 then !isWd c else !isBk c
section SP
variable (sg : Int → Int)
/-- a number from its second digit on, 21 for all above 20 -/
def sNum : Nat → Int → Int → Int × Int
  | 0, at', v => (v, at')
  | f + 1, at', v => if isDg (sg at') = true then sNum f (at' + 1) (min (10 * v + (sg at' - 48)) 21) else (v, at')
def sNm (at' : Int) : Except Int (Int × Int) := if isDg (sg at') = true then (if sg at' = 48 then .ok (0, at' + 1) else if (sNum sg 200 at' 0).1 > 20 then .error at' else .ok (sNum sg 200 at' 0)) else .error at'
/-- what stands behind a \ , at' its place -/
def sEsc (at' : Int) : Except Int ((Nat → Bool) × Int) := if sg at' < 0 then .error at' else if isKl (sg at') = true then .ok (kindP (sg at'), at' + 1) else if isLt (sg at') = true ∨ isDg (sg at') = true then .error at' else .ok (fun c => decide ((c : Int) = sg at'), at' + 1)
/-- the members of a set -/
def sMem (start : Int) : Nat → Int → (Nat → Bool) → Except Int ((Nat → Bool) × Int)
  | 0, at', _ => .error at'
  | f + 1, at', P => if sg at' < 0 ∨ (sg at' = 93 ∧ at' = start) then .error at' else if sg at' = 93 then .ok (P, at' + 1) else if sg at' = 92 then (match sEsc sg (at' + 1) with
    | .error w => .error w
    | .ok (K, a) => sMem start f a (fun c => P c || K c)) else if sg (at' + 1) = 45 ∧ sg (at' + 2) ≠ 92 ∧ sg (at' + 2) ≠ 93 ∧ 0 ≤ sg (at' + 2) then (if sg (at' + 2) < sg at' then .error at' else sMem start f (at' + 3) (fun c => P c || (decide (sg at' ≤ (c : Int)) && decide ((c : Int) ≤ sg (at' + 2))))) else sMem start f (at' + 1) (fun c => P c || decide ((c : Int) = sg at'))
def sSet (at' : Int) : Except Int ((Nat → Bool) × Int) := if sg (at' + 1) = 94 then (match sMem sg (at' + 2) 201 (at' + 2) (fun _ => false) with
  | .error w => .error w
  | .ok (P, a) => .ok (fun c => !P c, a)) else sMem sg (at' + 1) 201 (at' + 1) (fun _ => false)
def sAt (at' : Int) : Except Int (qT × Int) := if sg at' < 0 ∨ isQt (sg at') = true then .error at' else if sg at' = 94 then .ok (.num 1, at' + 1) else if sg at' = 36 then .ok (.num 2, at' + 1) else if sg at' = 92 then (if sg (at' + 1) = 98 then .ok (.num 3, at' + 2) else if sg (at' + 1) = 66 then .ok (.num 4, at' + 2) else match sEsc sg (at' + 1) with
    | .error w => .error w
    | .ok (K, a) => .ok (.var (mkset K), a)) else if sg at' = 46 then .ok (.var (mkset fun c => decide (c ≠ 10)), at' + 1) else if sg at' = 91 then (match sSet sg at' with
    | .error w => .error w
    | .ok (K, a) => .ok (.var (mkset K), a)) else .ok (.var (mkset fun c => decide ((c : Int) = sg at')), at' + 1)
/-- what may stand behind a quantifier -/
def sTl (lk : Int) (e : qT) (l h at' : Int) : Except Int (qT × Int) := if sg at' = 63 then .ok (.mulR e (rc l h 1), at' + 1) else if sg at' = 43 then (if lk > 0 ∨ aT e = true then .error at' else .ok (.mulR e (rc l h 2), at' + 1)) else .ok (.mulR e (rc l h 0), at')
def sQt (lk : Int) (e : qT) (at' : Int) : Except Int (qT × Int) := if isQt (sg at') = true then (if noq e = true then .error at' else if sg at' = 123 then (match sNm sg (at' + 1) with
    | .error w => .error w
    | .ok (l, a1) => if sg a1 = 44 then (if sg (a1 + 1) = 125 then sTl sg lk e l (-1) (a1 + 2) else match sNm sg (a1 + 1) with
      | .error w => .error w
      | .ok (h, a2) => if h < l then .error (a1 + 1) else if sg a2 = 125 then sTl sg lk e l h (a2 + 1) else .error a2) else if sg a1 = 125 then sTl sg lk e l l (a1 + 1) else .error a1)
  else sTl sg lk e (if sg at' = 43 then 1 else 0) (if sg at' = 63 then 1 else -1) (at' + 1)) else .ok (e, at')
/-- an open bracket: how (1 plain, 4 group, 5, 6 lookaheads), number, ways, row -/
abbrev sF : Type := Int × Int × Option qT × qT
abbrev sC : Type := Int × Int × Int × List sF
def clo (w : Option qT) (r : qT) : qT := match w with
  | none => r
  | some a => .sub a r
def brk (hw g : Int) (x : qT) : qT := if hw = 4 then .mulL g x else if hw = 5 then .mulL 0 x else if hw = 6 then .mulL (-1) x else .neg x
def sBr (at' gr lk : Int) (fr : List sF) : Except Int sC := if fr.length = 11 then .error at' else if sg (at' + 1) = 63 then (if sg (at' + 2) = 58 then .ok (at' + 3, gr, lk, (1, 0, none, .num 0) :: fr) else if sg (at' + 2) = 61 ∨ sg (at' + 2) = 33 then (if lk > 0 then .error at' else .ok (at' + 3, gr, lk + 1, ((if sg (at' + 2) = 61 then 5 else 6), 0, none, .num 0) :: fr)) else .error (at' + 2)) else if gr = 9 then .error at' else .ok (at' + 1, gr + 1, lk, (4, gr + 1, none, .num 0) :: fr)
def sCl (at' gr lk : Int) (f : sF) (r : List sF) : Except Int sC := match r with
  | [] => .error at'
  | (hw2, g2, wy2, rw2) :: r2 => match sQt sg (if f.1 = 5 ∨ f.1 = 6 then lk - 1 else lk) (brk f.1 f.2.1 (clo f.2.2.1 f.2.2.2)) (at' + 1) with
    | .error w => .error w
    | .ok (q, a) => .ok (a, gr, (if f.1 = 5 ∨ f.1 = 6 then lk - 1 else lk), (hw2, g2, wy2, .add rw2 q) :: r2)
def sStep (c : sC) : Except Int sC := match c.2.2.2 with
  | [] => .error c.1
  | (hw, g, wy, rw) :: r => if sg c.1 = 124 then .ok (c.1 + 1, c.2.1, c.2.2.1, (hw, g, some (clo wy rw), .num 0) :: r) else if sg c.1 = 40 then sBr sg c.1 c.2.1 c.2.2.1 c.2.2.2 else if sg c.1 = 41 then sCl sg c.1 c.2.1 c.2.2.1 (hw, g, wy, rw) r else match sAt sg c.1 with
    | .error w => .error w
    | .ok (e, a) => match sQt sg c.2.2.1 e a with
      | .error w => .error w
      | .ok (q, a') => .ok (a', c.2.1, c.2.2.1, (hw, g, wy, .add rw q) :: r)
def sRun : Nat → sC → Except Int sC
  | 0, c => .ok c
  | f + 1, c => if sg c.1 = -1 then .ok c else match sStep sg c with
    | .error w => .error w
    | .ok c' => sRun f c'
def sTop (c : sC) : Except Int (qT × Int) := match c.2.2.2 with
  | [(_, _, wy, rw)] => .ok (clo wy rw, c.2.1)
  | _ => .error c.1
def sParse : Except Int (qT × Int) := match sRun sg 201 (0, 0, 0, [(1, 0, none, .num 0)]) with
  | .error w => .error w
  | .ok c => sTop c
end SP
