/-! THE RUNS, AS MACHINES OVER TREES. Machine A does what the reference does, machine Q what the other one does; both number things alike. -/
/-- kind (0 unbound, 1 data, 2 call, 3 either, 4 same, 5 unlike, 6 some, 7 link), what, first, second, owner, place, text -/
abbrev Th : Type := Nat × Nat × Option Nat × Option Nat × Nat × Nat × Tr
abbrev tK (t : Th) : Nat := t.1
abbrev tO (t : Th) : Nat := t.2.1
abbrev tA (t : Th) : Option Nat := t.2.2.1
abbrev tB (t : Th) : Option Nat := t.2.2.2.1
abbrev tW (t : Th) : Nat := t.2.2.2.2.1
abbrev tP (t : Th) : Nat := t.2.2.2.2.2.1
abbrev tT (t : Th) : Tr := t.2.2.2.2.2.2
/-- act (0 force, 1 whole, 2 parts, 3 done, 4 match, 5 match data, 6 end of a call, 7 united, 8 asked, 9 end of a run within, 10 unite, 11 ask, 12 run, 13 begin to unite, 14 begin to ask), three numbers, a tree -/
abbrev Tk : Type := Nat × Nat × Nat × Nat × Tr
/-- a run: what is sought, attempts, decisions taken (latest first, each with its ways), ways given, tasks (next first), its number -/
abbrev Lv : Type := Nat × Nat × List (Nat × Nat) × List Nat × List Tk × Nat
abbrev lX (v : Lv) : Nat := v.1
abbrev lU (v : Lv) : Nat := v.2.1
abbrev lD (v : Lv) : List (Nat × Nat) := v.2.2.1
abbrev lG (v : Lv) : List Nat := v.2.2.2.1
abbrev lK (v : Lv) : List Tk := v.2.2.2.2.1
abbrev lZ (v : Lv) : Nat := v.2.2.2.2.2
/-- things, marks, names by places, runs by levels, steps, end (0 goes, 1 value, 2 failed, 3 floats, 4 cut, 5 branches), ways of a branch, runs begun -/
abbrev Ac : Type := (Nat × (Nat → Th)) × (Nat → Nat) × (Nat × (Nat → Nat → Option Nat)) × (Nat × (Nat → Lv)) × Nat × Nat × Nat × Nat
abbrev aC (s : Ac) : Nat := s.1.1
abbrev aF (s : Ac) : Nat → Th := s.1.2
abbrev aM (s : Ac) : Nat → Nat := s.2.1
abbrev aP (s : Ac) : Nat := s.2.2.1.1
abbrev aN (s : Ac) : Nat → Nat → Option Nat := s.2.2.1.2
abbrev aL (s : Ac) : Nat := s.2.2.2.1.1
abbrev aV (s : Ac) : Nat → Lv := s.2.2.2.1.2
abbrev aS (s : Ac) : Nat := s.2.2.2.2.1
abbrev aE (s : Ac) : Nat := s.2.2.2.2.2.1
abbrev aB (s : Ac) : Nat := s.2.2.2.2.2.2.1
abbrev aR (s : Ac) : Nat := s.2.2.2.2.2.2.2
def tNil : Th := (0, 0, none, none, 0, 0, .nil)
def up1 {α : Type} (f : Nat → α) (x : Nat) (v : α) : Nat → α := fun y => if y = x then v else f y
theorem up1_at {α : Type} {f : Nat → α} {x : Nat} {v : α} : up1 f x v x = v := if_pos rfl
theorem up1_ne {α : Type} {f : Nat → α} {x y : Nat} {v : α} (h : y ≠ x) : up1 f x v y = f y := if_neg h
def sT (s : Ac) (n : Nat) (f : Nat → Th) : Ac := ((n, f), s.2)
def sM (s : Ac) (g : Nat → Nat) : Ac := (s.1, g, s.2.2)
def sN (s : Ac) (n : Nat) (g : Nat → Nat → Option Nat) : Ac := (s.1, s.2.1, (n, g), s.2.2.2)
def sL (s : Ac) (L : Nat) (v : Nat → Lv) : Ac := (s.1, s.2.1, s.2.2.1, (L, v), s.2.2.2.2)
def sS (s : Ac) (k : Nat) : Ac := (s.1, s.2.1, s.2.2.1, s.2.2.2.1, k, s.2.2.2.2.2)
def sE (s : Ac) (e : Nat) : Ac := (s.1, s.2.1, s.2.2.1, s.2.2.2.1, aS s, e, aB s, aR s)
def sB (s : Ac) (e b : Nat) : Ac := (s.1, s.2.1, s.2.2.1, s.2.2.2.1, aS s, e, b, aR s)
def sR (s : Ac) (r : Nat) : Ac := (s.1, s.2.1, s.2.2.1, s.2.2.2.1, aS s, aE s, aB s, r)
/-- what a thing has become at last -/
def rootF (f : Nat → Th) : Nat → Nat → Nat
  | 0, x => x
  | d + 1, x => if tK (f x) = 7 then (match tA (f x) with
    | some y => rootF f d y
    | none => x) else x
def root (s : Ac) (x : Nat) : Nat := rootF (aF s) (aC s) x
def pTk (v : Lv) (l : List Tk) : Lv := (lX v, lU v, lD v, lG v, l, lZ v)
/-- the tasks of the inmost run -/
abbrev topK (s : Ac) : List Tk := lK (aV s (aL s))
def setK (s : Ac) (l : List Tk) : Ac := sL s (aL s) (up1 (aV s) (aL s) (pTk (aV s (aL s)) l))
/-- tasks on top -/
def push (s : Ac) (l : List Tk) : Ac := setK s (l ++ topK s)
def link (s : Ac) (x y : Nat) : Ac := sT s (aC s) (up1 (aF s) x (7, tO (aF s x), some y, tB (aF s x), tW (aF s x), tP (aF s x), tT (aF s x)))
def data (s : Ac) (x k : Nat) (a b : Option Nat) : Ac := sT s (aC s) (up1 (aF s) x (1, k, a, b, tW (aF s x), tP (aF s x), tT (aF s x)))
def stepA (s : Ac) : Ac := if aS s = 100 then sE s 4 else sS s (aS s + 1)
def setD (s : Ac) (o : Nat) (d : List (Nat × Nat)) (g : List Nat) : Ac := sL s (aL s) (up1 (aV s) o (lX (aV s o), lU (aV s o), d, g, lK (aV s o), lZ (aV s o)))
/-- a decision: the way; the run may end by it -/
def decA (s : Ac) (o n : Nat) : Nat × Ac :=
  if (lD (aV s o)).length = 40 then (0, sE s 4)
  else match lG (aV s o) with
    | w :: r => (w, setD s o ((w, n) :: lD (aV s o)) r)
    | [] => if o = 0 then (0, sB s 5 n) else (0, setD s o ((0, n) :: lD (aV s o)) [])
/-- decisions that have a way left -/
def backA : List (Nat × Nat) → List (Nat × Nat)
  | [] => []
  | (w, n) :: r => if w + 1 = n then backA r else (w, n) :: r
def tRun : Tk := (12, 0, 0, 0, .nil)
def failA (s : Ac) (o : Nat) : Ac :=
  if o = 0 then sE s 2
  else match backA (lD (aV s o)) with
    | [] => sL (data s (lX (aV s o)) 0 none none) (o - 1) (aV s)
    | (w, _) :: r => if lU (aV s o) = 20 then sE s 4 else sL s o (up1 (aV s) o (lX (aV s o), lU (aV s o), [], (r.map (fun d => d.1)).reverse ++ [w + 1], [tRun], lZ (aV s o)))
def tOpen (o : Nat) : Th := (0, 0, none, none, o, 0, .nil)
/-- names that stand for nothing stand for new things -/
def opG (o : Nat) : List Nat → Nat → (Nat → Option Nat) → (Nat → Option Nat) × List Th
  | [], _, g => (g, [])
  | k :: ks, n, g => if g k = none then ((opG o ks (n + 1) (up1 g k (some n))).1, tOpen o :: (opG o ks (n + 1) (up1 g k (some n))).2) else opG o ks n g
/-- the names of a tree -/
def ksA (t : Tr) : List Nat := (List.range 6).filter (fun k => (nl (tenc t) 0).testBit k)
def kdc (c : Nat) : Nat := if c < 20 then 1 else if c < 30 then 2 else c - 27
def whc (c : Nat) : Nat := if c < 20 then c - 10 else c - 20
/-- the things of a tree, the whole ahead of its parts; n is the number of the first -/
def mkA (g : Nat → Option Nat) (o p : Nat) : Tr → Nat → Option Nat × List Th
  | .tag c .nil, n => if c < 10 then (g c, []) else (some n, [(kdc c, whc c, none, none, o, 0, .nil)])
  | .tag c (.nest _ a), n => if c = 33 then (some n, [(6, 0, none, none, o, p, a)]) else
    (some n, (kdc c, whc c, (mkA g o p a (n + 1)).1, none, o, 0, .nil) :: (mkA g o p a (n + 1)).2)
  | .tag c (.append a b), n =>
    (some n, (kdc c, whc c, (mkA g o p a (n + 1)).1, (mkA g o p b (n + 1 + (mkA g o p a (n + 1)).2.length)).1, o, 0, .nil) :: ((mkA g o p a (n + 1)).2 ++ (mkA g o p b (n + 1 + (mkA g o p a (n + 1)).2.length)).2))
  | _, _ => (none, [])
def app (f : Nat → Th) (n : Nat) (l : List Th) : Nat → Th := fun x => if x < n then f x else l.getD (x - n) tNil
def addT (s : Ac) (l : List Th) : Ac := sT s (aC s + l.length) (app (aF s) (aC s) l)
/-- what can be reached through data -/
def Rc (s : Ac) (y z : Nat) : Prop := ∃ (n : Nat) (p : Nat → Nat), p 0 = root s y ∧ p n = z ∧ ∀ i, i < n → tK (aF s (p i)) = 1 ∧ ∃ w, (tA (aF s (p i)) = some w ∨ tB (aF s (p i)) = some w) ∧ p (i + 1) = root s w
/-- all that can be reached is unbound or data -/
def Cl (s : Ac) (y : Nat) : Prop := ∀ z, Rc s y z → tK (aF s z) < 2
noncomputable def bindA (s : Ac) (x y o : Nat) : Ac := by
  classical exact if Rc s y x then failA s o else if tW (aF s x) = o then link s x y else if tK (aF s y) = 0 ∧ tW (aF s y) = o then link s y x else sE s 3
def oT (k : Nat) (r : Option Nat) : List Tk := match r with
  | some x => [(k, x, 0, 0, .nil)]
  | none => []
def pr1 (k : Nat) (x y : Option Nat) (u : Nat) : List Tk := match x, y with
  | some x, some y => [(k, x, y, u, .nil)]
  | _, _ => []
def pairs (k : Nat) (s : Ac) (a b u : Nat) : List Tk := pr1 k (tA (aF s a)) (tA (aF s b)) u ++ pr1 k (tB (aF s a)) (tB (aF s b)) u
/-- tasks that match a pattern, if there is one -/
def mt1 (p : Option Tr) (y : Option Nat) (c : Nat) : List Tk := match p, y with
  | some p, some y => [(4, y, c, 0, p)]
  | _, _ => []
/-- a rule is taken for a call -/
def takeR (s : Ac) (x : Nat) (R : Rl) : Ac :=
  push (sN (sT s (aC s) (up1 (aF s) x (tK (aF s x), tO (aF s x), tA (aF s x), tB (aF s x), tW (aF s x), aP s, R.2.2))) (aP s + 1) (up1 (aN s) (aP s) (fun _ => none)))
    (mt1 R.1 (tA (aF s x)) x ++ mt1 R.2.1 (tB (aF s x)) x ++ [(6, x, 0, 0, .nil)])
def callA (fs : List Fn) (s : Ac) (x : Nat) : Ac :=
  if (rulf fs (tO (aF s x))).length = 0 then failA s (tW (aF s x))
  else
    let d := if 1 < (rulf fs (tO (aF s x))).length then decA s (tW (aF s x)) (rulf fs (tO (aF s x))).length else (0, s)
    if aE d.2 = 0 then
      let s2 := stepA d.2
      if aE s2 = 0 then takeR s2 x ((rulf fs (tO (aF s x))).getD d.1 (none, none, .nil)) else s2
    else d.2
def forceG (fs : List Fn) (h : Bool) (s : Ac) (x : Nat) : Ac := match tK (aF s x) with
  | 2 => callA fs s x
  | 3 => let d := decA s (tW (aF s x)) 2
    if aE d.2 = 0 then (match (if d.1 = 0 then tA (aF s x) else tB (aF s x)) with
      | some y => push (link d.2 x y) [(0, if h = true then x else y, 0, 0, .nil)]
      | none => d.2) else d.2
  | 4 => push s (oT 1 (tA (aF s x)) ++ oT 1 (tB (aF s x)) ++ (if h = true then [(10, (tA (aF s x)).getD 0, (tB (aF s x)).getD 0, x, .nil), (7, x, 0, 0, .nil)] else [(13, (tA (aF s x)).getD 0, (tB (aF s x)).getD 0, x, .nil)]))
  | 5 => push s (oT 1 (tA (aF s x)) ++ oT 1 (tB (aF s x)) ++ (if h = true then [(11, (tA (aF s x)).getD 0, (tB (aF s x)).getD 0, x, .nil), (8, x, 0, 0, .nil)] else [(14, (tA (aF s x)).getD 0, (tB (aF s x)).getD 0, x, .nil)]))
  | 6 => sL s (aL s + 1) (up1 (aV s) (aL s + 1) (x, 0, [], [], [tRun], 0))
  | _ => s
/-- the data of a pattern is met: the part is data, or unbound and becomes it -/
def metA (fs : List Fn) (s : Ac) (p : Tr) (x c : Nat) : Ac :=
  let k := tcode p - 10
  if tK (aF s x) = 0 then
    if ((fs[tO (aF s c)]?.map (fun y => y.2.1)).getD false = true) ∨ tW (aF s x) ≠ tW (aF s c) then sE s 3
    else
      let a := if 2 ≤ k then some (aC s) else none
      let b := if 4 ≤ k then some (aC s + 1) else none
      push (data (addT s (List.replicate (k / 2) (tOpen (tW (aF s x))))) x k a b) (mt1 (kid1 p) a c ++ mt1 (kid2 p) b c)
  else if tO (aF s x) = k then push s (mt1 (kid1 p) (tA (aF s x)) c ++ mt1 (kid2 p) (tB (aF s x)) c) else failA s (tW (aF s c))
/-- names of a place stand for new things -/
def opsA (s : Ac) (t : Tr) (p o : Nat) : Ac :=
  let q := opG o (ksA t) (aC s) (aN s p)
  addT (sN s (aP s) (up1 (aN s) p q.1)) q.2
def endG (h : Bool) (s : Ac) (c : Nat) : Ac :=
  let t := aF s c
  let s2 := opsA s (tT t) (tP t) (tW t)
  let r := mkA (aN s2 (tP t)) (tW t) (tP t) (tT t) (aC s2)
  match r.1 with
    | some y => push (link (addT s2 r.2) c y) [(0, if h = true then c else y, 0, 0, .nil)]
    | none => s2
def runA (s : Ac) : Ac :=
  let v := aV s (aL s)
  let s2 := stepA s
  if aE s2 = 0 then
    let t := aF s (lX v)
    let m := mkA (aN s (tP t)) (aL s) (tP t) (tT t) (aC s)
    sR (sL (addT s2 m.2) (aL s) (up1 (aV s) (aL s) (lX v, lU v + 1, [], lG v, oT 1 m.1 ++ (9, lX v, 0, 0, .nil) :: lK v, aR s + 1))) (aR s + 1)
  else s2
noncomputable def uniteA (s : Ac) (a b u : Nat) : Ac :=
  if a = b then s else
    let s2 := stepA s
    if aE s2 = 0 then (if tK (aF s2 a) = 0 then bindA s2 a b (tW (aF s2 u)) else if tK (aF s2 b) = 0 then bindA s2 b a (tW (aF s2 u)) else if tO (aF s2 a) = tO (aF s2 b) then push s2 (pairs 10 s2 a b u) else failA s2 (tW (aF s2 u))) else s2
/-- what is still asked goes -/
def dropA : List Tk → List Tk
  | [] => []
  | t :: r => if t.1 = 11 then dropA r else if t.1 = 8 then r else t :: r
def askA (s : Ac) (a b u : Nat) : Ac :=
  if a = b then s else if tK (aF s a) = 0 ∨ tK (aF s b) = 0 then sE s 3 else
    let s2 := stepA s
    if aE s2 = 0 then (if tO (aF s2 a) = tO (aF s2 b) then push s2 (pairs 11 s2 a b u) else data (setK s2 (dropA (topK s2))) u 1 none none) else s2
/-- a name of a pattern stands for a thing -/
def nameA (s : Ac) (c k y : Nat) : Ac := sN s (aP s) (up1 (aN s) (tP (aF s c)) (up1 (aN s (tP (aF s c))) k (some y)))
noncomputable def doA (fs : List Fn) (s : Ac) (t : Tk) : Ac := match t.1 with
  | 0 => forceG fs false s (root s t.2.1)
  | 1 => push s [(0, t.2.1, 0, 0, .nil), (2, t.2.1, 0, 0, .nil)]
  | 2 => if tK (aF s (root s t.2.1)) = 1 ∧ aM s (root s t.2.1) = 0 then push s (oT 1 (tA (aF s (root s t.2.1))) ++ oT 1 (tB (aF s (root s t.2.1))) ++ [(3, root s t.2.1, 0, 0, .nil)]) else s
  | 3 => sM s (up1 (aM s) t.2.1 1)
  | 4 => if tcode t.2.2.2.2 < 10 then nameA s t.2.2.1 (tcode t.2.2.2.2) t.2.1 else push s [(0, t.2.1, 0, 0, .nil), (5, t.2)]
  | 5 => metA fs s t.2.2.2.2 (root s t.2.1) t.2.2.1
  | 6 => endG false s t.2.1
  | 7 => data s t.2.1 1 none none
  | 8 => failA s (tW (aF s t.2.1))
  | 9 => sL (data s t.2.1 1 none none) (aL s - 1) (aV s)
  | 10 => uniteA s (root s t.2.1) (root s t.2.2.1) t.2.2.2.1
  | 11 => askA s (root s t.2.1) (root s t.2.2.1) t.2.2.2.1
  | 12 => runA s
  | 13 => push s [(10, t.2.1, t.2.2.1, t.2.2.2.1, .nil), (7, t.2.2.2.1, 0, 0, .nil)]
  | _ => push s [(11, t.2.1, t.2.2.1, t.2.2.2.1, .nil), (8, t.2.2.2.1, 0, 0, .nil)]
noncomputable def doQ (fs : List Fn) (s : Ac) (t : Tk) : Ac := match t.1 with
  | 0 => forceG fs true s (root s t.2.1)
  | 1 => if 2 ≤ tK (aF s (root s t.2.1)) then push s [(0, root s t.2.1, 0, 0, .nil), (1, root s t.2.1, 0, 0, .nil)] else if tK (aF s (root s t.2.1)) = 1 ∧ aM s (root s t.2.1) ≠ lZ (aV s (aL s)) then push (sM s (up1 (aM s) (root s t.2.1) (lZ (aV s (aL s))))) (oT 1 (tA (aF s (root s t.2.1))) ++ oT 1 (tB (aF s (root s t.2.1))) ++ [(3, root s t.2.1, 0, 0, .nil)]) else s
  | 3 => s
  | 4 => if tcode t.2.2.2.2 < 10 then nameA s t.2.2.1 (tcode t.2.2.2.2) t.2.1 else if 2 ≤ tK (aF s (root s t.2.1)) then push s [(0, root s t.2.1, 0, 0, .nil), t] else metA fs s t.2.2.2.2 (root s t.2.1) t.2.2.1
  | 6 => endG true s t.2.1
  | 7 => data s t.2.1 1 none none
  | 8 => failA s (tW (aF s t.2.1))
  | 9 => sL (data s t.2.1 1 none none) (aL s - 1) (aV s)
  | 10 => uniteA s (root s t.2.1) (root s t.2.2.1) t.2.2.2.1
  | 11 => askA s (root s t.2.1) (root s t.2.2.1) t.2.2.2.1
  | _ => runA s
/-- one task; a run that has none left has a value -/
def goX (d : Ac → Tk → Ac) (s : Ac) : Ac := if aE s = 0 then (match topK s with
  | [] => sE s 1
  | t :: l => d (setK s l) t) else s
def itX (d : Ac → Tk → Ac) : Nat → Ac → Ac
  | 0, s => s
  | n + 1, s => itX d n (goX d s)
/-- the run of a goal with ways given -/
def startA (g : Tr) (w : List Nat) : Ac :=
  let q := opG 0 (ksA g) 0 (fun _ => none)
  let r := mkA q.1 0 0 g q.2.length
  ((q.2.length + r.2.length, app (app (fun _ => tNil) 0 q.2) q.2.length r.2), (fun _ => 0), (1, fun _ => q.1), (0, fun _ => (0, 0, [], w, oT 1 r.1, 1)), 0, 0, 0, 1)
/-- the run ends so -/
def EndsX (d : Ac → Tk → Ac) (g : Tr) (w : List Nat) (s : Ac) : Prop := ∃ n, itX d n (startA g w) = s ∧ aE s ≠ 0
theorem itX_add (d : Ac → Tk → Ac) : ∀ (a b : Nat) (s : Ac), itX d (a + b) s = itX d b (itX d a s)
  | 0, b, s => by rw [Nat.zero_add]; rfl
  | a + 1, b, s => by
    rw [show a + 1 + b = (a + b) + 1 by omega]
    exact itX_add d a b (goX d s)
theorem itX_end {d : Ac → Tk → Ac} {s : Ac} (h : aE s ≠ 0) : ∀ n, itX d n s = s
  | 0 => rfl
  | n + 1 => by
    show itX d n (goX d s) = s
    rw [show goX d s = s from if_neg h]
    exact itX_end h n
/-- a run ends in one way -/
theorem EndsX.eq {d : Ac → Tk → Ac} {g : Tr} {w : List Nat} {s s' : Ac} (h : EndsX d g w s) (h' : EndsX d g w s') : s = s' := by
  obtain ⟨n, h1, h2⟩ := h
  obtain ⟨n', h1', h2'⟩ := h'
  rcases Nat.le_total n n' with q | q
  · obtain ⟨d, rfl⟩ := Nat.le.dest q
    rw [itX_add, h1, itX_end h2] at h1'
    exact h1'
  · obtain ⟨d, rfl⟩ := Nat.le.dest q
    rw [itX_add, h1', itX_end h2'] at h1
    exact h1.symm
