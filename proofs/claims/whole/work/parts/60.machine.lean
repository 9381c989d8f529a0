/-! THE RUNS, AS A MACHINE OVER TREES. Things are numbered in the order of the model; a task names a thing, a call, a tree. -/
/-- kind (0 open, 1 data, 2 call, 3 either, 4 same, 5 unlike, 6 some, 7 link), what, first, second, owner, place, text -/
abbrev Th : Type := Nat × Nat × Option Nat × Option Nat × Nat × Nat × Tr
abbrev tK (t : Th) : Nat := t.1
abbrev tO (t : Th) : Nat := t.2.1
abbrev tA (t : Th) : Option Nat := t.2.2.1
abbrev tB (t : Th) : Option Nat := t.2.2.2.1
abbrev tW (t : Th) : Nat := t.2.2.2.2.1
abbrev tP (t : Th) : Nat := t.2.2.2.2.2.1
abbrev tT (t : Th) : Tr := t.2.2.2.2.2.2
/-- act (0 force, 1 whole, 2 parts, 3 done, 4 match, 5 match data, 6 end of a call, 7 united, 8 asked, 9 end of a run within, 10 unite, 11 ask, 12 run), three numbers, a tree -/
abbrev Tk : Type := Nat × Nat × Nat × Nat × Tr
/-- a run: what is sought, attempts, decisions taken (latest first, each with its ways), ways given, tasks (next first) -/
abbrev Lv : Type := Nat × Nat × List (Nat × Nat) × List Nat × List Tk
/-- things, marks, names by places, runs (the inmost first), steps, end (0 goes, 1 value, 2 failed, 3 floats, 4 cut, 5 branches), ways of a branch -/
abbrev Ac : Type := List Th × (Nat → Bool) × List (Nat → Option Nat) × List Lv × Nat × Nat × Nat
abbrev aT (s : Ac) : List Th := s.1
abbrev aM (s : Ac) : Nat → Bool := s.2.1
abbrev aN (s : Ac) : List (Nat → Option Nat) := s.2.2.1
abbrev aL (s : Ac) : List Lv := s.2.2.2.1
abbrev aS (s : Ac) : Nat := s.2.2.2.2.1
abbrev aE (s : Ac) : Nat := s.2.2.2.2.2.1
abbrev aB (s : Ac) : Nat := s.2.2.2.2.2.2
def tNil : Th := (0, 0, none, none, 0, 0, .nil)
def gT (s : Ac) (x : Nat) : Th := (aT s).getD x tNil
def sT (s : Ac) (x : Nat) (t : Th) : Ac := ((aT s).set x t, aM s, aN s, aL s, aS s, aE s, aB s)
def sE (s : Ac) (e : Nat) : Ac := (aT s, aM s, aN s, aL s, aS s, e, aB s)
def sL (s : Ac) (l : List Lv) : Ac := (aT s, aM s, aN s, l, aS s, aE s, aB s)
def sN (s : Ac) (n : List (Nat → Option Nat)) : Ac := (aT s, aM s, n, aL s, aS s, aE s, aB s)
def sM (s : Ac) (x : Nat) : Ac := (aT s, (fun y => if y = x then true else aM s y), aN s, aL s, aS s, aE s, aB s)
/-- what a thing has become at last -/
def rootF (th : List Th) : Nat → Nat → Nat
  | 0, x => x
  | n + 1, x => if tK (th.getD x tNil) = 7 then (match tA (th.getD x tNil) with
    | some y => rootF th n y
    | none => x) else x
def root (s : Ac) (x : Nat) : Nat := rootF (aT s) (aT s).length x
/-- tasks on top -/
def push (s : Ac) (l : List Tk) : Ac := match aL s with
  | [] => s
  | v :: r => sL s ((v.1, v.2.1, v.2.2.1, v.2.2.2.1, l ++ v.2.2.2.2) :: r)
def link (s : Ac) (x y : Nat) : Ac := sT s x (7, tO (gT s x), some y, tB (gT s x), tW (gT s x), tP (gT s x), tT (gT s x))
def data (s : Ac) (x k : Nat) (a b : Option Nat) : Ac := sT s x (1, k, a, b, tW (gT s x), tP (gT s x), tT (gT s x))
def stepA (s : Ac) : Ac := if aS s = 100 then sE s 4 else (aT s, aM s, aN s, aL s, aS s + 1, aE s, aB s)
/-- the place of an owner's run among the runs -/
def lvAt (s : Ac) (o : Nat) : Nat := (aL s).length - 1 - o
def lNil : Lv := (0, 0, [], [], [])
def gL (s : Ac) (o : Nat) : Lv := (aL s).getD (lvAt s o) lNil
/-- a decision: the way; the run may end by it -/
def decA (s : Ac) (o n : Nat) : Nat × Ac :=
  if (gL s o).2.2.1.length = 40 then (0, sE s 4)
  else match (gL s o).2.2.2.1 with
    | w :: r => (w, sL s ((aL s).set (lvAt s o) ((gL s o).1, (gL s o).2.1, (w, n) :: (gL s o).2.2.1, r, (gL s o).2.2.2.2)))
    | [] => if o = 0 then (0, (aT s, aM s, aN s, aL s, aS s, 5, n))
      else (0, sL s ((aL s).set (lvAt s o) ((gL s o).1, (gL s o).2.1, (0, n) :: (gL s o).2.2.1, [], (gL s o).2.2.2.2)))
/-- decisions that have a way left -/
def backA : List (Nat × Nat) → List (Nat × Nat)
  | [] => []
  | (w, n) :: r => if w + 1 = n then backA r else (w, n) :: r
def failA (s : Ac) (o : Nat) : Ac :=
  if o = 0 then sE s 2
  else match backA (gL s o).2.2.1 with
    | [] => sL (data s (gL s o).1 0 none none) ((aL s).drop (lvAt s o + 1))
    | (w, _) :: r => sL s (((gL s o).1, (gL s o).2.1, [], (r.map (fun d => d.1)).reverse ++ [w + 1], [(12, 0, 0, 0, .nil)]) :: (aL s).drop (lvAt s o + 1))
/-- the names of a tree that stand for nothing stand for new open things, in the order of the names -/
def openA (t : Tr) (o : Nat) : Nat → Nat → (Nat → Option Nat) → List Th → (Nat → Option Nat) × List Th
  | 0, _, f, th => (f, th)
  | d + 1, k, f, th => if (nl (tenc t) 0).testBit k = true ∧ f k = none then openA t o d (k + 1) (fun j => if j = k then some th.length else f j) (th ++ [(0, 0, none, none, o, 0, .nil)]) else openA t o d (k + 1) f th
/-- the things of a tree, the whole ahead of its parts; n is the number of the first -/
def mkA (f : Nat → Option Nat) (o p : Nat) : Tr → Nat → Option Nat × List Th
  | .tag c .nil, n => if c < 10 then (f c, []) else (some n, [(if c < 20 then 1 else 2, if c < 20 then c - 10 else c - 20, none, none, o, 0, .nil)])
  | .tag c (.nest _ a), n => if c = 33 then (some n, [(6, 0, none, none, o, p, a)]) else
    (some n, (if c < 20 then 1 else 2, if c < 20 then c - 10 else c - 20, (mkA f o p a (n + 1)).1, none, o, 0, .nil) :: (mkA f o p a (n + 1)).2)
  | .tag c (.append a b), n =>
    (some n, (if c < 20 then 1 else if c < 30 then 2 else c - 27, if c < 20 then c - 10 else c - 20, (mkA f o p a (n + 1)).1, (mkA f o p b (n + 1 + (mkA f o p a (n + 1)).2.length)).1, o, 0, .nil) :: ((mkA f o p a (n + 1)).2 ++ (mkA f o p b (n + 1 + (mkA f o p a (n + 1)).2.length)).2))
  | _, _ => (none, [])
/-- whether an open thing is in another -/
def inA (s : Ac) (x y : Nat) : Prop := ∃ (n : Nat) (f : Nat → Nat), f 0 = root s y ∧ f n = x ∧ ∀ i, i < n → tK (gT s (f i)) = 1 ∧ ∃ z, (tA (gT s (f i)) = some z ∨ tB (gT s (f i)) = some z) ∧ f (i + 1) = root s z
noncomputable def bindA (s : Ac) (x y o : Nat) : Ac := by
  classical exact if inA s x y then failA s o else if tW (gT s x) = o then link s x y else if tK (gT s y) = 0 ∧ tW (gT s y) = o then link s y x else sE s 3
def pairs (k : Nat) (s : Ac) (a b u : Nat) : List Tk :=
  (match tA (gT s a), tA (gT s b) with
    | some x, some y => [(k, x, y, u, .nil)]
    | _, _ => []) ++ (match tB (gT s a), tB (gT s b) with
    | some x, some y => [(k, x, y, u, .nil)]
    | _, _ => [])
def oT (k : Nat) (r : Option Nat) : List Tk := match r with
  | some x => [(k, x, 0, 0, .nil)]
  | none => []
def callA (fs : List Fn) (s : Ac) (x : Nat) : Ac :=
  if (rulf fs (tO (gT s x))).length = 0 then failA s (tW (gT s x))
  else
    let d := if 1 < (rulf fs (tO (gT s x))).length then decA s (tW (gT s x)) (rulf fs (tO (gT s x))).length else (0, s)
    if aE d.2 = 0 then
      let s2 := stepA d.2
      if aE s2 = 0 then
        let R := (rulf fs (tO (gT s x))).getD d.1 (none, none, .nil)
        let t := gT s2 x
        push (sN (sT s2 x (tK t, tO t, tA t, tB t, tW t, (aN s2).length, R.2.2)) (aN s2 ++ [fun _ => none]))
          ((match R.1, tA t with
            | some p, some y => [(4, y, x, 0, p)]
            | _, _ => []) ++ (match R.2.1, tB t with
            | some p, some y => [(4, y, x, 0, p)]
            | _, _ => []) ++ [(6, x, 0, 0, .nil)])
      else s2
    else d.2
def forceA (fs : List Fn) (s : Ac) (x : Nat) : Ac := match tK (gT s x) with
  | 2 => callA fs s x
  | 3 => let d := decA s (tW (gT s x)) 2
    if aE d.2 = 0 then (match (if d.1 = 0 then tA (gT s x) else tB (gT s x)) with
      | some y => push (link d.2 x y) [(0, x, 0, 0, .nil)]
      | none => d.2) else d.2
  | 4 => push s (oT 1 (tA (gT s x)) ++ oT 1 (tB (gT s x)) ++ [(10, (tA (gT s x)).getD 0, (tB (gT s x)).getD 0, x, .nil), (7, x, 0, 0, .nil)])
  | 5 => push s (oT 1 (tA (gT s x)) ++ oT 1 (tB (gT s x)) ++ [(11, (tA (gT s x)).getD 0, (tB (gT s x)).getD 0, x, .nil), (8, x, 0, 0, .nil)])
  | 6 => sL s ((x, 0, [], [], [(12, 0, 0, 0, .nil)]) :: aL s)
  | _ => s
def kidsA (s : Ac) (p : Tr) (x c : Nat) : List Tk :=
  (match kid1 p, tA (gT s x) with
    | some q, some y => [(4, y, c, 0, q)]
    | _, _ => []) ++ (match kid2 p, tB (gT s x) with
    | some q, some y => [(4, y, c, 0, q)]
    | _, _ => [])
/-- the data of a pattern is met: the part is data, or open and becomes it -/
def metA (fs : List Fn) (s : Ac) (p : Tr) (x c : Nat) : Ac :=
  let k := tcode p - 10
  if tK (gT s x) = 0 then
    if ((fs[tO (gT s c)]?.map (fun y => y.2.1)).getD false = true) ∨ tW (gT s x) ≠ tW (gT s c) then sE s 3
    else
      let n := (aT s).length
      let new := List.replicate (k / 2) ((0, 0, none, none, tW (gT s x), 0, .nil) : Th)
      let s2 : Ac := (aT s ++ new, aM s, aN s, aL s, aS s, aE s, aB s)
      let s3 := sM (data s2 x k (if 2 ≤ k then some n else none) (if 4 ≤ k then some (n + 1) else none)) x
      push s3 (kidsA s3 p x c)
  else if tO (gT s x) = k then push s (kidsA s p x c) else failA s (tW (gT s c))
def endA (s : Ac) (c : Nat) : Ac :=
  let t := gT s c
  let f := (aN s).getD (tP t) (fun _ => none)
  let q := openA (tT t) (tW t) 6 0 f (aT s)
  let r := mkA q.1 (tW t) (tP t) (tT t) q.2.length
  let s2 : Ac := (q.2 ++ r.2, aM s, (aN s).set (tP t) q.1, aL s, aS s, aE s, aB s)
  match r.1 with
    | some y => push (link s2 c y) [(0, c, 0, 0, .nil)]
    | none => s2
def runA (s : Ac) : Ac := match aL s with
  | [] => s
  | v :: r => if v.2.1 = 20 then sE s 4 else
    let s2 := stepA (sL s ((v.1, v.2.1 + 1, v.2.2) :: r))
    if aE s2 = 0 then
      let t := gT s2 v.1
      let m := mkA ((aN s2).getD (tP t) (fun _ => none)) r.length (tP t) (tT t) (aT s2).length
      let s3 : Ac := (aT s2 ++ m.2, aM s2, aN s2, aL s2, aS s2, aE s2, aB s2)
      push s3 (oT 1 m.1 ++ [(9, v.1, 0, 0, .nil)])
    else s2
noncomputable def uniteA (s : Ac) (a b u : Nat) : Ac :=
  if a = b then s else
    let s2 := stepA s
    if aE s2 = 0 then (if tK (gT s2 a) = 0 then bindA s2 a b (tW (gT s2 u)) else if tK (gT s2 b) = 0 then bindA s2 b a (tW (gT s2 u)) else if tO (gT s2 a) = tO (gT s2 b) then push s2 (pairs 10 s2 a b u) else failA s2 (tW (gT s2 u))) else s2
/-- what is still asked goes -/
def dropA : List Tk → List Tk
  | [] => []
  | t :: r => if t.1 = 11 then dropA r else if t.1 = 8 then r else t :: r
def askA (s : Ac) (a b u : Nat) : Ac :=
  if a = b then s else if tK (gT s a) = 0 ∨ tK (gT s b) = 0 then sE s 3 else
    let s2 := stepA s
    if aE s2 = 0 then (if tO (gT s2 a) = tO (gT s2 b) then push s2 (pairs 11 s2 a b u) else data (match aL s2 with
      | [] => s2
      | v :: r => sL s2 ((v.1, v.2.1, v.2.2.1, v.2.2.2.1, dropA v.2.2.2.2) :: r)) u 1 none none) else s2
noncomputable def doA (fs : List Fn) (s : Ac) (t : Tk) : Ac := match t.1 with
  | 0 => forceA fs s (root s t.2.1)
  | 1 => push s [(0, t.2.1, 0, 0, .nil), (2, t.2.1, 0, 0, .nil)]
  | 2 => if tK (gT s (root s t.2.1)) = 1 ∧ aM s (root s t.2.1) = false then push s (oT 1 (tA (gT s (root s t.2.1))) ++ oT 1 (tB (gT s (root s t.2.1))) ++ [(3, root s t.2.1, 0, 0, .nil)]) else s
  | 3 => sM s t.2.1
  | 4 => if tcode t.2.2.2.2 < 10 then sN s ((aN s).set (tP (gT s t.2.2.1)) (fun j => if j = tcode t.2.2.2.2 then some t.2.1 else (aN s).getD (tP (gT s t.2.2.1)) (fun _ => none) j)) else push s [(0, t.2.1, 0, 0, .nil), (5, t.2)]
  | 5 => metA fs s t.2.2.2.2 (root s t.2.1) t.2.2.1
  | 6 => endA s t.2.1
  | 7 => data s t.2.1 1 none none
  | 8 => failA s (tW (gT s t.2.1))
  | 9 => sL (data s t.2.1 1 none none) ((aL s).drop 1)
  | 10 => uniteA s (root s t.2.1) (root s t.2.2.1) t.2.2.2.1
  | 11 => askA s (root s t.2.1) (root s t.2.2.1) t.2.2.2.1
  | _ => runA s
/-- one task; a run that has none left has a value -/
noncomputable def goA (fs : List Fn) (s : Ac) : Ac := if aE s = 0 then (match aL s with
  | [] => sE s 1
  | v :: r => (match v.2.2.2.2 with
    | [] => sE s 1
    | t :: l => doA fs (sL s ((v.1, v.2.1, v.2.2.1, v.2.2.2.1, l) :: r)) t)) else s
noncomputable def itA (fs : List Fn) : Nat → Ac → Ac
  | 0, s => s
  | n + 1, s => itA fs n (goA fs s)
/-- the run of a goal with ways given -/
def startA (g : Tr) (w : List Nat) : Ac :=
  let q := openA g 0 6 0 (fun _ => none) []
  let r := mkA q.1 0 0 g q.2.length
  (q.2 ++ r.2, (fun _ => false), [q.1], [(0, 0, [], w, oT 1 r.1)], 0, 0, 0)
/-- the run ends so -/
def EndsA (fs : List Fn) (g : Tr) (w : List Nat) (s : Ac) : Prop := ∃ n, itA fs n (startA g w) = s ∧ aE s ≠ 0
theorem itA_add (fs : List Fn) : ∀ (a b : Nat) (s : Ac), itA fs (a + b) s = itA fs b (itA fs a s)
  | 0, b, s => by rw [Nat.zero_add]; rfl
  | a + 1, b, s => by
    rw [show a + 1 + b = (a + b) + 1 by omega]
    exact itA_add fs a b (goA fs s)
theorem itA_end {fs : List Fn} {s : Ac} (h : aE s ≠ 0) : ∀ n, itA fs n s = s
  | 0 => rfl
  | n + 1 => by
    show itA fs n (goA fs s) = s
    rw [show goA fs s = s from if_neg h]
    exact itA_end h n
/-- a run ends in one way -/
theorem EndsA.eq {fs : List Fn} {g : Tr} {w : List Nat} {s s' : Ac} (h : EndsA fs g w s) (h' : EndsA fs g w s') : s = s' := by
  obtain ⟨n, h1, h2⟩ := h
  obtain ⟨n', h1', h2'⟩ := h'
  rcases Nat.le_total n n' with q | q
  · obtain ⟨d, rfl⟩ := Nat.le.dest q
    rw [itA_add, h1, itA_end h2] at h1'
    exact h1'
  · obtain ⟨d, rfl⟩ := Nat.le.dest q
    rw [itA_add, h1', itA_end h2'] at h1
    exact h1.symm
