/-! THE REFERENCE MAKES A TREE -/
theorem mkA_lf {g : Nat → Option Nat} {o p c n : Nat} : mkA g o p (tlf c) n = if c < 10 then (g c, []) else (some n, [(kdc c, whc c, none, none, o, 0, .nil)]) := by
  unfold tlf
  rw [mkA]
theorem mkA_un {g : Nat → Option Nat} {o p c n : Nat} {a : Tr} : mkA g o p (tun c a) n = if c = 33 then (some n, [(6, 0, none, none, o, p, a)]) else (some n, (kdc c, whc c, (mkA g o p a (n + 1)).1, none, o, 0, .nil) :: (mkA g o p a (n + 1)).2) := by
  unfold tun
  rw [mkA]
theorem mkA_bi {g : Nat → Option Nat} {o p c n : Nat} {a b : Tr} : mkA g o p (tbi c a b) n = (some n, (kdc c, whc c, (mkA g o p a (n + 1)).1, (mkA g o p b (n + 1 + (mkA g o p a (n + 1)).2.length)).1, o, 0, .nil) :: ((mkA g o p a (n + 1)).2 ++ (mkA g o p b (n + 1 + (mkA g o p a (n + 1)).2.length)).2)) := by
  unfold tbi
  rw [mkA]
/-- all names of a tree stand for something -/
def NmO (g : Nat → Option Nat) (b : Nat) (t : Tr) : Prop := ∀ c, c ∈ tenc t → c < 10 → ∃ y, g c = some y ∧ y < b
theorem NmO.un {g : Nat → Option Nat} {b c : Nat} {a : Tr} (h : NmO g b (tun c a)) : NmO g b a := fun d hd => h d (by rw [tenc_un]; exact List.mem_cons_of_mem _ hd)
theorem NmO.l {g : Nat → Option Nat} {b c : Nat} {a a' : Tr} (h : NmO g b (tbi c a a')) : NmO g b a := fun d hd => h d (by rw [tenc_bi]; exact List.mem_cons_of_mem _ (List.mem_append_left _ hd))
theorem NmO.r {g : Nat → Option Nat} {b c : Nat} {a a' : Tr} (h : NmO g b (tbi c a a')) : NmO g b a' := fun d hd => h d (by rw [tenc_bi]; exact List.mem_cons_of_mem _ (List.mem_append_right _ hd))
theorem mkA_some {nf : Nat} {fp : Nat → Nat} {g : Nat → Option Nat} {o p b : Nat} {t : Tr} (hw : twf nf fp t) (hN : NmO g b t) : ∀ n, ∃ y, (mkA g o p t n).1 = some y ∧ (y < b ∨ (y = n ∧ 1 ≤ (mkA g o p t n).2.length)) := by
  intro n
  rcases tr_cases hw with ⟨c, rfl, r1, r2⟩ | ⟨c, a, rfl, r1, r2, r3⟩ | ⟨c, a, a', rfl, r1, r2, r3, r4⟩
  · rw [mkA_lf]
    split
    · rename_i w
      obtain ⟨y, h1, h2⟩ := hN c (by rw [tenc_lf]; exact List.mem_singleton.mpr rfl) w
      exact ⟨y, h1, Or.inl h2⟩
    · exact ⟨n, rfl, Or.inr ⟨rfl, Nat.le_refl _⟩⟩
  · rw [mkA_un]
    split
    · exact ⟨n, rfl, Or.inr ⟨rfl, Nat.le_refl _⟩⟩
    · exact ⟨n, rfl, Or.inr ⟨rfl, Nat.succ_le_succ (Nat.zero_le _)⟩⟩
  · rw [mkA_bi]
    exact ⟨n, rfl, Or.inr ⟨rfl, Nat.succ_le_succ (Nat.zero_le _)⟩⟩
theorem s12_kindOf {m : Mm} (hm : St m) {c : Nat} (hc : c < 40) : C m12_kindOf [.int (nn c)] m (fun r m' => r = .inl (some (.int (nn (kdc c)))) ∧ m' = m) := by
  refine C.of (by decide +kernel) (Nat.le_of_ble_eq_true rfl) rfl (w12_kindOf hm ?_)
  have l20 : 20 ≤ nn c ↔ 20 ≤ c := nn_le (a := 20) (by decide) (by omega)
  have l30 : 30 ≤ nn c ↔ 30 ≤ c := nn_le (a := 30) (by decide) (by omega)
  rw [l20, l30]
  unfold kdc
  refine ⟨fun h => ⟨fun h2 => ?_, fun h2 => ?_⟩, fun h => ?_⟩
  · rw [if_neg (by omega), if_neg (by omega), show (3 : Int32) + nn c = nn (3 + c) from nn_add 3 c, show nn (3 + c) - 30 = nn (3 + c - 30) from nn_sub (b := 30) (by omega), show 3 + c - 30 = c - 27 by omega]
    exact ⟨rfl, rfl⟩
  · rw [if_neg (by omega), if_pos (by omega)]
    exact ⟨rfl, rfl⟩
  · rw [if_pos (by omega)]
    exact ⟨rfl, rfl⟩
theorem Fr.mf {m m' : Mm} {fs : List Fn} (h : MF0 m fs) (f : Fr SQ m m') : MF0 m' fs := h.fr f (by unfold SQ; omega) (fun _ => by unfold SQ; omega) (fun _ => by unfold SQ; omega)
theorem Fr.c676 {m m' : Mm} (f : Fr SQ m m') : mI m' 676 = mI m 676 := f.fn (fun j => by unfold SQ; omega)
theorem Fr.c685 {m m' : Mm} (f : Fr SQ m m') : mI m' 685 = mI m 685 := f.fn (fun j => by unfold SQ; omega)
section Make
variable {fs : List Fn} {F : Nat → Th} {mk : Nat → Nat} {v1 : Int32} {p o : Nat} {g : Nat → Option Nat} {K : Option Value ⊕ String → Mm → Prop}
/-- a node without parts is done -/
theorem mk_fin0 {m : Mm} {q q' c x : Nat} {v4 v7 : Int32} {ST : List (Nat × Nat)} (hm : St m) (h0 : MF0 m fs) (hl : ST.length ≤ 16) (hST : ∀ x c, (x, c) ∈ ST → c < 10) (hK : KS m (dcz ST)) (hc : c < 40) (hq : q < 1000) (hqq : c ≠ 33 → q' = q + 1) (hs : c = 33 → ∃ t, twf fs.length (fpf fs) t ∧ q + tsz t ≤ 876 ∧ TC m q t ∧ q' = q + tsz t)
    (k : V m12_make 12 [some (.ref 668), some (.int v1), some (.int (nn p)), some (.int (nn o)), some (.int v4), some (.int (nn (popz (dcz ST)).length)), some (.int (nn q')), some (.int (if (popz (dcz ST)).length = 0 then 0 else 1)), none, none, none, none] [] m K) :
    V m12_make 238 [some (.ref 668), some (.int v1), some (.int (nn p)), some (.int (nn o)), some (.int v4), some (.int (nn ST.length)), some (.int (nn q)), some (.int v7), some (.int (nn c)), some (.int (nn x)), some (.int 0), none] [] m K := by
  have e : (dcz ST).length = ST.length := by cases ST <;> rfl
  refine u12_make_238 hm ⟨fun _ => ?_, fun w => absurd (by decide) w⟩
  rw [← e]
  refine mk_pop hm (dcz ST) (by omega) (fun y d hy => ?_) hK (mk_next hm (by have := popz_len (dcz ST); omega) h0 hc hq hqq hs k)
  cases ST with
  | nil => cases hy
  | cons z l =>
    obtain ⟨z1, z2⟩ := z
    rcases List.mem_cons.mp hy with w | w
    · have e2 : d = z2 - 1 := congrArg Prod.snd w
      have := hST z1 z2 List.mem_cons_self
      omega
    · exact hST y d (List.mem_cons_of_mem _ w)
/-- a node with parts lacks them -/
theorem mk_finP {m : Mm} {q c x P : Nat} {v4 v7 : Int32} {ST : List (Nat × Nat)} (hm : St m) (h0 : MF0 m fs) (hl : ST.length < 16) (hK : KS m (dcz ST)) (hc : c < 40) (hc3 : c ≠ 33) (hq : q < 1000) (hP : 1 ≤ P ∧ P ≤ 2)
    (k : ∀ m', Fr SQ m m' → (∀ a, a ≠ 697 → a ≠ 698 → mI m' a = mI m a) → KS m' ((x, P) :: dcz ST) → V m12_make 12 [some (.ref 668), some (.int v1), some (.int (nn p)), some (.int (nn o)), some (.int v4), some (.int (nn (ST.length + 1))), some (.int (nn (q + 1))), some (.int 1), none, none, none, none] [] m' K) :
    V m12_make 238 [some (.ref 668), some (.int v1), some (.int (nn p)), some (.int (nn o)), some (.int v4), some (.int (nn ST.length)), some (.int (nn q)), some (.int v7), some (.int (nn c)), some (.int (nn x)), some (.int (nn P)), none] [] m K := by
  have e : (dcz ST).length = ST.length := by cases ST <;> rfl
  have l0 : nn P ≤ 0 ↔ P ≤ 0 := nn_le (b := 0) (by omega) (by decide)
  refine u12_make_238 hm ?_
  rw [l0, nn_tn (by omega), nn_one]
  have hi := nn_in (a := ST.length) (n := 16) (by omega) hl
  refine ⟨fun w => by omega, fun _ => ⟨hi, hi, ?_⟩⟩
  have f : Fr SQ m (mSetI (mSetI m 697 ST.length (nn x)) 698 ST.length (nn P)) := (Fr.refl.set (Or.inr (Or.inr (Or.inl rfl)))).set (Or.inr (Or.inr (Or.inr (Or.inl rfl))))
  have hK' : KS (mSetI (mSetI m 697 ST.length (nn x)) 698 ST.length (nn P)) ((x, P) :: dcz ST) := by
    refine ⟨?_, ?_, hK.fe (fun i hi => ⟨?_, ?_⟩)⟩
    · rw [mI_set, if_neg (by omega), mI_set, if_pos ⟨rfl, e⟩]
    · rw [mI_set, if_pos ⟨rfl, e⟩]
    · rw [mI_set, if_neg (by omega), mI_set, if_neg (by omega)]
    · rw [mI_set, if_neg (by omega), mI_set, if_neg (by omega)]
  have hpz : popz ((x, P) :: dcz ST) = (x, P) :: dcz ST := if_neg (by omega)
  have hlen : ((x, P) :: dcz ST).length = ST.length + 1 := by rw [List.length_cons, e]
  have hm' : St (mSetI (mSetI m 697 ST.length (nn x)) 698 ST.length (nn P)) := St.i (St.i hm)
  rw [← hlen]
  refine u12_make_264 hm' ?_
  rw [hlen, nn_pred (by omega), nn_prd (by omega), Nat.add_sub_cancel, nn_tn (by omega), show mI (mSetI (mSetI m 697 ST.length (nn x)) 698 ST.length (nn P)) 698 ST.length = nn P by simp [mI_set]]
  have e0 : nn P = 0 ↔ P = 0 := nn_eq (b := 0) (by omega) (by decide)
  have l1 : nn (ST.length + 1) ≤ 0 ↔ ST.length + 1 ≤ 0 := nn_le (b := 0) (by omega) (by decide)
  rw [e0, l1]
  refine ⟨fun w => by omega, fun _ => ⟨hi, fun _ => ?_, fun w => by omega⟩⟩
  refine mk_next (q' := q + 1) hm' (by omega) (Fr.mf h0 f) hc hq (fun _ => rfl) (fun w => (hc3 w).elim) ?_
  rw [if_neg (by omega)]
  exact k _ f (fun a a1 a2 => by rw [mI_fn a2, mI_fn a1]) hK'
/-- a new thing for a node, up to what lacks it -/
theorem mk_new {m : Mm} {n q c P : Nat} {L : Nat → Nat} {v4 : Int32} {ST : List (Nat × Nat)} (hm : St m) (h0 : MF0 m fs) (hc : cok fs.length c) (h10 : 10 ≤ c) (hf8 : fs.length ≤ 8) (hq : q < 876) (hcode : mI m 676 q = nn c) (hT : PT m n F mk L) (hn : n < 6000) (hmk : mk n = 0) (hP : P = if c = 33 then 0 else prt (fpf fs) c) (hP2 : P ≤ 2) (hPF : pts (F n) = P)
    (hF : (c ≠ 33 → tK (F n) = kdc c ∧ tO (F n) = whc c ∧ tT (F n) = .nil) ∧ (c = 33 → tK (F n) = 6 ∧ tP (F n) = p ∧ q + 1 + tsz (tT (F n)) ≤ 876 ∧ TC m (q + 1) (tT (F n)))) (hW : tW (F n) = o)
    (k : ∀ m', Fr SQ m m' → PT m' (n + 1) F mk (up1 L n P) → (∀ a, a = 697 ∨ a = 698 → mI m' a = mI m a) → V m12_make 125 [some (.ref 668), some (.int v1), some (.int (nn p)), some (.int (nn o)), some (.int v4), some (.int (nn ST.length)), some (.int (nn q)), some (.int 1), some (.int (nn c)), some (.int (nn n)), some (.int (nn P)), none] [] m' K) :
    V m12_make 12 [some (.ref 668), some (.int v1), some (.int (nn p)), some (.int (nn o)), some (.int v4), some (.int (nn ST.length)), some (.int (nn q)), some (.int 1), none, none, none, none] [] m K := by
  have hc40 : c < 40 := by
    unfold cok at hc
    omega
  refine u12_make_12 hm ⟨fun w => absurd w (by decide), fun _ => ?_⟩
  rw [nn_tn (by omega), hcode]
  have l10 : 10 ≤ nn c ↔ 10 ≤ c := nn_le (a := 10) (by decide) (by omega)
  have l20 : 20 ≤ nn c ↔ 20 ≤ c := nn_le (a := 20) (by decide) (by omega)
  rw [l10, l20]
  refine ⟨nn_in (by omega) (by omega), fun _ => ?_, fun w => (w h10).elim⟩
  refine C.mono (s12_kindOf hm hc40) ?_
  rintro o1 m1 ⟨rfl, rfl⟩
  have hi := nn_in (a := n) (n := 6000) (by omega) (by omega)
  have e33 : nn c = 33 ↔ c = 33 := nn_eq (b := 33) (by omega) (by decide)
  have go : V m12_make 74 [some (.ref 668), some (.int v1), some (.int (nn p)), some (.int (nn o)), some (.int v4), some (.int (nn ST.length)), some (.int (nn q)), some (.int 1), some (.int (nn c)), none, none, none] [(.int (nn (whc c))), (.int (nn (kdc c))), (.ref 668)] m1 K := by
    refine u12_make_74 hm (C.mono (s12_newThing hm hn hT.1 _ _ _) ?_)
    rintro o2 m2 ⟨rfl, rfl⟩
    have s2 : St (nT m1 n (nn (kdc c)) (nn (whc c)) (nn o)) := St.i (St.i (St.i (St.i (St.i (St.i (St.i hm))))))
    refine ⟨_, rfl, s2, ?_⟩
    have f2 : Fr SQ m1 (nT m1 n (nn (kdc c)) (nn (whc c)) (nn o)) := ((((((Fr.refl.set (Or.inl (by omega))).set (Or.inl (by omega))).set (Or.inl (by omega))).set (Or.inl (by omega))).set (Or.inl (by omega))).set (Or.inr (Or.inl rfl))).set (Or.inr (Or.inr (Or.inr (Or.inr ⟨rfl, rfl⟩))))
    have hold : ∀ x, x < n → PF (nT m1 n (nn (kdc c)) (nn (whc c)) (nn o)) (F x) x (up1 L n P x) ∧ TX (nT m1 n (nn (kdc c)) (nn (whc c)) (nn o)) (F x) x ∧ mI (nT m1 n (nn (kdc c)) (nn (whc c)) (nn o)) 684 x = nn (mk x) := fun x hx => by
      have hh := hT.2 x hx
      have e : x ≠ n := by omega
      rw [up1_ne e]
      refine ⟨?_, hh.2.1.fe f2.c676 (by simp [nT, mI_set, e]) (by simp [nT, mI_set]) (by simp [nT, mI_set]), ?_⟩
      · have := hh.1
        simp only [PF, nT, mI_set] at this ⊢
        simpa [e] using this
      · have := hh.2.2
        simpa [nT, mI_set, e] using this
    have hpa : (if P ≠ 0 ∧ P = pts (F n) then (-1 : Int32) else no (tA (F n))) = -1 ∧ (if P = 0 then no (tB (F n)) else (-1 : Int32)) = -1 := by
      by_cases e : P = 0
      · rw [if_neg (by omega), if_pos e]
        have h1 : pts (F n) = 0 := by omega
        unfold pts at h1
        cases ea : tA (F n) with
        | none => cases eb : tB (F n) with
          | none => exact ⟨rfl, rfl⟩
          | some y =>
            rw [eb] at h1
            cases h1
        | some y =>
          rw [ea] at h1
          split at h1 <;> cases h1
      · rw [if_pos ⟨e, hPF.symm⟩, if_neg e]
        exact ⟨rfl, rfl⟩
    refine u12_make_78 s2 ?_
    rw [e33]
    refine ⟨fun w => ?_, fun w => ?_⟩
    · refine C.mono (s12_partsOf s2 (Fr.mf h0 f2) hc) ?_
      rintro o3 m3 ⟨rfl, rfl⟩
      refine ⟨_, rfl, s2, u12_make_97 s2 ?_⟩
      rw [e33]
      refine ⟨fun _ => ?_, fun q => (w q).elim⟩
      rw [if_neg w] at hP
      rw [← hP]
      obtain ⟨h1, h2, h3⟩ := hF.1 w
      refine k _ f2 ⟨rfl, fun x hx => ?_⟩ (fun a ha => by rcases ha with rfl | rfl <;> (unfold nT; simp [mI_fn]))
      by_cases e : x = n
      · subst e
        rw [up1_at]
        refine ⟨⟨?_, fun _ => ?_, ?_, ?_, ?_⟩, ⟨fun q => ?_, fun _ q => (q h3).elim⟩, ?_⟩
        · rw [h1]; simp [nT, mI_set]
        · rw [h2]; simp [nT, mI_set]
        · rw [hpa.1]; simp [nT, mI_set]
        · rw [hpa.2]; simp [nT, mI_set]
        · rw [hW]; simp [nT, mI_set]
        · rw [h1] at q
          unfold kdc at q
          unfold cok at hc
          split at q
          · cases q
          · split at q <;> omega
        · rw [hmk]
          simp [nT, mI_set]
          rfl
      · exact hold x (by omega)
    · refine u12_make_97 s2 ?_
      rw [e33]
      refine ⟨fun q => (q w).elim, fun _ => ⟨hi, hi, ?_⟩⟩
      rw [nn_tn (by omega), nn_one]
      rw [if_pos w] at hP
      obtain ⟨h1, h2, h3, h4⟩ := hF.2 w
      have f3 : Fr SQ m1 (mSetI (mSetI (nT m1 n (nn (kdc c)) (nn (whc c)) (nn o)) 678 n (nn (q + 1))) 682 n (nn p)) := (f2.set (Or.inl (by omega))).set (Or.inl (by omega))
      have k2 := k _ f3 ⟨rfl, fun x hx => ?_⟩ (fun a ha => by rcases ha with rfl | rfl <;> (unfold nT; simp [mI_fn]))
      · rw [hP] at k2
        exact k2
      · by_cases e : x = n
        · subst e
          rw [up1_at]
          refine ⟨⟨?_, fun q => (q h1).elim, ?_, ?_, ?_⟩, ⟨fun _ => ⟨?_, q + 1, ?_, h3, h4.fe f3.c676⟩, fun q => ?_⟩, ?_⟩
          · rw [h1]
            simp [nT, mI_set]
            rw [w]
            rfl
          · rw [hpa.1]; simp [nT, mI_set]
          · rw [hpa.2]; simp [nT, mI_set]
          · rw [hW]; simp [nT, mI_set]
          · rw [h2]; simp [mI_set]
          · simp [mI_set]
          · rw [h1] at q
            cases q
          · rw [hmk]
            simp [nT, mI_set]
            rfl
        · obtain ⟨q1, q2, q3⟩ := hold x (by omega)
          refine ⟨?_, q2.fe (by simp [mI_fn]) (by simp [mI_set, e]) (by simp [mI_set, e]) (by simp [mI_set]), by simpa [mI_set] using q3⟩
          simp only [PF, mI_set] at q1 ⊢
          simpa [e] using q1
  refine ⟨_, rfl, hm, fun w => ?_, fun w => ?_⟩
  · have e : whc c = c - 20 := if_neg (by omega)
    rw [e] at go
    rw [show nn c - 20 = nn (c - 20) from nn_sub (b := 20) w]
    exact go
  · have e : whc c = c - 10 := if_pos (by omega)
    rw [e] at go
    rw [show nn c - 10 = nn (c - 10) from nn_sub (b := 10) h10]
    exact go
/-- a name's node, up to what lacks it -/
theorem mk_name {m : Mm} {q c y : Nat} {v4 : Int32} {ST : List (Nat × Nat)} (hm : St m) (h0 : MF0 m fs) (hc : c < 6) (hq : q < 876) (hcode : mI m 676 q = nn c) (hp : p < 200) (hy : mI m 685 (6 * p + c) = nn y)
    (k : V m12_make 125 [some (.ref 668), some (.int v1), some (.int (nn p)), some (.int (nn o)), some (.int v4), some (.int (nn ST.length)), some (.int (nn q)), some (.int 1), some (.int (nn c)), some (.int (nn y)), some (.int 0), none] [] m K) :
    V m12_make 12 [some (.ref 668), some (.int v1), some (.int (nn p)), some (.int (nn o)), some (.int v4), some (.int (nn ST.length)), some (.int (nn q)), some (.int 1), none, none, none, none] [] m K := by
  refine u12_make_12 hm ⟨fun w => absurd w (by decide), fun _ => ?_⟩
  rw [nn_tn (by omega), hcode]
  have l10 : 10 ≤ nn c ↔ 10 ≤ c := nn_le (a := 10) (by decide) (by omega)
  rw [l10]
  refine ⟨nn_in (by omega) (by omega), fun w => by omega, fun _ => ?_⟩
  rw [show (6 : Int32) * nn p = nn (6 * p) from nn_mul 6 p, nn_add, nn_tn (by omega), hy]
  refine ⟨nn_in (by omega) (by omega), u12_make_78 hm ?_⟩
  have e33 : nn c = 33 ↔ c = 33 := nn_eq (b := 33) (by omega) (by decide)
  rw [e33]
  refine ⟨fun w => ?_, fun w => by omega⟩
  refine C.mono (s12_partsOf hm h0 (Or.inl hc)) ?_
  rintro o3 m3 ⟨rfl, rfl⟩
  refine ⟨_, rfl, hm, u12_make_97 hm ?_⟩
  rw [e33, show prt (fpf fs) c = 0 from if_pos (by omega)]
  exact ⟨fun _ => k, fun q => by omega⟩
end Make
