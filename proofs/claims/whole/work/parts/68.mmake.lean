/-! THE REFERENCE MAKES THINGS OF A TREE -/
theorem app_lt {f : Nat → Th} {n : Nat} {l : List Th} {x : Nat} (h : x < n) : app f n l x = f x := if_pos h
theorem app_at {f : Nat → Th} {n : Nat} {l : List Th} {i : Nat} {t : Th} (h : l[i]? = some t) : app f n l (n + i) = t := by
  unfold app
  rw [if_neg (by omega), show n + i - n = i by omega, List.getD_eq_getElem?_getD, h]
  rfl
theorem RT.ge {m : Mm} {n : Nat} {f f' : Nat → Th} {mk : Nat → Nat} (h : RT m n f mk) (hf : ∀ x, x < n → f' x = f x) : RT m n f' mk := ⟨h.1, fun x hx => by rw [hf x hx]; exact h.2 x hx⟩
theorem bt1 : ∀ s, s < 64 → ∀ w, w < 6 → ((nn s >>> (nn w &&& 31)) &&& 1 = 1 ↔ s.testBit w = true) := by decide +kernel
def SO (a j : Nat) : Prop := (677 ≤ a ∧ a < 685) ∨ a = 685 ∨ a = 668 ∧ j = 13
theorem nT_fr {S : Nat → Nat → Prop} {m m1 : Mm} {n : Nat} {k w o : Int32} (h : Fr S m m1) (h1 : ∀ a j, 677 ≤ a → a < 685 → S a j) (h2 : S 668 13) : Fr S m (nT m1 n k w o) :=
  ((((((h.set (h1 677 n (by decide) (by decide))).set (h1 678 n (by decide) (by decide))).set (h1 681 n (by decide) (by decide))).set (h1 679 n (by decide) (by decide))).set (h1 680 n (by decide) (by decide))).set (h1 684 n (by decide) (by decide))).set h2
theorem s12_opens {fs : List Fn} {m : Mm} {n np p q o : Nat} {F : Nat → Th} {mk : Nat → Nat} {g : Nat → Nat → Option Nat} {t : Tr} (hm : St m) (h0 : MF0 m fs) (hw : twf fs.length (fpf fs) t) (hq : q + tsz t ≤ 876) (ht : TC m q t) (hT : RT m n F mk) (hN : RN m np g) (hp : p < np) (hnp : np ≤ 200) (hn : n + (opG o (ksA t) n (g p)).2.length ≤ 6000) (hmk : ∀ x, n ≤ x → mk x = 0) (hg : ∀ k y, g p k = some y → y < 6000) (hF : ∀ i u, (opG o (ksA t) n (g p)).2[i]? = some u → F (n + i) = u) :
    C m12_opens [.ref 668, .int (nn q), .int (nn p), .int (nn o)] m (fun r m' => r = .inl none ∧ Fr SO m m' ∧ RT m' (n + (opG o (ksA t) n (g p)).2.length) F mk ∧ RN m' np (up1 g p (opG o (ksA t) n (g p)).1)) := by
  refine C.of (by decide +kernel) (Nat.le_of_ble_eq_true rfl) rfl (u12_opens hm (C.mono (s12_namesAt hm h0 hw hq ht) ?_))
  rintro o1 m1 ⟨rfl, rfl⟩
  refine ⟨_, rfl, hm, ?_⟩
  have hs : nl (tenc t) 0 < 64 := nl_lt _ _ (fun c hc h10 => by
    have := tenc_cok hw c hc
    unfold cok at this
    omega) (by decide)
  have loop : ∀ (d k n1 : Nat) (gk : Nat → Option Nat) (m2 : Mm), k + d = 6 → St m2 → Fr SO m1 m2 → RT m2 n1 F mk → n ≤ n1 → RN m2 np (up1 g p gk) → (∀ k y, gk k = some y → y < 6000) →
      n1 + (opG o ((List.range' k d).filter (fun k => (nl (tenc t) 0).testBit k)) n1 gk).2.length ≤ 6000 → (∀ i u, (opG o ((List.range' k d).filter (fun k => (nl (tenc t) 0).testBit k)) n1 gk).2[i]? = some u → F (n1 + i) = u) →
      V m12_opens 10 [some (.ref 668), some (.int (nn q)), some (.int (nn p)), some (.int (nn o)), some (.int (nn (nl (tenc t) 0))), some (.int (nn k))] [] m2 (fun r m' => r = .inl none ∧ Fr SO m1 m' ∧ RT m' (n1 + (opG o ((List.range' k d).filter (fun k => (nl (tenc t) 0).testBit k)) n1 gk).2.length) F mk ∧ RN m' np (up1 g p (opG o ((List.range' k d).filter (fun k => (nl (tenc t) 0).testBit k)) n1 gk).1)) := by
    intro d
    induction d with
    | zero =>
      intro k n1 gk m2 hk s2 f2 t2 hn1 r2 hgk hb hF2
      obtain rfl : k = 6 := by omega
      exact u12_opens_10 s2 ⟨fun _ => ⟨rfl, f2, t2, r2⟩, fun w => (w (by decide)).elim⟩
    | succ d ih =>
      intro k n1 gk m2 hk s2 f2 t2 hn1 r2 hgk hb hF2
      rw [List.range'_succ, List.filter_cons] at hb hF2 ⊢
      refine u12_opens_10 s2 ⟨fun w => ?_, fun _ => ?_⟩
      · rw [show (6 : Int32) = nn 6 from rfl, nn_le (by decide) (by omega)] at w
        omega
      rw [bt1 _ hs k (by omega)]
      refine ⟨fun w => ?_, fun w => ?_⟩
      · rw [if_neg (by simpa using w)] at hb hF2 ⊢
        refine u12_opens_63 s2 ?_
        rw [nn_one]
        exact ih (k + 1) n1 gk m2 (by omega) s2 f2 t2 hn1 r2 hgk hb hF2
      · rw [if_pos w] at hb hF2 ⊢
        have ek : mI m2 685 (6 * p + k) = no (gk k) := by
          rw [r2.2 p hp k (by omega), up1_at]
        rw [show (6 : Int32) * nn p = nn (6 * p) from nn_mul 6 p, nn_add, nn_tn (by omega), ek]
        have hin := nn_in (a := 6 * p + k) (n := 1200) (by omega) (by omega)
        refine ⟨hin, fun w2 => ?_, fun w2 => ?_⟩
        · have e1 : gk k ≠ none := fun e => w2 (by rw [e]; rfl)
          rw [opG, if_neg e1] at hb hF2 ⊢
          refine u12_opens_63 s2 ?_
          rw [nn_one]
          exact ih (k + 1) n1 gk m2 (by omega) s2 f2 t2 hn1 r2 hgk hb hF2
        · have e1 : gk k = none := by
            cases e : gk k with
            | none => rfl
            | some y =>
              rw [e] at w2
              exact (nn_m1 (by have := hgk k y e; omega) w2).elim
          rw [opG, if_pos e1] at hb hF2 ⊢
          simp only [List.length_cons] at hb ⊢
          refine C.mono (s12_newThing s2 (by omega) t2.1 0 0 (nn o)) ?_
          rintro o3 m3 ⟨rfl, rfl⟩
          refine ⟨_, rfl, St.i (St.i (St.i (St.i (St.i (St.i (St.i s2)))))), hin, ?_⟩
          refine u12_opens_63 (St.i (St.i (St.i (St.i (St.i (St.i (St.i (St.i s2)))))))) ?_
          rw [nn_one]
          have f3 := nT_fr (n := n1) (k := 0) (w := 0) (o := nn o) f2 (fun a j a1 a2 => Or.inl ⟨a1, a2⟩) (Or.inr (Or.inr ⟨rfl, rfl⟩))
          have t3 : RT (nT m2 n1 (nn 0) (nn 0) (nn o)) (n1 + 1) F mk := t2.new (hmk n1 hn1) (by decide) (by decide) (fun _ _ => rfl) (hF2 0 _ rfl)
          have h4 := ih (k + 1) (n1 + 1) (up1 gk k (some n1)) (mSetI (nT m2 n1 0 0 (nn o)) 685 (6 * p + k) (nn n1)) (by omega) (St.i (St.i (St.i (St.i (St.i (St.i (St.i (St.i s2)))))))) (f3.set (Or.inr (Or.inl rfl))) (t3.fe (fun a a1 a2 => mI_fn (by omega)) rfl) (by omega) ?_ ?_ (by omega) (fun i u hu => by rw [show n1 + 1 + i = n1 + (i + 1) by omega]; exact hF2 (i + 1) u hu)
          · rw [show n1 + 1 + (opG o ((List.range' (k + 1) d).filter (fun k => (nl (tenc t) 0).testBit k)) (n1 + 1) (up1 gk k (some n1))).2.length = n1 + ((opG o ((List.range' (k + 1) d).filter (fun k => (nl (tenc t) 0).testBit k)) (n1 + 1) (up1 gk k (some n1))).2.length + 1) by omega] at h4
            exact h4
          · refine ⟨?_, fun p' hp' j hj => ?_⟩
            · rw [mI_set, if_neg (by omega)]
              exact r2.1
            · rw [mI_set]
              by_cases e : 6 * p' + j = 6 * p + k
              · obtain ⟨rfl, rfl⟩ : p' = p ∧ j = k := by omega
                rw [if_pos ⟨rfl, rfl⟩, up1_at, up1_at]
                rfl
              · rw [if_neg (by omega)]
                have := r2.2 p' hp' j hj
                by_cases e2 : p' = p
                · subst e2
                  rw [up1_at] at this ⊢
                  rw [up1_ne (by omega)]
                  exact this
                · rw [up1_ne e2] at this ⊢
                  exact this
          · intro k' y hy
            unfold up1 at hy
            split at hy
            · cases hy
              omega
            · exact hgk k' y hy
  have h1 := loop 6 0 n (g p) m1 rfl hm Fr.refl hT (Nat.le_refl _) ⟨hN.1, fun p' hp' j hj => by
    rw [hN.2 p' hp' j hj]
    by_cases e : p' = p
    · rw [e, up1_at]
    · rw [up1_ne e]⟩ hg hn hF
  exact h1
