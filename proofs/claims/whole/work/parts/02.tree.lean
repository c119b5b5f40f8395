/-! numbers: small facts on nI and -1 -/
theorem th_m1 {q : Nat} (h : q < 2 ^ 31) : ¬ nI q = -1 := by
  intro z
  have := congrArg Int32.toInt z
  rw [nI_toInt h, show (-1 : Int32).toInt = -1 from by decide] at this
  omega
theorem th_m1' {q : Nat} (h : q < 2 ^ 31) : ¬ (-1 : Int32) = nI q := fun z => th_m1 h z.symm
theorem th_m1lt : (-1 : Int32) < 0 := by decide
theorem th_m1le {q : Nat} (h : q < 2 ^ 31) : (-1 : Int32) ≤ nI q := by
  rw [Int32.le_iff_toInt_le, nI_toInt h, show (-1 : Int32).toInt = -1 from by decide]
  omega
theorem th_nlem1 {q : Nat} (h : q < 2 ^ 31) : ¬ nI q ≤ -1 := by
  rw [Int32.le_iff_toInt_le, nI_toInt h, show (-1 : Int32).toInt = -1 from by decide]
  omega
theorem th_cl {n : Nat} (h : n < 24) : (nI n).toNatClampNeg = n := nI_clamp (by omega)
theorem th_10 : ¬ (1 : Int32) = 0 := by decide
theorem th_90 : ¬ (9 : Int32) = 0 := by decide
theorem th_n1 : vp_nar .boolean 1 = 1 := by decide
theorem th_n0 : vp_nar .boolean 0 = 0 := by decide
theorem th_nb {x : Int32} (h : x = 0 ∨ x = 1) : vp_nar .boolean x = x := by
  cases h with
  | inl h => rw [h, th_n0]
  | inr h => rw [h, th_n1]
/-! the tree: which entries are there, their chains of parents, their depth -/
def th_S (E : Nat → Int32) (e : Nat) : Prop := e < 24 ∧ ¬ E e = 0
def th_Ch (S : Nat → Prop) (P N : Nat → Int32) (D : Nat → Nat) : Prop :=
  D 0 = 0 ∧ ∀ e, S e → e < 24 ∧ (¬ e = 0 → ∃ p q, P e = nI p ∧ N e = nI q ∧ q < 8 ∧ S p ∧ D e = D p + 1 ∧ D e ≤ 5)
def th_U (S : Nat → Prop) (P N : Nat → Int32) : Prop :=
  ∀ e e', S e → S e' → ¬ e = 0 → ¬ e' = 0 → P e = P e' → N e = N e' → e = e'
def th_pb (P N : Nat → Int32) (t : Nat) : Nat → Nat → Option Nat
  | 0, e => if e = t then some 0 else none
  | d + 1, e => if e = t then some 0 else if e = 0 then none else (th_pb P N t d (P e).toNatClampNeg).map (fun q => q * 9 + ((N e).toNatClampNeg + 1))
theorem th_pb_s (P N : Nat → Int32) (t d e : Nat) : th_pb P N t (d + 1) e = if e = t then some 0 else if e = 0 then none else (th_pb P N t d (P e).toNatClampNeg).map (fun q => q * 9 + ((N e).toNatClampNeg + 1)) := rfl
def th_pl (P N : Nat → Int32) (t e : Nat) : Option Nat := th_pb P N t 5 e
def th_ln (q : Nat) : Nat := if q = 0 then 0 else if q < 9 then 1 else if q < 81 then 2 else if q < 729 then 3 else if q < 6561 then 4 else 5
theorem th_ln0 : th_ln 0 = 0 := rfl
theorem th_lnS {x n : Nat} (hx : x < 6561) (hn : n < 8) : th_ln (x * 9 + (n + 1)) = th_ln x + 1 := by
  unfold th_ln
  split <;> split <;> first | omega | skip
  all_goals (repeat' split) <;> omega
theorem th_ln4 {x : Nat} (h : th_ln x ≤ 4) : x < 6561 := by
  unfold th_ln at h
  (repeat' split at h) <;> omega
theorem th_lnD {q : Nat} (h0 : 0 < q) (hq : q < 59049) : th_ln q = th_ln (q / 9) + 1 := by
  unfold th_ln
  (repeat' split) <;> omega
theorem th_lnM {x y : Nat} (h : x ≤ y) : th_ln x ≤ th_ln y := by
  unfold th_ln
  (repeat' split) <;> omega
theorem th_ln5 (x : Nat) : th_ln x ≤ 5 := by
  unfold th_ln
  (repeat' split) <;> omega
section
variable {S : Nat → Prop} {P N : Nat → Int32} {D : Nat → Nat}
theorem th_ind (H : th_Ch S P N D) (Q : Nat → Prop) (h0 : S 0 → Q 0)
    (hs : ∀ e p q, S e → ¬ e = 0 → P e = nI p → N e = nI q → q < 8 → S p → D e = D p + 1 → D e ≤ 5 → Q p → Q e) : ∀ e, S e → Q e := by
  have key : ∀ d e, D e ≤ d → S e → Q e := by
    intro d
    induction d with
    | zero =>
      intro e hd he
      by_cases z : e = 0
      · subst z; exact h0 he
      · obtain ⟨p, q, _, _, _, _, hD, _⟩ := (H.2 e he).2 z
        omega
    | succ d ih =>
      intro e hd he
      by_cases z : e = 0
      · subst z; exact h0 he
      · obtain ⟨p, q, h1, h2, h3, h4, hD, h5⟩ := (H.2 e he).2 z
        exact hs e p q he z h1 h2 h3 h4 hD h5 (ih p (by omega) h4)
  exact fun e he => key (D e) e (Nat.le_refl _) he
theorem th_D5 (H : th_Ch S P N D) {e : Nat} (he : S e) : D e ≤ 5 := by
  by_cases z : e = 0
  · subst z; rw [H.1]; omega
  · obtain ⟨p, q, _, _, _, _, _, h⟩ := (H.2 e he).2 z
    exact h
theorem th_D0 (H : th_Ch S P N D) {e : Nat} (he : S e) (hd : D e = 0) : e = 0 := by
  by_cases z : e = 0
  · exact z
  · obtain ⟨p, q, _, _, _, _, h, _⟩ := (H.2 e he).2 z
    omega
theorem th_pb_up (H : th_Ch S P N D) (t : Nat) : ∀ d e, S e → D e ≤ d → th_pb P N t d e = th_pb P N t (d + 1) e := by
  intro d
  induction d with
  | zero =>
    intro e he hd
    have z := th_D0 H he (by omega)
    subst z
    simp only [th_pb]
    simp
  | succ d ih =>
    intro e he hd
    by_cases ht : e = t
    · simp only [th_pb, if_pos ht]
    · by_cases z : e = 0
      · simp only [th_pb, if_neg ht, if_pos z]
      · obtain ⟨p, q, h1, h2, h3, h4, hD, h5⟩ := (H.2 e he).2 z
        have hp : p < 24 := (H.2 p h4).1
        have e1 := ih p h4 (by omega)
        rw [th_pb_s P N t d e, th_pb_s P N t (d + 1) e, if_neg ht, if_neg ht, if_neg z, if_neg z, h1, th_cl hp, e1]
theorem th_pb_5 (H : th_Ch S P N D) (t : Nat) {e : Nat} (he : S e) : ∀ j d, d + j = 5 → D e ≤ d → th_pb P N t d e = th_pl P N t e := by
  intro j
  induction j with
  | zero => intro d hd _; rw [show d = 5 by omega]; rfl
  | succ j ih =>
    intro d hd hD
    rw [th_pb_up H t d e he hD]
    exact ih (d + 1) (by omega) (by omega)
theorem th_pl_t {t : Nat} : th_pl P N t t = some 0 := by
  simp only [th_pl, th_pb, if_pos]
theorem th_pl_0 {t : Nat} (h : ¬ t = 0) : th_pl P N t 0 = none := by
  have h' : ¬ 0 = t := fun z => h z.symm
  simp only [th_pl, th_pb, if_neg h', if_pos]
theorem th_pl_s (H : th_Ch S P N D) {t e p q : Nat} (he : S e) (ht : ¬ e = t) (h0 : ¬ e = 0) (hP : P e = nI p) (hN : N e = nI q) (hq : q < 8) (hp : S p) (hD : D e = D p + 1) :
    th_pl P N t e = (th_pl P N t p).map (fun x => x * 9 + (q + 1)) := by
  have hp24 : p < 24 := (H.2 p hp).1
  have h5 := th_D5 H he
  have e1 := th_pb_5 H t hp 1 4 rfl (by omega)
  rw [← e1, th_pl, th_pb, if_neg ht, if_neg h0, hP, th_cl hp24, hN, th_cl (by omega)]
/-- a path below t: its number is small, its length is the difference of the depths -/
theorem th_pl_D (H : th_Ch S P N D) {t : Nat} : ∀ e, S e → ∀ q, th_pl P N t e = some q → q < 59049 ∧ D e = D t + th_ln q := by
  apply th_ind H
  · intro _ q hq
    by_cases ht : t = 0
    · subst ht
      rw [th_pl_t] at hq
      cases hq
      exact ⟨by omega, by rw [th_ln0, Nat.add_zero]⟩
    · rw [th_pl_0 ht] at hq; cases hq
  · intro e p n he z hP hN hn hp hD h5 ih q hq
    by_cases ht : e = t
    · subst ht
      rw [th_pl_t] at hq
      cases hq
      exact ⟨by omega, by rw [th_ln0]; omega⟩
    · rw [th_pl_s H he ht z hP hN hn hp hD] at hq
      cases hx : th_pl P N t p with
      | none => rw [hx] at hq; cases hq
      | some x =>
        rw [hx] at hq
        cases hq
        obtain ⟨h1, h2⟩ := ih x hx
        have h4 : x < 6561 := th_ln4 (by omega)
        dsimp only
        rw [th_lnS h4 hn]
        omega
theorem th_pl_z (H : th_Ch S P N D) {t e : Nat} (he : S e) (h : th_pl P N t e = some 0) : e = t := by
  by_cases ht : e = t
  · exact ht
  · by_cases z : e = 0
    · subst z
      rw [th_pl_0 (fun z => ht z.symm)] at h; cases h
    · obtain ⟨p, q, hP, hN, hq, hp, hD, _⟩ := (H.2 e he).2 z
      rw [th_pl_s H he ht z hP hN hq hp hD] at h
      cases hx : th_pl P N t p with
      | none => rw [hx] at h; cases h
      | some x =>
        rw [hx] at h
        have := Option.some.inj h
        dsimp only at this
        omega
theorem th_pl_inj (H : th_Ch S P N D) (U : th_U S P N) {t : Nat} : ∀ e, S e → ∀ e' q, S e' → th_pl P N t e = some q → th_pl P N t e' = some q → e = e' := by
  apply th_ind H
  · intro h0 e' q he' h h'
    by_cases ht : t = 0
    · subst ht
      rw [th_pl_t] at h
      cases h
      exact (th_pl_z H he' h').symm
    · rw [th_pl_0 ht] at h; cases h
  · intro e p n he z hP hN hn hp hD h5 ih e' q he' h h'
    by_cases ht : e = t
    · subst ht
      rw [th_pl_t] at h
      cases h
      exact (th_pl_z H he' h').symm
    · by_cases ht' : e' = t
      · subst ht'
        rw [th_pl_t] at h'
        cases h'
        exact th_pl_z H he h
      · by_cases z' : e' = 0
        · subst z'
          rw [th_pl_0 (fun z => ht' z.symm)] at h'; cases h'
        · obtain ⟨p', n', hP', hN', hn', hp', hD', _⟩ := (H.2 e' he').2 z'
          rw [th_pl_s H he ht z hP hN hn hp hD] at h
          rw [th_pl_s H he' ht' z' hP' hN' hn' hp' hD'] at h'
          cases hx : th_pl P N t p with
          | none => rw [hx] at h; cases h
          | some x =>
            cases hx' : th_pl P N t p' with
            | none => rw [hx'] at h'; cases h'
            | some x' =>
              rw [hx] at h
              rw [hx'] at h'
              have a := Option.some.inj h
              have a' := Option.some.inj h'
              dsimp only at a a'
              have e1 : x = x' := by omega
              have e2 : n = n' := by omega
              subst e1 e2
              have e3 := ih p' x hp' hx hx'
              subst e3
              exact U e e' he he' z z' (hP.trans hP'.symm) (hN.trans hN'.symm)
theorem th_pl_root (H : th_Ch S P N D) : ∀ e, S e → ∃ q, th_pl P N 0 e = some q := by
  apply th_ind H
  · intro _; exact ⟨0, th_pl_t⟩
  · intro e p n he z hP hN hn hp hD h5 ih
    obtain ⟨x, hx⟩ := ih
    rw [th_pl_s H he z z hP hN hn hp hD, hx]
    exact ⟨_, rfl⟩
end
