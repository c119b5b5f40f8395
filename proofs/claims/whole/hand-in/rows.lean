section
theorem pk_us {f : Nat → Int32} {k : Nat} {x : Int32} : upd f k x k = x := if_pos rfl
theorem pk_un {f : Nat → Int32} {k j : Nat} {x : Int32} (h : j ≠ k) : upd f k x j = f j := if_neg h
theorem pk_sub {a b : Nat} (h : b ≤ a) : nI a - nI b = nI (a - b) := by
  obtain ⟨c, rfl⟩ : ∃ c, a = c + b := ⟨a - b, by omega⟩
  rw [← nI_add, Int32.add_sub_cancel, Nat.add_sub_cancel]
theorem pk_mul (a b : Nat) : nI a * nI b = nI (a * b) := (Int32.ofNat_mul a b).symm
theorem pk_div {a d : Nat} (ha : a < 2 ^ 31) (h0 : 0 < d) (hd : d < 2 ^ 31) : nI a / nI d = nI (a / d) := by
  apply Int32.toInt_inj.mp
  rw [lg_idiv_nonneg (by rw [nI_toInt ha]; omega) (by rw [nI_toInt hd]; omega), nI_toInt ha, nI_toInt hd, nI_toInt (Nat.lt_of_le_of_lt (Nat.div_le_self a d) ha)]
  first | rfl | exact (Int.natCast_ediv _ _).symm
theorem pk_rem {a d : Nat} (ha : a < 2 ^ 31) (h0 : 0 < d) (hd : d < 2 ^ 31) : nI a - nI a / nI d * nI d = nI (a % d) := by
  rw [pk_div ha h0 hd, pk_mul, pk_sub (Nat.div_mul_le_self a d)]
  exact congrArg nI (by have := Nat.div_add_mod' a d; omega)
theorem pk_sub_toInt {a b : Nat} (ha : a < 2 ^ 30) (hb : b < 2 ^ 30) : (nI a - nI b).toInt = (a : Int) - b := by
  rw [Int32.toInt_sub, nI_toInt (by omega), nI_toInt (by omega)]
  exact Int.bmod_eq_of_le (by omega) (by omega)
theorem pk_ix (x : Int32) {n : Nat} (hn : n < 2 ^ 31) : x < 0 ∨ nI n ≤ x ∨ ∃ j : Nat, j < n ∧ x = nI j := by
  by_cases h : x < 0
  · exact Or.inl h
  · obtain ⟨j, hj, rfl⟩ := nI_of h
    by_cases h2 : j < n
    · exact Or.inr (Or.inr ⟨j, h2, rfl⟩)
    · exact Or.inr (Or.inl (nI_le (by omega) hj))
theorem pk_le {x y : Int32} {A B : Prop} (a b : Nat) (f : a ≤ b → A) (g : b < a → B) (hx : x = nI a := by rfl) (hy : y = nI b := by rfl) (ha : a < 2 ^ 31 := by omega) (hb : b < 2 ^ 31 := by omega) : (x ≤ y → A) ∧ (¬ x ≤ y → B) := by
  subst hx hy
  rw [nI_leI ha hb]
  exact ⟨f, fun z => g (by omega)⟩
theorem pk_lt {x y : Int32} {A B : Prop} (a b : Nat) (f : a < b → A) (g : b ≤ a → B) (hx : x = nI a := by rfl) (hy : y = nI b := by rfl) (ha : a < 2 ^ 31 := by omega) (hb : b < 2 ^ 31 := by omega) : (x < y → A) ∧ (¬ x < y → B) := by
  subst hx hy
  rw [nI_ltI ha hb]
  exact ⟨f, fun z => g (by omega)⟩
theorem pk_eq {x y : Int32} {A B : Prop} (a b : Nat) (f : a = b → A) (g : a ≠ b → B) (hx : x = nI a := by rfl) (hy : y = nI b := by rfl) (ha : a < 2 ^ 31 := by omega) (hb : b < 2 ^ 31 := by omega) : (x = y → A) ∧ (¬ x = y → B) := by
  subst hx hy
  rw [nI_eq ha hb]
  exact ⟨f, g⟩
theorem pk_in {x : Int32} (n N : Nat) (h : n < N) (hx : x = nI n := by rfl) (hN : N < 2 ^ 31 := by omega) : vp_in x N := by
  subst hx
  exact vp_in_nI h hN
theorem pk_cl {x : Int32} (n : Nat) (hx : x = nI n := by rfl) (h : n < 2 ^ 31 := by omega) : x.toNatClampNeg = n := by
  subst hx
  exact nI_clamp h
theorem pk_loop {σ : Type} (W : Nat → Nat → σ → Prop) (I : Nat → σ → Prop) (e i0 : Nat) (s : σ) (hi : i0 ≤ e) (h0 : I i0 s) (hx : ∀ n s, I e s → W (n + 1) e s)
    (hs : ∀ n i s, i < e → I i s → (∀ s', I (i + 1) s' → W n (i + 1) s') → W (n + 1) i s) : ∃ n, W n i0 s :=
  ⟨e + 1, loop_i W I e hx hs (e + 1) i0 s hi (by omega) h0⟩
theorem pk_least (P : Nat → Prop) (h : ∃ k, P k) : ∃ k, P k ∧ ∀ j, j < k → ¬ P j := by
  obtain ⟨k, hk⟩ := h
  induction k using Nat.strongRecOn with
  | ind k ih =>
    by_cases e : ∃ j, j < k ∧ P j
    · obtain ⟨j, hj, pj⟩ := e
      exact ih j hj pj
    · exact ⟨k, hk, fun j hj pj => e ⟨j, hj, pj⟩⟩
end
section
/-! numbers: small facts on nI and -1 -/
theorem th_m1 {q : Nat} (h : q < 2 ^ 31) : ¬ nI q = -1 := by
  intro z
  have := congrArg Int32.toInt z
  rw [nI_toInt h, show (-1 : Int32).toInt = -1 from by decide] at this
  omega
theorem th_m1' {q : Nat} (h : q < 2 ^ 31) : ¬ (-1 : Int32) = nI q := fun z => th_m1 h z.symm
theorem th_m1lt : (-1 : Int32) < 0 := by decide
theorem th_m1le {q : Nat} (h : q < 2 ^ 31) : (-1 : Int32) ≤ nI q := by
  rw [Int32.le_iff_toInt_le, nI_toInt h, show (-1 : Int32).toInt = -1 from by decide]
  omega
theorem th_nlem1 {q : Nat} (h : q < 2 ^ 31) : ¬ nI q ≤ -1 := by
  rw [Int32.le_iff_toInt_le, nI_toInt h, show (-1 : Int32).toInt = -1 from by decide]
  omega
theorem th_cl {n : Nat} (h : n < 24) : (nI n).toNatClampNeg = n := nI_clamp (by omega)
theorem th_10 : ¬ (1 : Int32) = 0 := by decide
theorem th_90 : ¬ (9 : Int32) = 0 := by decide
theorem th_n1 : vp_nar .boolean 1 = 1 := by decide
theorem th_n0 : vp_nar .boolean 0 = 0 := by decide
theorem th_nb {x : Int32} (h : x = 0 ∨ x = 1) : vp_nar .boolean x = x := by
  cases h with
  | inl h => rw [h, th_n0]
  | inr h => rw [h, th_n1]
/-! the tree: which entries are there, their chains of parents, their depth -/
def th_S (E : Nat → Int32) (e : Nat) : Prop := e < 24 ∧ ¬ E e = 0
def th_Ch (S : Nat → Prop) (P N : Nat → Int32) (D : Nat → Nat) : Prop :=
  D 0 = 0 ∧ ∀ e, S e → e < 24 ∧ (¬ e = 0 → ∃ p q, P e = nI p ∧ N e = nI q ∧ q < 8 ∧ S p ∧ D e = D p + 1 ∧ D e ≤ 5)
def th_U (S : Nat → Prop) (P N : Nat → Int32) : Prop :=
  ∀ e e', S e → S e' → ¬ e = 0 → ¬ e' = 0 → P e = P e' → N e = N e' → e = e'
def th_pb (P N : Nat → Int32) (t : Nat) : Nat → Nat → Option Nat
  | 0, e => if e = t then some 0 else none
  | d + 1, e => if e = t then some 0 else if e = 0 then none else (th_pb P N t d (P e).toNatClampNeg).map (fun q => q * 9 + ((N e).toNatClampNeg + 1))
theorem th_pb_s (P N : Nat → Int32) (t d e : Nat) : th_pb P N t (d + 1) e = if e = t then some 0 else if e = 0 then none else (th_pb P N t d (P e).toNatClampNeg).map (fun q => q * 9 + ((N e).toNatClampNeg + 1)) := rfl
def th_pl (P N : Nat → Int32) (t e : Nat) : Option Nat := th_pb P N t 5 e
def th_ln (q : Nat) : Nat := if q = 0 then 0 else if q < 9 then 1 else if q < 81 then 2 else if q < 729 then 3 else if q < 6561 then 4 else 5
theorem th_ln0 : th_ln 0 = 0 := rfl
theorem th_lnS {x n : Nat} (hx : x < 6561) (hn : n < 8) : th_ln (x * 9 + (n + 1)) = th_ln x + 1 := by
  unfold th_ln
  split <;> split <;> first | omega | skip
  all_goals (repeat' split) <;> omega
theorem th_ln4 {x : Nat} (h : th_ln x ≤ 4) : x < 6561 := by
  unfold th_ln at h
  (repeat' split at h) <;> omega
theorem th_lnD {q : Nat} (h0 : 0 < q) (hq : q < 59049) : th_ln q = th_ln (q / 9) + 1 := by
  unfold th_ln
  (repeat' split) <;> omega
theorem th_lnM {x y : Nat} (h : x ≤ y) : th_ln x ≤ th_ln y := by
  unfold th_ln
  (repeat' split) <;> omega
theorem th_ln5 (x : Nat) : th_ln x ≤ 5 := by
  unfold th_ln
  (repeat' split) <;> omega
section
variable {S : Nat → Prop} {P N : Nat → Int32} {D : Nat → Nat}
theorem th_ind (H : th_Ch S P N D) (Q : Nat → Prop) (h0 : S 0 → Q 0)
    (hs : ∀ e p q, S e → ¬ e = 0 → P e = nI p → N e = nI q → q < 8 → S p → D e = D p + 1 → D e ≤ 5 → Q p → Q e) : ∀ e, S e → Q e := by
  have key : ∀ d e, D e ≤ d → S e → Q e := by
    intro d
    induction d with
    | zero =>
      intro e hd he
      by_cases z : e = 0
      · subst z; exact h0 he
      · obtain ⟨p, q, _, _, _, _, hD, _⟩ := (H.2 e he).2 z
        omega
    | succ d ih =>
      intro e hd he
      by_cases z : e = 0
      · subst z; exact h0 he
      · obtain ⟨p, q, h1, h2, h3, h4, hD, h5⟩ := (H.2 e he).2 z
        exact hs e p q he z h1 h2 h3 h4 hD h5 (ih p (by omega) h4)
  exact fun e he => key (D e) e (Nat.le_refl _) he
theorem th_D5 (H : th_Ch S P N D) {e : Nat} (he : S e) : D e ≤ 5 := by
  by_cases z : e = 0
  · subst z; rw [H.1]; omega
  · obtain ⟨p, q, _, _, _, _, _, h⟩ := (H.2 e he).2 z
    exact h
theorem th_D0 (H : th_Ch S P N D) {e : Nat} (he : S e) (hd : D e = 0) : e = 0 := by
  by_cases z : e = 0
  · exact z
  · obtain ⟨p, q, _, _, _, _, h, _⟩ := (H.2 e he).2 z
    omega
theorem th_pb_up (H : th_Ch S P N D) (t : Nat) : ∀ d e, S e → D e ≤ d → th_pb P N t d e = th_pb P N t (d + 1) e := by
  intro d
  induction d with
  | zero =>
    intro e he hd
    have z := th_D0 H he (by omega)
    subst z
    simp only [th_pb]
    simp
  | succ d ih =>
    intro e he hd
    by_cases ht : e = t
    · simp only [th_pb, if_pos ht]
    · by_cases z : e = 0
      · simp only [th_pb, if_neg ht, if_pos z]
      · obtain ⟨p, q, h1, h2, h3, h4, hD, h5⟩ := (H.2 e he).2 z
        have hp : p < 24 := (H.2 p h4).1
        have e1 := ih p h4 (by omega)
        rw [th_pb_s P N t d e, th_pb_s P N t (d + 1) e, if_neg ht, if_neg ht, if_neg z, if_neg z, h1, th_cl hp, e1]
theorem th_pb_5 (H : th_Ch S P N D) (t : Nat) {e : Nat} (he : S e) : ∀ j d, d + j = 5 → D e ≤ d → th_pb P N t d e = th_pl P N t e := by
  intro j
  induction j with
  | zero => intro d hd _; rw [show d = 5 by omega]; rfl
  | succ j ih =>
    intro d hd hD
    rw [th_pb_up H t d e he hD]
    exact ih (d + 1) (by omega) (by omega)
theorem th_pl_t {t : Nat} : th_pl P N t t = some 0 := by
  simp only [th_pl, th_pb, if_pos]
theorem th_pl_0 {t : Nat} (h : ¬ t = 0) : th_pl P N t 0 = none := by
  have h' : ¬ 0 = t := fun z => h z.symm
  simp only [th_pl, th_pb, if_neg h', if_pos]
theorem th_pl_s (H : th_Ch S P N D) {t e p q : Nat} (he : S e) (ht : ¬ e = t) (h0 : ¬ e = 0) (hP : P e = nI p) (hN : N e = nI q) (hq : q < 8) (hp : S p) (hD : D e = D p + 1) :
    th_pl P N t e = (th_pl P N t p).map (fun x => x * 9 + (q + 1)) := by
  have hp24 : p < 24 := (H.2 p hp).1
  have h5 := th_D5 H he
  have e1 := th_pb_5 H t hp 1 4 rfl (by omega)
  rw [← e1, th_pl, th_pb, if_neg ht, if_neg h0, hP, th_cl hp24, hN, th_cl (by omega)]
/-- a path below t: its number is small, its length is the difference of the depths -/
theorem th_pl_D (H : th_Ch S P N D) {t : Nat} : ∀ e, S e → ∀ q, th_pl P N t e = some q → q < 59049 ∧ D e = D t + th_ln q := by
  apply th_ind H
  · intro _ q hq
    by_cases ht : t = 0
    · subst ht
      rw [th_pl_t] at hq
      cases hq
      exact ⟨by omega, by rw [th_ln0, Nat.add_zero]⟩
    · rw [th_pl_0 ht] at hq; cases hq
  · intro e p n he z hP hN hn hp hD h5 ih q hq
    by_cases ht : e = t
    · subst ht
      rw [th_pl_t] at hq
      cases hq
      exact ⟨by omega, by rw [th_ln0]; omega⟩
    · rw [th_pl_s H he ht z hP hN hn hp hD] at hq
      cases hx : th_pl P N t p with
      | none => rw [hx] at hq; cases hq
      | some x =>
        rw [hx] at hq
        cases hq
        obtain ⟨h1, h2⟩ := ih x hx
        have h4 : x < 6561 := th_ln4 (by omega)
        dsimp only
        rw [th_lnS h4 hn]
        omega
theorem th_pl_z (H : th_Ch S P N D) {t e : Nat} (he : S e) (h : th_pl P N t e = some 0) : e = t := by
  by_cases ht : e = t
  · exact ht
  · by_cases z : e = 0
    · subst z
      rw [th_pl_0 (fun z => ht z.symm)] at h; cases h
    · obtain ⟨p, q, hP, hN, hq, hp, hD, _⟩ := (H.2 e he).2 z
      rw [th_pl_s H he ht z hP hN hq hp hD] at h
      cases hx : th_pl P N t p with
      | none => rw [hx] at h; cases h
      | some x =>
        rw [hx] at h
        have := Option.some.inj h
        dsimp only at this
        omega
theorem th_pl_inj (H : th_Ch S P N D) (U : th_U S P N) {t : Nat} : ∀ e, S e → ∀ e' q, S e' → th_pl P N t e = some q → th_pl P N t e' = some q → e = e' := by
  apply th_ind H
  · intro h0 e' q he' h h'
    by_cases ht : t = 0
    · subst ht
      rw [th_pl_t] at h
      cases h
      exact (th_pl_z H he' h').symm
    · rw [th_pl_0 ht] at h; cases h
  · intro e p n he z hP hN hn hp hD h5 ih e' q he' h h'
    by_cases ht : e = t
    · subst ht
      rw [th_pl_t] at h
      cases h
      exact (th_pl_z H he' h').symm
    · by_cases ht' : e' = t
      · subst ht'
        rw [th_pl_t] at h'
        cases h'
        exact th_pl_z H he h
      · by_cases z' : e' = 0
        · subst z'
          rw [th_pl_0 (fun z => ht' z.symm)] at h'; cases h'
        · obtain ⟨p', n', hP', hN', hn', hp', hD', _⟩ := (H.2 e' he').2 z'
          rw [th_pl_s H he ht z hP hN hn hp hD] at h
          rw [th_pl_s H he' ht' z' hP' hN' hn' hp' hD'] at h'
          cases hx : th_pl P N t p with
          | none => rw [hx] at h; cases h
          | some x =>
            cases hx' : th_pl P N t p' with
            | none => rw [hx'] at h'; cases h'
            | some x' =>
              rw [hx] at h
              rw [hx'] at h'
              have a := Option.some.inj h
              have a' := Option.some.inj h'
              dsimp only at a a'
              have e1 : x = x' := by omega
              have e2 : n = n' := by omega
              subst e1 e2
              have e3 := ih p' x hp' hx hx'
              subst e3
              exact U e e' he he' z z' (hP.trans hP'.symm) (hN.trans hN'.symm)
theorem th_pl_root (H : th_Ch S P N D) : ∀ e, S e → ∃ q, th_pl P N 0 e = some q := by
  apply th_ind H
  · intro _; exact ⟨0, th_pl_t⟩
  · intro e p n he z hP hN hn hp hD h5 ih
    obtain ⟨x, hx⟩ := ih
    rw [th_pl_s H he z z hP hN hn hp hD, hx]
    exact ⟨_, rfl⟩
end
end
section
/-! counting below a bound, and the next number with a property -/
noncomputable def cn_c (B : Nat → Prop) : Nat → Nat
  | 0 => 0
  | m + 1 => cn_c B m + (@ite Nat (B m) (Classical.propDecidable _) 1 0)
theorem cn_s1 {B : Nat → Prop} {m : Nat} (h : B m) : cn_c B (m + 1) = cn_c B m + 1 := by rw [cn_c, if_pos h]
theorem cn_s0 {B : Nat → Prop} {m : Nat} (h : ¬ B m) : cn_c B (m + 1) = cn_c B m := by rw [cn_c, if_neg h, Nat.add_zero]
theorem cn_ext {A B : Nat → Prop} : ∀ m, (∀ q, q < m → (A q ↔ B q)) → cn_c A m = cn_c B m := by
  intro m
  induction m with
  | zero => intro _; rfl
  | succ m ih =>
    intro h
    have e := ih (fun q hq => h q (by omega))
    by_cases b : B m
    · rw [cn_s1 b, cn_s1 ((h m (by omega)).mpr b), e]
    · rw [cn_s0 b, cn_s0 (fun a => b ((h m (by omega)).mp a)), e]
theorem cn_z {B : Nat → Prop} : ∀ m, (∀ q, q < m → ¬ B q) → cn_c B m = 0 := by
  intro m
  induction m with
  | zero => intro _; rfl
  | succ m ih =>
    intro h
    rw [cn_s0 (h m (by omega)), ih (fun q hq => h q (by omega))]
theorem cn_or {A B : Nat → Prop} : ∀ m, (∀ q, q < m → A q → ¬ B q) → cn_c (fun q => A q ∨ B q) m = cn_c A m + cn_c B m := by
  intro m
  induction m with
  | zero => intro _; rfl
  | succ m ih =>
    intro h
    have e := ih (fun q hq => h q (by omega))
    by_cases a : A m
    · rw [cn_s1 (B := fun q => A q ∨ B q) (Or.inl a), cn_s1 a, cn_s0 (h m (by omega) a), e]; omega
    · by_cases b : B m
      · rw [cn_s1 (B := fun q => A q ∨ B q) (Or.inr b), cn_s0 a, cn_s1 b, e]; omega
      · rw [cn_s0 (B := fun q => A q ∨ B q) (fun z => z.elim a b), cn_s0 a, cn_s0 b, e]
theorem cn_one {B : Nat → Prop} {a : Nat} (hB : B a) : ∀ m, a < m → cn_c B m = cn_c (fun q => B q ∧ ¬ q = a) m + 1 := by
  intro m
  induction m with
  | zero => intro h; omega
  | succ m ih =>
    intro h
    by_cases z : m = a
    · subst z
      rw [cn_s1 hB, cn_s0 (B := fun q => B q ∧ ¬ q = m) (fun z => z.2 rfl)]
      rw [cn_ext (A := B) (B := fun q => B q ∧ ¬ q = m) m (fun q hq => ⟨fun b => ⟨b, by omega⟩, fun b => b.1⟩)]
    · have e := ih (by omega)
      by_cases b : B m
      · rw [cn_s1 b, cn_s1 (B := fun q => B q ∧ ¬ q = a) ⟨b, z⟩, e]
      · rw [cn_s0 b, cn_s0 (B := fun q => B q ∧ ¬ q = a) (fun y => b y.1), e]
theorem cn_bij {A : Nat → Prop} {f : Nat → Nat} {M : Nat} : ∀ (n : Nat) (B : Nat → Prop), (∀ i, i < n → A i → f i < M ∧ B (f i)) → (∀ q, q < M → B q → ∃ i, i < n ∧ A i ∧ f i = q) →
    (∀ i j, i < n → j < n → A i → A j → f i = f j → i = j) → cn_c A n = cn_c B M := by
  intro n
  induction n with
  | zero =>
    intro B _ hs _
    rw [cn_z M (fun q hq b => by obtain ⟨i, hi, _⟩ := hs q hq b; omega)]
    rfl
  | succ n ih =>
    intro B hm hs hj
    by_cases a : A n
    · obtain ⟨h1, h2⟩ := hm n (by omega) a
      rw [cn_s1 a, cn_one h2 M h1, ih (fun q => B q ∧ ¬ q = f n)]
      · intro i hi ai
        obtain ⟨g1, g2⟩ := hm i (by omega) ai
        refine ⟨g1, g2, fun z => ?_⟩
        have := hj i n (by omega) (by omega) ai a z
        omega
      · intro q hq b
        obtain ⟨i, hi, ai, e⟩ := hs q hq b.1
        by_cases z : i = n
        · subst z; exact absurd e.symm b.2
        · exact ⟨i, by omega, ai, e⟩
      · exact fun i j hi hj' => hj i j (by omega) (by omega)
    · rw [cn_s0 a, ih B]
      · exact fun i hi => hm i (by omega)
      · intro q hq b
        obtain ⟨i, hi, ai, e⟩ := hs q hq b
        by_cases z : i = n
        · subst z; exact absurd ai a
        · exact ⟨i, by omega, ai, e⟩
      · exact fun i j hi hj' => hj i j (by omega) (by omega)
theorem cn_len {f : Nat → Nat} {M : Nat} : ∀ (n : Nat) (B : Nat → Prop), (∀ q, q < M → B q → ∃ i, i < n ∧ f i = q) → cn_c B M ≤ n := by
  intro n
  induction n with
  | zero =>
    intro B hs
    rw [cn_z M (fun q hq b => by obtain ⟨i, hi, _⟩ := hs q hq b; omega)]
    omega
  | succ n ih =>
    intro B hs
    by_cases b : B (f n) ∧ f n < M
    · rw [cn_one b.1 M b.2]
      have := ih (fun q => B q ∧ ¬ q = f n) (fun q hq h => by
        obtain ⟨i, hi, e⟩ := hs q hq h.1
        by_cases z : i = n
        · subst z; exact absurd e.symm h.2
        · exact ⟨i, by omega, e⟩)
      omega
    · have := ih B (fun q hq h => by
        obtain ⟨i, hi, e⟩ := hs q hq h
        by_cases z : i = n
        · subst z e; exact absurd ⟨h, hq⟩ b
        · exact ⟨i, by omega, e⟩)
      omega
def nx_O (B : Nat → Prop) (l : Nat) (o : Option Nat) : Prop := match o with
  | none => ∀ q, l < q → ¬ B q
  | some q => l < q ∧ B q ∧ ∀ q', l < q' → B q' → q ≤ q'
theorem nx_ex (B : Nat → Prop) (l : Nat) : ∃ o, nx_O B l o := by
  by_cases h : ∃ q, l < q ∧ B q
  · obtain ⟨k, ⟨h1, h2⟩, h3⟩ := pk_least (fun q => l < q ∧ B q) h
    refine ⟨some k, h1, h2, fun q' a b => ?_⟩
    by_cases z : q' < k
    · exact absurd ⟨a, b⟩ (h3 q' z)
    · omega
  · exact ⟨none, fun q a b => h ⟨q, a, b⟩⟩
theorem nx_u {B : Nat → Prop} {l : Nat} {o o' : Option Nat} (h : nx_O B l o) (h' : nx_O B l o') : o = o' := by
  cases o with
  | none =>
    cases o' with
    | none => rfl
    | some q => exact absurd h'.2.1 (h q h'.1)
  | some p =>
    cases o' with
    | none => exact absurd h.2.1 (h' p h.1)
    | some q =>
      have a := h.2.2 q h'.1 h'.2.1
      have b := h'.2.2 p h.1 h.2.1
      rw [show p = q by omega]
theorem nx_ext {A B : Nat → Prop} {l : Nat} {o : Option Nat} (e : ∀ q, A q ↔ B q) (h : nx_O A l o) : nx_O B l o := by
  cases o with
  | none => exact fun q hq b => h q hq ((e q).mpr b)
  | some p => exact ⟨h.1, (e p).mp h.2.1, fun q hq b => h.2.2 q hq ((e q).mpr b)⟩
noncomputable def nx_c (B : Nat → Prop) (l : Nat) : Nat := cn_c (fun q => l < q ∧ B q) 59049
theorem nx_c0 {B : Nat → Prop} {l : Nat} (h : nx_O B l none) : nx_c B l = 0 := cn_z 59049 (fun q _ b => h q b.1 b.2)
theorem nx_c1 {B : Nat → Prop} {l q : Nat} (hB : ∀ q, B q → q < 59049) (h : nx_O B l (some q)) : nx_c B l = nx_c B q + 1 := by
  obtain ⟨h1, h2, h3⟩ := h
  rw [nx_c, cn_one (B := fun x => l < x ∧ B x) (a := q) ⟨h1, h2⟩ 59049 (hB q h2), nx_c]
  rw [cn_ext (A := fun x => (l < x ∧ B x) ∧ ¬ x = q) (B := fun x => q < x ∧ B x) 59049]
  intro x _
  constructor
  · intro a
    have := h3 x a.1.1 a.1.2
    exact ⟨by omega, a.1.2⟩
  · intro a
    exact ⟨⟨by omega, a.2⟩, by omega⟩
/-! rows: a set of (path, kind, content), and how an array holds it -/
def sn_W (R : Nat → Int32 → Int32 → Prop) : Prop :=
  (∀ q f c, R q f c → 0 < q ∧ q < 59049 ∧ (f = 0 ∨ f = 1) ∧ ¬ q % 9 = 0 ∧ (q / 9 = 0 ∨ ∃ c', R (q / 9) 0 c') ∧ (f = 0 → c = 0)) ∧
  (∀ q f c f' c', R q f c → R q f' c' → f = f' ∧ c = c')
def sn_L (A B G : Nat → Int32) (o n : Nat) (R : Nat → Int32 → Int32 → Prop) : Prop :=
  (∀ i, i < n → ∃ q, A (o + i) = nI q ∧ R q (B (o + i)) (G (o + i))) ∧
  (∀ q f c, R q f c → ∃ i, i < n ∧ A (o + i) = nI q ∧ B (o + i) = f ∧ G (o + i) = c) ∧
  (∀ i j, i < n → j < n → A (o + i) = A (o + j) → i = j)
def sn_So (A : Nat → Int32) (o n : Nat) : Prop := ∀ i j, i < j → j < n → A (o + i) < A (o + j)
def sn_D (R R' : Nat → Int32 → Int32 → Prop) (q : Nat) : Prop := ∃ f c, (R q f c ∧ ¬ R' q f c) ∨ (R' q f c ∧ ¬ R q f c)
theorem sn_Dsy {R R' : Nat → Int32 → Int32 → Prop} (q : Nat) : sn_D R R' q ↔ sn_D R' R q := by
  constructor
  · intro ⟨f, c, h⟩; exact ⟨f, c, h.symm⟩
  · intro ⟨f, c, h⟩; exact ⟨f, c, h.symm⟩
theorem sn_Db {R R' : Nat → Int32 → Int32 → Prop} (W : sn_W R) (W' : sn_W R') {q : Nat} (h : sn_D R R' q) : 0 < q ∧ q < 59049 := by
  obtain ⟨f, c, h⟩ := h
  cases h with
  | inl h => have := W.1 q f c h.1; exact ⟨this.1, this.2.1⟩
  | inr h => have := W'.1 q f c h.1; exact ⟨this.1, this.2.1⟩
theorem sn_inj {p q : Nat} (hp : p < 59049) (hq : q < 59049) (h : nI p = nI q) : p = q := (nI_eq (by omega) (by omega)).mp h
theorem sn_tot {R R' : Nat → Int32 → Int32 → Prop} {A B G A' B' G' : Nat → Int32} {o n o' n' : Nat} (W : sn_W R) (W' : sn_W R') (L : sn_L A B G o n R) (L' : sn_L A' B' G' o' n' R') (l : Nat) : nx_c (sn_D R R') l ≤ n + n' := by
  apply cn_len (f := fun i => if i < n then (A (o + i)).toNatClampNeg else (A' (o' + (i - n))).toNatClampNeg) (n + n')
  intro q hq h
  obtain ⟨_, f, c, h⟩ := h
  cases h with
  | inl h =>
    obtain ⟨i, hi, e, _⟩ := L.2.1 q f c h.1
    refine ⟨i, by omega, ?_⟩
    rw [if_pos hi, e, nI_clamp (by omega)]
  | inr h =>
    obtain ⟨i, hi, e, _⟩ := L'.2.1 q f c h.1
    refine ⟨n + i, by omega, ?_⟩
    rw [if_neg (by omega), show n + i - n = i by omega, e, nI_clamp (by omega)]
end
section
/-! the walks of the small helpers: each gives its pure value -/
def th_v (o : Option Nat) : Int32 := match o with
  | none => -1
  | some q => nI q
theorem th_ar (acc w q n : Nat) : acc + (n + 1) * w + w * 9 * q = acc + w * (q * 9 + (n + 1)) := by
  rw [Nat.mul_add w, Nat.mul_comm (n + 1) w, Nat.mul_comm q 9, Nat.mul_assoc w 9 q]
  omega
theorem th_mp (x : Option Nat) (acc w n : Nat) : x.map (fun q => acc + (n + 1) * w + w * 9 * q) = (x.map (fun q => q * 9 + (n + 1))).map (fun q => acc + w * q) := by
  cases x with
  | none => rfl
  | some q => exact congrArg some (th_ar acc w q n)
theorem th_mp0 (x : Option Nat) : x.map (fun q => 0 + 1 * q) = x := by
  cases x with
  | none => rfl
  | some q => show some (0 + 1 * q) = some q; exact congrArg some (by omega)
section
variable {S : Nat → Prop} {D : Nat → Nat} {E F P N C RC RP RF RO : Nat → Int32}
theorem th_xpb_l (H : th_Ch S P N D) {t : Nat} (ht : t < 24) {post : Int32 → Prop} : ∀ j s a acc w, s + j = 5 → S a → post (th_v ((th_pb P N t j a).map (fun q => acc + w * q))) →
    wX_pathBelow_11 post (nI t) E F P N C RC RP RF RO (j + 1) (nI acc) (nI w) (nI a) (nI s) := by
  intro j
  induction j with
  | zero =>
    intro s a acc w hs ha hp
    have ha24 := (H.2 a ha).1
    refine pk_le 5 s (fun _ => ?_) (fun _ => by omega)
    refine pk_eq a t (fun z => ?_) (fun z => ?_)
    · rw [th_pb, if_pos z] at hp; exact hp
    · rw [th_pb, if_neg z] at hp; exact hp
  | succ j ih =>
    intro s a acc w hs ha hp
    have ha24 := (H.2 a ha).1
    refine pk_le 5 s (fun _ => by omega) (fun _ => ?_)
    rw [th_pb_s] at hp
    refine pk_eq a t (fun z => ?_) (fun z => ?_)
    · rw [if_pos z] at hp
      exact pk_eq a t (fun z => hp) (fun y => absurd z y)
    · rw [if_neg z] at hp
      refine pk_eq a 0 (fun y => ?_) (fun y => ?_)
      · rw [if_pos y] at hp
        exact pk_eq a t (fun x => absurd x z) (fun x => hp)
      · rw [if_neg y] at hp
        obtain ⟨p, q, hP, hN, hq, hpS, hD, h5⟩ := (H.2 a ha).2 y
        have hp24 := (H.2 p hpS).1
        rw [hP, th_cl hp24, hN, th_cl (by omega), ← th_mp] at hp
        refine ⟨pk_in a 24 ha24, nm_r (e' := nI (acc + (q + 1) * w)) (by rw [th_cl ha24, hN, nI_1, pk_mul, nI_add]) (nm_r (e' := nI (w * 9)) (pk_mul w 9) ⟨pk_in a 24 ha24, nm_r (e' := nI p) (by rw [th_cl ha24, hP]) (nm_r (e' := nI (s + 1)) (nI_1 s) ?_)⟩)⟩
        exact ih (s + 1) p (acc + (q + 1) * w) (w * 9) (by omega) hpS hp
theorem th_xpb (H : th_Ch S P N D) {t e : Nat} (ht : t < 24) (he : S e) {post : Int32 → Prop} (h : post (th_v (th_pl P N t e))) : wpX_pathBelow post (E, F, P, N, C, RC, RP, RF, RO) (nI t) (nI e) :=
  Exists.intro 6 (th_xpb_l H ht 5 0 e 0 1 rfl he (by rw [th_mp0]; exact h))
theorem th_xln_l {post : Int32 → Prop} : ∀ d q l, th_ln q = d → l + d ≤ 5 → q < 59049 → post (nI (l + d)) → wX_lengthOf_7 post E F P N C RC RP RF RO (d + 1) (nI l) (nI q) (nI l) := by
  intro d
  induction d with
  | zero =>
    intro q l hd hl hq hp
    have z : q = 0 := by
      by_cases z : q = 0
      · exact z
      · rw [th_lnD (by omega) hq] at hd; omega
    exact pk_le 5 l (fun _ => hp) (fun _ => pk_le q 0 (fun _ => hp) (fun _ => by omega))
  | succ d ih =>
    intro q l hd hl hq hp
    have z : 0 < q := by
      by_cases z : q = 0
      · subst z; rw [th_ln0] at hd; omega
      · omega
    rw [th_lnD z hq] at hd
    refine pk_le 5 l (fun _ => by omega) (fun _ => pk_le q 0 (fun _ => by omega) (fun _ => ⟨th_90, nm_r (e' := nI (q / 9)) (pk_div (d := 9) (by omega) (by omega) (by omega)) (nm_r (nI_1 l) (nm_r (nI_1 l) ?_))⟩))
    exact ih (q / 9) (l + 1) (by omega) (by omega) (by omega) (by rw [show l + 1 + d = l + (d + 1) by omega]; exact hp)
theorem th_xln {q : Nat} (hq : q < 59049) {post : Int32 → Prop} (h : post (nI (th_ln q))) : wpX_lengthOf post (E, F, P, N, C, RC, RP, RF, RO) (nI q) :=
  Exists.intro (th_ln q + 1) (th_xln_l (th_ln q) q 0 rfl (by have := th_ln5 q; omega) hq (by rw [Nat.zero_add]; exact h))
theorem th_xdp (H : th_Ch S P N D) {e : Nat} (he : S e) {post : Int32 → Prop} (h : post (nI (D e))) : wpX_depthOf post (E, F, P, N, C, RC, RP, RF, RO) (nI e) := by
  obtain ⟨q, hq⟩ := th_pl_root H e he
  obtain ⟨h1, h2⟩ := th_pl_D H e he q hq
  rw [H.1, Nat.zero_add] at h2
  unfold wpX_depthOf
  refine th_xpb (t := 0) H (by omega) he ?_
  rw [hq]
  refine th_xln h1 ?_
  rw [← h2]; exact h
def th_G (E : Nat → Int32) (v : Int32) : Prop := ∃ e, e < 24 ∧ v = nI e ∧ ¬ E e = 0
def th_Q (n : Nat) (v : Int32) : Prop := ∃ q, q < n ∧ v = nI q
theorem th_xg1 {v : Int32} (g : th_G E v) {post : Int32 → Prop} (h : post 1) : wpX_isGoodEntry post (E, F, P, N, C, RC, RP, RF, RO) v := by
  obtain ⟨e, he, rfl, hE⟩ := g
  refine br_f (nI_pos (by omega)) (br_f (nI_ge (b := 24) he (by decide)) ⟨pk_in e 24 he, ?_⟩)
  rw [th_cl he]
  exact br_f hE h
theorem th_xg0 {v : Int32} (g : ¬ th_G E v) {post : Int32 → Prop} (h : post 0) : wpX_isGoodEntry post (E, F, P, N, C, RC, RP, RF, RO) v := by
  refine br_c (fun _ => h) (fun h0 => br_c (fun _ => h) (fun h24 => ?_))
  obtain h1 | h1 | ⟨j, hj, rfl⟩ := pk_ix v (n := 24) (by omega)
  · exact absurd h1 h0
  · exact absurd h1 h24
  · refine ⟨pk_in j 24 hj, ?_⟩
    rw [th_cl hj]
    exact br_c (fun _ => h) (fun z => absurd ⟨j, hj, rfl, z⟩ g)
theorem th_xn1 {v : Int32} (g : th_Q 8 v) {post : Int32 → Prop} (h : post 1) : wpX_isGoodName post (E, F, P, N, C, RC, RP, RF, RO) v := by
  obtain ⟨e, he, rfl⟩ := g
  exact br_f (nI_pos (by omega)) (br_f (nI_ge (b := 8) he (by decide)) h)
theorem th_xn0 {v : Int32} (g : ¬ th_Q 8 v) {post : Int32 → Prop} (h : post 0) : wpX_isGoodName post (E, F, P, N, C, RC, RP, RF, RO) v := by
  refine br_c (fun _ => h) (fun h0 => br_c (fun _ => h) (fun h24 => ?_))
  obtain h1 | h1 | ⟨j, hj, rfl⟩ := pk_ix v (n := 8) (by omega)
  · exact absurd h1 h0
  · exact absurd h1 h24
  · exact absurd ⟨j, hj, rfl⟩ g
theorem th_xs1 {v : Int32} (g : th_Q 3 v) {post : Int32 → Prop} (h : post 1) : wpX_isGoodSnapshot post (E, F, P, N, C, RC, RP, RF, RO) v := by
  obtain ⟨e, he, rfl⟩ := g
  exact br_f (nI_pos (by omega)) (br_f (nI_ge (b := 3) he (by decide)) h)
theorem th_xs0 {v : Int32} (g : ¬ th_Q 3 v) {post : Int32 → Prop} (h : post 0) : wpX_isGoodSnapshot post (E, F, P, N, C, RC, RP, RF, RO) v := by
  refine br_c (fun _ => h) (fun h0 => br_c (fun _ => h) (fun h24 => ?_))
  obtain h1 | h1 | ⟨j, hj, rfl⟩ := pk_ix v (n := 3) (by omega)
  · exact absurd h1 h0
  · exact absurd h1 h24
  · exact absurd ⟨j, hj, rfl⟩ g
end
section
variable {S : Nat → Prop} {D : Nat → Nat} {E F P N C M YP YF YC YN : Nat → Int32}
theorem th_ypb_l (H : th_Ch S P N D) {t : Nat} (ht : t < 24) {post : Int32 → Prop} : ∀ j s a acc w, s + j = 5 → S a → D a ≤ j → post (th_v ((th_pb P N t j a).map (fun q => acc + w * q))) →
    wY_from_11 post (nI t) E F P N C M YP YF YC YN (j + 1) (nI acc) (nI w) (nI a) (nI s) := by
  intro j
  induction j with
  | zero =>
    intro s a acc w hs ha hDa hp
    have ha24 := (H.2 a ha).1
    have a0 := th_D0 H ha (by omega)
    refine pk_le 6 s (fun _ => by omega) (fun _ => ?_)
    refine pk_eq a t (fun z => ?_) (fun z => pk_eq a 0 (fun _ => ?_) (fun y => absurd a0 y))
    · rw [th_pb, if_pos z] at hp; exact hp
    · rw [th_pb, if_neg z] at hp; exact hp
  | succ j ih =>
    intro s a acc w hs ha hDa hp
    have ha24 := (H.2 a ha).1
    refine pk_le 6 s (fun _ => by omega) (fun _ => ?_)
    rw [th_pb_s] at hp
    refine pk_eq a t (fun z => ?_) (fun z => ?_)
    · rw [if_pos z] at hp
      exact hp
    · rw [if_neg z] at hp
      refine pk_eq a 0 (fun y => ?_) (fun y => ?_)
      · rw [if_pos y] at hp
        exact hp
      · rw [if_neg y] at hp
        obtain ⟨p, q, hP, hN, hq, hpS, hD, h5⟩ := (H.2 a ha).2 y
        have hp24 := (H.2 p hpS).1
        rw [hP, th_cl hp24, hN, th_cl (by omega), ← th_mp] at hp
        refine ⟨pk_in a 24 ha24, nm_r (e' := nI (acc + (q + 1) * w)) (by rw [th_cl ha24, hN, nI_1, pk_mul, nI_add]) (nm_r (e' := nI (w * 9)) (by rw [Nat.mul_comm w 9]; exact pk_mul 9 w) ⟨pk_in a 24 ha24, nm_r (e' := nI p) (by rw [th_cl ha24, hP]) (nm_r (e' := nI (s + 1)) (nI_1 s) ?_)⟩)⟩
        exact ih (s + 1) p (acc + (q + 1) * w) (w * 9) (by omega) hpS (by omega) hp
theorem th_ypb (H : th_Ch S P N D) {t e : Nat} (ht : t < 24) (he : S e) {post : Int32 → Prop} (h : post (th_v (th_pl P N t e))) : wpY_from post (E, F, P, N, C, M, YP, YF, YC, YN) (nI t) (nI e) :=
  Exists.intro 6 (th_ypb_l H ht 5 0 e 0 1 rfl he (th_D5 H he) (by rw [th_mp0]; exact h))
theorem th_ydp_l (H : th_Ch S P N D) {post : Int32 → Prop} : ∀ j s a l, s + j = 6 → S a → D a ≤ j → post (nI (l + D a)) → wY_depth_7 post E F P N C M YP YF YC YN (j + 1) (nI l) (nI a) (nI s) := by
  intro j
  induction j with
  | zero =>
    intro s a l hs ha hDa hp
    rw [show D a = 0 by omega, Nat.add_zero] at hp
    exact pk_le 6 s (fun _ => hp) (fun _ => by omega)
  | succ j ih =>
    intro s a l hs ha hDa hp
    have ha24 := (H.2 a ha).1
    refine pk_le 6 s (fun _ => by omega) (fun _ => pk_eq a 0 (fun y => ?_) (fun y => ?_))
    · refine nm_r (nI_1 s) ?_
      refine ih (s + 1) a l (by omega) ha ?_ hp
      rw [y, H.1]; omega
    · obtain ⟨p, q, hP, hN, hq, hpS, hD, h5⟩ := (H.2 a ha).2 y
      refine ⟨pk_in a 24 ha24, nm_r (e' := nI p) (by rw [th_cl ha24, hP]) (nm_r (nI_1 l) (nm_r (nI_1 s) ?_))⟩
      exact ih (s + 1) p (l + 1) (by omega) hpS (by omega) (by rw [show l + 1 + D p = l + D a by omega]; exact hp)
theorem th_ydp (H : th_Ch S P N D) {e : Nat} (he : S e) {post : Int32 → Prop} (h : post (nI (D e))) : wpY_depth post (E, F, P, N, C, M, YP, YF, YC, YN) (nI e) :=
  Exists.intro 7 (th_ydp_l H 6 0 e 0 rfl he (by have := th_D5 H he; omega) (by rw [Nat.zero_add]; exact h))
theorem th_yg1 {v : Int32} (g : th_G E v) {post : Int32 → Prop} (h : post 0) : wpY_bad post (E, F, P, N, C, M, YP, YF, YC, YN) v := by
  obtain ⟨e, he, rfl, hE⟩ := g
  refine br_f (nI_pos (by omega)) (pk_lt 23 e (fun _ => by omega) (fun _ => ⟨pk_in e 24 he, ?_⟩))
  rw [th_cl he]
  exact br_f hE h
theorem th_yg0 {v : Int32} (g : ¬ th_G E v) {post : Int32 → Prop} (h : post 1) : wpY_bad post (E, F, P, N, C, M, YP, YF, YC, YN) v := by
  refine br_c (fun _ => h) (fun h0 => br_c (fun _ => h) (fun h24 => ?_))
  obtain ⟨j, hj, rfl⟩ := nI_of h0
  have h2 : j < 24 := by
    by_cases z : j < 24
    · exact z
    · exact absurd (nI_lt (a := 23) (b := j) (by omega) hj) h24
  refine ⟨pk_in j 24 h2, ?_⟩
  rw [th_cl h2]
  exact br_c (fun _ => h) (fun z => absurd ⟨j, h2, rfl, z⟩ g)
theorem th_ys1 {v : Int32} (g : th_Q 3 v) {post : Int32 → Prop} (h : post 0) : wpY_badShot post (E, F, P, N, C, M, YP, YF, YC, YN) v := by
  obtain ⟨e, he, rfl⟩ := g
  exact br_f (nI_pos (by omega)) (pk_le e 2 (fun _ => h) (fun _ => by omega))
theorem th_ys0 {v : Int32} (g : ¬ th_Q 3 v) {post : Int32 → Prop} (h : post 1) : wpY_badShot post (E, F, P, N, C, M, YP, YF, YC, YN) v := by
  refine br_c (fun _ => h) (fun h0 => ?_)
  obtain ⟨j, hj, rfl⟩ := nI_of h0
  exact pk_le j 2 (fun z => absurd ⟨j, by omega, rfl⟩ g) (fun _ => h)
end
end
section
/-! the tree's invariant, and how it lasts -/
def th_T (E F P N C : Nat → Int32) (D : Nat → Nat) : Prop :=
  th_Ch (th_S E) P N D ∧ ¬ E 0 = 0 ∧ F 0 = 0 ∧ (∀ j, F j = 0 ∨ F j = 1) ∧ (∀ e, th_S E e → F e = 0 → C e = 0) ∧
  (∀ e p, th_S E e → ¬ e = 0 → P e = nI p → p < 24 → F p = 0) ∧ th_U (th_S E) P N
theorem th_sub {p q : Nat} (hp : p < 24) (hq : q < 24) (h : nI p = nI q) : p = q := (nI_eq (by omega) (by omega)).mp h
theorem th_S0 {E F P N C : Nat → Int32} {D : Nat → Nat} (T : th_T E F P N C D) : th_S E 0 := ⟨by omega, T.2.1⟩
theorem th_upS {E : Nat → Int32} {e j : Nat} (h : th_S (upd E e 1) j) (hj : ¬ j = e) : th_S E j := by
  refine ⟨h.1, ?_⟩
  have := h.2
  rw [pk_un hj] at this
  exact this
theorem th_upS' {E : Nat → Int32} {e j : Nat} (h : th_S E j) : th_S (upd E e 1) j := by
  refine ⟨h.1, ?_⟩
  by_cases z : j = e
  · subst z; rw [pk_us]; decide
  · rw [pk_un z]; exact h.2
/-- a new entry -/
theorem th_T_new {E F P N C : Nat → Int32} {D : Nat → Nat} (T : th_T E F P N C D) {e p q : Nat} {f c : Int32} (h0 : 0 < e) (h24 : e < 24) (hE : E e = 0) (hp : th_S E p) (hF : F p = 0) (hq : q < 8)
    (hD : D p < 5) (hf : f = 0 ∨ f = 1) (hc : f = 0 → c = 0) (hch : ∀ x, th_S E x → ¬ x = 0 → P x = nI p → N x = nI q → False) :
    th_T (upd E e 1) (upd F e f) (upd P e (nI p)) (upd N e (nI q)) (upd C e c) (fun j => if j = e then D p + 1 else D j) := by
  obtain ⟨⟨H0, H⟩, T0, T1, T2, T3, T4, T5⟩ := T
  have hne : ∀ x, th_S E x → ¬ x = e := fun x hx z => hx.2 (by rw [z]; exact hE)
  refine ⟨⟨?_, ?_⟩, ?_, ?_, ?_, ?_, ?_, ?_⟩
  · show (if 0 = e then D p + 1 else D 0) = 0
    rw [if_neg (by omega), H0]
  · intro x hx
    refine ⟨hx.1, fun z => ?_⟩
    by_cases y : x = e
    · subst y
      refine ⟨p, q, pk_us, pk_us, hq, th_upS' hp, ?_, ?_⟩
      · show (if x = x then D p + 1 else D x) = (if p = x then D p + 1 else D p) + 1
        rw [if_pos rfl, if_neg (hne p hp)]
      · show (if x = x then D p + 1 else D x) ≤ 5
        rw [if_pos rfl]; omega
    · obtain ⟨p', q', a, b, c', d, e', g⟩ := (H x (th_upS hx y)).2 z
      refine ⟨p', q', by rw [pk_un y]; exact a, by rw [pk_un y]; exact b, c', th_upS' d, ?_, ?_⟩
      · show (if x = e then D p + 1 else D x) = (if p' = e then D p + 1 else D p') + 1
        rw [if_neg y, if_neg (hne p' d)]; exact e'
      · show (if x = e then D p + 1 else D x) ≤ 5
        rw [if_neg y]; exact g
  · rw [pk_un (by omega)]; exact T0
  · rw [pk_un (by omega)]; exact T1
  · intro j
    by_cases y : j = e
    · subst y; rw [pk_us]; exact hf
    · rw [pk_un y]; exact T2 j
  · intro x hx
    by_cases y : x = e
    · subst y; rw [pk_us, pk_us]; exact hc
    · rw [pk_un y, pk_un y]; exact T3 x (th_upS hx y)
  · intro x p' hx z
    by_cases y : x = e
    · subst y
      rw [pk_us]
      intro a b
      have := th_sub hp.1 b a
      subst this
      rw [pk_un (hne p hp)]; exact hF
    · rw [pk_un y]
      intro a b
      obtain ⟨p2, q2, a2, _, _, d2, _, _⟩ := (H x (th_upS hx y)).2 z
      have := th_sub d2.1 b (a2.symm.trans a)
      subst this
      rw [pk_un (hne _ d2)]
      exact T4 x p2 (th_upS hx y) z a b
  · intro x x' hx hx' z z'
    by_cases y : x = e
    · by_cases y' : x' = e
      · intro _ _; rw [y, y']
      · subst y
        rw [pk_us, pk_us, pk_un y', pk_un y']
        intro a b
        exact absurd (hch x' (th_upS hx' y') z' a.symm b.symm) id
    · by_cases y' : x' = e
      · subst y'
        rw [pk_us, pk_us, pk_un y, pk_un y]
        intro a b
        exact absurd (hch x (th_upS hx y) z a b) id
      · rw [pk_un y, pk_un y', pk_un y, pk_un y']
        exact T5 x x' (th_upS hx y) (th_upS hx' y') z z'
/-- what stays when all below t goes -/
theorem th_T_rem {E E' F P N C : Nat → Int32} {D : Nat → Nat} (T : th_T E F P N C D) {t : Nat} (ht : ¬ t = 0) (h : ∀ x, th_S E' x ↔ th_S E x ∧ th_pl P N t x = none) : th_T E' F P N C D := by
  obtain ⟨H, T0, T1, T2, T3, T4, T5⟩ := T
  refine ⟨⟨H.1, ?_⟩, ?_, T1, T2, ?_, ?_, ?_⟩
  · intro x hx
    obtain ⟨a, b⟩ := (h x).mp hx
    refine ⟨a.1, fun z => ?_⟩
    obtain ⟨p, q, hP, hN, hq, hpS, hD, h5⟩ := (H.2 x a).2 z
    refine ⟨p, q, hP, hN, hq, (h p).mpr ⟨hpS, ?_⟩, hD, h5⟩
    by_cases y : x = t
    · subst y; rw [th_pl_t] at b; cases b
    · rw [th_pl_s H a y z hP hN hq hpS hD] at b
      cases g : th_pl P N t p with
      | none => rfl
      | some r => rw [g] at b; cases b
  · exact ((h 0).mpr ⟨⟨by omega, T0⟩, th_pl_0 ht⟩).2
  · exact fun x hx => T3 x ((h x).mp hx).1
  · exact fun x p hx => T4 x p ((h x).mp hx).1
  · exact fun x x' hx hx' => T5 x x' ((h x).mp hx).1 ((h x').mp hx').1
/-- only the root -/
theorem th_T_one {E E' F P N C : Nat → Int32} {D : Nat → Nat} (T : th_T E F P N C D) (h : ∀ x, th_S E' x ↔ x = 0) : th_T E' F P N C D := by
  obtain ⟨H, T0, T1, T2, T3, T4, T5⟩ := T
  refine ⟨⟨H.1, ?_⟩, ((h 0).mpr rfl).2, T1, T2, ?_, ?_, ?_⟩
  · intro x hx
    exact ⟨hx.1, fun z => absurd ((h x).mp hx) z⟩
  · intro x hx
    rw [(h x).mp hx]
    exact T3 0 ⟨by omega, T0⟩
  · exact fun x p hx z => absurd ((h x).mp hx) z
  · exact fun x x' hx hx' z => absurd ((h x).mp hx) z
/-- another content of a file -/
theorem th_T_wr {E F P N C : Nat → Int32} {D : Nat → Nat} (T : th_T E F P N C D) {e : Nat} {c : Int32} (hF : ¬ F e = 0) : th_T E F P N (upd C e c) D := by
  obtain ⟨H, T0, T1, T2, T3, T4, T5⟩ := T
  refine ⟨H, T0, T1, T2, ?_, T4, T5⟩
  intro x hx hf
  by_cases y : x = e
  · subst y; exact absurd hf hF
  · rw [pk_un y]; exact T3 x hx hf
/-- an entry moved with what is below it -/
theorem th_T_mv {E F P N C : Nat → Int32} {D : Nat → Nat} (T : th_T E F P N C D) {t p q : Nat} (hS : th_S E t) (ht : ¬ t = 0) (hp : th_S E p) (hF : F p = 0) (hq : q < 8) (hb : th_pl P N t p = none)
    (hch : ∀ x, th_S E x → ¬ x = 0 → P x = nI p → N x = nI q → x = t) (hh : ∀ x, th_S E x → ¬ th_pl P N t x = none → D p + 1 + (D x - D t) ≤ 5) :
    ∃ D', th_T E F (upd P t (nI p)) (upd N t (nI q)) C D' := by
  obtain ⟨H, T0, T1, T2, T3, T4, T5⟩ := T
  have key : ∃ D' : Nat → Nat, ∀ x, (th_pl P N t x = none → D' x = D x) ∧ (¬ th_pl P N t x = none → D' x = D p + 1 + (D x - D t)) := by
    refine ⟨fun x => match th_pl P N t x with
      | none => D x
      | some _ => D p + 1 + (D x - D t), fun x => ⟨fun h => ?_, fun h => ?_⟩⟩
    · dsimp only; rw [h]
    · dsimp only
      cases g : th_pl P N t x with
      | none => exact absurd g h
      | some r => rfl
  obtain ⟨D', hD'⟩ := key
  refine ⟨D', ⟨?_, ?_⟩, T0, T1, T2, T3, ?_, ?_⟩
  · rw [(hD' 0).1 (th_pl_0 ht), H.1]
  · intro x hx
    refine ⟨hx.1, fun z => ?_⟩
    by_cases y : x = t
    · subst y
      have hn : ¬ th_pl P N x x = none := by rw [th_pl_t]; exact fun z => nomatch z
      refine ⟨p, q, pk_us, pk_us, hq, hp, ?_, ?_⟩
      · rw [(hD' p).1 hb, (hD' x).2 hn]; omega
      · rw [(hD' x).2 hn]; exact hh x hx hn
    · obtain ⟨p', q', hP, hN, hq', hpS, hD, h5⟩ := (H.2 x hx).2 z
      refine ⟨p', q', by rw [pk_un y]; exact hP, by rw [pk_un y]; exact hN, hq', hpS, ?_⟩
      have hs := th_pl_s H hx y z hP hN hq' hpS hD
      cases g : th_pl P N t p' with
      | none =>
        have g' : th_pl P N t x = none := by rw [hs, g]; rfl
        rw [(hD' x).1 g', (hD' p').1 g]
        exact ⟨hD, h5⟩
      | some r =>
        have g' : ¬ th_pl P N t x = none := by rw [hs, g]; exact fun z => nomatch z
        have k := (th_pl_D H p' hpS r g).2
        have k2 := hh x hx g'
        rw [(hD' x).2 g', (hD' p').2 (by rw [g]; exact fun z => nomatch z)]
        omega
  · intro x p' hx z
    by_cases y : x = t
    · subst y
      rw [pk_us]
      intro a b
      have := th_sub hp.1 b a
      subst this
      exact hF
    · rw [pk_un y]
      exact T4 x p' hx z
  · intro x x' hx hx' z z'
    by_cases y : x = t
    · by_cases y' : x' = t
      · intro _ _; rw [y, y']
      · subst y
        rw [pk_us, pk_us, pk_un y', pk_un y']
        intro a b
        exact (hch x' hx' z' a.symm b.symm).symm
    · by_cases y' : x' = t
      · subst y'
        rw [pk_us, pk_us, pk_un y, pk_un y]
        intro a b
        exact hch x hx z a b
      · rw [pk_un y, pk_un y', pk_un y, pk_un y']
        exact T5 x x' hx hx' z z'
/-- paths stand on the chain alone -/
theorem th_pl_cg {S : Nat → Prop} {P N P' N' : Nat → Int32} {D : Nat → Nat} (H : th_Ch S P N D) (hP : ∀ x, S x → P' x = P x) (hN : ∀ x, S x → N' x = N x) {t : Nat} : ∀ e, S e → th_pl P' N' t e = th_pl P N t e := by
  have H' : th_Ch S P' N' D := ⟨H.1, fun x hx => ⟨(H.2 x hx).1, fun z => by
    obtain ⟨p, q, a, b, c⟩ := (H.2 x hx).2 z
    exact ⟨p, q, (hP x hx).trans a, (hN x hx).trans b, c⟩⟩⟩
  apply th_ind H
  · intro _
    by_cases z : t = 0
    · subst z; rw [th_pl_t, th_pl_t]
    · rw [th_pl_0 z, th_pl_0 z]
  · intro e p q he z a b hq hp hD h5 ih
    by_cases y : e = t
    · subst y; rw [th_pl_t, th_pl_t]
    · rw [th_pl_s H he y z a b hq hp hD, th_pl_s H' he y z ((hP e he).trans a) ((hN e he).trans b) hq hp hD, ih]
/-! the tree's own rows -/
def th_R (E F P N C : Nat → Int32) (q : Nat) (f c : Int32) : Prop := ∃ e, th_S E e ∧ ¬ e = 0 ∧ th_pl P N 0 e = some q ∧ F e = f ∧ C e = c
theorem th_RW {E F P N C : Nat → Int32} {D : Nat → Nat} (T : th_T E F P N C D) : sn_W (th_R E F P N C) := by
  obtain ⟨H, T0, T1, T2, T3, T4, T5⟩ := T
  constructor
  · intro q f c ⟨e, he, z, h, hf, hc⟩
    obtain ⟨p, n, hP, hN, hn, hpS, hD, h5⟩ := (H.2 e he).2 z
    have hb := th_pl_D H e he q h
    rw [th_pl_s H he z z hP hN hn hpS hD] at h
    obtain ⟨x, hx⟩ := th_pl_root H p hpS
    rw [hx] at h
    have e1 := Option.some.inj h
    dsimp only at e1
    refine ⟨by omega, hb.1, by rw [← hf]; exact T2 e, by omega, ?_, ?_⟩
    · have e2 : q / 9 = x := by omega
      rw [e2]
      by_cases y : p = 0
      · subst y
        rw [th_pl_t] at hx
        exact Or.inl (Option.some.inj hx).symm
      · exact Or.inr ⟨C p, p, hpS, y, hx, T4 e p he z hP hpS.1, rfl⟩
    · intro g
      rw [← hc]
      exact T3 e he (hf.trans g)
  · intro q f c f' c' ⟨e, he, z, h, hf, hc⟩ ⟨e', he', z', h', hf', hc'⟩
    have := th_pl_inj H T5 e he e' q he' h h'
    subst this
    exact ⟨hf.symm.trans hf', hc.symm.trans hc'⟩
end
section
/-! the relation -/
def th_Sn (RC RP RF RO YP YF YC YN : Nat → Int32) (s : Nat) : Prop := ∃ n R, n ≤ 23 ∧ RC s = nI n ∧ YN s = nI n ∧ sn_W R ∧ sn_L RP RF RO (s * 23) n R ∧ sn_So RP (s * 23) n ∧ sn_L YP YF YC (24 * s) n R
/-- the two trees are the same arrays, the invariant holds; each snapshot holds the same rows on both sides, X's by rising path -/
def i_Rel (_ : Nat) (u : SX) (v : SY) : Prop := ∃ E F P N C RC RP RF RO M YP YF YC YN D, u = (E, F, P, N, C, RC, RP, RF, RO) ∧ v = (E, F, P, N, C, M, YP, YF, YC, YN) ∧ th_T E F P N C D ∧ ∀ s, s < 3 → th_Sn RC RP RF RO YP YF YC YN s
theorem i_up {k : Nat} {u : SX} {v : SY} (h : i_Rel k u v) : i_Rel (k + 4) u v := h
theorem th_rel {k : Nat} {E F P N C RC RP RF RO M YP YF YC YN : Nat → Int32} {D : Nat → Nat} (T : th_T E F P N C D) (Sn : ∀ s, s < 3 → th_Sn RC RP RF RO YP YF YC YN s) : i_Rel k (E, F, P, N, C, RC, RP, RF, RO) (E, F, P, N, C, M, YP, YF, YC, YN) :=
  ⟨E, F, P, N, C, RC, RP, RF, RO, M, YP, YF, YC, YN, D, rfl, rfl, T, Sn⟩
theorem i_vc0 : wpX_init (fun u => wpY_init (fun v => i_Rel 0 u v)) := by
  refine nm_r (e' := upd (fun _ => 0) 0 1) (by rw [th_n1]) (nm_r (e' := upd (fun _ => 0) 0 1) (by rw [th_n1]) (th_rel (D := fun _ => 0) ?_ ?_))
  · have hS : ∀ e, th_S (upd (fun _ => 0) 0 1) e → e = 0 := by
      intro e he
      by_cases z : e = 0
      · exact z
      · exact absurd (pk_un z) he.2
    refine ⟨⟨rfl, fun e he => ⟨he.1, fun z => absurd (hS e he) z⟩⟩, ?_, rfl, fun _ => Or.inl rfl, fun _ _ _ => rfl, fun e _ he z => absurd (hS e he) z, fun e _ he _ z => absurd (hS e he) z⟩
    rw [pk_us]; decide
  · intro s _
    refine ⟨0, fun _ _ _ => False, by omega, rfl, rfl, ⟨fun _ _ _ h => h.elim, fun _ _ _ _ _ h => h.elim⟩, ⟨fun i h => by omega, fun _ _ _ h => h.elim, fun i j h => by omega⟩, fun i j _ h => by omega, ⟨fun i h => by omega, fun _ _ _ h => h.elim, fun i j h => by omega⟩⟩
theorem th_bt {f : Nat → Int32} {j : Nat} {a : Int32} {A B : Prop} (hj : j < 24) (z : f j = a) (h : A) : (f (nI j).toNatClampNeg = a → A) ∧ (¬ f (nI j).toNatClampNeg = a → B) := by
  rw [th_cl hj]; exact br_t z h
theorem th_bf {f : Nat → Int32} {j : Nat} {a : Int32} {A B : Prop} (hj : j < 24) (z : ¬ f j = a) (h : B) : (f (nI j).toNatClampNeg = a → A) ∧ (¬ f (nI j).toNatClampNeg = a → B) := by
  rw [th_cl hj]; exact br_f z h
theorem th_up {f : Nat → Int32} {j : Nat} {a b : Int32} {K : (Nat → Int32) → Prop} (hj : j < 24) (hb : a = b) (h : K (upd f j b)) : vp_in (nI j) 24 ∧ ∀ y, y = upd f (nI j).toNatClampNeg a → K y :=
  ⟨pk_in j 24 hj, nm_r (by rw [th_cl hj, hb]) h⟩
section
variable {S : Nat → Prop} {D : Nat → Nat} {E F P N C RC RP RF RO M YP YF YC YN : Nat → Int32}
theorem th_chl {p q : Nat} : ∀ d j, j + d = 24 → 1 ≤ j → ∃ r, (∀ post : Int32 → Prop, post r → wX_childNamed_2 post (nI p) (nI q) E F P N C RC RP RF RO (d + 1) (nI j)) ∧ (∀ post : Int32 → Prop, post r → wY_child_2 post (nI p) (nI q) E F P N C M YP YF YC YN (d + 1) (nI j)) ∧
    ((r = -1 ∧ ∀ x, th_S E x → j ≤ x → P x = nI p → N x = nI q → False) ∨ (∃ x, th_S E x ∧ ¬ x = 0 ∧ r = nI x ∧ P x = nI p ∧ N x = nI q)) := by
  intro d
  induction d with
  | zero =>
    intro j hj h1
    exact ⟨-1, fun post hp => pk_le 24 j (fun _ => hp) (fun _ => by omega), fun post hp => pk_le 24 j (fun _ => hp) (fun _ => by omega), Or.inl ⟨rfl, fun x hx h => by have := hx.1; omega⟩⟩
  | succ d ih =>
    intro j hj h1
    obtain ⟨r, hX, hY, hs⟩ := ih (j + 1) (by omega) (by omega)
    have j24 : j < 24 := by omega
    have nx : (∀ x, th_S E x → x = j → P x = nI p → N x = nI q → False) → ((r = -1 ∧ ∀ x, th_S E x → j ≤ x → P x = nI p → N x = nI q → False) ∨ (∃ x, th_S E x ∧ ¬ x = 0 ∧ r = nI x ∧ P x = nI p ∧ N x = nI q)) := by
      intro hn
      cases hs with
      | inl hs =>
        refine Or.inl ⟨hs.1, fun x hx h a b => ?_⟩
        by_cases z : x = j
        · exact hn x hx z a b
        · exact hs.2 x hx (by omega) a b
      | inr hs => exact Or.inr hs
    by_cases hE : E j = 0
    · refine ⟨r, fun post hp => pk_le 24 j (fun _ => by omega) (fun _ => ⟨pk_in j 24 j24, th_bt j24 hE (nm_r (nI_1 j) (hX post hp))⟩), fun post hp => pk_le 24 j (fun _ => by omega) (fun _ => ⟨pk_in j 24 j24, th_bt j24 hE (nm_r (nI_1 j) (hY post hp))⟩), nx ?_⟩
      intro x hx z; subst z; exact absurd hE hx.2
    · by_cases hP : P j = nI p
      · by_cases hN : N j = nI q
        · exact ⟨nI j, fun post hp => pk_le 24 j (fun _ => by omega) (fun _ => ⟨pk_in j 24 j24, th_bf j24 hE ⟨pk_in j 24 j24, th_bt j24 hP ⟨pk_in j 24 j24, th_bt j24 hN hp⟩⟩⟩),
            fun post hp => pk_le 24 j (fun _ => by omega) (fun _ => ⟨pk_in j 24 j24, th_bf j24 hE ⟨pk_in j 24 j24, th_bt j24 hP ⟨pk_in j 24 j24, th_bt j24 hN hp⟩⟩⟩), Or.inr ⟨j, ⟨j24, hE⟩, by omega, rfl, hP, hN⟩⟩
        · refine ⟨r, fun post hp => pk_le 24 j (fun _ => by omega) (fun _ => ⟨pk_in j 24 j24, th_bf j24 hE ⟨pk_in j 24 j24, th_bt j24 hP ⟨pk_in j 24 j24, th_bf j24 hN (nm_r (nI_1 j) (hX post hp))⟩⟩⟩),
            fun post hp => pk_le 24 j (fun _ => by omega) (fun _ => ⟨pk_in j 24 j24, th_bf j24 hE ⟨pk_in j 24 j24, th_bt j24 hP ⟨pk_in j 24 j24, th_bf j24 hN (nm_r (nI_1 j) (hY post hp))⟩⟩⟩), nx ?_⟩
          intro x hx z _ b; subst z; exact hN b
      · refine ⟨r, fun post hp => pk_le 24 j (fun _ => by omega) (fun _ => ⟨pk_in j 24 j24, th_bf j24 hE ⟨pk_in j 24 j24, th_bf j24 hP (nm_r (nI_1 j) (hX post hp))⟩⟩),
            fun post hp => pk_le 24 j (fun _ => by omega) (fun _ => ⟨pk_in j 24 j24, th_bf j24 hE ⟨pk_in j 24 j24, th_bf j24 hP (nm_r (nI_1 j) (hY post hp))⟩⟩), nx ?_⟩
        intro x hx z a; subst z; exact absurd a hP
theorem th_chd (p q : Nat) : ∃ r, (∀ post : Int32 → Prop, post r → wpX_childNamed post (E, F, P, N, C, RC, RP, RF, RO) (nI p) (nI q)) ∧ (∀ post : Int32 → Prop, post r → wpY_child post (E, F, P, N, C, M, YP, YF, YC, YN) (nI p) (nI q)) ∧
    ((r = -1 ∧ ∀ x, th_S E x → ¬ x = 0 → P x = nI p → N x = nI q → False) ∨ (∃ x, th_S E x ∧ ¬ x = 0 ∧ r = nI x ∧ P x = nI p ∧ N x = nI q)) := by
  obtain ⟨r, hX, hY, hs⟩ := th_chl (E := E) (F := F) (P := P) (N := N) (C := C) (RC := RC) (RP := RP) (RF := RF) (RO := RO) (M := M) (YP := YP) (YF := YF) (YC := YC) (YN := YN) (p := p) (q := q) 23 1 rfl (by omega)
  refine ⟨r, fun post hp => Exists.intro 24 (hX post hp), fun post hp => Exists.intro 24 (hY post hp), ?_⟩
  cases hs with
  | inl hs => exact Or.inl ⟨hs.1, fun x hx z => hs.2 x hx (by omega)⟩
  | inr hs => exact Or.inr hs
theorem th_lfl : ∀ d j, j + d = 24 → 1 ≤ j → ∃ r, (∀ post : Int32 → Prop, post r → wX_leastFree_2 post E F P N C RC RP RF RO (d + 1) (nI j)) ∧ (∀ post : Int32 → Prop, post r → wY_leastFree_2 post E F P N C M YP YF YC YN (d + 1) (nI j)) ∧
    ((r = -1 ∧ ∀ x, j ≤ x → x < 24 → ¬ E x = 0) ∨ (∃ x, j ≤ x ∧ x < 24 ∧ r = nI x ∧ E x = 0 ∧ ∀ y, j ≤ y → y < x → ¬ E y = 0)) := by
  intro d
  induction d with
  | zero =>
    intro j hj h1
    exact ⟨-1, fun post hp => pk_le 24 j (fun _ => hp) (fun _ => by omega), fun post hp => pk_le 24 j (fun _ => hp) (fun _ => by omega), Or.inl ⟨rfl, fun x hx h => by omega⟩⟩
  | succ d ih =>
    intro j hj h1
    have j24 : j < 24 := by omega
    by_cases hE : E j = 0
    · exact ⟨nI j, fun post hp => pk_le 24 j (fun _ => by omega) (fun _ => ⟨pk_in j 24 j24, th_bt j24 hE hp⟩), fun post hp => pk_le 24 j (fun _ => by omega) (fun _ => ⟨pk_in j 24 j24, th_bt j24 hE hp⟩), Or.inr ⟨j, by omega, j24, rfl, hE, fun y a b => by omega⟩⟩
    · obtain ⟨r, hX, hY, hs⟩ := ih (j + 1) (by omega) (by omega)
      refine ⟨r, fun post hp => pk_le 24 j (fun _ => by omega) (fun _ => ⟨pk_in j 24 j24, th_bf j24 hE (nm_r (nI_1 j) (hX post hp))⟩), fun post hp => pk_le 24 j (fun _ => by omega) (fun _ => ⟨pk_in j 24 j24, th_bf j24 hE (nm_r (nI_1 j) (hY post hp))⟩), ?_⟩
      cases hs with
      | inl hs =>
        refine Or.inl ⟨hs.1, fun x a b => ?_⟩
        by_cases z : x = j
        · rw [z]; exact hE
        · exact hs.2 x (by omega) b
      | inr hs =>
        obtain ⟨x, a, b, c, d', e⟩ := hs
        refine Or.inr ⟨x, by omega, b, c, d', fun y a b => ?_⟩
        by_cases z : y = j
        · rw [z]; exact hE
        · exact e y (by omega) b
theorem th_lfr : ∃ r, (∀ post : Int32 → Prop, post r → wpX_leastFree post (E, F, P, N, C, RC, RP, RF, RO)) ∧ (∀ post : Int32 → Prop, post r → wpY_leastFree post (E, F, P, N, C, M, YP, YF, YC, YN)) ∧
    ((r = -1 ∧ ∀ x, 1 ≤ x → x < 24 → ¬ E x = 0) ∨ (∃ x, 1 ≤ x ∧ x < 24 ∧ r = nI x ∧ E x = 0 ∧ ∀ y, 1 ≤ y → y < x → ¬ E y = 0)) := by
  obtain ⟨r, hX, hY, hs⟩ := th_lfl (E := E) (F := F) (P := P) (N := N) (C := C) (RC := RC) (RP := RP) (RF := RF) (RO := RO) (M := M) (YP := YP) (YF := YF) (YC := YC) (YN := YN) 23 1 rfl (by omega)
  exact ⟨r, fun post hp => Exists.intro 24 (hX post hp), fun post hp => Exists.intro 24 (hY post hp), hs⟩
theorem th_xpl {e : Nat} {p q f c : Int32} (he : e < 24) (hf : f = 0 ∨ f = 1) {post : SX → Prop} (h : post (upd E e 1, upd F e f, upd P e p, upd N e q, upd C e c, RC, RP, RF, RO)) : wpX_place post (E, F, P, N, C, RC, RP, RF, RO) (nI e) p q f c :=
  th_up he th_n1 (th_up he (th_nb hf) (th_up he rfl (th_up he rfl (th_up he rfl h))))
theorem th_ymk (H : th_Ch (th_S E) P N D) {e p q : Nat} {f c : Int32} (he : e < 24) (hp : th_S E p) (hF : F p = 0) (hq : q < 8) (hc : ∀ post : Int32 → Prop, post (-1) → wpY_child post (E, F, P, N, C, M, YP, YF, YC, YN) (nI p) (nI q)) (hD : D p < 5)
    (hl : ∀ post : Int32 → Prop, post (nI e) → wpY_leastFree post (E, F, P, N, C, M, YP, YF, YC, YN)) (hf : f = 0 ∨ f = 1) {post : Int32 → SY → Prop} (h : post (nI e) (upd E e 1, upd F e f, upd P e (nI p), upd N e (nI q), upd C e c, M, YP, YF, YC, YN)) :
    wpY_make post (E, F, P, N, C, M, YP, YF, YC, YN) (nI p) (nI q) f c := by
  unfold wpY_make
  refine th_yg1 ⟨p, hp.1, rfl, hp.2⟩ (br_t rfl ⟨pk_in p 24 hp.1, th_bt hp.1 hF (br_f (nI_pos (by omega)) (pk_le q 7 (fun _ => hc _ (br_t th_m1lt ?_)) (fun _ => by omega)))⟩)
  refine th_ydp H hp (pk_eq (D p) 5 (fun _ => by omega) (fun _ => hl _ (br_t (nI_pos' (by omega)) ?_)))
  exact th_up he th_n1 (th_up he (th_nb hf) (th_up he rfl (th_up he rfl (th_up he rfl h))))
/-- make, on both sides -/
theorem th_make (T : th_T E F P N C D) (v1 v2 : Int32) {f c : Int32} (hf : f = 0 ∨ f = 1) (hfc : f = 0 → c = 0) : ∃ r E' F' P' N' C' D', (∀ post : Int32 → SX → Prop, post r (E', F', P', N', C', RC, RP, RF, RO) → wpX_make post (E, F, P, N, C, RC, RP, RF, RO) v1 v2 f c) ∧
    (∀ post : Int32 → SY → Prop, post r (E', F', P', N', C', M, YP, YF, YC, YN) → wpY_make post (E, F, P, N, C, M, YP, YF, YC, YN) v1 v2 f c) ∧ th_T E' F' P' N' C' D' := by
  have H := T.1
  by_cases g : th_G E v1
  · obtain ⟨p, hp, rfl, hE⟩ := g
    have hpS : th_S E p := ⟨hp, hE⟩
    have g : th_G E (nI p) := ⟨p, hp, rfl, hE⟩
    by_cases hF : F p = 0
    · by_cases gn : th_Q 8 v2
      · obtain ⟨q, hq, rfl⟩ := gn
        have gn : th_Q 8 (nI q) := ⟨q, hq, rfl⟩
        obtain ⟨r, hX, hY, hs⟩ := th_chd (E := E) (F := F) (P := P) (N := N) (C := C) (RC := RC) (RP := RP) (RF := RF) (RO := RO) (M := M) (YP := YP) (YF := YF) (YC := YC) (YN := YN) p q
        obtain ⟨hr, hn⟩ | ⟨x, hx, x0, hr, _, _⟩ := hs
        · subst hr
          by_cases hD : D p < 5
          · obtain ⟨r, lX, lY, ls⟩ := th_lfr (E := E) (F := F) (P := P) (N := N) (C := C) (RC := RC) (RP := RP) (RF := RF) (RO := RO) (M := M) (YP := YP) (YF := YF) (YC := YC) (YN := YN)
            obtain ⟨hr, hn2⟩ | ⟨e, e1, e24, hr, he, _⟩ := ls
            · subst hr
              refine ⟨-6, E, F, P, N, C, D, fun post h => ?_, fun post h => ?_, T⟩
              · unfold wpX_make
                refine th_xg1 g (br_f th_10 ⟨pk_in p 24 hp, th_bt hp hF (th_xn1 gn (br_f th_10 (hX _ (br_t rfl ?_))))⟩)
                exact th_xdp H hpS (pk_lt (D p) 5 (fun _ => lX _ (br_t rfl h)) (fun _ => by omega))
              · unfold wpY_make
                refine th_yg1 g (br_t rfl ⟨pk_in p 24 hp, th_bt hp hF (br_f (nI_pos (by omega)) (pk_le q 7 (fun _ => hY _ (br_t th_m1lt ?_)) (fun _ => by omega)))⟩)
                exact th_ydp H hpS (pk_eq (D p) 5 (fun _ => by omega) (fun _ => lY _ (br_f (by decide) h)))
            · subst hr
              refine ⟨nI e, _, _, _, _, _, _, fun post h => ?_, fun post h => ?_, th_T_new T (by omega) e24 he hpS hF hq hD hf hfc hn⟩
              · unfold wpX_make
                refine th_xg1 g (br_f th_10 ⟨pk_in p 24 hp, th_bt hp hF (th_xn1 gn (br_f th_10 (hX _ (br_t rfl ?_))))⟩)
                exact th_xdp H hpS (pk_lt (D p) 5 (fun _ => lX _ (br_f (th_m1 (by omega)) (th_xpl e24 hf h))) (fun _ => by omega))
              · exact th_ymk H e24 hpS hF hq hY hD lY hf h
          · have hD5 := th_D5 H hpS
            refine ⟨-5, E, F, P, N, C, D, fun post h => ?_, fun post h => ?_, T⟩
            · unfold wpX_make
              refine th_xg1 g (br_f th_10 ⟨pk_in p 24 hp, th_bt hp hF (th_xn1 gn (br_f th_10 (hX _ (br_t rfl ?_))))⟩)
              exact th_xdp H hpS (pk_lt (D p) 5 (fun _ => by omega) (fun _ => h))
            · unfold wpY_make
              refine th_yg1 g (br_t rfl ⟨pk_in p 24 hp, th_bt hp hF (br_f (nI_pos (by omega)) (pk_le q 7 (fun _ => hY _ (br_t th_m1lt ?_)) (fun _ => by omega)))⟩)
              exact th_ydp H hpS (pk_eq (D p) 5 (fun _ => h) (fun _ => by omega))
        · subst hr
          have hx24 := hx.1
          refine ⟨-4, E, F, P, N, C, D, fun post h => ?_, fun post h => ?_, T⟩
          · unfold wpX_make
            exact th_xg1 g (br_f th_10 ⟨pk_in p 24 hp, th_bt hp hF (th_xn1 gn (br_f th_10 (hX _ (br_f (th_m1 (by omega)) h))))⟩)
          · unfold wpY_make
            exact th_yg1 g (br_t rfl ⟨pk_in p 24 hp, th_bt hp hF (br_f (nI_pos (by omega)) (pk_le q 7 (fun _ => hY _ (br_f (nI_pos (by omega)) h)) (fun _ => by omega)))⟩)
      · refine ⟨-3, E, F, P, N, C, D, fun post h => ?_, fun post h => ?_, T⟩
        · unfold wpX_make
          exact th_xg1 g (br_f th_10 ⟨pk_in p 24 hp, th_bt hp hF (th_xn0 gn (br_t rfl h))⟩)
        · unfold wpY_make
          refine th_yg1 g (br_t rfl ⟨pk_in p 24 hp, th_bt hp hF (br_c (fun _ => h) (fun h0 => ?_))⟩)
          obtain ⟨j, hj, rfl⟩ := nI_of h0
          exact pk_le j 7 (fun z => absurd ⟨j, by omega, rfl⟩ gn) (fun _ => h)
    · refine ⟨-2, E, F, P, N, C, D, fun post h => ?_, fun post h => ?_, T⟩
      · unfold wpX_make
        exact th_xg1 g (br_f th_10 ⟨pk_in p 24 hp, th_bf hp hF h⟩)
      · unfold wpY_make
        exact th_yg1 g (br_t rfl ⟨pk_in p 24 hp, th_bf hp hF h⟩)
  · refine ⟨-1, E, F, P, N, C, D, fun post h => ?_, fun post h => ?_, T⟩
    · unfold wpX_make
      exact th_xg0 g (br_t rfl h)
    · unfold wpY_make
      exact th_yg0 g (br_f th_10 h)
end
theorem i_vc_directory {k : Nat} {u : SX} {v : SY} (I : i_Rel k u v) (hk : k + 4 ≤ 2048) (v1 : Int32) (v2 : Int32) : wpX_directory (fun r u' => wpY_directory (fun r' v' => r' = r ∧ i_Rel (k + 4) u' v') v v1 v2) u v1 v2 := by
  obtain ⟨E, F, P, N, C, RC, RP, RF, RO, M, YP, YF, YC, YN, D, rfl, rfl, T, Sn⟩ := I
  obtain ⟨r, E', F', P', N', C', D', hX, hY, T'⟩ := th_make (RC := RC) (RP := RP) (RF := RF) (RO := RO) (M := M) (YP := YP) (YF := YF) (YC := YC) (YN := YN) T v1 v2 (f := 0) (c := 0) (Or.inl rfl) (fun _ => rfl)
  unfold wpX_directory wpY_directory
  exact hX _ (hY _ ⟨rfl, th_rel T' Sn⟩)
theorem i_vc_file {k : Nat} {u : SX} {v : SY} (I : i_Rel k u v) (hk : k + 4 ≤ 2048) (v1 : Int32) (v2 : Int32) (v3 : Int32) : wpX_file (fun r u' => wpY_file (fun r' v' => r' = r ∧ i_Rel (k + 4) u' v') v v1 v2 v3) u v1 v2 v3 := by
  obtain ⟨E, F, P, N, C, RC, RP, RF, RO, M, YP, YF, YC, YN, D, rfl, rfl, T, Sn⟩ := I
  obtain ⟨r, E', F', P', N', C', D', hX, hY, T'⟩ := th_make (RC := RC) (RP := RP) (RF := RF) (RO := RO) (M := M) (YP := YP) (YF := YF) (YC := YC) (YN := YN) T v1 v2 (f := 1) (c := v3) (Or.inr rfl) (fun z => absurd z th_10)
  unfold wpX_file wpY_file
  exact hX _ (hY _ ⟨rfl, th_rel T' Sn⟩)
end
section
/-! write, kind, content, path, entries -/
theorem i_vc_write {k : Nat} {u : SX} {v : SY} (I : i_Rel k u v) (hk : k + 4 ≤ 2048) (v1 : Int32) (v2 : Int32) : wpX_write (fun r u' => wpY_write (fun r' v' => r' = r ∧ i_Rel (k + 4) u' v') v v1 v2) u v1 v2 := by
  obtain ⟨E, F, P, N, C, RC, RP, RF, RO, M, YP, YF, YC, YN, D, rfl, rfl, T, Sn⟩ := I
  unfold wpX_write wpY_write
  by_cases g : th_G E v1
  · obtain ⟨e, he, rfl, hE⟩ := g
    have g : th_G E (nI e) := ⟨e, he, rfl, hE⟩
    by_cases hF : F e = 0
    · exact th_xg1 g (br_f th_10 ⟨pk_in e 24 he, th_bt he hF (th_yg1 g (br_t rfl ⟨pk_in e 24 he, th_bt he hF ⟨rfl, th_rel T Sn⟩⟩))⟩)
    · exact th_xg1 g (br_f th_10 ⟨pk_in e 24 he, th_bf he hF (th_up he rfl (th_yg1 g (br_t rfl ⟨pk_in e 24 he, th_bf he hF (th_up he rfl ⟨rfl, th_rel (th_T_wr T hF) Sn⟩)⟩)))⟩)
  · exact th_xg0 g (br_t rfl (th_yg0 g (br_f th_10 ⟨rfl, th_rel T Sn⟩)))
theorem i_vc_kind {k : Nat} {u : SX} {v : SY} (I : i_Rel k u v) (hk : k + 4 ≤ 2048) (v1 : Int32) : wpX_kind (fun r => wpY_kind (fun r' => r' = r ∧ i_Rel (k + 4) u v) v v1) u v1 := by
  have I' : i_Rel (k + 4) u v := I
  obtain ⟨E, F, P, N, C, RC, RP, RF, RO, M, YP, YF, YC, YN, D, rfl, rfl, T, Sn⟩ := I
  unfold wpX_kind wpY_kind
  by_cases g : th_G E v1
  · obtain ⟨e, he, rfl, hE⟩ := g
    have g : th_G E (nI e) := ⟨e, he, rfl, hE⟩
    by_cases hF : F e = 0
    · exact th_xg1 g (br_f th_10 ⟨pk_in e 24 he, th_bt he hF (th_yg1 g (br_t rfl ⟨pk_in e 24 he, th_bt he hF ⟨rfl, I'⟩⟩))⟩)
    · exact th_xg1 g (br_f th_10 ⟨pk_in e 24 he, th_bf he hF (th_yg1 g (br_t rfl ⟨pk_in e 24 he, th_bf he hF ⟨rfl, I'⟩⟩))⟩)
  · exact th_xg0 g (br_t rfl (th_yg0 g (br_f th_10 ⟨rfl, I'⟩)))
theorem i_vc_content {k : Nat} {u : SX} {v : SY} (I : i_Rel k u v) (hk : k + 4 ≤ 2048) (v1 : Int32) : wpX_content (fun r => wpY_content (fun r' => r' = r ∧ i_Rel (k + 4) u v) v v1) u v1 := by
  have I' : i_Rel (k + 4) u v := I
  obtain ⟨E, F, P, N, C, RC, RP, RF, RO, M, YP, YF, YC, YN, D, rfl, rfl, T, Sn⟩ := I
  unfold wpX_content wpY_content
  by_cases g : th_G E v1
  · obtain ⟨e, he, rfl, hE⟩ := g
    have g : th_G E (nI e) := ⟨e, he, rfl, hE⟩
    by_cases hF : F e = 0
    · have hC := T.2.2.2.2.1 e ⟨he, hE⟩ hF
      exact th_xg1 g (br_f th_10 ⟨pk_in e 24 he, th_yg1 g (br_t rfl ⟨pk_in e 24 he, th_bt he hF ⟨by rw [th_cl he]; exact hC.symm, I'⟩⟩)⟩)
    · exact th_xg1 g (br_f th_10 ⟨pk_in e 24 he, th_yg1 g (br_t rfl ⟨pk_in e 24 he, th_bf he hF ⟨pk_in e 24 he, rfl, I'⟩⟩)⟩)
  · exact th_xg0 g (br_t rfl (th_yg0 g (br_f th_10 ⟨rfl, I'⟩)))
theorem i_vc_path {k : Nat} {u : SX} {v : SY} (I : i_Rel k u v) (hk : k + 4 ≤ 2048) (v1 : Int32) : wpX_path (fun r => wpY_path (fun r' => r' = r ∧ i_Rel (k + 4) u v) v v1) u v1 := by
  have I' : i_Rel (k + 4) u v := I
  obtain ⟨E, F, P, N, C, RC, RP, RF, RO, M, YP, YF, YC, YN, D, rfl, rfl, T, Sn⟩ := I
  unfold wpX_path wpY_path
  by_cases g : th_G E v1
  · obtain ⟨e, he, rfl, hE⟩ := g
    have g : th_G E (nI e) := ⟨e, he, rfl, hE⟩
    refine th_xg1 g (br_f th_10 ?_)
    refine th_xpb (t := 0) T.1 (by omega) ⟨he, hE⟩ ?_
    refine th_yg1 g (br_t rfl ?_)
    refine th_ypb (t := 0) T.1 (by omega) ⟨he, hE⟩ ?_
    exact ⟨rfl, I'⟩
  · exact th_xg0 g (br_t rfl (th_yg0 g (br_f th_10 ⟨rfl, I'⟩)))
section
variable {S : Nat → Prop} {D : Nat → Nat} {E F P N C RC RP RF RO M YP YF YC YN : Nat → Int32}
/-- how many entries are there -/
theorem th_enl {postX postY : Int32 → Prop} : ∀ d j, j + d = 24 → (postX (nI (cn_c (fun x => ¬ E x = 0) 24)) → wX_entries_4 postX E F P N C RC RP RF RO (d + 1) (nI (cn_c (fun x => ¬ E x = 0) j)) (nI j)) ∧
    (postY (nI (cn_c (fun x => ¬ E x = 0) 24)) → wY_entries_4 postY E F P N C M YP YF YC YN (d + 1) (nI (cn_c (fun x => ¬ E x = 0) j)) (nI j)) := by
  intro d
  induction d with
  | zero =>
    intro j hj
    have : j = 24 := by omega
    subst this
    exact ⟨fun hp => pk_le 24 24 (fun _ => hp) (fun _ => by omega), fun hp => pk_le 24 24 (fun _ => hp) (fun _ => by omega)⟩
  | succ d ih =>
    intro j hj
    have j24 : j < 24 := by omega
    obtain ⟨hX, hY⟩ := ih (j + 1) (by omega)
    by_cases hE : E j = 0
    · rw [cn_s0 (B := fun x => ¬ E x = 0) (fun z => z hE)] at hX hY
      exact ⟨fun hp => pk_le 24 j (fun _ => by omega) (fun _ => ⟨pk_in j 24 j24, th_bt j24 hE (nm_r (nI_1 j) (hX hp))⟩), fun hp => pk_le 24 j (fun _ => by omega) (fun _ => ⟨pk_in j 24 j24, th_bt j24 hE (nm_r (nI_1 j) (hY hp))⟩)⟩
    · rw [cn_s1 (B := fun x => ¬ E x = 0) hE] at hX hY
      exact ⟨fun hp => pk_le 24 j (fun _ => by omega) (fun _ => ⟨pk_in j 24 j24, th_bf j24 hE (nm_r (nI_1 _) (nm_r (nI_1 j) (hX hp)))⟩), fun hp => pk_le 24 j (fun _ => by omega) (fun _ => ⟨pk_in j 24 j24, th_bf j24 hE (nm_r (nI_1 _) (nm_r (nI_1 j) (hY hp)))⟩)⟩
/-- the entry with a path below t -/
def th_F (E P N : Nat → Int32) (t q : Nat) (r : Int32) : Prop := (r = -1 ∧ ∀ x, th_S E x → ¬ th_pl P N t x = some q) ∨ (∃ x, th_S E x ∧ r = nI x ∧ th_pl P N t x = some q)
theorem th_xel (H : th_Ch (th_S E) P N D) {t q : Nat} (ht : t < 24) (hq : q < 2 ^ 31) {post : Int32 → Prop} (h : ∀ r, th_F E P N t q r → post r) : ∀ d j, j + d = 24 → (∀ x, th_S E x → x < j → ¬ th_pl P N t x = some q) →
    wX_entryBelow_8 post (nI t) (nI q) E F P N C RC RP RF RO (d + 1) (nI j) := by
  intro d
  induction d with
  | zero =>
    intro j hj hb
    exact pk_le 24 j (fun _ => h (-1) (Or.inl ⟨rfl, fun x hx => hb x hx (by have := hx.1; omega)⟩)) (fun _ => by omega)
  | succ d ih =>
    intro j hj hb
    have j24 : j < 24 := by omega
    refine pk_le 24 j (fun _ => by omega) (fun _ => ⟨pk_in j 24 j24, ?_⟩)
    by_cases hE : E j = 0
    · refine th_bt j24 hE (nm_r (nI_1 j) (ih (j + 1) (by omega) (fun x hx hxj => ?_)))
      by_cases z : x = j
      · subst z; exact absurd hE hx.2
      · exact hb x hx (by omega)
    · have hS : th_S E j := ⟨j24, hE⟩
      refine th_bf j24 hE (th_xpb H ht hS ?_)
      have next : ¬ th_pl P N t j = some q → wX_entryBelow_8 post (nI t) (nI q) E F P N C RC RP RF RO (d + 1) (nI (j + 1)) := by
        intro hn
        refine ih (j + 1) (by omega) (fun x hx hxj => ?_)
        by_cases z : x = j
        · subst z; exact hn
        · exact hb x hx (by omega)
      cases g : th_pl P N t j with
      | none => exact br_f (th_m1' hq) (nm_r (nI_1 j) (next (by rw [g]; exact fun z => nomatch z)))
      | some y =>
        have hy := (th_pl_D H j hS y g).1
        refine pk_eq y q (fun z => ?_) (fun z => ?_)
        · subst z; exact h (nI j) (Or.inr ⟨j, hS, rfl, g⟩)
        · exact nm_r (nI_1 j) (next (by rw [g]; exact fun w => z (Option.some.inj w)))
theorem th_xe (H : th_Ch (th_S E) P N D) {t q : Nat} (ht : t < 24) (hq : q < 2 ^ 31) {post : Int32 → Prop} (h : ∀ r, th_F E P N t q r → post r) : wpX_entryBelow post (E, F, P, N, C, RC, RP, RF, RO) (nI t) (nI q) :=
  br_t (nI_pos' hq) (Exists.intro 25 (th_xel H ht hq h 24 0 rfl (fun x _ hx => by omega)))
theorem th_yel (H : th_Ch (th_S E) P N D) {q : Nat} (hq : q < 2 ^ 31) {post : Int32 → Prop} (h : ∀ r, th_F E P N 0 q r → post r) : ∀ d j, j + d = 24 → (∀ x, th_S E x → x < j → ¬ th_pl P N 0 x = some q) →
    wY_find_2 post (nI q) E F P N C M YP YF YC YN (d + 1) (nI j) := by
  intro d
  induction d with
  | zero =>
    intro j hj hb
    exact pk_le 24 j (fun _ => h (-1) (Or.inl ⟨rfl, fun x hx => hb x hx (by have := hx.1; omega)⟩)) (fun _ => by omega)
  | succ d ih =>
    intro j hj hb
    have j24 : j < 24 := by omega
    refine pk_le 24 j (fun _ => by omega) (fun _ => ⟨pk_in j 24 j24, ?_⟩)
    by_cases hE : E j = 0
    · refine th_bt j24 hE (nm_r (nI_1 j) (ih (j + 1) (by omega) (fun x hx hxj => ?_)))
      by_cases z : x = j
      · subst z; exact absurd hE hx.2
      · exact hb x hx (by omega)
    · have hS : th_S E j := ⟨j24, hE⟩
      refine th_bf j24 hE (th_ypb (t := 0) H (by omega) hS ?_)
      have next : ¬ th_pl P N 0 j = some q → wY_find_2 post (nI q) E F P N C M YP YF YC YN (d + 1) (nI (j + 1)) := by
        intro hn
        refine ih (j + 1) (by omega) (fun x hx hxj => ?_)
        by_cases z : x = j
        · subst z; exact hn
        · exact hb x hx (by omega)
      cases g : th_pl P N 0 j with
      | none => exact br_f (th_m1' hq) (nm_r (nI_1 j) (next (by rw [g]; exact fun z => nomatch z)))
      | some y =>
        have hy := (th_pl_D H j hS y g).1
        refine pk_eq y q (fun z => ?_) (fun z => ?_)
        · subst z; exact h (nI j) (Or.inr ⟨j, hS, rfl, g⟩)
        · exact nm_r (nI_1 j) (next (by rw [g]; exact fun w => z (Option.some.inj w)))
theorem th_ye (H : th_Ch (th_S E) P N D) {q : Nat} (hq : q < 2 ^ 31) {post : Int32 → Prop} (h : ∀ r, th_F E P N 0 q r → post r) : wpY_find post (E, F, P, N, C, M, YP, YF, YC, YN) (nI q) :=
  Exists.intro 25 (th_yel H hq h 24 0 rfl (fun x _ hx => by omega))
/-- no path is negative -/
theorem th_ynl (H : th_Ch (th_S E) P N D) {v : Int32} (hv : v < 0) {post : Int32 → Prop} (h : post (-1)) : ∀ d j, j + d = 24 → wY_find_2 post v E F P N C M YP YF YC YN (d + 1) (nI j) := by
  intro d
  induction d with
  | zero => intro j hj; exact pk_le 24 j (fun _ => h) (fun _ => by omega)
  | succ d ih =>
    intro j hj
    have j24 : j < 24 := by omega
    refine pk_le 24 j (fun _ => by omega) (fun _ => ⟨pk_in j 24 j24, ?_⟩)
    by_cases hE : E j = 0
    · exact th_bt j24 hE (nm_r (nI_1 j) (ih (j + 1) (by omega)))
    · have hS : th_S E j := ⟨j24, hE⟩
      refine th_bf j24 hE (th_ypb (t := 0) H (by omega) hS ?_)
      obtain ⟨q, g⟩ := th_pl_root H j hS
      have hq := (th_pl_D H j hS q g).1
      rw [g]
      exact br_f (fun z => nI_pos (n := q) (by omega) (by rw [show nI q = v from z]; exact hv)) (nm_r (nI_1 j) (ih (j + 1) (by omega)))
theorem th_Fu (H : th_Ch (th_S E) P N D) (U : th_U (th_S E) P N) {t q : Nat} {r r' : Int32} (h : th_F E P N t q r) (h' : th_F E P N t q r') : r = r' := by
  obtain ⟨a, b⟩ | ⟨x, a, b, c⟩ := h
  · obtain ⟨a', b'⟩ | ⟨x', a', b', c'⟩ := h'
    · rw [a, a']
    · exact absurd c' (b x' a')
  · obtain ⟨a', b'⟩ | ⟨x', a', b', c'⟩ := h'
    · exact absurd c (b' x a)
    · have := th_pl_inj H U x a x' q a' c c'
      rw [b, b', this]
end
theorem i_vc_entries {k : Nat} {u : SX} {v : SY} (I : i_Rel k u v) (hk : k + 4 ≤ 2048) : wpX_entries (fun r => wpY_entries (fun r' => r' = r ∧ i_Rel (k + 4) u v) v) u := by
  have I' : i_Rel (k + 4) u v := I
  obtain ⟨E, F, P, N, C, RC, RP, RF, RO, M, YP, YF, YC, YN, D, rfl, rfl, T, Sn⟩ := I
  refine Exists.intro 25 ((th_enl (M := M) (YP := YP) (YF := YF) (YC := YC) (YN := YN) (postY := fun _ => True) 24 0 rfl).1 ?_)
  exact Exists.intro 25 ((th_enl (RC := RC) (RP := RP) (RF := RF) (RO := RO) (postX := fun _ => True) 24 0 rfl).2 ⟨rfl, I'⟩)
theorem i_vc_lookup {k : Nat} {u : SX} {v : SY} (I : i_Rel k u v) (hk : k + 4 ≤ 2048) (v1 : Int32) : wpX_lookup (fun r => wpY_lookup (fun r' => r' = r ∧ i_Rel (k + 4) u v) v v1) u v1 := by
  have I' : i_Rel (k + 4) u v := I
  obtain ⟨E, F, P, N, C, RC, RP, RF, RO, M, YP, YF, YC, YN, D, rfl, rfl, T, Sn⟩ := I
  have H := T.1
  unfold wpX_lookup wpY_lookup
  by_cases h0 : v1 < 0
  · refine br_f (Int32.not_le.mpr h0) ?_
    exact Exists.intro 25 (th_ynl H h0 ⟨rfl, I'⟩ 24 0 rfl)
  · obtain ⟨q, hq, rfl⟩ := nI_of h0
    refine th_xe (t := 0) H (by omega) hq (fun r hr => ?_)
    refine th_ye H hq (fun r' hr' => ?_)
    exact ⟨th_Fu H T.2.2.2.2.2.2 hr' hr, I'⟩
end
section
/-! remove: both sides take away what is below t -/
section
variable {D : Nat → Nat} {E F P N C RC RP RF RO M YP YF YC YN : Nat → Int32}
def th_B (E P N : Nat → Int32) (t : Nat) (x : Nat) : Prop := th_S E x ∧ ¬ th_pl P N t x = none
def th_K (E P N : Nat → Int32) (t i : Nat) (E' : Nat → Int32) : Prop := ∀ x, (x < i ∧ th_B E P N t x → E' x = 0) ∧ (¬ (x < i ∧ th_B E P N t x) → E' x = E x)
theorem th_Ku {t i : Nat} {E' E'' : Nat → Int32} (h : th_K E P N t i E') (h' : th_K E P N t i E'') : E' = E'' := by
  funext x
  by_cases z : x < i ∧ th_B E P N t x
  · rw [(h x).1 z, (h' x).1 z]
  · rw [(h x).2 z, (h' x).2 z]
theorem th_K0 {t i : Nat} {E' : Nat → Int32} (h : th_K E P N t i E') (hn : ¬ th_B E P N t i) : th_K E P N t (i + 1) E' := by
  intro x
  refine ⟨fun a => (h x).1 ⟨?_, a.2⟩, fun a => (h x).2 (fun b => a ⟨by omega, b.2⟩)⟩
  by_cases z : x = i
  · subst z; exact absurd a.2 hn
  · have := a.1; omega
theorem th_K1 {t i : Nat} {E' : Nat → Int32} (h : th_K E P N t i E') (hn : th_B E P N t i) : th_K E P N t (i + 1) (upd E' i 0) := by
  intro x
  by_cases z : x = i
  · subst z
    exact ⟨fun _ => pk_us, fun a => absurd ⟨by omega, hn⟩ a⟩
  · rw [pk_un z]
    exact ⟨fun a => (h x).1 ⟨by have := a.1; omega, a.2⟩, fun a => (h x).2 (fun b => a ⟨by omega, b.2⟩)⟩
theorem th_KT (T : th_T E F P N C D) {t : Nat} {E' : Nat → Int32} (ht : ¬ t = 0) (h : th_K E P N t 24 E') : th_T E' F P N C D := by
  refine th_T_rem T ht (fun x => ?_)
  by_cases b : th_B E P N t x
  · refine ⟨fun a => absurd ((h x).1 ⟨a.1, b⟩) a.2, fun a => absurd a.2 b.2⟩
  · have e := (h x).2 (fun z => b z.2)
    constructor
    · intro a
      have hS : th_S E x := ⟨a.1, by rw [← e]; exact a.2⟩
      refine ⟨hS, ?_⟩
      cases g : th_pl P N t x with
      | none => rfl
      | some r => exact absurd ⟨hS, by rw [g]; exact fun z => nomatch z⟩ b
    · intro a
      exact ⟨a.1.1, by rw [e]; exact a.1.2⟩
theorem th_xrm (H : th_Ch (th_S E) P N D) {t : Nat} (ht : t < 24) {post : Int32 → SX → Prop} (h : ∀ E', th_K E P N t 24 E' → post (nI (cn_c (th_B E P N t) 24)) (E', F, P, N, C, RC, RP, RF, RO)) : ∀ d i E', i + d = 24 → th_K E P N t i E' →
    wX_remove_21 post (nI t) (d + 1) (nI (cn_c (th_B E P N t) i)) (nI i) E' F P N C RC RP RF RO := by
  intro d
  induction d with
  | zero =>
    intro i E' hi hK
    have : i = 24 := by omega
    subst this
    exact pk_le 24 24 (fun _ => h E' hK) (fun _ => by omega)
  | succ d ih =>
    intro i E' hi hK
    have i24 : i < 24 := by omega
    have eE : E' i = E i := (hK i).2 (fun z => by omega)
    refine pk_le 24 i (fun _ => by omega) (fun _ => ⟨pk_in i 24 i24, ?_⟩)
    have skip : ¬ th_B E P N t i → wX_remove_21 post (nI t) (d + 1) (nI (cn_c (th_B E P N t) i)) (nI (i + 1)) E' F P N C RC RP RF RO := by
      intro hn
      have := ih (i + 1) E' (by omega) (th_K0 hK hn)
      rw [cn_s0 hn] at this
      exact this
    by_cases hE : E i = 0
    · exact th_bt i24 (eE.trans hE) (nm_r (nI_1 i) (skip (fun z => z.1.2 hE)))
    · have hS : th_S E i := ⟨i24, hE⟩
      refine th_bf i24 (by rw [eE]; exact hE) (th_xpb H ht hS ?_)
      cases g : th_pl P N t i with
      | none => exact br_t rfl (nm_r (nI_1 i) (skip (fun z => z.2 g)))
      | some q =>
        have hq := (th_pl_D H i hS q g).1
        have hB : th_B E P N t i := ⟨hS, by rw [g]; exact fun z => nomatch z⟩
        refine br_f (th_m1 (by omega)) (th_up i24 th_n0 (nm_r (nI_1 _) (nm_r (nI_1 i) ?_)))
        have := ih (i + 1) (upd E' i 0) (by omega) (th_K1 hK hB)
        rw [cn_s1 hB] at this
        exact this
theorem th_yrm2 {t : Nat} {c : Int32} {M' : Nat → Int32} (hM : ∀ x, x < 24 → (th_B E P N t x → ¬ M' x = 0) ∧ (¬ th_B E P N t x → M' x = 0)) {post : Int32 → SY → Prop} (h : ∀ E', th_K E P N t 24 E' → post c (E', F, P, N, C, M', YP, YF, YC, YN)) : ∀ d i E', i + d = 24 → th_K E P N t i E' →
    wY_remove_76 post c (d + 1) (nI i) E' F P N C M' YP YF YC YN := by
  intro d
  induction d with
  | zero =>
    intro i E' hi hK
    have : i = 24 := by omega
    subst this
    exact pk_le 24 24 (fun _ => h E' hK) (fun _ => by omega)
  | succ d ih =>
    intro i E' hi hK
    have i24 : i < 24 := by omega
    refine pk_le 24 i (fun _ => by omega) (fun _ => ⟨pk_in i 24 i24, ?_⟩)
    by_cases b : th_B E P N t i
    · exact th_bf i24 ((hM i i24).1 b) (th_up i24 th_n0 (nm_r (nI_1 i) (ih (i + 1) _ (by omega) (th_K1 hK b))))
    · exact th_bt i24 ((hM i i24).2 b) (nm_r (nI_1 i) (ih (i + 1) _ (by omega) (th_K0 hK b)))
theorem th_yrm (H : th_Ch (th_S E) P N D) {t : Nat} (ht : t < 24) {post : Int32 → SY → Prop} (h : ∀ E' M', th_K E P N t 24 E' → post (nI (cn_c (th_B E P N t) 24)) (E', F, P, N, C, M', YP, YF, YC, YN)) : ∀ d i M', i + d = 24 →
    (∀ x, x < i → (th_B E P N t x → ¬ M' x = 0) ∧ (¬ th_B E P N t x → M' x = 0)) →
    wY_remove_21 post (nI t) (d + 1) (nI (cn_c (th_B E P N t) i)) (nI i) E F P N C M' YP YF YC YN := by
  intro d
  induction d with
  | zero =>
    intro i M' hi hM
    have : i = 24 := by omega
    subst this
    refine pk_le 24 24 (fun _ => Exists.intro 25 ?_) (fun _ => by omega)
    exact th_yrm2 (t := t) hM (fun E' hK => h E' M' hK) 24 0 E rfl (fun x => ⟨fun z => by omega, fun _ => rfl⟩)
  | succ d ih =>
    intro i M' hi hM
    have i24 : i < 24 := by omega
    refine pk_le 24 i (fun _ => by omega) (fun _ => ⟨pk_in i 24 i24, ?_⟩)
    have skip : ¬ th_B E P N t i → wY_remove_54 post (wY_remove_21 post (nI t) (d + 1)) (nI t) (nI (cn_c (th_B E P N t) i)) (nI i) (nI i) E F P N C M' YP YF YC YN := by
      intro hn
      unfold wY_remove_54
      refine th_up i24 th_n0 ⟨pk_in i 24 i24, th_bt i24 pk_us (nm_r (nI_1 i) ?_)⟩
      have := ih (i + 1) (upd M' i 0) (by omega) (fun x hx => by
        by_cases z : x = i
        · subst z; exact ⟨fun z => absurd z hn, fun _ => pk_us⟩
        · rw [pk_un z]; exact hM x (by omega))
      rw [cn_s0 hn] at this
      exact this
    by_cases hE : E i = 0
    · exact th_bt i24 hE (skip (fun z => z.1.2 hE))
    · have hS : th_S E i := ⟨i24, hE⟩
      refine th_bf i24 hE (th_ypb H ht hS ?_)
      cases g : th_pl P N t i with
      | none => exact br_t th_m1lt (skip (fun z => z.2 g))
      | some q =>
        have hq := (th_pl_D H i hS q g).1
        have hB : th_B E P N t i := ⟨hS, by rw [g]; exact fun z => nomatch z⟩
        refine br_f (nI_pos (by omega)) ?_
        unfold wY_remove_55
        refine th_up i24 th_n1 ⟨pk_in i 24 i24, th_bf i24 (by rw [pk_us]; exact th_10) (nm_r (nI_1 _) (nm_r (nI_1 i) ?_))⟩
        have := ih (i + 1) (upd M' i 1) (by omega) (fun x hx => by
          by_cases z : x = i
          · subst z; exact ⟨fun _ => by rw [pk_us]; exact th_10, fun z => absurd hB z⟩
          · rw [pk_un z]; exact hM x (by omega))
        rw [cn_s1 hB] at this
        exact this
/-! move: the height of what is moved -/
def th_H (E P N : Nat → Int32) (D : Nat → Nat) (t h : Nat) : Prop := (∃ x, th_B E P N t x ∧ D x = D t + h) ∧ ∀ x, th_B E P N t x → D x ≤ D t + h
theorem th_Hu {t h h' : Nat} (a : th_H E P N D t h) (b : th_H E P N D t h') : h = h' := by
  obtain ⟨⟨x, hx, ex⟩, ax⟩ := a
  obtain ⟨⟨y, hy, ey⟩, ay⟩ := b
  have := ax y hy
  have := ay x hx
  omega
theorem th_Bq {t x : Nat} (h : th_B E P N t x) : ∃ q, th_pl P N t x = some q := by
  cases g : th_pl P N t x with
  | none => exact absurd g h.2
  | some q => exact ⟨q, rfl⟩
theorem th_qB {t x q : Nat} (hS : th_S E x) (h : th_pl P N t x = some q) : th_B E P N t x := ⟨hS, by rw [h]; exact fun z => nomatch z⟩
theorem th_xht (H : th_Ch (th_S E) P N D) {t : Nat} (hS : th_S E t) (t0 : ¬ t = 0) {post : Int32 → Prop} (h : ∀ n, th_H E P N D t n → post (nI n)) : wpX_heightOf post (E, F, P, N, C, RC, RP, RF, RO) (nI t) := by
  have key : ∀ d i m, i + d = 24 → 1 ≤ i → m < 59049 → (∃ x, th_S E x ∧ th_pl P N t x = some m) → (∀ x q, x < i → th_S E x → th_pl P N t x = some q → q ≤ m) →
      wX_heightOf_4 post (nI t) E F P N C RC RP RF RO (d + 1) (nI m) (nI i) := by
    intro d
    induction d with
    | zero =>
      intro i m hi _ hm he ha
      refine pk_le 24 i (fun _ => th_xln hm (h _ ⟨?_, ?_⟩)) (fun _ => by omega)
      · obtain ⟨x, hx, g⟩ := he
        exact ⟨x, th_qB hx g, (th_pl_D H x hx m g).2⟩
      · intro x hx
        obtain ⟨q, g⟩ := th_Bq hx
        have := th_lnM (ha x q (by have := hx.1.1; omega) hx.1 g)
        rw [(th_pl_D H x hx.1 q g).2]
        omega
    | succ d ih =>
      intro i m hi h1 hm he ha
      have i24 : i < 24 := by omega
      refine pk_le 24 i (fun _ => by omega) (fun _ => ⟨pk_in i 24 i24, ?_⟩)
      have skip : (∀ q, th_S E i → th_pl P N t i = some q → q ≤ m) → wX_heightOf_4 post (nI t) E F P N C RC RP RF RO (d + 1) (nI m) (nI (i + 1)) := by
        intro hn
        refine ih (i + 1) m (by omega) (by omega) hm he (fun x q hx hxS g => ?_)
        by_cases z : x = i
        · subst z; exact hn q hxS g
        · exact ha x q (by omega) hxS g
      by_cases hE : E i = 0
      · exact th_bt i24 hE (nm_r (nI_1 i) (skip (fun q z => absurd hE z.2)))
      · have hiS : th_S E i := ⟨i24, hE⟩
        refine th_bf i24 hE (th_xpb H hS.1 hiS ?_)
        cases g : th_pl P N t i with
        | none => exact br_t (th_m1le (by omega)) (nm_r (nI_1 i) (skip (fun q _ z => by rw [g] at z; cases z)))
        | some y =>
          have hy := (th_pl_D H i hiS y g).1
          refine pk_le y m (fun z => nm_r (nI_1 i) (skip (fun q _ w => ?_))) (fun z => nm_r (nI_1 i) ?_)
          · rw [g] at w; cases w; exact z
          · refine ih (i + 1) y (by omega) (by omega) hy ⟨i, hiS, g⟩ (fun x q hx hxS w => ?_)
            by_cases e : x = i
            · subst e; rw [g] at w; cases w; omega
            · have := ha x q (by omega) hxS w; omega
  refine Exists.intro 24 (key 23 1 0 rfl (by omega) (by omega) ⟨t, hS, th_pl_t⟩ (fun x q hx hxS g => ?_))
  have : x = 0 := by omega
  subst this
  rw [th_pl_0 t0] at g; cases g
theorem th_yht (H : th_Ch (th_S E) P N D) {t : Nat} (hS : th_S E t) {post : Int32 → Prop} (h : ∀ n, th_H E P N D t n → post (nI n)) : wpY_height post (E, F, P, N, C, M, YP, YF, YC, YN) (nI t) := by
  unfold wpY_height
  refine th_ydp H hS ?_
  have key : ∀ d i m, i + d = 24 → (∃ x, th_B E P N t x ∧ D x = D t + m) → (∀ x, x < i → th_B E P N t x → D x ≤ D t + m) →
      wY_height_11 post (nI t) (nI (D t)) E F P N C M YP YF YC YN (d + 1) (nI m) (nI i) := by
    intro d
    induction d with
    | zero =>
      intro i m hi he ha
      exact pk_le 24 i (fun _ => h m ⟨he, fun x hx => ha x (by have := hx.1.1; omega) hx⟩) (fun _ => by omega)
    | succ d ih =>
      intro i m hi he ha
      have i24 : i < 24 := by omega
      have hm : m ≤ 5 := by
        obtain ⟨x, hx, e⟩ := he
        have := th_D5 H hx.1
        omega
      refine pk_le 24 i (fun _ => by omega) (fun _ => ⟨pk_in i 24 i24, ?_⟩)
      have skip : (th_B E P N t i → D i ≤ D t + m) → wY_height_11 post (nI t) (nI (D t)) E F P N C M YP YF YC YN (d + 1) (nI m) (nI (i + 1)) := by
        intro hn
        refine ih (i + 1) m (by omega) he (fun x hx hxS => ?_)
        by_cases z : x = i
        · subst z; exact hn hxS
        · exact ha x (by omega) hxS
      by_cases hE : E i = 0
      · exact th_bt i24 hE (nm_r (nI_1 i) (skip (fun z => absurd hE z.1.2)))
      · have hiS : th_S E i := ⟨i24, hE⟩
        refine th_bf i24 hE (th_ypb H hS.1 hiS ?_)
        cases g : th_pl P N t i with
        | none => exact br_t th_m1lt (nm_r (nI_1 i) (skip (fun z => absurd g z.2)))
        | some y =>
          have hy := (th_pl_D H i hiS y g)
          have hB := th_qB hiS g
          have h5 := th_D5 H hiS
          refine br_f (nI_pos (by omega)) (th_ydp H hiS ?_)
          refine pk_le (D i - D t) m (fun z => nm_r (nI_1 i) (skip (fun _ => by omega))) (fun z => th_ydp H hiS (nm_r (pk_sub (by omega)) (nm_r (nI_1 i) ?_))) (pk_sub (by omega))
          refine ih (i + 1) (D i - D t) (by omega) ⟨i, hB, by omega⟩ (fun x hx hxS => ?_)
          by_cases e : x = i
          · subst e; omega
          · have := ha x (by omega) hxS; omega
  exact Exists.intro 25 (key 24 0 0 rfl ⟨t, th_qB hS th_pl_t, by omega⟩ (fun x hx => by omega))
end
theorem i_vc_remove {k : Nat} {u : SX} {v : SY} (I : i_Rel k u v) (hk : k + 4 ≤ 2048) (v1 : Int32) : wpX_remove (fun r u' => wpY_remove (fun r' v' => r' = r ∧ i_Rel (k + 4) u' v') v v1) u v1 := by
  obtain ⟨E, F, P, N, C, RC, RP, RF, RO, M, YP, YF, YC, YN, D, rfl, rfl, T, Sn⟩ := I
  unfold wpX_remove wpY_remove
  by_cases g : th_G E v1
  · obtain ⟨e, he, rfl, hE⟩ := g
    have g : th_G E (nI e) := ⟨e, he, rfl, hE⟩
    by_cases z : e = 0
    · subst z
      exact th_xg1 g (br_f th_10 (br_t rfl (th_yg1 g (br_t rfl (br_t rfl ⟨rfl, th_rel T Sn⟩)))))
    · have hn : ¬ nI e = 0 := nI_ne0 (by omega) (by omega)
      refine th_xg1 g (br_f th_10 (br_f hn (Exists.intro 24 ?_)))
      have h0 : ¬ th_B E P N e 0 := fun b => b.2 (th_pl_0 z)
      have c1 : cn_c (th_B E P N e) 1 = 0 := cn_s0 h0
      have := th_xrm (E := E) (P := P) (N := N) (F := F) (C := C) (RC := RC) (RP := RP) (RF := RF) (RO := RO) (post := (fun r u' => wpY_remove (fun r' v' => r' = r ∧ i_Rel (k + 4) u' v') (E, F, P, N, C, M, YP, YF, YC, YN) (nI e))) T.1 he (fun E' hK => ?_) 23 1 E rfl (fun x => ⟨fun w => ?_, fun _ => rfl⟩)
      · rw [c1] at this; exact this
      · unfold wpY_remove
        refine th_yg1 g (br_t rfl (br_f hn (Exists.intro 25 ?_)))
        refine th_yrm T.1 he (fun E'' M' hK' => ?_) 24 0 M rfl (fun x hx => by omega)
        rw [th_Ku hK' hK]
        exact ⟨rfl, th_rel (th_KT T z hK) Sn⟩
      · have : x = 0 := by omega
        subst this
        exact absurd w.2 h0
  · exact th_xg0 g (br_t rfl (th_yg0 g (br_f th_10 ⟨rfl, th_rel T Sn⟩)))
end
section
/-! move -/
section
variable {D : Nat → Nat} {E F P N C RC RP RF RO M YP YF YC YN : Nat → Int32}
theorem th_move (T : th_T E F P N C D) (v1 v2 v3 : Int32) : ∃ r P' N' D', (∀ post : Int32 → SX → Prop, post r (E, F, P', N', C, RC, RP, RF, RO) → wpX_move post (E, F, P, N, C, RC, RP, RF, RO) v1 v2 v3) ∧
    (∀ post : Int32 → SY → Prop, post r (E, F, P', N', C, M, YP, YF, YC, YN) → wpY_move post (E, F, P, N, C, M, YP, YF, YC, YN) v1 v2 v3) ∧ th_T E F P' N' C D' := by
  have H := T.1
  by_cases g : th_G E v1
  · obtain ⟨t, ht, rfl, hE⟩ := g
    have tS : th_S E t := ⟨ht, hE⟩
    have g : th_G E (nI t) := ⟨t, ht, rfl, hE⟩
    by_cases t0 : t = 0
    · subst t0
      refine ⟨-1, P, N, D, fun post h => ?_, fun post h => ?_, T⟩
      · unfold wpX_move; exact th_xg1 g (br_f th_10 (br_t rfl h))
      · unfold wpY_move; exact th_yg1 g (br_t rfl (br_t rfl h))
    · have tn : ¬ nI t = 0 := nI_ne0 (by omega) (by omega)
      by_cases g2 : th_G E v2
      · obtain ⟨p, hp, rfl, hpE⟩ := g2
        have pS : th_S E p := ⟨hp, hpE⟩
        have g2 : th_G E (nI p) := ⟨p, hp, rfl, hpE⟩
        by_cases hF : F p = 0
        · by_cases gn : th_Q 8 v3
          · obtain ⟨q, hq, rfl⟩ := gn
            have gn : th_Q 8 (nI q) := ⟨q, hq, rfl⟩
            cases hb : th_pl P N t p with
            | some y =>
              have hy := (th_pl_D H p pS y hb).1
              refine ⟨-4, P, N, D, fun post h => ?_, fun post h => ?_, T⟩
              · unfold wpX_move
                refine th_xg1 g (br_f th_10 (br_f tn (th_xg1 g2 (br_f th_10 ⟨pk_in p 24 hp, th_bt hp hF (th_xn1 gn (br_f th_10 (th_xpb H ht pS ?_)))⟩))))
                rw [hb]; exact br_f (th_m1 (by omega)) h
              · unfold wpY_move
                refine th_yg1 g (br_t rfl (br_f tn (th_yg1 g2 (br_t rfl ⟨pk_in p 24 hp, th_bt hp hF (br_f (nI_pos (by omega)) (pk_le q 7 (fun _ => th_ypb H ht pS ?_) (fun _ => by omega)))⟩))))
                rw [hb]; exact br_f (nI_pos (by omega)) h
            | none =>
              obtain ⟨r, hX, hY, hs⟩ := th_chd (E := E) (F := F) (P := P) (N := N) (C := C) (RC := RC) (RP := RP) (RF := RF) (RO := RO) (M := M) (YP := YP) (YF := YF) (YC := YC) (YN := YN) p q
              have pre : ∀ (r : Int32) (P' N' : Nat → Int32), (∀ post : Int32 → SX → Prop, post r (E, F, P', N', C, RC, RP, RF, RO) → wpX_childNamed (fun r_48 => (((r_48 = (-1) → (wX_move_81 post (nI t) (nI p) (nI q) E F P N C RC RP RF RO)) ∧ (¬ r_48 = (-1) → (((r_48 = nI t → (wX_move_81 post (nI t) (nI p) (nI q) E F P N C RC RP RF RO)) ∧ (¬ r_48 = nI t → (post (-5) (E, F, P, N, C, RC, RP, RF, RO))))))))) (E, F, P, N, C, RC, RP, RF, RO) (nI p) (nI q)) →
                  (∀ post : Int32 → SX → Prop, post r (E, F, P', N', C, RC, RP, RF, RO) → wpX_move post (E, F, P, N, C, RC, RP, RF, RO) (nI t) (nI p) (nI q)) := by
                intro r P' N' hh post h
                unfold wpX_move
                refine th_xg1 g (br_f th_10 (br_f tn (th_xg1 g2 (br_f th_10 ⟨pk_in p 24 hp, th_bt hp hF (th_xn1 gn (br_f th_10 (th_xpb H ht pS ?_)))⟩))))
                rw [hb]; exact br_t rfl (hh post h)
              have pre2 : ∀ (r : Int32) (P' N' : Nat → Int32), (∀ post : Int32 → SY → Prop, post r (E, F, P', N', C, M, YP, YF, YC, YN) → wpY_child (fun r_42 => (((r_42 < 0 → (wY_move_84 post (nI t) (nI p) (nI q) E F P N C M YP YF YC YN)) ∧ (¬ r_42 < 0 → (((r_42 = nI t → (wY_move_84 post (nI t) (nI p) (nI q) E F P N C M YP YF YC YN)) ∧ (¬ r_42 = nI t → (post (-5) (E, F, P, N, C, M, YP, YF, YC, YN))))))))) (E, F, P, N, C, M, YP, YF, YC, YN) (nI p) (nI q)) →
                  (∀ post : Int32 → SY → Prop, post r (E, F, P', N', C, M, YP, YF, YC, YN) → wpY_move post (E, F, P, N, C, M, YP, YF, YC, YN) (nI t) (nI p) (nI q)) := by
                intro r P' N' hh post h
                unfold wpY_move
                refine th_yg1 g (br_t rfl (br_f tn (th_yg1 g2 (br_t rfl ⟨pk_in p 24 hp, th_bt hp hF (br_f (nI_pos (by omega)) (pk_le q 7 (fun _ => th_ypb H ht pS ?_) (fun _ => by omega)))⟩))))
                rw [hb]; exact br_t th_m1lt (hh post h)
              by_cases hc : ∀ x, th_S E x → ¬ x = 0 → P x = nI p → N x = nI q → x = t
              · -- the place is free, or the entry's own
                have stepX : ∀ (r : Int32) (P' N' : Nat → Int32), (∀ post : Int32 → SX → Prop, post r (E, F, P', N', C, RC, RP, RF, RO) → wX_move_81 post (nI t) (nI p) (nI q) E F P N C RC RP RF RO) →
                    (∀ post : Int32 → SX → Prop, post r (E, F, P', N', C, RC, RP, RF, RO) → wpX_move post (E, F, P, N, C, RC, RP, RF, RO) (nI t) (nI p) (nI q)) := by
                  intro r' P' N' hh
                  refine pre r' P' N' (fun post h => hX _ ?_)
                  obtain ⟨e1, _⟩ | ⟨x, hx, x0, e1, hP, hN⟩ := hs
                  · exact br_t e1 (hh post h)
                  · have := hc x hx x0 hP hN
                    subst this
                    exact br_f (by rw [e1]; exact th_m1 (by omega)) (br_t e1 (hh post h))
                have stepY : ∀ (r : Int32) (P' N' : Nat → Int32), (∀ post : Int32 → SY → Prop, post r (E, F, P', N', C, M, YP, YF, YC, YN) → wY_move_84 post (nI t) (nI p) (nI q) E F P N C M YP YF YC YN) →
                    (∀ post : Int32 → SY → Prop, post r (E, F, P', N', C, M, YP, YF, YC, YN) → wpY_move post (E, F, P, N, C, M, YP, YF, YC, YN) (nI t) (nI p) (nI q)) := by
                  intro r' P' N' hh
                  refine pre2 r' P' N' (fun post h => hY _ ?_)
                  obtain ⟨e1, _⟩ | ⟨x, hx, x0, e1, hP, hN⟩ := hs
                  · exact br_t (by rw [e1]; exact th_m1lt) (hh post h)
                  · have := hc x hx x0 hP hN
                    subst this
                    exact br_f (by rw [e1]; exact nI_pos (by omega)) (br_t e1 (hh post h))
                have hD5 := th_D5 H pS
                by_cases hh : ∀ x, th_B E P N t x → D p + 1 + (D x - D t) ≤ 5
                · obtain ⟨D', T'⟩ := th_T_mv T tS t0 pS hF hq hb hc (fun x hx hn => hh x ⟨hx, hn⟩)
                  have small : ∀ n, th_H E P N D t n → D p + 1 + n ≤ 5 := by
                    intro n hn
                    obtain ⟨x, hx, e⟩ := hn.1
                    have := hh x hx
                    omega
                  refine ⟨0, _, _, D', stepX 0 _ _ (fun post h => ?_), stepY 0 _ _ (fun post h => ?_), T'⟩
                  · unfold wX_move_81
                    refine th_xdp H pS (th_xht H tS t0 (fun n hn => ?_))
                    have := small n hn
                    exact pk_le (D p + 1 + n) 5 (fun _ => th_up ht rfl (th_up ht rfl h)) (fun _ => by omega) (by rw [nI_1, nI_add])
                  · unfold wY_move_84
                    refine th_ydp H pS (th_yht H tS (fun n hn => ?_))
                    have := small n hn
                    exact pk_le (D p + 1 + n) 5 (fun _ => th_up ht rfl (th_up ht rfl h)) (fun _ => by omega) (by rw [nI_1, nI_add])
                · have big : ∀ n, th_H E P N D t n → 5 < D p + 1 + n ∧ n ≤ 5 := by
                    intro n hn
                    constructor
                    · by_cases z : 5 < D p + 1 + n
                      · exact z
                      · exact absurd (fun x hx => by have := hn.2 x hx; omega) hh
                    · obtain ⟨x, hx, e⟩ := hn.1
                      have := th_D5 H hx.1
                      omega
                  refine ⟨-6, _, _, D, stepX (-6) P N (fun post h => ?_), stepY (-6) P N (fun post h => ?_), T⟩
                  · unfold wX_move_81
                    refine th_xdp H pS (th_xht H tS t0 (fun n hn => ?_))
                    have := big n hn
                    exact pk_le (D p + 1 + n) 5 (fun _ => by omega) (fun _ => h) (by rw [nI_1, nI_add])
                  · unfold wY_move_84
                    refine th_ydp H pS (th_yht H tS (fun n hn => ?_))
                    have := big n hn
                    exact pk_le (D p + 1 + n) 5 (fun _ => by omega) (fun _ => h) (by rw [nI_1, nI_add])
              · have hc' : ∃ x, th_S E x ∧ ¬ x = t ∧ r = nI x := by
                  obtain ⟨e1, h2⟩ | ⟨x, hx, x0, e1, hP, hN⟩ := hs
                  · exact absurd (fun x hx x0 hP hN => absurd (h2 x hx x0 hP hN) id) hc
                  · refine ⟨x, hx, fun z => hc (fun y hy y0 hyP hyN => ?_), e1⟩
                    rw [← z]
                    exact T.2.2.2.2.2.2 y x hy hx y0 x0 (hyP.trans hP.symm) (hyN.trans hN.symm)
                obtain ⟨x, hx, xt, e1⟩ := hc'
                have x24 := hx.1
                subst e1
                refine ⟨-5, P, N, D, pre (-5) P N (fun post h => hX _ ?_), pre2 (-5) P N (fun post h => hY _ ?_), T⟩
                · exact br_f (th_m1 (by omega)) (pk_eq x t (fun z => absurd z xt) (fun _ => h))
                · exact br_f (nI_pos (by omega)) (pk_eq x t (fun z => absurd z xt) (fun _ => h))
          · refine ⟨-3, P, N, D, fun post h => ?_, fun post h => ?_, T⟩
            · unfold wpX_move
              exact th_xg1 g (br_f th_10 (br_f tn (th_xg1 g2 (br_f th_10 ⟨pk_in p 24 hp, th_bt hp hF (th_xn0 gn (br_t rfl h))⟩))))
            · unfold wpY_move
              refine th_yg1 g (br_t rfl (br_f tn (th_yg1 g2 (br_t rfl ⟨pk_in p 24 hp, th_bt hp hF (br_c (fun _ => h) (fun h0 => ?_))⟩))))
              obtain ⟨j, hj, rfl⟩ := nI_of h0
              exact pk_le j 7 (fun z => absurd ⟨j, by omega, rfl⟩ gn) (fun _ => h)
        · refine ⟨-2, P, N, D, fun post h => ?_, fun post h => ?_, T⟩
          · unfold wpX_move
            exact th_xg1 g (br_f th_10 (br_f tn (th_xg1 g2 (br_f th_10 ⟨pk_in p 24 hp, th_bf hp hF h⟩))))
          · unfold wpY_move
            exact th_yg1 g (br_t rfl (br_f tn (th_yg1 g2 (br_t rfl ⟨pk_in p 24 hp, th_bf hp hF h⟩))))
      · refine ⟨-2, P, N, D, fun post h => ?_, fun post h => ?_, T⟩
        · unfold wpX_move
          exact th_xg1 g (br_f th_10 (br_f tn (th_xg0 g2 (br_t rfl h))))
        · unfold wpY_move
          exact th_yg1 g (br_t rfl (br_f tn (th_yg0 g2 (br_f th_10 h))))
  · refine ⟨-1, P, N, D, fun post h => ?_, fun post h => ?_, T⟩
    · unfold wpX_move; exact th_xg0 g (br_t rfl h)
    · unfold wpY_move; exact th_yg0 g (br_f th_10 h)
end
theorem i_vc_move {k : Nat} {u : SX} {v : SY} (I : i_Rel k u v) (hk : k + 4 ≤ 2048) (v1 : Int32) (v2 : Int32) (v3 : Int32) : wpX_move (fun r u' => wpY_move (fun r' v' => r' = r ∧ i_Rel (k + 4) u' v') v v1 v2 v3) u v1 v2 v3 := by
  obtain ⟨E, F, P, N, C, RC, RP, RF, RO, M, YP, YF, YC, YN, D, rfl, rfl, T, Sn⟩ := I
  obtain ⟨r, P', N', D', hX, hY, T'⟩ := th_move (RC := RC) (RP := RP) (RF := RF) (RO := RO) (M := M) (YP := YP) (YF := YF) (YC := YC) (YN := YN) T v1 v2 v3
  exact hX _ (hY _ ⟨rfl, th_rel T' Sn⟩)
end
section
/-! alike, twins -/
theorem th_ct {f g : Nat → Int32} {i j : Nat} {A B : Prop} (hi : i < 24) (hj : j < 24) (z : f i = g j) (h : A) : (f (nI i).toNatClampNeg = g (nI j).toNatClampNeg → A) ∧ (¬ f (nI i).toNatClampNeg = g (nI j).toNatClampNeg → B) := by
  rw [th_cl hi, th_cl hj]; exact br_t z h
theorem th_cf {f g : Nat → Int32} {i j : Nat} {A B : Prop} (hi : i < 24) (hj : j < 24) (z : ¬ f i = g j) (h : B) : (f (nI i).toNatClampNeg = g (nI j).toNatClampNeg → A) ∧ (¬ f (nI i).toNatClampNeg = g (nI j).toNatClampNeg → B) := by
  rw [th_cl hi, th_cl hj]; exact br_f z h
section
variable {D : Nat → Nat} {E F P N C RC RP RF RO M YP YF YC YN : Nat → Int32}
def th_M (E F P N C : Nat → Int32) (x e y : Nat) : Prop := ∀ q, th_pl P N x e = some q → ∃ v, th_S E v ∧ th_pl P N y v = some q ∧ F v = F e ∧ C v = C e
def th_A (E F P N C : Nat → Int32) (x y : Nat) : Prop := ∀ e, th_S E e → th_M E F P N C x e y
theorem th_xim (T : th_T E F P N C D) {x e y : Nat} (hx : x < 24) (he : th_S E e) (hy : y < 24) {post : Int32 → Prop} (h1 : th_M E F P N C x e y → post 1) (h0 : ¬ th_M E F P N C x e y → post 0) : wpX_isMatched post (E, F, P, N, C, RC, RP, RF, RO) (nI x) (nI e) (nI y) := by
  have H := T.1
  have e24 := he.1
  unfold wpX_isMatched
  refine th_xpb H hx he ?_
  cases g : th_pl P N x e with
  | none => exact br_t rfl (h1 (fun q w => by rw [g] at w; cases w))
  | some q =>
    have hq := (th_pl_D H e he q g).1
    refine br_f (th_m1 (by omega)) (th_xe H hy (by omega) (fun r hr => ?_))
    obtain ⟨e1, hn⟩ | ⟨v, hv, e1, gv⟩ := hr
    · refine br_t e1 (h0 (fun m => ?_))
      obtain ⟨v, hv, gv, _⟩ := m q g
      exact hn v hv gv
    · subst e1
      have v24 := hv.1
      have un : th_M E F P N C x e y → F v = F e ∧ C v = C e := by
        intro m
        obtain ⟨v', hv', gv', a, b⟩ := m q g
        have := th_pl_inj H T.2.2.2.2.2.2 v hv v' q hv' gv gv'
        subst this
        exact ⟨a, b⟩
      refine br_f (th_m1 (by omega)) ⟨pk_in v 24 v24, pk_in e 24 e24, ?_⟩
      by_cases hF : F v = F e
      · refine th_ct v24 e24 hF ⟨pk_in v 24 v24, pk_in e 24 e24, ?_⟩
        by_cases hC : C v = C e
        · refine th_ct v24 e24 hC (h1 (fun q' w => ?_))
          rw [g] at w; cases w
          exact ⟨v, hv, gv, hF, hC⟩
        · exact th_cf v24 e24 hC (h0 (fun m => hC (un m).2))
      · exact th_cf v24 e24 hF (h0 (fun m => hF (un m).1))
theorem th_xal (T : th_T E F P N C D) {x y : Nat} (hx : x < 24) (hy : y < 24) {post : Int32 → Prop} (h1 : th_A E F P N C x y ∧ th_A E F P N C y x → post 1) (h0 : ¬ (th_A E F P N C x y ∧ th_A E F P N C y x) → post 0) : wpX_areAlike post (E, F, P, N, C, RC, RP, RF, RO) (nI x) (nI y) := by
  have key : ∀ d j, j + d = 24 → (∀ e, e < j → th_S E e → th_M E F P N C x e y ∧ th_M E F P N C y e x) → wX_areAlike_2 post (nI x) (nI y) E F P N C RC RP RF RO (d + 1) (nI j) := by
    intro d
    induction d with
    | zero =>
      intro j hj ha
      exact pk_le 24 j (fun _ => h1 ⟨fun e he => (ha e (by have := he.1; omega) he).1, fun e he => (ha e (by have := he.1; omega) he).2⟩) (fun _ => by omega)
    | succ d ih =>
      intro j hj ha
      have j24 : j < 24 := by omega
      have next : (th_S E j → th_M E F P N C x j y ∧ th_M E F P N C y j x) → wX_areAlike_2 post (nI x) (nI y) E F P N C RC RP RF RO (d + 1) (nI (j + 1)) := by
        intro hn
        refine ih (j + 1) (by omega) (fun e h he => ?_)
        by_cases z : e = j
        · subst z; exact hn he
        · exact ha e (by omega) he
      refine pk_le 24 j (fun _ => by omega) (fun _ => ⟨pk_in j 24 j24, ?_⟩)
      by_cases hE : E j = 0
      · exact th_bt j24 hE (nm_r (nI_1 j) (next (fun z => absurd hE z.2)))
      · have jS : th_S E j := ⟨j24, hE⟩
        refine th_bf j24 hE (th_xim T hx jS hy (fun m1 => br_f th_10 ?_) (fun m1 => br_t rfl (h0 (fun z => m1 (z.1 j jS)))))
        exact th_xim T hy jS hx (fun m2 => br_f th_10 (nm_r (nI_1 j) (next (fun _ => ⟨m1, m2⟩)))) (fun m2 => br_t rfl (h0 (fun z => m2 (z.2 j jS))))
  exact Exists.intro 25 (key 24 0 rfl (fun e h => by omega))
def th_mt (E F P N C : Nat → Int32) (y u : Nat) (z : Int32) (v : Nat) : Prop := th_S E v ∧ F u = F v ∧ (F u = 0 ∨ C u = C v) ∧ th_v (th_pl P N y v) = z
theorem th_ywi (H : th_Ch (th_S E) P N D) {y u : Nat} (hy : y < 24) (hu : u < 24) {z : Int32} {x1 : Int32} {post J : Int32 → Prop} : ∀ d i fl, i + d = 24 → (fl = 0 ∨ fl = 1) → ((fl = 1 ∨ ∃ v, i ≤ v ∧ th_mt E F P N C y u z v) → J (nI (u + 1))) →
    (¬ (fl = 1 ∨ ∃ v, i ≤ v ∧ th_mt E F P N C y u z v) → post 0) → wY_within_44 post J x1 (nI y) (nI u) z E F P N C M YP YF YC YN (d + 1) fl (nI i) := by
  intro d
  induction d with
  | zero =>
    intro i fl hi hfl h1 h0
    refine pk_le 24 i (fun _ => ?_) (fun _ => by omega)
    cases hfl with
    | inl e =>
      refine br_t e (h0 (fun w => ?_))
      cases w with
      | inl w => rw [e] at w; exact th_10 w.symm
      | inr w => obtain ⟨v, hv, m⟩ := w; have := m.1.1; omega
    | inr e => exact br_f (by rw [e]; exact th_10) (nm_r (nI_1 u) (h1 (Or.inl e)))
  | succ d ih =>
    intro i fl hi hfl h1 h0
    have i24 : i < 24 := by omega
    have skip : ¬ th_mt E F P N C y u z i → wY_within_44 post J x1 (nI y) (nI u) z E F P N C M YP YF YC YN (d + 1) fl (nI (i + 1)) := by
      intro hn
      refine ih (i + 1) fl (by omega) hfl (fun w => h1 ?_) (fun w => h0 (fun w' => w ?_))
      · cases w with
        | inl w => exact Or.inl w
        | inr w => obtain ⟨v, hv, m⟩ := w; exact Or.inr ⟨v, by omega, m⟩
      · cases w' with
        | inl w => exact Or.inl w
        | inr w =>
          obtain ⟨v, hv, m⟩ := w
          by_cases e : v = i
          · subst e; exact absurd m hn
          · exact Or.inr ⟨v, by omega, m⟩
    have no : ¬ th_mt E F P N C y u z i → wY_within_106 post J (wY_within_44 post J x1 (nI y) (nI u) z E F P N C M YP YF YC YN (d + 1)) x1 (nI y) (nI u) z fl (nI i) E F P N C M YP YF YC YN := by
      intro hn
      unfold wY_within_106
      exact br_t rfl (nm_r (nI_1 i) (skip hn))
    have yes : th_S E i → F u = F i → (F u = 0 ∨ C u = C i) → wY_within_102 post J (wY_within_44 post J x1 (nI y) (nI u) z E F P N C M YP YF YC YN (d + 1)) x1 (nI y) (nI u) z fl (nI i) E F P N C M YP YF YC YN := by
      intro iS hF hC
      unfold wY_within_102
      refine br_f th_10 (th_ypb H hy iS ?_)
      by_cases e : th_v (th_pl P N y i) = z
      · refine br_t e (nm_r (nI_1 i) (ih (i + 1) 1 (by omega) (Or.inr rfl) (fun _ => h1 (Or.inr ⟨i, by omega, iS, hF, hC, e⟩)) (fun w => absurd (Or.inl rfl) w)))
      · exact br_f e (nm_r (nI_1 i) (skip (fun m => e m.2.2.2)))
    refine pk_le 24 i (fun _ => by omega) (fun _ => ⟨pk_in i 24 i24, ?_⟩)
    by_cases hE : E i = 0
    · exact th_bt i24 hE (no (fun m => m.1.2 hE))
    · have iS : th_S E i := ⟨i24, hE⟩
      refine th_bf i24 hE ⟨pk_in u 24 hu, pk_in i 24 i24, ?_⟩
      by_cases hF : F u = F i
      · refine th_ct hu i24 hF ⟨pk_in u 24 hu, ?_⟩
        by_cases hF0 : F u = 0
        · exact th_bt hu hF0 (yes iS hF (Or.inl hF0))
        · refine th_bf hu hF0 ⟨pk_in u 24 hu, pk_in i 24 i24, ?_⟩
          by_cases hC : C u = C i
          · exact th_ct hu i24 hC (yes iS hF (Or.inr hC))
          · exact th_cf hu i24 hC (no (fun m => m.2.2.1.elim hF0 hC))
      · exact th_cf hu i24 hF (no (fun m => hF m.2.1))
theorem th_ywn (T : th_T E F P N C D) {x y : Nat} (hx : x < 24) (hy : y < 24) {post : Int32 → Prop} (h1 : th_A E F P N C x y → post 1) (h0 : ¬ th_A E F P N C x y → post 0) : wpY_within post (E, F, P, N, C, M, YP, YF, YC, YN) (nI x) (nI y) := by
  have H := T.1
  have key : ∀ d j, j + d = 24 → (∀ e, e < j → th_S E e → th_M E F P N C x e y) → wY_within_2 post (nI x) (nI y) E F P N C M YP YF YC YN (d + 1) (nI j) := by
    intro d
    induction d with
    | zero =>
      intro j hj ha
      exact pk_le 24 j (fun _ => h1 (fun e he => ha e (by have := he.1; omega) he)) (fun _ => by omega)
    | succ d ih =>
      intro j hj ha
      have j24 : j < 24 := by omega
      have next : (th_S E j → th_M E F P N C x j y) → wY_within_2 post (nI x) (nI y) E F P N C M YP YF YC YN (d + 1) (nI (j + 1)) := by
        intro hn
        refine ih (j + 1) (by omega) (fun e h he => ?_)
        by_cases z : e = j
        · subst z; exact hn he
        · exact ha e (by omega) he
      refine pk_le 24 j (fun _ => by omega) (fun _ => ⟨pk_in j 24 j24, ?_⟩)
      by_cases hE : E j = 0
      · refine th_bt j24 hE ?_
        refine br_f (by decide) (Exists.intro 25 (th_ywi H hy j24 24 0 1 rfl (Or.inr rfl) (fun _ => next (fun z => absurd hE z.2)) (fun w => absurd (Or.inl rfl) w)))
      · have jS : th_S E j := ⟨j24, hE⟩
        refine th_bf j24 hE (th_ypb H hx jS ?_)
        cases g : th_pl P N x j with
        | none =>
          refine br_f (by show ¬ (0 : Int32) ≤ -1; decide) (Exists.intro 25 (th_ywi H hy j24 24 0 1 rfl (Or.inr rfl) (fun _ => next (fun _ q w => by rw [g] at w; cases w)) (fun w => absurd (Or.inl rfl) w)))
        | some q =>
          have hq := (th_pl_D H j jS q g).1
          have eq : ∀ v, th_mt E F P N C y j (nI q) v ↔ th_S E v ∧ th_pl P N y v = some q ∧ F v = F j ∧ C v = C j := by
            intro v
            constructor
            · intro ⟨a, b, c, d⟩
              refine ⟨a, ?_, b.symm, ?_⟩
              · cases g' : th_pl P N y v with
                | none => rw [g'] at d; exact absurd d.symm (th_m1 (by omega))
                | some q' =>
                  have hq' := (th_pl_D H v a q' g').1
                  rw [g'] at d
                  rw [sn_inj hq' hq d]
              · cases c with
                | inl c => rw [T.2.2.2.2.1 j jS c, T.2.2.2.2.1 v a (b.symm.trans c)]
                | inr c => exact c.symm
            · intro ⟨a, b, c, d⟩
              exact ⟨a, c.symm, Or.inr d.symm, by rw [b]; rfl⟩
          refine br_t (nI_pos' (by omega)) (Exists.intro 25 (th_ywi H hy j24 24 0 0 rfl (Or.inl rfl) (fun w => ?_) (fun w => h0 (fun a => w ?_))))
          · refine next (fun _ q' w' => ?_)
            rw [g] at w'; cases w'
            cases w with
            | inl w => exact absurd w.symm th_10
            | inr w => obtain ⟨v, _, m⟩ := w; exact ⟨v, (eq v).mp m⟩
          · obtain ⟨v, hv⟩ := a j jS q g
            exact Or.inr ⟨v, by omega, (eq v).mpr hv⟩
  exact Exists.intro 25 (key 24 0 rfl (fun e h => by omega))
def th_tw (E F P N C : Nat → Int32) (x o : Nat) : Prop := th_S E o ∧ (th_A E F P N C x o ∧ th_A E F P N C o x)
theorem th_xtw (T : th_T E F P N C D) {x : Nat} (hx : x < 24) {post : Int32 → Prop} (h : post (nI (cn_c (th_tw E F P N C x) 24))) : ∀ d j, j + d = 24 → wX_twins_14 post (nI x) E F P N C RC RP RF RO (d + 1) (nI (cn_c (th_tw E F P N C x) j)) (nI j) := by
  intro d
  induction d with
  | zero =>
    intro j hj
    have : j = 24 := by omega
    subst this
    exact pk_le 24 24 (fun _ => h) (fun _ => by omega)
  | succ d ih =>
    intro j hj
    have j24 : j < 24 := by omega
    have next := ih (j + 1) (by omega)
    refine pk_le 24 j (fun _ => by omega) (fun _ => ⟨pk_in j 24 j24, ?_⟩)
    by_cases hE : E j = 0
    · rw [cn_s0 (fun z => z.1.2 hE)] at next
      exact th_bt j24 hE (nm_r (nI_1 j) next)
    · have jS : th_S E j := ⟨j24, hE⟩
      refine th_bf j24 hE (th_xal T hx j24 (fun a => ?_) (fun a => ?_))
      · rw [cn_s1 ⟨jS, a⟩] at next
        exact br_f th_10 (nm_r (nI_1 _) (nm_r (nI_1 j) next))
      · rw [cn_s0 (fun z => a z.2)] at next
        exact br_t rfl (nm_r (nI_1 j) next)
theorem th_ytw (T : th_T E F P N C D) {x : Nat} (hx : x < 24) {post : Int32 → Prop} (h : post (nI (cn_c (th_tw E F P N C x) 24))) : ∀ d j, j + d = 24 → wY_twins_14 post (nI x) E F P N C M YP YF YC YN (d + 1) (nI (cn_c (th_tw E F P N C x) j)) (nI j) := by
  intro d
  induction d with
  | zero =>
    intro j hj
    have : j = 24 := by omega
    subst this
    exact pk_le 24 24 (fun _ => h) (fun _ => by omega)
  | succ d ih =>
    intro j hj
    have j24 : j < 24 := by omega
    have next := ih (j + 1) (by omega)
    refine pk_le 24 j (fun _ => by omega) (fun _ => ⟨pk_in j 24 j24, ?_⟩)
    by_cases hE : E j = 0
    · rw [cn_s0 (fun z => z.1.2 hE)] at next
      exact th_bt j24 hE (nm_r (nI_1 j) next)
    · have jS : th_S E j := ⟨j24, hE⟩
      refine th_bf j24 hE (th_ywn T hx j24 (fun a => ?_) (fun a => ?_))
      · refine br_f th_10 (th_ywn T j24 hx (fun b => ?_) (fun b => ?_))
        · rw [cn_s1 ⟨jS, a, b⟩] at next
          exact br_f th_10 (nm_r (nI_1 _) (nm_r (nI_1 j) next))
        · rw [cn_s0 (fun z => b z.2.2)] at next
          exact br_t rfl (nm_r (nI_1 j) next)
      · rw [cn_s0 (fun z => a z.2.1)] at next
        exact br_t rfl (nm_r (nI_1 j) next)
end
theorem i_vc_alike {k : Nat} {u : SX} {v : SY} (I : i_Rel k u v) (hk : k + 4 ≤ 2048) (v1 : Int32) (v2 : Int32) : wpX_alike (fun r => wpY_alike (fun r' => r' = r ∧ i_Rel (k + 4) u v) v v1 v2) u v1 v2 := by
  have I' : i_Rel (k + 4) u v := I
  obtain ⟨E, F, P, N, C, RC, RP, RF, RO, M, YP, YF, YC, YN, D, rfl, rfl, T, Sn⟩ := I
  unfold wpX_alike wpY_alike
  by_cases g : th_G E v1
  · obtain ⟨x, hx, rfl, hE⟩ := g
    have g : th_G E (nI x) := ⟨x, hx, rfl, hE⟩
    by_cases g2 : th_G E v2
    · obtain ⟨y, hy, rfl, hE2⟩ := g2
      have g2 : th_G E (nI y) := ⟨y, hy, rfl, hE2⟩
      refine th_xg1 g (br_f th_10 (th_xg1 g2 (br_f th_10 (th_xal T hx hy (fun a => br_f th_10 ?_) (fun a => br_t rfl ?_)))))
      · exact th_yg1 g (br_t rfl (th_yg1 g2 (br_t rfl (th_ywn T hx hy (fun _ => br_f th_10 (th_ywn T hy hx (fun _ => br_f th_10 ⟨rfl, I'⟩) (fun z => absurd a.2 z))) (fun z => absurd a.1 z)))))
      · exact th_yg1 g (br_t rfl (th_yg1 g2 (br_t rfl (th_ywn T hx hy (fun b => br_f th_10 (th_ywn T hy hx (fun c => absurd ⟨b, c⟩ a) (fun z => br_t rfl ⟨rfl, I'⟩))) (fun z => br_t rfl ⟨rfl, I'⟩)))))
    · exact th_xg1 g (br_f th_10 (th_xg0 g2 (br_t rfl (th_yg1 g (br_t rfl (th_yg0 g2 (br_f th_10 ⟨rfl, I'⟩)))))))
  · exact th_xg0 g (br_t rfl (th_yg0 g (br_f th_10 ⟨rfl, I'⟩)))
theorem i_vc_twins {k : Nat} {u : SX} {v : SY} (I : i_Rel k u v) (hk : k + 4 ≤ 2048) (v1 : Int32) : wpX_twins (fun r => wpY_twins (fun r' => r' = r ∧ i_Rel (k + 4) u v) v v1) u v1 := by
  have I' : i_Rel (k + 4) u v := I
  obtain ⟨E, F, P, N, C, RC, RP, RF, RO, M, YP, YF, YC, YN, D, rfl, rfl, T, Sn⟩ := I
  unfold wpX_twins wpY_twins
  by_cases g : th_G E v1
  · obtain ⟨x, hx, rfl, hE⟩ := g
    have g : th_G E (nI x) := ⟨x, hx, rfl, hE⟩
    refine th_xg1 g (br_f th_10 (Exists.intro 25 (th_xtw T hx ?_ 24 0 rfl)))
    exact th_yg1 g (br_t rfl (Exists.intro 25 (th_ytw T hx ⟨rfl, I'⟩ 24 0 rfl)))
  · exact th_xg0 g (br_t rfl (th_yg0 g (br_f th_10 ⟨rfl, I'⟩)))
end
section
/-! save: X by rising path, Y by rising number; both hold the tree's rows -/
theorem sn_cg {A B G A' B' G' : Nat → Int32} {o n : Nat} {R : Nat → Int32 → Int32 → Prop} (h : ∀ i, i < n → A' (o + i) = A (o + i) ∧ B' (o + i) = B (o + i) ∧ G' (o + i) = G (o + i)) (L : sn_L A B G o n R) : sn_L A' B' G' o n R := by
  refine ⟨fun i hi => ?_, fun q f c r => ?_, fun i j hi hj e => ?_⟩
  · obtain ⟨a, b, c⟩ := h i hi
    rw [a, b, c]; exact L.1 i hi
  · obtain ⟨i, hi, x, y, z⟩ := L.2.1 q f c r
    obtain ⟨a, b, c⟩ := h i hi
    exact ⟨i, hi, a.trans x, b.trans y, c.trans z⟩
  · rw [(h i hi).1, (h j hj).1] at e
    exact L.2.2 i j hi hj e
theorem sn_cgS {A A' : Nat → Int32} {o n : Nat} (h : ∀ i, i < n → A' (o + i) = A (o + i)) (L : sn_So A o n) : sn_So A' o n := by
  intro i j hij hj
  rw [h i (by omega), h j hj]
  exact L i j hij hj
theorem sn_SoI {A : Nat → Int32} {o n : Nat} (h : sn_So A o n) : ∀ i j, i < n → j < n → A (o + i) = A (o + j) → i = j := by
  intro i j hi hj e
  by_cases a : i < j
  · have := h i j a hj; rw [e] at this; exact absurd this Int32.lt_irrefl
  · by_cases b : j < i
    · have := h j i b hi; rw [e] at this; exact absurd this Int32.lt_irrefl
    · omega
theorem th_uc {f : Nat → Int32} {x a b : Int32} {j N : Nat} {K : (Nat → Int32) → Prop} (hx : x = nI j) (hj : j < N) (hN : N < 2 ^ 31) (hb : a = b) (h : K (upd f j b)) : vp_in x N ∧ ∀ y, y = upd f x.toNatClampNeg a → K y := by
  subst hx
  exact ⟨vp_in_nI hj hN, nm_r (by rw [nI_clamp (by omega), hb]) h⟩
theorem th_cX (s k : Nat) : nI s * 23 + nI k = nI (s * 23 + k) := by
  rw [show (23 : Int32) = nI 23 from rfl, pk_mul, nI_add]
theorem th_cY (s k : Nat) : 24 * nI s + nI k = nI (24 * s + k) := by
  rw [show (24 : Int32) = nI 24 from rfl, pk_mul, nI_add]
section
variable {D : Nat → Nat} {E F P N C RC RP RF RO M YP YF YC YN : Nat → Int32}
def th_e (E : Nat → Int32) (x : Nat) : Prop := th_S E x ∧ ¬ x = 0
def th_pt (E P N : Nat → Int32) (q : Nat) : Prop := ∃ e, th_e E e ∧ th_pl P N 0 e = some q
theorem th_ptb (H : th_Ch (th_S E) P N D) {q : Nat} (h : th_pt E P N q) : 0 < q ∧ q < 59049 := by
  obtain ⟨e, he, g⟩ := h
  refine ⟨?_, (th_pl_D H e he.1 q g).1⟩
  by_cases z : q = 0
  · subst z; exact absurd (th_pl_z H he.1 g) he.2
  · omega
theorem th_tot (T : th_T E F P N C D) : nx_c (th_pt E P N) 0 = cn_c (th_e E) 24 := by
  have H := T.1
  refine (cn_bij (A := th_e E) (f := fun x => (th_pl P N 0 x).getD 0) (M := 59049) 24 (fun q => 0 < q ∧ th_pt E P N q) ?_ ?_ ?_).symm
  · intro i hi he
    obtain ⟨q, g⟩ := th_pl_root H i he.1
    have hp : th_pt E P N q := ⟨i, he, g⟩
    have := th_ptb H hp
    rw [g]
    exact ⟨this.2, this.1, hp⟩
  · intro q hq h
    obtain ⟨_, e, he, g⟩ := h
    refine ⟨e, he.1.1, he, ?_⟩
    rw [g]; rfl
  · intro i j hi hj ai aj e
    obtain ⟨q, g⟩ := th_pl_root H i ai.1
    obtain ⟨q', g'⟩ := th_pl_root H j aj.1
    rw [g, g'] at e
    have e' : q = q' := e
    subst e'
    exact th_pl_inj H T.2.2.2.2.2.2 i ai.1 j q aj.1 g g'
theorem th_e23 : cn_c (th_e E) 24 ≤ 23 := by
  apply cn_len (f := fun i => i + 1) 23
  intro q hq h
  have := h.2
  exact ⟨q - 1, by omega, by omega⟩
def th_af (E P N : Nat → Int32) (l : Nat) (r : Int32) : Prop := (r = -1 ∧ nx_O (th_pt E P N) l none) ∨ (∃ e q, th_e E e ∧ r = nI e ∧ th_pl P N 0 e = some q ∧ nx_O (th_pt E P N) l (some q))
theorem th_xaf (H : th_Ch (th_S E) P N D) {l : Nat} (hl : l < 59049) {post : Int32 → Prop} (h : ∀ r, th_af E P N l r → post r) : wpX_entryAfter post (E, F, P, N, C, RC, RP, RF, RO) (nI l) := by
  have key : ∀ d i x2 x3, i + d = 24 → 1 ≤ i → ((x2 = -1 ∧ ∀ e q, e < i → th_e E e → th_pl P N 0 e = some q → q ≤ l) ∨ (∃ e q, th_e E e ∧ x2 = nI e ∧ x3 = nI q ∧ th_pl P N 0 e = some q ∧ l < q ∧ ∀ e' q', e' < i → th_e E e' → th_pl P N 0 e' = some q' → l < q' → q ≤ q')) →
      wX_entryAfter_7 post (nI l) E F P N C RC RP RF RO (d + 1) x2 x3 (nI i) := by
    intro d
    induction d with
    | zero =>
      intro i x2 x3 hi h1 inv
      refine pk_le 24 i (fun _ => h x2 ?_) (fun _ => by omega)
      obtain ⟨e1, ha⟩ | ⟨e, q, he, e1, e2, g, hq, ha⟩ := inv
      · refine Or.inl ⟨e1, fun q hq ⟨e, he, g⟩ => ?_⟩
        have := ha e q (by have := he.1.1; omega) he g
        omega
      · refine Or.inr ⟨e, q, he, e1, g, hq, ⟨e, he, g⟩, fun q' hq' ⟨e', he', g'⟩ => ha e' q' (by have := he'.1.1; omega) he' g' hq'⟩
    | succ d ih =>
      intro i x2 x3 hi h1 inv
      have i24 : i < 24 := by omega
      have skip : (∀ q, th_e E i → th_pl P N 0 i = some q → q ≤ l ∨ ∃ b, x3 = nI b ∧ b ≤ q ∧ ¬ x2 = -1 ∧ b < 59049) → wX_entryAfter_7 post (nI l) E F P N C RC RP RF RO (d + 1) x2 x3 (nI (i + 1)) := by
        intro hn
        refine ih (i + 1) x2 x3 (by omega) (by omega) ?_
        obtain ⟨e1, ha⟩ | ⟨e, q, he, e1, e2, g, hq, ha⟩ := inv
        · refine Or.inl ⟨e1, fun e q hi' he g => ?_⟩
          by_cases z : e = i
          · subst z
            cases hn q he g with
            | inl w => exact w
            | inr w => obtain ⟨b, _, _, w, _⟩ := w; exact absurd e1 w
          · exact ha e q (by omega) he g
        · refine Or.inr ⟨e, q, he, e1, e2, g, hq, fun e' q' hi' he' g' hl' => ?_⟩
          by_cases z : e' = i
          · subst z
            cases hn q' he' g' with
            | inl w => omega
            | inr w =>
              obtain ⟨b, eb, w, _, hb⟩ := w
              have hq59 := (th_pl_D H e he.1 q g).1
              have := sn_inj hq59 hb (e2.symm.trans eb)
              omega
          · exact ha e' q' (by omega) he' g' hl'
      refine pk_le 24 i (fun _ => by omega) (fun _ => ⟨pk_in i 24 i24, ?_⟩)
      by_cases hE : E i = 0
      · exact th_bt i24 hE (nm_r (nI_1 i) (skip (fun q z => absurd hE z.1.2)))
      · have iS : th_S E i := ⟨i24, hE⟩
        have ie : th_e E i := ⟨iS, by omega⟩
        obtain ⟨y, g⟩ := th_pl_root H i iS
        have hy := (th_pl_D H i iS y g).1
        refine th_bf i24 hE (th_xpb (t := 0) H (by omega) iS ?_)
        rw [g]
        refine pk_le y l (fun z => nm_r (nI_1 i) (skip (fun q _ w => ?_))) (fun z => ?_)
        · rw [g] at w; cases w; exact Or.inl z
        · obtain ⟨e1, ha⟩ | ⟨e, q, he, e1, e2, g2, hq, ha⟩ := inv
          · refine br_t e1 (nm_r (nI_1 i) (ih (i + 1) (nI i) (nI y) (by omega) (by omega) (Or.inr ⟨i, y, ie, rfl, rfl, g, z, fun e' q' hi' he' g' hl' => ?_⟩)))
            by_cases w : e' = i
            · subst w; rw [g] at g'; cases g'; omega
            · have := ha e' q' (by omega) he' g'; omega
          · have hq59 := (th_pl_D H e he.1 q g2).1
            have e24 := he.1.1
            refine br_f (by rw [e1]; exact th_m1 (by omega)) ?_
            refine pk_le q y (fun w => nm_r (nI_1 i) (skip (fun q' _ w' => ?_))) (fun w => nm_r (nI_1 i) (ih (i + 1) (nI i) (nI y) (by omega) (by omega) (Or.inr ⟨i, y, ie, rfl, rfl, g, z, fun e' q' hi' he' g' hl' => ?_⟩))) e2
            · rw [g] at w'; cases w'
              exact Or.inr ⟨q, e2, w, by rw [e1]; exact th_m1 (by omega), hq59⟩
            · by_cases v : e' = i
              · subst v; rw [g] at g'; cases g'; omega
              · have := ha e' q' (by omega) he' g' hl'; omega
  refine Exists.intro 24 (key 23 1 (-1) (-1) rfl (by omega) (Or.inl ⟨rfl, fun e q he h => ?_⟩))
  have := h.2
  omega
theorem nx_c0' {B : Nat → Prop} {l : Nat} (hB : ∀ q, B q → q < 59049) (h : nx_c B l = 0) : nx_O B l none := by
  obtain ⟨o, ho⟩ := nx_ex B l
  cases o with
  | none => exact ho
  | some q => have := nx_c1 hB ho; omega
def sv_J (E F P N C : Nat → Int32) (o k l : Nat) (A B G : Nat → Int32) : Prop :=
  (∀ i, i < k → ∃ q, A (o + i) = nI q ∧ th_R E F P N C q (B (o + i)) (G (o + i)) ∧ q ≤ l) ∧ (∀ q, q ≤ l → th_pt E P N q → ∃ i, i < k ∧ A (o + i) = nI q) ∧ sn_So A o k
theorem sv_fin (T : th_T E F P N C D) {o k l : Nat} {A B G : Nat → Int32} (J : sv_J E F P N C o k l A B G) (h : nx_O (th_pt E P N) l none) : sn_L A B G o k (th_R E F P N C) := by
  have W := th_RW T
  refine ⟨fun i hi => ?_, fun q f c r => ?_, sn_SoI J.2.2⟩
  · obtain ⟨q, a, b, _⟩ := J.1 i hi
    exact ⟨q, a, b⟩
  · obtain ⟨e, he, z, g, hf, hc⟩ := r
    have hp : th_pt E P N q := ⟨e, ⟨he, z⟩, g⟩
    have hl : q ≤ l := by
      by_cases w : q ≤ l
      · exact w
      · exact absurd hp (h q (by omega))
    obtain ⟨i, hi, ei⟩ := J.2.1 q hl hp
    obtain ⟨q', a, b, _⟩ := J.1 i hi
    have h1 := (W.1 _ _ _ b).2.1
    have h2 := (W.1 q f c ⟨e, he, z, g, hf, hc⟩).2.1
    have := sn_inj h1 h2 (a.symm.trans ei)
    subst this
    obtain ⟨u1, u2⟩ := W.2 _ _ _ _ _ b ⟨e, he, z, g, hf, hc⟩
    exact ⟨i, hi, ei, u1, u2⟩
theorem sv_step (T : th_T E F P N C D) {o k l e q : Nat} {A B G : Nat → Int32} (J : sv_J E F P N C o k l A B G) (he : th_e E e) (g : th_pl P N 0 e = some q) (h : nx_O (th_pt E P N) l (some q)) :
    sv_J E F P N C o (k + 1) q (upd A (o + k) (nI q)) (upd B (o + k) (F e)) (upd G (o + k) (C e)) := by
  have hq := (th_pl_D T.1 e he.1 q g).1
  have W := th_RW T
  refine ⟨fun i hi => ?_, fun q' hq' hp => ?_, fun i j hij hj => ?_⟩
  · by_cases z : i = k
    · subst z
      rw [pk_us, pk_us, pk_us]
      exact ⟨q, rfl, ⟨e, he.1, he.2, g, rfl, rfl⟩, by omega⟩
    · rw [pk_un (by omega), pk_un (by omega), pk_un (by omega)]
      obtain ⟨q', a, b, c⟩ := J.1 i (by omega)
      have := h.1
      exact ⟨q', a, b, by omega⟩
  · by_cases z : q' ≤ l
    · obtain ⟨i, hi, ei⟩ := J.2.1 q' z hp
      exact ⟨i, by omega, by rw [pk_un (by omega)]; exact ei⟩
    · have := h.2.2 q' (by omega) hp
      exact ⟨k, by omega, by rw [pk_us, show q = q' by omega]⟩
  · rw [pk_un (show o + i ≠ o + k by omega)]
    by_cases z : j = k
    · subst z
      rw [pk_us]
      obtain ⟨q', a, b, c⟩ := J.1 i (by omega)
      rw [a]
      have := h.1
      exact nI_lt (by omega) (by omega)
    · rw [pk_un (by omega)]
      exact J.2.2 i j hij (by omega)
theorem sv_X (T : th_T E F P N C D) {s : Nat} (hs : s < 3) {post : Int32 → SX → Prop} (h : ∀ RP' RF' RO', sn_L RP' RF' RO' (s * 23) (cn_c (th_e E) 24) (th_R E F P N C) → sn_So RP' (s * 23) (cn_c (th_e E) 24) →
    (∀ j, (j < s * 23 ∨ s * 23 + 23 ≤ j) → RP' j = RP j ∧ RF' j = RF j ∧ RO' j = RO j) → post (nI (cn_c (th_e E) 24)) (E, F, P, N, C, upd RC s (nI (cn_c (th_e E) 24)), RP', RF', RO')) : ∃ n, wX_save_17 post (nI s) n 0 0 0 E F P N C RC RP RF RO := by
  have H := T.1
  have hb : ∀ q, th_pt E P N q → q < 59049 := fun q hq => (th_ptb H hq).2
  have key : ∀ d k l RP' RF' RO', k + d = 23 → l < 59049 → sv_J E F P N C (s * 23) k l RP' RF' RO' → k + nx_c (th_pt E P N) l = cn_c (th_e E) 24 → (∀ j, (j < s * 23 ∨ s * 23 + 23 ≤ j) → RP' j = RP j ∧ RF' j = RF j ∧ RO' j = RO j) →
      wX_save_17 post (nI s) (d + 1) (nI k) (nI l) (nI k) E F P N C RC RP' RF' RO' := by
    intro d
    induction d with
    | zero =>
      intro k l RP' RF' RO' hk hl J hc hu
      have h23 := th_e23 (E := E)
      have hz : nx_c (th_pt E P N) l = 0 := by omega
      have hn := nx_c0' hb hz
      have ek : k = cn_c (th_e E) 24 := by omega
      subst ek
      exact pk_le 23 (cn_c (th_e E) 24) (fun _ => th_uc rfl hs (by omega) rfl (h RP' RF' RO' (sv_fin T J hn) J.2.2 hu)) (fun _ => by omega)
    | succ d ih =>
      intro k l RP' RF' RO' hk hl J hc hu
      refine pk_le 23 k (fun _ => by omega) (fun _ => th_xaf H hl (fun r hr => ?_))
      obtain ⟨e1, hn⟩ | ⟨e, q, he, e1, g, hn⟩ := hr
      · have hz := nx_c0 hn
        have ek : k = cn_c (th_e E) 24 := by omega
        subst ek
        exact br_t e1 (th_uc rfl hs (by omega) rfl (h RP' RF' RO' (sv_fin T J hn) J.2.2 hu))
      · subst e1
        have e24 := he.1.1
        have hq := (th_pl_D H e he.1 q g).1
        have hc1 := nx_c1 hb hn
        refine br_f (th_m1 (by omega)) (th_xpb (t := 0) H (by omega) he.1 ?_)
        rw [g]
        refine nm_r (th_cX s k) (th_uc rfl (show s * 23 + k < 69 by omega) (by omega) rfl ⟨pk_in e 24 e24, th_uc rfl (show s * 23 + k < 69 by omega) (by omega) (by rw [th_cl e24, th_nb (T.2.2.2.1 e)]) ⟨pk_in e 24 e24, th_uc rfl (show s * 23 + k < 69 by omega) (by omega) (by rw [th_cl e24]) (nm_r (nI_1 k) (nm_r (nI_1 k) ?_))⟩⟩)
        refine ih (k + 1) q _ _ _ (by omega) hq (sv_step T J he g hn) (by omega) (fun j hj => ?_)
        rw [pk_un (by omega), pk_un (by omega), pk_un (by omega)]
        exact hu j hj
  refine Exists.intro 24 (key 23 0 0 RP RF RO rfl (by omega) ⟨fun i hi => by omega, fun q hq hp => ?_, fun i j _ hj => by omega⟩ (by rw [th_tot T]; omega) (fun j _ => ⟨rfl, rfl, rfl⟩))
  have := th_ptb H hp
  omega
end
end
section
section
variable {D : Nat → Nat} {E F P N C RC RP RF RO M YP YF YC YN : Nat → Int32}
def wo_J (E F P N C : Nat → Int32) (o k i : Nat) (A B G : Nat → Int32) : Prop :=
  (∀ r, r < k → ∃ e q, e < i ∧ th_e E e ∧ th_pl P N 0 e = some q ∧ A (o + r) = nI q ∧ B (o + r) = F e ∧ G (o + r) = C e) ∧
  (∀ e q, e < i → th_e E e → th_pl P N 0 e = some q → ∃ r, r < k ∧ A (o + r) = nI q ∧ B (o + r) = F e ∧ G (o + r) = C e) ∧
  (∀ r r', r < k → r' < k → A (o + r) = A (o + r') → r = r')
theorem wo_fin {o k : Nat} {A B G : Nat → Int32} (J : wo_J E F P N C o k 24 A B G) : sn_L A B G o k (th_R E F P N C) := by
  refine ⟨fun i hi => ?_, fun q f c r => ?_, J.2.2⟩
  · obtain ⟨e, q, _, he, g, a, b, c⟩ := J.1 i hi
    exact ⟨q, a, e, he.1, he.2, g, b.symm, c.symm⟩
  · obtain ⟨e, he, z, g, hf, hc⟩ := r
    obtain ⟨i, hi, a, b, c⟩ := J.2.1 e q he.1 ⟨he, z⟩ g
    exact ⟨i, hi, a, b.trans hf, c.trans hc⟩
theorem wo_skip {o k i : Nat} {A B G : Nat → Int32} (J : wo_J E F P N C o k i A B G) (hn : ¬ th_e E i) : wo_J E F P N C o k (i + 1) A B G := by
  refine ⟨fun r hr => ?_, fun e q he h g => ?_, J.2.2⟩
  · obtain ⟨e, q, a, b⟩ := J.1 r hr
    exact ⟨e, q, by omega, b⟩
  · by_cases z : e = i
    · subst z; exact absurd h hn
    · exact J.2.1 e q (by omega) h g
theorem wo_step (T : th_T E F P N C D) {o k i q : Nat} {A B G : Nat → Int32} (J : wo_J E F P N C o k i A B G) (he : th_e E i) (g : th_pl P N 0 i = some q) :
    wo_J E F P N C o (k + 1) (i + 1) (upd A (o + k) (nI q)) (upd B (o + k) (F i)) (upd G (o + k) (C i)) := by
  have H := T.1
  have hq := (th_pl_D H i he.1 q g).1
  have new : ∀ r, r < k → ¬ A (o + r) = nI q := by
    intro r hr w
    obtain ⟨e, q', a, b, g', c, _⟩ := J.1 r hr
    have hq' := (th_pl_D H e b.1 q' g').1
    have := sn_inj hq' hq (c.symm.trans w)
    subst this
    have := th_pl_inj H T.2.2.2.2.2.2 e b.1 i q' he.1 g' g
    omega
  refine ⟨fun r hr => ?_, fun e q' h h2 g2 => ?_, fun r r' hr hr' w => ?_⟩
  · by_cases z : r = k
    · subst z
      exact ⟨i, q, by omega, he, g, pk_us, pk_us, pk_us⟩
    · obtain ⟨e, q', a, b, c⟩ := J.1 r (by omega)
      rw [pk_un (by omega), pk_un (by omega), pk_un (by omega)]
      exact ⟨e, q', by omega, b, c⟩
  · by_cases z : e = i
    · subst z
      rw [g] at g2; cases g2
      exact ⟨k, by omega, pk_us, pk_us, pk_us⟩
    · obtain ⟨r, hr, a⟩ := J.2.1 e q' (by omega) h2 g2
      refine ⟨r, by omega, ?_⟩
      rw [pk_un (by omega), pk_un (by omega), pk_un (by omega)]
      exact a
  · by_cases z : r = k
    · by_cases z' : r' = k
      · omega
      · rw [z, pk_us, pk_un (by omega)] at w
        exact absurd w.symm (new r' (by omega))
    · by_cases z' : r' = k
      · rw [z', pk_us, pk_un (by omega)] at w
        exact absurd w (new r (by omega))
      · rw [pk_un (by omega), pk_un (by omega)] at w
        exact J.2.2 r r' (by omega) (by omega) w
theorem sv_Y (T : th_T E F P N C D) {t : Nat} (ht : t < 4) {post : Int32 → SY → Prop} (h : ∀ YP' YF' YC', sn_L YP' YF' YC' (24 * t) (cn_c (th_e E) 24) (th_R E F P N C) →
    (∀ j, (j < 24 * t ∨ 24 * t + 24 ≤ j) → YP' j = YP j ∧ YF' j = YF j ∧ YC' j = YC j) → post (nI (cn_c (th_e E) 24)) (E, F, P, N, C, M, YP', YF', YC', upd YN t (nI (cn_c (th_e E) 24)))) : wpY_writeOut post (E, F, P, N, C, M, YP, YF, YC, YN) (nI t) := by
  have H := T.1
  have key : ∀ d i YP' YF' YC', i + d = 24 → 1 ≤ i → cn_c (th_e E) i < i → wo_J E F P N C (24 * t) (cn_c (th_e E) i) i YP' YF' YC' → (∀ j, (j < 24 * t ∨ 24 * t + 24 ≤ j) → YP' j = YP j ∧ YF' j = YF j ∧ YC' j = YC j) →
      wY_writeOut_4 post (nI t) (d + 1) (nI (cn_c (th_e E) i)) (nI i) E F P N C M YP' YF' YC' YN := by
    intro d
    induction d with
    | zero =>
      intro i YP' YF' YC' hi h1 hc J hu
      have : i = 24 := by omega
      subst this
      exact pk_le 24 24 (fun _ => th_uc rfl ht (by omega) rfl (h YP' YF' YC' (wo_fin J) hu)) (fun _ => by omega)
    | succ d ih =>
      intro i YP' YF' YC' hi h1 hc J hu
      have i24 : i < 24 := by omega
      refine pk_le 24 i (fun _ => by omega) (fun _ => ⟨pk_in i 24 i24, ?_⟩)
      by_cases hE : E i = 0
      · have hn : ¬ th_e E i := fun z => z.1.2 hE
        have := ih (i + 1) YP' YF' YC' (by omega) (by omega) (by rw [cn_s0 hn]; omega) (by rw [cn_s0 hn]; exact wo_skip J hn) hu
        rw [cn_s0 hn] at this
        exact th_bt i24 hE (nm_r (nI_1 i) this)
      · have iS : th_S E i := ⟨i24, hE⟩
        have ie : th_e E i := ⟨iS, by omega⟩
        obtain ⟨q, g⟩ := th_pl_root H i iS
        refine th_bf i24 hE (th_ypb (t := 0) H (by omega) iS ?_)
        rw [g]
        generalize hk : cn_c (th_e E) i = k at hc J
        have hcell : 24 * t + k < 96 := by omega
        have fin := ih (i + 1) (upd YP' (24 * t + k) (nI q)) (upd YF' (24 * t + k) (F i)) (upd YC' (24 * t + k) (C i)) (by omega) (by omega) (by rw [cn_s1 ie]; omega) (by rw [cn_s1 ie, hk]; exact wo_step T J ie g) (fun j hj => by
          rw [pk_un (by omega), pk_un (by omega), pk_un (by omega)]
          exact hu j hj)
        rw [cn_s1 ie, hk] at fin
        refine th_uc (th_cY t k) hcell (by omega) rfl ⟨pk_in i 24 i24, th_uc (th_cY t k) hcell (by omega) (b := F i) (by rw [th_cl i24, th_nb (T.2.2.2.1 i)]) ⟨pk_in i 24 i24, ?_⟩⟩
        by_cases hF : F i = 0
        · exact th_bt i24 hF (th_uc (th_cY t k) hcell (by omega) (b := C i) (T.2.2.2.2.1 i iS hF).symm (nm_r (nI_1 k) (nm_r (nI_1 i) fin)))
        · exact th_bf i24 hF ⟨pk_in i 24 i24, th_uc (th_cY t k) hcell (by omega) (b := C i) (by rw [th_cl i24]) (nm_r (nI_1 k) (nm_r (nI_1 i) fin))⟩
  have h0 : ¬ th_e E 0 := fun z => z.2 rfl
  have c1 : cn_c (th_e E) 1 = 0 := cn_s0 h0
  have := key 23 1 YP YF YC rfl (by omega) (by omega) (by
    rw [c1]
    refine ⟨fun r hr => by omega, fun e q he h => ?_, fun r r' hr => by omega⟩
    have := h.2
    omega) (fun j _ => ⟨rfl, rfl, rfl⟩)
  rw [c1] at this
  exact Exists.intro 24 this
end
theorem th_Sn_cg {RC RP RF RO YP YF YC YN RC' RP' RF' RO' YP' YF' YC' YN' : Nat → Int32} {s : Nat} (h : th_Sn RC RP RF RO YP YF YC YN s) (h1 : RC' s = RC s) (h2 : YN' s = YN s)
    (hX : ∀ j, s * 23 ≤ j → j < s * 23 + 23 → RP' j = RP j ∧ RF' j = RF j ∧ RO' j = RO j) (hY : ∀ j, 24 * s ≤ j → j < 24 * s + 24 → YP' j = YP j ∧ YF' j = YF j ∧ YC' j = YC j) : th_Sn RC' RP' RF' RO' YP' YF' YC' YN' s := by
  obtain ⟨n, R, a, b, c, d, e, f, g⟩ := h
  exact ⟨n, R, a, h1.trans b, h2.trans c, d, sn_cg (fun i hi => hX _ (by omega) (by omega)) e, sn_cgS (fun i hi => (hX _ (by omega) (by omega)).1) f, sn_cg (fun i hi => hY _ (by omega) (by omega)) g⟩
theorem i_vc_save {k : Nat} {u : SX} {v : SY} (I : i_Rel k u v) (hk : k + 4 ≤ 2048) (v1 : Int32) : wpX_save (fun r u' => wpY_save (fun r' v' => r' = r ∧ i_Rel (k + 4) u' v') v v1) u v1 := by
  obtain ⟨E, F, P, N, C, RC, RP, RF, RO, M, YP, YF, YC, YN, D, rfl, rfl, T, Sn⟩ := I
  unfold wpX_save wpY_save
  by_cases g : th_Q 3 v1
  · obtain ⟨s, hs, rfl⟩ := g
    have g : th_Q 3 (nI s) := ⟨s, hs, rfl⟩
    refine th_xs1 g (br_f th_10 (sv_X T hs (fun RP' RF' RO' LX SX' uX => ?_)))
    refine th_ys1 g (br_t rfl (sv_Y T (by omega) (fun YP' YF' YC' LY uY => ?_)))
    refine ⟨rfl, th_rel T (fun s' hs' => ?_)⟩
    by_cases z : s' = s
    · subst z
      exact ⟨_, _, th_e23 (E := E), pk_us, pk_us, th_RW T, LX, SX', LY⟩
    · refine th_Sn_cg (Sn s' hs') (pk_un z) (pk_un z) (fun j h1 h2 => uX j ?_) (fun j h1 h2 => uY j ?_)
      · omega
      · omega
  · exact th_xs0 g (br_t rfl (th_ys0 g (br_f th_10 ⟨rfl, th_rel T Sn⟩)))
end
section
/-! differences of two snapshots -/
theorem th_kt {f : Nat → Int32} {x a : Int32} {j : Nat} {A B : Prop} (hx : x = nI j) (hj : j < 2 ^ 31) (z : f j = a) (h : A) : (f x.toNatClampNeg = a → A) ∧ (¬ f x.toNatClampNeg = a → B) := by
  subst hx; rw [nI_clamp hj]; exact br_t z h
theorem th_kf {f : Nat → Int32} {x a : Int32} {j : Nat} {A B : Prop} (hx : x = nI j) (hj : j < 2 ^ 31) (z : ¬ f j = a) (h : B) : (f x.toNatClampNeg = a → A) ∧ (¬ f x.toNatClampNeg = a → B) := by
  subst hx; rw [nI_clamp hj]; exact br_f z h
theorem th_kl {f : Nat → Int32} {x y : Int32} {j : Nat} {A B : Prop} (hx : x = nI j) (hj : j < 2 ^ 31) (a b : Nat) (ha : f j = nI a) (hy : y = nI b) (ha' : a < 2 ^ 31) (hb' : b < 2 ^ 31) (p : a ≤ b → A) (q : b < a → B) : (f x.toNatClampNeg ≤ y → A) ∧ (¬ f x.toNatClampNeg ≤ y → B) := by
  subst hx; rw [nI_clamp hj, ha]; exact pk_le a b p q rfl hy ha' hb'
theorem th_klr {f : Nat → Int32} {x y : Int32} {j : Nat} {A B : Prop} (hx : x = nI j) (hj : j < 2 ^ 31) (a b : Nat) (ha : f j = nI a) (hy : y = nI b) (ha' : a < 2 ^ 31) (hb' : b < 2 ^ 31) (p : b ≤ a → A) (q : a < b → B) : (y ≤ f x.toNatClampNeg → A) ∧ (¬ y ≤ f x.toNatClampNeg → B) := by
  subst hx; rw [nI_clamp hj, ha]; exact pk_le b a p q hy rfl hb' ha'
theorem th_k2t {f g : Nat → Int32} {x y : Int32} {i j : Nat} {A B : Prop} (hx : x = nI i) (hi : i < 2 ^ 31) (hy : y = nI j) (hj : j < 2 ^ 31) (z : f i = g j) (h : A) : (f x.toNatClampNeg = g y.toNatClampNeg → A) ∧ (¬ f x.toNatClampNeg = g y.toNatClampNeg → B) := by
  subst hx hy; rw [nI_clamp hi, nI_clamp hj]; exact br_t z h
theorem th_k2f {f g : Nat → Int32} {x y : Int32} {i j : Nat} {A B : Prop} (hx : x = nI i) (hi : i < 2 ^ 31) (hy : y = nI j) (hj : j < 2 ^ 31) (z : ¬ f i = g j) (h : B) : (f x.toNatClampNeg = g y.toNatClampNeg → A) ∧ (¬ f x.toNatClampNeg = g y.toNatClampNeg → B) := by
  subst hx hy; rw [nI_clamp hi, nI_clamp hj]; exact br_f z h
theorem th_kr {f : Nat → Int32} {x a : Int32} {j : Nat} {K : Int32 → Prop} (hx : x = nI j) (hj : j < 2 ^ 31) (z : f j = a) (h : K a) : K (f x.toNatClampNeg) := by
  subst hx; rw [nI_clamp hj, z]; exact h
def xs_K (RC RP RF RO : Nat → Int32) (s n : Nat) (R : Nat → Int32 → Int32 → Prop) : Prop := s < 3 ∧ n ≤ 23 ∧ RC s = nI n ∧ sn_W R ∧ sn_L RP RF RO (s * 23) n R ∧ sn_So RP (s * 23) n
def ys_K (YP YF YC YN : Nat → Int32) (t n : Nat) (R : Nat → Int32 → Int32 → Prop) : Prop := t < 4 ∧ n ≤ 23 ∧ YN t = nI n ∧ sn_W R ∧ sn_L YP YF YC (24 * t) n R
theorem sn_row {A B G : Nat → Int32} {o n : Nat} {R : Nat → Int32 → Int32 → Prop} (W : sn_W R) (L : sn_L A B G o n R) {i : Nat} (hi : i < n) : ∃ q, A (o + i) = nI q ∧ R q (B (o + i)) (G (o + i)) ∧ 0 < q ∧ q < 59049 := by
  obtain ⟨q, a, b⟩ := L.1 i hi
  exact ⟨q, a, b, (W.1 _ _ _ b).1, (W.1 _ _ _ b).2.1⟩
section
variable {E F P N C RC RP RF RO M YP YF YC YN : Nat → Int32} {R R' : Nat → Int32 → Int32 → Prop}
def xc_K (RP : Nat → Int32) (s n q : Nat) (r : Int32) : Prop := (r = -1 ∧ ∀ i, i < n → ¬ RP (s * 23 + i) = nI q) ∨ (∃ i, i < n ∧ r = nI (s * 23 + i) ∧ RP (s * 23 + i) = nI q)
theorem th_xco {s n q : Nat} (K : xs_K RC RP RF RO s n R) {post : Int32 → Prop} (h : ∀ r, xc_K RP s n q r → post r) : wpX_cellOf post (E, F, P, N, C, RC, RP, RF, RO) (nI s) (nI q) := by
  obtain ⟨hs, hn, hc, W, L, So⟩ := K
  have key : ∀ d i, i + d = n → (∀ j, j < i → ¬ RP (s * 23 + j) = nI q) → wX_cellOf_2 post (nI s) (nI q) E F P N C RC RP RF RO (d + 1) (nI i) := by
    intro d
    induction d with
    | zero =>
      intro i hi ha
      refine ⟨pk_in s 3 hs, th_kl rfl (by omega) n i hc rfl (by omega) (by omega) (fun _ => h _ (Or.inl ⟨rfl, fun j hj => ha j (by omega)⟩)) (fun _ => by omega)⟩
    | succ d ih =>
      intro i hi ha
      refine ⟨pk_in s 3 hs, th_kl rfl (by omega) n i hc rfl (by omega) (by omega) (fun _ => by omega) (fun _ => ⟨pk_in (s * 23 + i) 69 (by omega) (th_cX s i), ?_⟩)⟩
      by_cases z : RP (s * 23 + i) = nI q
      · exact th_kt (th_cX s i) (by omega) z (h _ (Or.inr ⟨i, by omega, th_cX s i, z⟩))
      · refine th_kf (th_cX s i) (by omega) z (nm_r (nI_1 i) (ih (i + 1) (by omega) (fun j hj => ?_)))
        by_cases w : j = i
        · subst w; exact z
        · exact ha j (by omega)
  exact Exists.intro (n + 1) (key n 0 (by omega) (fun j hj => by omega))
theorem th_xss {s n c q : Nat} (K : xs_K RC RP RF RO s n R) (hc : c < 69) (hq : RP c = nI q) (hq59 : q < 59049) {post : Int32 → Prop} (h1 : R q (RF c) (RO c) → post 1) (h0 : ¬ R q (RF c) (RO c) → post 0) : wpX_standsInSnapshot post (E, F, P, N, C, RC, RP, RF, RO) (nI c) (nI s) := by
  have K' := K
  obtain ⟨hs, hn, hcn, W, L, So⟩ := K'
  unfold wpX_standsInSnapshot
  refine ⟨pk_in c 69 hc, ?_⟩
  rw [nI_clamp (show c < 2 ^ 31 by omega), hq]
  refine th_xco K (fun r hr => ?_)
  obtain ⟨e1, ha⟩ | ⟨i, hi, e1, e2⟩ := hr
  · refine br_t e1 (h0 (fun w => ?_))
    obtain ⟨i, hi, a, _⟩ := L.2.1 _ _ _ w
    exact ha i hi a
  · subst e1
    have hi69 : s * 23 + i < 69 := by omega
    obtain ⟨q', a, b, _, hq'⟩ := sn_row W L hi
    have := sn_inj hq' hq59 (a.symm.trans e2)
    subst this
    have un : R q' (RF c) (RO c) → RF (s * 23 + i) = RF c ∧ RO (s * 23 + i) = RO c := fun w => W.2 _ _ _ _ _ b w
    refine br_f (th_m1 (by omega)) ⟨pk_in _ 69 hi69, pk_in c 69 hc, ?_⟩
    by_cases hF : RF (s * 23 + i) = RF c
    · refine th_kt rfl (by omega) hF ⟨pk_in _ 69 hi69, pk_in c 69 hc, ?_⟩
      by_cases hC : RO (s * 23 + i) = RO c
      · exact th_kt rfl (by omega) hC (h1 (by rw [← hF, ← hC]; exact b))
      · exact th_kf rfl (by omega) hC (h0 (fun w => hC (un w).2))
    · exact th_kf rfl (by omega) hF (h0 (fun w => hF (un w).1))
def sn_U (R R' : Nat → Int32 → Int32 → Prop) (q : Nat) : Prop := ∃ f c, R q f c ∧ ¬ R' q f c
theorem th_xnu {s n s' n' l : Nat} (K : xs_K RC RP RF RO s n R) (K' : xs_K RC RP RF RO s' n' R') (hl : l < 59049) {post : Int32 → Prop} (h : ∀ o, nx_O (sn_U R R') l o → post (th_v o)) : wpX_nextUnmatched post (E, F, P, N, C, RC, RP, RF, RO) (nI s) (nI s') (nI l) := by
  obtain ⟨hs, hn, hc, W, L, So⟩ := K
  have key : ∀ d i, i + d = n → (∀ j q, j < i → RP (s * 23 + j) = nI q → q < 59049 → l < q → ¬ sn_U R R' q) → wX_nextUnmatched_3 post (nI s) (nI s') (nI l) E F P N C RC RP RF RO (d + 1) (nI i) := by
    intro d
    induction d with
    | zero =>
      intro i hi ha
      refine ⟨pk_in s 3 hs, th_kl rfl (by omega) n i hc rfl (by omega) (by omega) (fun _ => h none (fun q hq u => ?_)) (fun _ => by omega)⟩
      obtain ⟨f, c, r, nr⟩ := u
      obtain ⟨j, hj, a, _⟩ := L.2.1 _ _ _ r
      exact ha j q (by omega) a (W.1 _ _ _ r).2.1 hq ⟨f, c, r, nr⟩
    | succ d ih =>
      intro i hi ha
      have hin : i < n := by omega
      obtain ⟨q, eq, r, q0, q59⟩ := sn_row W L hin
      have hcell : s * 23 + i < 69 := by omega
      have skip : (l < q → ¬ sn_U R R' q) → wX_nextUnmatched_3 post (nI s) (nI s') (nI l) E F P N C RC RP RF RO (d + 1) (nI (i + 1)) := by
        intro hn'
        refine ih (i + 1) (by omega) (fun j q' hj e h59 hl' => ?_)
        by_cases z : j = i
        · subst z
          have := sn_inj h59 q59 (e.symm.trans eq)
          subst this
          exact hn' hl'
        · exact ha j q' (by omega) e h59 hl'
      refine ⟨pk_in s 3 hs, th_kl rfl (by omega) n i hc rfl (by omega) (by omega) (fun _ => by omega) (fun _ => nm_r (th_cX s i) ⟨pk_in _ 69 hcell, th_kl rfl (by omega) q l eq rfl (by omega) (by omega) (fun z => nm_r (nI_1 i) (skip (fun w => by omega))) (fun z => ?_)⟩)⟩
      refine th_xss K' hcell eq q59 (fun m => br_f th_10 (nm_r (nI_1 i) (skip (fun _ u => ?_)))) (fun m => br_t rfl ⟨pk_in _ 69 hcell, ?_⟩)
      · obtain ⟨f, c, r', nr⟩ := u
        obtain ⟨a, b⟩ := W.2 _ _ _ _ _ r r'
        rw [a, b] at m
        exact nr m
      · rw [nI_clamp (by omega), eq]
        refine h (some q) ⟨z, ⟨_, _, r, m⟩, fun q' hl' u => ?_⟩
        have u' := u
        obtain ⟨f, c, r', nr⟩ := u
        obtain ⟨j, hj, e, _⟩ := L.2.1 _ _ _ r'
        have h59 := (W.1 _ _ _ r').2.1
        by_cases z1 : j < i
        · exact absurd u' (ha j q' z1 e h59 hl')
        · by_cases z2 : j = i
          · subst z2
            have := sn_inj h59 q59 (e.symm.trans eq)
            omega
          · have lt := So i j (by omega) hj
            rw [eq, e, nI_ltI (by omega) (by omega)] at lt
            omega
  exact Exists.intro (n + 1) (key n 0 (by omega) (fun j q hj => by omega))
theorem sn_UD (q : Nat) : sn_D R R' q ↔ sn_U R R' q ∨ sn_U R' R q := by
  constructor
  · intro ⟨f, c, h⟩
    cases h with
    | inl h => exact Or.inl ⟨f, c, h⟩
    | inr h => exact Or.inr ⟨f, c, h⟩
  · intro h
    cases h with
    | inl h => obtain ⟨f, c, h⟩ := h; exact ⟨f, c, Or.inl h⟩
    | inr h => obtain ⟨f, c, h⟩ := h; exact ⟨f, c, Or.inr h⟩
theorem nx_l {A B : Nat → Prop} {l : Nat} {o : Option Nat} (h : nx_O A l o) (h' : ∀ q, l < q → B q → ∃ p, o = some p ∧ p ≤ q) : nx_O (fun q => A q ∨ B q) l o := by
  cases o with
  | none =>
    intro q hq u
    cases u with
    | inl u => exact h q hq u
    | inr u => obtain ⟨p, e, _⟩ := h' q hq u; cases e
  | some p =>
    refine ⟨h.1, Or.inl h.2.1, fun q hq u => ?_⟩
    cases u with
    | inl u => exact h.2.2 q hq u
    | inr u => obtain ⟨p', e, hp⟩ := h' q hq u; cases e; exact hp
theorem nx_r {A B : Nat → Prop} {l p : Nat} {o : Option Nat} (h : nx_O A l o) (h1 : l < p) (h2 : B p) (h3 : ∀ q, l < q → B q → p ≤ q) (ho : ∀ b, o = some b → p ≤ b) : nx_O (fun q => A q ∨ B q) l (some p) := by
  refine ⟨h1, Or.inr h2, fun q hq u => ?_⟩
  cases u with
  | inl u =>
    cases o with
    | none => exact absurd u (h q hq)
    | some b => have := ho b rfl; have := h.2.2 q hq u; omega
  | inr u => exact h3 q hq u
theorem th_xnd {s n s' n' l : Nat} (K : xs_K RC RP RF RO s n R) (K' : xs_K RC RP RF RO s' n' R') (hl : l < 59049) {post : Int32 → Prop} (h : ∀ o, nx_O (sn_D R R') l o → post (th_v o)) : wpX_nextDifference post (E, F, P, N, C, RC, RP, RF, RO) (nI s) (nI s') (nI l) := by
  have W := K.2.2.2.1
  have W' := K'.2.2.2.1
  have b1 : ∀ q, sn_U R R' q → q < 59049 := fun q ⟨f, c, r, _⟩ => (W.1 _ _ _ r).2.1
  have b2 : ∀ q, sn_U R' R q → q < 59049 := fun q ⟨f, c, r, _⟩ => (W'.1 _ _ _ r).2.1
  have fin : ∀ o, nx_O (fun q => sn_U R R' q ∨ sn_U R' R q) l o → post (th_v o) := fun o ho => h o (nx_ext (fun q => (sn_UD q).symm) ho)
  unfold wpX_nextDifference
  refine th_xnu K K' hl (fun o1 h1 => th_xnu K' K hl (fun o2 h2 => ?_))
  cases o1 with
  | none =>
    refine br_t rfl (fin o2 ?_)
    refine nx_ext (fun q => Or.comm) (nx_l h2 (fun q hq u => absurd u (h1 q hq)))
  | some p1 =>
    have p1b := b1 p1 h1.2.1
    refine br_f (th_m1 (by omega)) ?_
    cases o2 with
    | none => exact br_t rfl (fin (some p1) (nx_l h1 (fun q hq u => absurd u (h2 q hq))))
    | some p2 =>
      have p2b := b2 p2 h2.2.1
      refine br_f (th_m1 (by omega)) (pk_le p2 p1 (fun z => fin (some p2) ?_) (fun z => fin (some p1) ?_))
      · exact nx_r h1 h2.1 h2.2.1 h2.2.2 (fun b e => by cases e; exact z)
      · exact nx_l h1 (fun q hq u => ⟨p1, rfl, by have := h2.2.2 q hq u; omega⟩)
end
end
section
section
variable {E F P N C RC RP RF RO M YP YF YC YN : Nat → Int32} {R R' : Nat → Int32 → Int32 → Prop}
/-- has: is row i of s among the rows of t -/
theorem th_yha {t n s i q : Nat} (K : ys_K YP YF YC YN t n R) (hs : s < 4) (hi : i < 24) (hq : YP (24 * s + i) = nI q) (hq59 : q < 59049) {post : Int32 → Prop} (h1 : R q (YF (24 * s + i)) (YC (24 * s + i)) → post 1) (h0 : ¬ R q (YF (24 * s + i)) (YC (24 * s + i)) → post 0) : wpY_has post (E, F, P, N, C, M, YP, YF, YC, YN) (nI t) (nI s) (nI i) := by
  obtain ⟨ht, hn, hc, W, L⟩ := K
  have ci : 24 * s + i < 96 := by omega
  have key : ∀ d j, j + d = n → (∀ k, k < j → ¬ (YP (24 * t + k) = YP (24 * s + i) ∧ YF (24 * t + k) = YF (24 * s + i) ∧ YC (24 * t + k) = YC (24 * s + i))) → wY_has_3 post (nI t) (nI s) (nI i) E F P N C M YP YF YC YN (d + 1) (nI j) := by
    intro d
    induction d with
    | zero =>
      intro j hj ha
      refine ⟨pk_in t 4 ht, th_kl rfl (by omega) n j hc rfl (by omega) (by omega) (fun _ => h0 (fun r => ?_)) (fun _ => by omega)⟩
      obtain ⟨k, hk, a, b, c⟩ := L.2.1 _ _ _ r
      exact ha k (by omega) ⟨a.trans hq.symm, b, c⟩
    | succ d ih =>
      intro j hj ha
      have cj : 24 * t + j < 96 := by omega
      have jn : j < n := by omega
      have next : ¬ (YP (24 * t + j) = YP (24 * s + i) ∧ YF (24 * t + j) = YF (24 * s + i) ∧ YC (24 * t + j) = YC (24 * s + i)) → wY_has_3 post (nI t) (nI s) (nI i) E F P N C M YP YF YC YN (d + 1) (nI (j + 1)) := by
        intro hn
        refine ih (j + 1) (by omega) (fun k hk => ?_)
        by_cases z : k = j
        · subst z; exact hn
        · exact ha k (by omega)
      have no : ¬ (YP (24 * t + j) = YP (24 * s + i) ∧ YF (24 * t + j) = YF (24 * s + i) ∧ YC (24 * t + j) = YC (24 * s + i)) → wY_has_77 post (wY_has_3 post (nI t) (nI s) (nI i) E F P N C M YP YF YC YN (d + 1)) (nI t) (nI s) (nI i) (nI j) E F P N C M YP YF YC YN := by
        intro hn
        unfold wY_has_77
        exact br_t rfl (nm_r (nI_1 j) (next hn))
      have pj : vp_in (24 * nI t + nI j) 96 := pk_in (24 * t + j) 96 cj (th_cY t j)
      have pi : vp_in (24 * nI s + nI i) 96 := pk_in (24 * s + i) 96 ci (th_cY s i)
      refine ⟨pk_in t 4 ht, th_kl rfl (by omega) n j hc rfl (by omega) (by omega) (fun _ => by omega) (fun _ => pk_le 24 j (fun _ => by omega) (fun _ => ⟨pj, pi, ?_⟩))⟩
      by_cases eP : YP (24 * t + j) = YP (24 * s + i)
      · refine th_k2t (th_cY t j) (by omega) (th_cY s i) (by omega) eP ⟨pj, pi, ?_⟩
        by_cases eF : YF (24 * t + j) = YF (24 * s + i)
        · refine th_k2t (th_cY t j) (by omega) (th_cY s i) (by omega) eF (br_f th_10 ⟨pj, pi, ?_⟩)
          by_cases eC : YC (24 * t + j) = YC (24 * s + i)
          · refine th_k2t (th_cY t j) (by omega) (th_cY s i) (by omega) eC (h1 ?_)
            obtain ⟨q', a, b, _, q'59⟩ := sn_row W L jn
            have := sn_inj q'59 hq59 (a.symm.trans (eP.trans hq))
            subst this
            rw [← eF, ← eC]; exact b
          · exact th_k2f (th_cY t j) (by omega) (th_cY s i) (by omega) eC (nm_r (nI_1 j) (next (fun z => eC z.2.2)))
        · exact th_k2f (th_cY t j) (by omega) (th_cY s i) (by omega) eF (no (fun z => eF z.2.1))
      · exact th_k2f (th_cY t j) (by omega) (th_cY s i) (by omega) eP (no (fun z => eP z.1))
  exact Exists.intro (n + 1) (key n 0 (by omega) (fun j hj => by omega))
def th_w (o : Option Nat) : Int32 := match o with
  | none => 0
  | some q => nI q
/-- row i of a snapshot at o is a path with no like row in R' -/
def nd_C (A B G : Nat → Int32) (o n : Nat) (R' : Nat → Int32 → Int32 → Prop) (i q : Nat) : Prop := i < n ∧ A (o + i) = nI q ∧ q < 59049 ∧ ¬ R' q (B (o + i)) (G (o + i))
theorem nd_U {A B G : Nat → Int32} {o n : Nat} (hn : n ≤ 23) (W : sn_W R) (L : sn_L A B G o n R) (q : Nat) : sn_U R R' q ↔ ∃ i, i < 24 ∧ nd_C A B G o n R' i q := by
  constructor
  · intro ⟨f, c, r, nr⟩
    obtain ⟨i, hi, a, b, c'⟩ := L.2.1 _ _ _ r
    exact ⟨i, by omega, hi, a, (W.1 _ _ _ r).2.1, by rw [b, c']; exact nr⟩
  · intro ⟨i, _, hi, a, h59, nr⟩
    obtain ⟨q', a', b', _, h59'⟩ := sn_row W L hi
    have := sn_inj h59' h59 (a'.symm.trans a)
    subst this
    exact ⟨_, _, b', nr⟩
theorem th_ynd2 {s n t n' l i : Nat} (K : ys_K YP YF YC YN s n R) (K' : ys_K YP YF YC YN t n' R') (hl : l < 59049) (hi : i < 24) {post : Int32 → Prop} {J : Int32 → Int32 → Prop} {B : Nat → Prop} (hB : ∀ q, B q → q < 59049) {o : Option Nat} (ho : nx_O B l o)
    (h : ∀ o', nx_O (fun q => B q ∨ nd_C YP YF YC (24 * t) n' R i q) l o' → J (th_w o') (nI (i + 1))) : wY_nextDifference_87 post J (nI s) (nI t) (nI l) (th_w o) (nI i) E F P N C M YP YF YC YN := by
  have K2 := K'
  obtain ⟨ht, hn, hc, W, L⟩ := K2
  have pi : vp_in (24 * nI t + nI i) 96 := pk_in (24 * t + i) 96 (by omega) (th_cY t i)
  have c32 : 24 * t + i < 2 ^ 31 := by omega
  have skip : (∀ q, l < q → nd_C YP YF YC (24 * t) n' R i q → ∃ p, o = some p ∧ p ≤ q) → J (th_w o) (nI (i + 1)) := fun w => h o (nx_l ho w)
  unfold wY_nextDifference_87
  refine ⟨pk_in t 4 ht, th_kl rfl (by omega) n' i hc rfl (by omega) (by omega) (fun z => nm_r (nI_1 i) (skip (fun q _ c => ?_))) (fun z => ⟨pi, ?_⟩)⟩
  · have := c.1; omega
  · obtain ⟨q, eq, r, q0, q59⟩ := sn_row W L z
    have uq : ∀ q', nd_C YP YF YC (24 * t) n' R i q' → q' = q := fun q' c => sn_inj c.2.2.1 q59 (c.2.1.symm.trans eq)
    refine th_kl (th_cY t i) c32 q l eq rfl (by omega) (by omega) (fun y => nm_r (nI_1 i) (skip (fun q' hq' c => ?_))) (fun y => ?_)
    · have := uq q' c; omega
    · refine th_yha K ht hi eq q59 (fun m => br_f th_10 (nm_r (nI_1 i) (skip (fun q' _ c => ?_)))) (fun m => br_t rfl ?_)
      · have e := uq q' c
        subst e
        exact absurd m c.2.2.2
      · have cand : nd_C YP YF YC (24 * t) n' R i q := ⟨z, eq, q59, m⟩
        have take : (∀ b, o = some b → q ≤ b) → wY_nextDifference_147 post J (nI s) (nI t) (nI l) (nI i) E F P N C M YP YF YC YN := by
          intro w
          unfold wY_nextDifference_147
          refine ⟨pi, nm_r (e' := nI q) (th_kr (K := fun v => v = nI q) (th_cY t i) c32 eq rfl) (nm_r (nI_1 i) ?_)⟩
          exact h (some q) (nx_r ho y cand (fun q' _ c => by have := uq q' c; omega) w)
        cases o with
        | none => exact br_t rfl (take (fun b e => by cases e))
        | some b =>
          have hb := hB b ho.2.1
          have hb0 := ho.1
          refine br_f (nI_ne0 (by omega) (by omega)) ⟨pi, th_klr (th_cY t i) c32 q b eq rfl (by omega) (by omega) (fun v => nm_r (nI_1 i) (skip (fun q' _ c => ⟨b, rfl, ?_⟩))) (fun v => take (fun b' e => ?_))⟩
          · have := uq q' c; omega
          · cases e; omega
theorem th_ynd1 {s n t n' l i : Nat} (K : ys_K YP YF YC YN s n R) (K' : ys_K YP YF YC YN t n' R') (hl : l < 59049) (hi : i < 24) {post : Int32 → Prop} {f : Nat} {B : Nat → Prop} (hB : ∀ q, B q → q < 59049) {o : Option Nat} (ho : nx_O B l o)
    (h : ∀ o', nx_O (fun q => (B q ∨ nd_C YP YF YC (24 * s) n R' i q) ∨ nd_C YP YF YC (24 * t) n' R i q) l o' → wY_nextDifference_6 post (nI s) (nI t) (nI l) E F P N C M YP YF YC YN f (th_w o') (nI (i + 1))) : wY_nextDifference_6 post (nI s) (nI t) (nI l) E F P N C M YP YF YC YN (f + 1) (th_w o) (nI i) := by
  have K2 := K
  obtain ⟨hs, hn, hc, W, L⟩ := K2
  have pi : vp_in (24 * nI s + nI i) 96 := pk_in (24 * s + i) 96 (by omega) (th_cY s i)
  have c32 : 24 * s + i < 2 ^ 31 := by omega
  have hB' : ∀ q, (B q ∨ nd_C YP YF YC (24 * s) n R' i q) → q < 59049 := fun q u => by
    cases u with
    | inl u => exact hB q u
    | inr u => exact u.2.2.1
  have go : ∀ o', nx_O (fun q => B q ∨ nd_C YP YF YC (24 * s) n R' i q) l o' → wY_nextDifference_87 post (wY_nextDifference_6 post (nI s) (nI t) (nI l) E F P N C M YP YF YC YN f) (nI s) (nI t) (nI l) (th_w o') (nI i) E F P N C M YP YF YC YN :=
    fun o' ho' => th_ynd2 K K' hl hi hB' ho' h
  have skip : (∀ q, l < q → nd_C YP YF YC (24 * s) n R' i q → ∃ p, o = some p ∧ p ≤ q) → wY_nextDifference_87 post (wY_nextDifference_6 post (nI s) (nI t) (nI l) E F P N C M YP YF YC YN f) (nI s) (nI t) (nI l) (th_w o) (nI i) E F P N C M YP YF YC YN := fun w => go o (nx_l ho w)
  refine pk_le 24 i (fun _ => by omega) (fun _ => ⟨pk_in s 4 hs, th_kl rfl (by omega) n i hc rfl (by omega) (by omega) (fun z => skip (fun q _ c => ?_)) (fun z => ⟨pi, ?_⟩)⟩)
  · have := c.1; omega
  · obtain ⟨q, eq, r, q0, q59⟩ := sn_row W L z
    have uq : ∀ q', nd_C YP YF YC (24 * s) n R' i q' → q' = q := fun q' c => sn_inj c.2.2.1 q59 (c.2.1.symm.trans eq)
    refine th_kl (th_cY s i) c32 q l eq rfl (by omega) (by omega) (fun y => skip (fun q' hq' c => ?_)) (fun y => ?_)
    · have := uq q' c; omega
    · refine th_yha K' hs hi eq q59 (fun m => br_f th_10 (skip (fun q' _ c => ?_))) (fun m => br_t rfl ?_)
      · have e := uq q' c
        subst e
        exact absurd m c.2.2.2
      · have cand : nd_C YP YF YC (24 * s) n R' i q := ⟨z, eq, q59, m⟩
        have take : (∀ b, o = some b → q ≤ b) → wY_nextDifference_73 post (wY_nextDifference_6 post (nI s) (nI t) (nI l) E F P N C M YP YF YC YN f) (nI s) (nI t) (nI l) (nI i) E F P N C M YP YF YC YN := by
          intro w
          unfold wY_nextDifference_73
          refine ⟨pi, nm_r (e' := nI q) (th_kr (K := fun v => v = nI q) (th_cY s i) c32 eq rfl) ?_⟩
          exact go (some q) (nx_r ho y cand (fun q' _ c => by have := uq q' c; omega) w)
        cases o with
        | none => exact br_t rfl (take (fun b e => by cases e))
        | some b =>
          have hb := hB b ho.2.1
          have hb0 := ho.1
          refine br_f (nI_ne0 (by omega) (by omega)) ⟨pi, th_klr (th_cY s i) c32 q b eq rfl (by omega) (by omega) (fun v => skip (fun q' _ c => ⟨b, rfl, ?_⟩)) (fun v => take (fun b' e => ?_))⟩
          · have := uq q' c; omega
          · cases e; omega
theorem th_ynd {s n t n' l : Nat} (K : ys_K YP YF YC YN s n R) (K' : ys_K YP YF YC YN t n' R') (hl : l < 59049) {post : Int32 → Prop} (h : ∀ o, nx_O (sn_D R R') l o → post (th_w o)) : wpY_nextDifference post (E, F, P, N, C, M, YP, YF, YC, YN) (nI s) (nI t) (nI l) := by
  have key : ∀ d i o, i + d = 24 → nx_O (fun q => ∃ j, j < i ∧ (nd_C YP YF YC (24 * s) n R' j q ∨ nd_C YP YF YC (24 * t) n' R j q)) l o → wY_nextDifference_6 post (nI s) (nI t) (nI l) E F P N C M YP YF YC YN (d + 1) (th_w o) (nI i) := by
    intro d
    induction d with
    | zero =>
      intro i o hi ho
      have : i = 24 := by omega
      subst this
      refine pk_le 24 24 (fun _ => h o (nx_ext (fun q => ?_) ho)) (fun _ => by omega)
      rw [sn_UD, nd_U K.2.1 K.2.2.2.1 K.2.2.2.2, nd_U K'.2.1 K'.2.2.2.1 K'.2.2.2.2]
      constructor
      · intro ⟨j, hj, c⟩
        cases c with
        | inl c => exact Or.inl ⟨j, hj, c⟩
        | inr c => exact Or.inr ⟨j, hj, c⟩
      · intro c
        cases c with
        | inl c => obtain ⟨j, hj, c⟩ := c; exact ⟨j, hj, Or.inl c⟩
        | inr c => obtain ⟨j, hj, c⟩ := c; exact ⟨j, hj, Or.inr c⟩
    | succ d ih =>
      intro i o hi ho
      refine th_ynd1 K K' hl (by omega) (fun q u => ?_) ho (fun o' ho' => ih (i + 1) o' (by omega) (nx_ext (fun q => ?_) ho'))
      · obtain ⟨j, _, c⟩ := u
        cases c with
        | inl c => exact c.2.2.1
        | inr c => exact c.2.2.1
      · constructor
        · intro c
          obtain (⟨j, hj, c⟩ | c) | c := c
          · exact ⟨j, by omega, c⟩
          · exact ⟨i, by omega, Or.inl c⟩
          · exact ⟨i, by omega, Or.inr c⟩
        · intro ⟨j, hj, c⟩
          by_cases z : j = i
          · subst z
            cases c with
            | inl c => exact Or.inl (Or.inr c)
            | inr c => exact Or.inr c
          · exact Or.inl (Or.inl ⟨j, by omega, c⟩)
  exact Exists.intro 25 (key 24 0 none rfl (fun q _ ⟨j, hj, _⟩ => by omega))
/-- differences: how many there are -/
theorem th_yds {s n t n' : Nat} (K : ys_K YP YF YC YN s n R) (K' : ys_K YP YF YC YN t n' R') {post : Int32 → Prop} (h : post (nI (nx_c (sn_D R R') 0))) : wpY_differences post (E, F, P, N, C, M, YP, YF, YC, YN) (nI s) (nI t) := by
  have W := K.2.2.2.1
  have W' := K'.2.2.2.1
  have tot := sn_tot W W' K.2.2.2.2 K'.2.2.2.2 0
  have n23 := K.2.1
  have n23' := K'.2.1
  have hb : ∀ q, sn_D R R' q → q < 59049 := fun q hq => (sn_Db W W' hq).2
  have key : ∀ d k c l, k + d = 48 → l < 59049 → c + nx_c (sn_D R R') l = nx_c (sn_D R R') 0 → (c = k ∨ nx_c (sn_D R R') l = 0) → wY_differences_8 post (nI s) (nI t) E F P N C M YP YF YC YN (d + 1) (nI c) (nI l) (nI k) := by
    intro d
    induction d with
    | zero =>
      intro k c l hk hl hc hz
      refine pk_le 48 k (fun _ => ?_) (fun _ => by omega)
      rw [show c = nx_c (sn_D R R') 0 by omega]; exact h
    | succ d ih =>
      intro k c l hk hl hc hz
      refine pk_le 48 k (fun _ => by omega) (fun _ => th_ynd K K' hl (fun o ho => ?_))
      cases o with
      | none => exact br_t (by show (0 : Int32) ≤ 0; decide) (nm_r (nI_1 k) (ih (k + 1) c l (by omega) hl hc (Or.inr (nx_c0 ho))))
      | some q =>
        have hq := hb q ho.2.1
        have e := nx_c1 hb ho
        have := ho.1
        exact br_f (nI_nle (by omega) (by omega)) (nm_r (nI_1 c) (nm_r (nI_1 k) (ih (k + 1) (c + 1) q (by omega) hq (by omega) (by omega))))
  exact Exists.intro 49 (key 48 0 0 0 rfl (by omega) (by omega) (Or.inl rfl))
theorem th_xds {s n s' n' : Nat} (K : xs_K RC RP RF RO s n R) (K' : xs_K RC RP RF RO s' n' R') {post : Int32 → Prop} (h : post (nI (nx_c (sn_D R R') 0))) : wpX_nextDifference (fun r => ∃ n32 : Nat, wX_differing_32 post (nI s) (nI s') E F P N C RC RP RF RO n32 0 r 0) (E, F, P, N, C, RC, RP, RF, RO) (nI s) (nI s') 0 := by
  have W := K.2.2.2.1
  have W' := K'.2.2.2.1
  have tot := sn_tot W W' K.2.2.2.2.1 K'.2.2.2.2.1 0
  have n23 := K.2.1
  have n23' := K'.2.1
  have hb : ∀ q, sn_D R R' q → q < 59049 := fun q hq => (sn_Db W W' hq).2
  have key : ∀ d k o l, k + d = 46 → nx_O (sn_D R R') l o → k + nx_c (sn_D R R') l = nx_c (sn_D R R') 0 → wX_differing_32 post (nI s) (nI s') E F P N C RC RP RF RO (d + 1) (nI k) (th_v o) (nI k) := by
    intro d
    induction d with
    | zero =>
      intro k o l hk ho hc
      refine pk_le 46 k (fun _ => ?_) (fun _ => by omega)
      rw [show k = nx_c (sn_D R R') 0 by omega]; exact h
    | succ d ih =>
      intro k o l hk ho hc
      refine pk_le 46 k (fun _ => by omega) (fun _ => ?_)
      cases o with
      | none =>
        have := nx_c0 ho
        refine br_t rfl ?_
        rw [show k = nx_c (sn_D R R') 0 by omega]; exact h
      | some q =>
        have hq := hb q ho.2.1
        have e := nx_c1 hb ho
        refine br_f (th_m1 (by omega)) (nm_r (nI_1 k) (th_xnd K K' hq (fun o' ho' => nm_r (nI_1 k) (ih (k + 1) o' q (by omega) ho' (by omega)))))
  exact th_xnd (l := 0) K K' (by omega) (fun o ho => Exists.intro 47 (key 46 0 o 0 rfl ho (by omega)))
end
end
section
/-! differing, difference, changed -/
theorem th_snX {RC RP RF RO YP YF YC YN : Nat → Int32} {s : Nat} (hs : s < 3) (h : th_Sn RC RP RF RO YP YF YC YN s) : ∃ n R, xs_K RC RP RF RO s n R ∧ ys_K YP YF YC YN s n R := by
  obtain ⟨n, R, a, b, c, d, e, f, g⟩ := h
  exact ⟨n, R, ⟨hs, a, b, d, e, f⟩, ⟨by omega, a, c, d, g⟩⟩
theorem i_vc_differing {k : Nat} {u : SX} {v : SY} (I : i_Rel k u v) (hk : k + 4 ≤ 2048) (v1 : Int32) (v2 : Int32) : wpX_differing (fun r => wpY_differing (fun r' => r' = r ∧ i_Rel (k + 4) u v) v v1 v2) u v1 v2 := by
  have I' : i_Rel (k + 4) u v := I
  obtain ⟨E, F, P, N, C, RC, RP, RF, RO, M, YP, YF, YC, YN, D, rfl, rfl, T, Sn⟩ := I
  unfold wpX_differing wpY_differing
  by_cases g : th_Q 3 v1
  · by_cases g2 : th_Q 3 v2
    · obtain ⟨a, ha, rfl⟩ := g
      obtain ⟨b, hb, rfl⟩ := g2
      have g : th_Q 3 (nI a) := ⟨a, ha, rfl⟩
      have g2 : th_Q 3 (nI b) := ⟨b, hb, rfl⟩
      obtain ⟨n, R, X1, Y1⟩ := th_snX ha (Sn a ha)
      obtain ⟨n', R', X2, Y2⟩ := th_snX hb (Sn b hb)
      refine th_xs1 g (br_f th_10 (th_xs1 g2 (br_f th_10 (th_xds X1 X2 ?_))))
      exact th_ys1 g (br_t rfl (th_ys1 g2 (br_t rfl (th_yds Y1 Y2 ⟨rfl, I'⟩))))
    · refine th_xs1 g (br_f th_10 (th_xs0 g2 (br_t rfl ?_)))
      exact th_ys1 g (br_t rfl (th_ys0 g2 (br_f th_10 ⟨rfl, I'⟩)))
  · exact th_xs0 g (br_t rfl (th_ys0 g (br_f th_10 ⟨rfl, I'⟩)))
section
variable {D : Nat → Nat} {E F P N C RC RP RF RO M YP YF YC YN : Nat → Int32} {R R' : Nat → Int32 → Int32 → Prop}
theorem th_dfl {s n s' n' i : Nat} (K : xs_K RC RP RF RO s n R) (K' : xs_K RC RP RF RO s' n' R') (Y : ys_K YP YF YC YN s n R) (Y' : ys_K YP YF YC YN s' n' R') (hi : i < 46) : ∀ d k l o, k + d = i → l < 59049 → nx_O (sn_D R R') l o →
    ∃ r, (∀ post : Int32 → Prop, post r → wX_difference_43 post (nI s) (nI s') (nI i) E F P N C RC RP RF RO (d + 1) (th_v o) (nI k)) ∧ (∀ post : Int32 → Prop, post r → wY_difference_24 post (nI s) (nI s') (nI i) E F P N C M YP YF YC YN (d + 1) (nI l) (nI k)) := by
  have hb : ∀ q, sn_D R R' q → q < 59049 := fun q hq => (sn_Db K.2.2.2.1 K'.2.2.2.1 hq).2
  intro d
  induction d with
  | zero =>
    intro k l o hk hl ho
    cases o with
    | none =>
      refine ⟨-2, fun post h => pk_le i k (fun _ => br_t rfl h) (fun _ => by omega), fun post h => pk_le 48 k (fun _ => by omega) (fun _ => th_ynd Y Y' hl (fun o' ho' => ?_))⟩
      rw [nx_u ho' ho]
      exact br_t rfl h
    | some q =>
      have hq := hb q ho.2.1
      have hq0 := ho.1
      refine ⟨nI q, fun post h => pk_le i k (fun _ => br_f (th_m1 (by omega)) h) (fun _ => by omega), fun post h => pk_le 48 k (fun _ => by omega) (fun _ => th_ynd Y Y' hl (fun o' ho' => ?_))⟩
      rw [nx_u ho' ho]
      exact br_f (nI_ne0 (by omega) (by omega)) (pk_eq k i (fun _ => h) (fun _ => by omega))
  | succ d ih =>
    intro k l o hk hl ho
    cases o with
    | none =>
      refine ⟨-2, fun post h => pk_le i k (fun _ => by omega) (fun _ => br_t rfl (br_t rfl h)), fun post h => pk_le 48 k (fun _ => by omega) (fun _ => th_ynd Y Y' hl (fun o' ho' => ?_))⟩
      rw [nx_u ho' ho]
      exact br_t rfl h
    | some q =>
      have hq := hb q ho.2.1
      have hq0 := ho.1
      obtain ⟨o2, ho2⟩ := nx_ex (sn_D R R') q
      obtain ⟨r, hX, hY⟩ := ih (k + 1) q o2 (by omega) hq ho2
      refine ⟨r, fun post h => pk_le i k (fun _ => by omega) (fun _ => br_f (th_m1 (by omega)) (th_xnd K K' hq (fun o3 ho3 => ?_))), fun post h => pk_le 48 k (fun _ => by omega) (fun _ => th_ynd Y Y' hl (fun o' ho' => ?_))⟩
      · rw [nx_u ho3 ho2]
        exact nm_r (nI_1 k) (hX post h)
      · rw [nx_u ho' ho]
        exact br_f (nI_ne0 (by omega) (by omega)) (pk_eq k i (fun _ => by omega) (fun _ => nm_r (nI_1 k) (hY post h)))
theorem th_ydn {s n s' n' : Nat} (Y : ys_K YP YF YC YN s n R) (Y' : ys_K YP YF YC YN s' n' R') {v : Int32} (hv : ∀ j, j < 46 → ¬ nI j = v) {post : Int32 → Prop} (h : post (-2)) : ∀ d k l, k + d = 48 → l < 59049 → k + nx_c (sn_D R R') l ≤ 46 →
    wY_difference_24 post (nI s) (nI s') v E F P N C M YP YF YC YN (d + 1) (nI l) (nI k) := by
  have hb : ∀ q, sn_D R R' q → q < 59049 := fun q hq => (sn_Db Y.2.2.2.1 Y'.2.2.2.1 hq).2
  intro d
  induction d with
  | zero => intro k l hk hl hc; omega
  | succ d ih =>
    intro k l hk hl hc
    refine pk_le 48 k (fun _ => by omega) (fun _ => th_ynd Y Y' hl (fun o ho => ?_))
    cases o with
    | none => exact br_t rfl h
    | some q =>
      have hq := hb q ho.2.1
      have hq0 := ho.1
      have e := nx_c1 hb ho
      exact br_f (nI_ne0 (by omega) (by omega)) (br_f (hv k (by omega)) (nm_r (nI_1 k) (ih (k + 1) q (by omega) hq (by omega))))
/-- does a row stand in the tree -/
theorem th_xst (T : th_T E F P N C D) {c q : Nat} (hc : c < 69) (hq : RP c = nI q) (q0 : 0 < q) (hq59 : q < 59049) {post : Int32 → Prop} (h1 : th_R E F P N C q (RF c) (RO c) → post 1) (h0 : ¬ th_R E F P N C q (RF c) (RO c) → post 0) : wpX_standsInTree post (E, F, P, N, C, RC, RP, RF, RO) (nI c) := by
  have H := T.1
  unfold wpX_standsInTree
  refine ⟨pk_in c 69 hc, ?_⟩
  rw [nI_clamp (show c < 2 ^ 31 by omega), hq]
  refine th_xe (t := 0) H (by omega) (by omega) (fun r hr => ?_)
  obtain ⟨e1, ha⟩ | ⟨x, hx, e1, g⟩ := hr
  · refine br_t e1 (h0 (fun w => ?_))
    obtain ⟨e, he, _, g, _⟩ := w
    exact ha e he g
  · subst e1
    have x24 := hx.1
    have un : th_R E F P N C q (RF c) (RO c) → F x = RF c ∧ C x = RO c := by
      intro ⟨e, he, _, g', a, b⟩
      have := th_pl_inj H T.2.2.2.2.2.2 x hx e q he g g'
      subst this
      exact ⟨a, b⟩
    refine br_f (th_m1 (by omega)) ⟨pk_in x 24 x24, pk_in c 69 hc, ?_⟩
    by_cases hF : F x = RF c
    · refine th_bt x24 hF ⟨pk_in x 24 x24, pk_in c 69 hc, ?_⟩
      by_cases hC : C x = RO c
      · refine th_bt x24 hC (h1 ⟨x, hx, fun z => ?_, g, hF, hC⟩)
        subst z
        rw [th_pl_t] at g
        have := Option.some.inj g
        omega
      · exact th_bf x24 hC (h0 (fun w => hC (un w).2))
    · exact th_bf x24 hF (h0 (fun w => hF (un w).1))
theorem th_xhp (T : th_T E F P N C D) {s n e q : Nat} (K : xs_K RC RP RF RO s n R) (he : th_S E e) (g : th_pl P N 0 e = some q) {post : Int32 → Prop} (h1 : (∃ f c, R q f c) → post 1) (h0 : ¬ (∃ f c, R q f c) → post 0) : wpX_hasPathOf post (E, F, P, N, C, RC, RP, RF, RO) (nI s) (nI e) := by
  have q59 := (th_pl_D T.1 e he q g).1
  have K' := K
  obtain ⟨hs, hn, hc, W, L, So⟩ := K'
  unfold wpX_hasPathOf
  refine th_xpb (t := 0) T.1 (by omega) he ?_
  rw [g]
  refine th_xco K (fun r hr => ?_)
  obtain ⟨e1, ha⟩ | ⟨i, hi, e1, e2⟩ := hr
  · refine br_t e1 (h0 (fun ⟨f, c, w⟩ => ?_))
    obtain ⟨i, hi, a, _⟩ := L.2.1 _ _ _ w
    exact ha i hi a
  · subst e1
    obtain ⟨q', a, b, _, hq'⟩ := sn_row W L hi
    have := sn_inj hq' q59 (a.symm.trans e2)
    subst this
    exact br_f (th_m1 (by omega)) (h1 ⟨_, _, b⟩)
def cg_1 (E F P N C RP RF RO : Nat → Int32) (s : Nat) (i : Nat) : Prop := ∃ q, q < 59049 ∧ RP (s * 23 + i) = nI q ∧ ¬ th_R E F P N C q (RF (s * 23 + i)) (RO (s * 23 + i))
def cg_2 (E P N : Nat → Int32) (R : Nat → Int32 → Int32 → Prop) (e : Nat) : Prop := th_e E e ∧ ∃ q, th_pl P N 0 e = some q ∧ ¬ ∃ f c, R q f c
theorem cg_tot (T : th_T E F P N C D) {s n : Nat} (K : xs_K RC RP RF RO s n R) : cn_c (cg_1 E F P N C RP RF RO s) n + cn_c (cg_2 E P N R) 24 = nx_c (sn_D (th_R E F P N C) R) 0 := by
  obtain ⟨hs, hn, hc, W, L, So⟩ := K
  have H := T.1
  have WT := th_RW T
  have e1 : cn_c (cg_1 E F P N C RP RF RO s) n = cn_c (sn_U R (th_R E F P N C)) 59049 := by
    refine cn_bij (f := fun i => (RP (s * 23 + i)).toNatClampNeg) n _ ?_ ?_ ?_
    · intro i hi ⟨q, hq, e, nr⟩
      obtain ⟨q', a, b, _, hq'⟩ := sn_row W L hi
      have := sn_inj hq' hq (a.symm.trans e)
      subst this
      rw [e, nI_clamp (by omega)]
      exact ⟨hq, _, _, b, nr⟩
    · intro q hq ⟨f, c, r, nr⟩
      obtain ⟨i, hi, a, b, c'⟩ := L.2.1 _ _ _ r
      refine ⟨i, hi, ⟨q, hq, a, by rw [b, c']; exact nr⟩, ?_⟩
      rw [a, nI_clamp (by omega)]
    · intro i j hi hj ⟨q, hq, e, _⟩ ⟨q', hq', e', _⟩ w
      rw [e, e', nI_clamp (by omega), nI_clamp (by omega)] at w
      exact L.2.2 i j hi hj (by rw [e, e', w])
  have e2 : cn_c (cg_2 E P N R) 24 = cn_c (fun q => th_pt E P N q ∧ ¬ ∃ f c, R q f c) 59049 := by
    refine cn_bij (f := fun x => (th_pl P N 0 x).getD 0) 24 _ ?_ ?_ ?_
    · intro i hi ⟨he, q, g, nr⟩
      rw [g]
      exact ⟨(th_pl_D H i he.1 q g).1, ⟨i, he, g⟩, nr⟩
    · intro q hq ⟨⟨e, he, g⟩, nr⟩
      refine ⟨e, he.1.1, ⟨he, q, g, nr⟩, ?_⟩
      rw [g]; rfl
    · intro i j hi hj ⟨ai, q, g, _⟩ ⟨aj, q', g', _⟩ e
      rw [g, g'] at e
      have e' : q = q' := e
      subst e'
      exact th_pl_inj H T.2.2.2.2.2.2 i ai.1 j q aj.1 g g'
  rw [e1, e2, ← cn_or 59049 (fun q _ ⟨f, c, r, _⟩ ⟨_, nr⟩ => nr ⟨f, c, r⟩)]
  refine cn_ext 59049 (fun q _ => ?_)
  rw [sn_UD]
  constructor
  · intro u
    cases u with
    | inl u =>
      obtain ⟨f, c, r, nr⟩ := u
      exact ⟨(W.1 _ _ _ r).1, Or.inr ⟨f, c, r, nr⟩⟩
    | inr u =>
      obtain ⟨hp, nr⟩ := u
      refine ⟨(th_ptb H hp).1, Or.inl ?_⟩
      obtain ⟨e, he, g⟩ := hp
      exact ⟨F e, C e, ⟨e, he.1, he.2, g, rfl, rfl⟩, fun r => nr ⟨_, _, r⟩⟩
  · intro ⟨_, u⟩
    cases u with
    | inl u =>
      obtain ⟨f, c, r, nr⟩ := u
      by_cases z : ∃ f c, R q f c
      · obtain ⟨f', c', r'⟩ := z
        refine Or.inl ⟨f', c', r', fun w => ?_⟩
        obtain ⟨a, b⟩ := WT.2 _ _ _ _ _ r w
        subst a b
        exact nr r'
      · obtain ⟨e, he, z0, g, _⟩ := r
        exact Or.inr ⟨⟨e, ⟨he, z0⟩, g⟩, z⟩
    | inr u => exact Or.inl u
theorem th_xch (T : th_T E F P N C D) {s n : Nat} (K : xs_K RC RP RF RO s n R) {post : Int32 → Prop} (h : post (nI (nx_c (sn_D (th_R E F P N C) R) 0))) : ∃ n14 : Nat, wX_changed_14 post (nI s) E F P N C RC RP RF RO n14 0 0 := by
  have K' := K
  obtain ⟨hs, hn, hc, W, L, So⟩ := K'
  have H := T.1
  have key2 : ∀ d e, e + d = 24 → 1 ≤ e → wX_changed_48 post (nI s) E F P N C RC RP RF RO (d + 1) (nI (cn_c (cg_1 E F P N C RP RF RO s) n + cn_c (cg_2 E P N R) e)) (nI e) := by
    intro d
    induction d with
    | zero =>
      intro e he _
      have : e = 24 := by omega
      subst this
      refine pk_le 24 24 (fun _ => ?_) (fun _ => by omega)
      rw [cg_tot T K]; exact h
    | succ d ih =>
      intro e he h1
      have e24 : e < 24 := by omega
      have next := ih (e + 1) (by omega) (by omega)
      refine pk_le 24 e (fun _ => by omega) (fun _ => ⟨pk_in e 24 e24, ?_⟩)
      by_cases hE : E e = 0
      · rw [cn_s0 (fun z => z.1.1.2 hE)] at next
        exact th_bt e24 hE (nm_r (nI_1 e) next)
      · have eS : th_S E e := ⟨e24, hE⟩
        obtain ⟨q, g⟩ := th_pl_root H e eS
        refine th_bf e24 hE (th_xhp T K eS g (fun w => br_f th_10 ?_) (fun w => br_t rfl ?_))
        · rw [cn_s0 (fun ⟨_, q', g', nr⟩ => by rw [g] at g'; cases g'; exact nr w)] at next
          exact nm_r (nI_1 e) next
        · rw [cn_s1 ⟨⟨eS, by omega⟩, q, g, w⟩] at next
          exact nm_r (nI_1 _) (nm_r (nI_1 e) next)
  have key1 : ∀ d i, i + d = n → wX_changed_14 post (nI s) E F P N C RC RP RF RO (d + 1) (nI (cn_c (cg_1 E F P N C RP RF RO s) i)) (nI i) := by
    intro d
    induction d with
    | zero =>
      intro i hi
      have : i = n := by omega
      subst this
      have h0 : cn_c (cg_2 E P N R) 1 = 0 := cn_s0 (fun z => z.1.2 rfl)
      have k2 := key2 23 1 rfl (by omega)
      rw [h0, Nat.add_zero] at k2
      exact ⟨pk_in s 3 hs, th_kl rfl (by omega) i i hc rfl (by omega) (by omega) (fun _ => Exists.intro 24 k2) (fun _ => by omega)⟩
    | succ d ih =>
      intro i hi
      have next := ih (i + 1) (by omega)
      have hin : i < n := by omega
      obtain ⟨q, eq, r, q0, q59⟩ := sn_row W L hin
      refine ⟨pk_in s 3 hs, th_kl rfl (by omega) n i hc rfl (by omega) (by omega) (fun _ => by omega) (fun _ => ?_)⟩
      rw [th_cX]
      refine th_xst T (by omega) eq q0 q59 (fun w => br_f th_10 ?_) (fun w => br_t rfl ?_)
      · rw [cn_s0 (fun ⟨q', hq', e', nr⟩ => by have := sn_inj hq' q59 (e'.symm.trans eq); subst this; exact nr w)] at next
        exact nm_r (nI_1 i) next
      · rw [cn_s1 ⟨q, q59, eq, w⟩] at next
        exact nm_r (nI_1 _) (nm_r (nI_1 i) next)
  exact Exists.intro (n + 1) (key1 n 0 (by omega))
end
theorem i_vc_difference {k : Nat} {u : SX} {v : SY} (I : i_Rel k u v) (hk : k + 4 ≤ 2048) (v1 : Int32) (v2 : Int32) (v3 : Int32) : wpX_difference (fun r => wpY_difference (fun r' => r' = r ∧ i_Rel (k + 4) u v) v v1 v2 v3) u v1 v2 v3 := by
  have I' : i_Rel (k + 4) u v := I
  obtain ⟨E, F, P, N, C, RC, RP, RF, RO, M, YP, YF, YC, YN, D, rfl, rfl, T, Sn⟩ := I
  unfold wpX_difference wpY_difference
  by_cases g : th_Q 3 v1
  · by_cases g2 : th_Q 3 v2
    · obtain ⟨a, ha, rfl⟩ := g
      obtain ⟨b, hb, rfl⟩ := g2
      have g : th_Q 3 (nI a) := ⟨a, ha, rfl⟩
      have g2 : th_Q 3 (nI b) := ⟨b, hb, rfl⟩
      obtain ⟨n, R, X1, Y1⟩ := th_snX ha (Sn a ha)
      obtain ⟨n', R', X2, Y2⟩ := th_snX hb (Sn b hb)
      have n1 := Y1.2.1
      have n2 := Y2.2.1
      refine th_xs1 g (br_f th_10 (th_xs1 g2 (br_f th_10 ?_)))
      by_cases gi : th_Q 46 v3
      · obtain ⟨i, hi, rfl⟩ := gi
        obtain ⟨o, ho⟩ := nx_ex (sn_D R R') 0
        obtain ⟨r, hX, hY⟩ := th_dfl (E := E) (F := F) (P := P) (N := N) (C := C) (M := M) X1 X2 Y1 Y2 hi i 0 0 o (by omega) (by omega) ho
        refine br_f (nI_pos (by omega)) (pk_lt i 46 (fun _ => th_xnd (l := 0) X1 X2 (by omega) (fun o' ho' => Exists.intro (i + 1) ?_)) (fun _ => by omega))
        rw [nx_u ho' ho]
        refine hX _ ?_
        exact th_ys1 g (br_t rfl (th_ys1 g2 (br_t rfl (Exists.intro (i + 1) (hY _ ⟨rfl, I'⟩)))))
      · have hv : ∀ j, j < 46 → ¬ nI j = v3 := fun j hj e => gi ⟨j, hj, e.symm⟩
        have tot := sn_tot Y1.2.2.2.1 Y2.2.2.2.1 Y1.2.2.2.2 Y2.2.2.2.2 0
        refine br_c (fun _ => th_ys1 g (br_t rfl (th_ys1 g2 (br_t rfl (Exists.intro 49 (th_ydn Y1 Y2 hv ⟨rfl, I'⟩ 48 0 0 rfl (by omega) (by omega))))))) (fun h0 => ?_)
        obtain ⟨j, hj, rfl⟩ := nI_of h0
        exact pk_lt j 46 (fun z => absurd ⟨j, z, rfl⟩ gi) (fun _ => th_ys1 g (br_t rfl (th_ys1 g2 (br_t rfl (Exists.intro 49 (th_ydn Y1 Y2 hv ⟨rfl, I'⟩ 48 0 0 rfl (by omega) (by omega)))))))
    · refine th_xs1 g (br_f th_10 (th_xs0 g2 (br_t rfl ?_)))
      exact th_ys1 g (br_t rfl (th_ys0 g2 (br_f th_10 ⟨rfl, I'⟩)))
  · exact th_xs0 g (br_t rfl (th_ys0 g (br_f th_10 ⟨rfl, I'⟩)))
theorem i_vc_changed {k : Nat} {u : SX} {v : SY} (I : i_Rel k u v) (hk : k + 4 ≤ 2048) (v1 : Int32) : wpX_changed (fun r => wpY_changed (fun r' v' => r' = r ∧ i_Rel (k + 4) u v') v v1) u v1 := by
  obtain ⟨E, F, P, N, C, RC, RP, RF, RO, M, YP, YF, YC, YN, D, rfl, rfl, T, Sn⟩ := I
  unfold wpX_changed wpY_changed
  by_cases g : th_Q 3 v1
  · obtain ⟨s, hs, rfl⟩ := g
    have g : th_Q 3 (nI s) := ⟨s, hs, rfl⟩
    obtain ⟨n, R, X1, Y1⟩ := th_snX hs (Sn s hs)
    refine th_xs1 g (br_f th_10 (th_xch T X1 ?_))
    refine th_ys1 g (br_t rfl (sv_Y (t := 3) T (by omega) (fun YP' YF' YC' LY uY => ?_)))
    have Y1' : ys_K YP' YF' YC' (upd YN 3 (nI (cn_c (th_e E) 24))) s n R := by
      obtain ⟨a, b, c, d, e⟩ := Y1
      exact ⟨a, b, by rw [pk_un (by omega)]; exact c, d, sn_cg (fun i hi => uY _ (by omega)) e⟩
    have Y3 : ys_K YP' YF' YC' (upd YN 3 (nI (cn_c (th_e E) 24))) 3 (cn_c (th_e E) 24) (th_R E F P N C) := ⟨by omega, th_e23 (E := E), pk_us, th_RW T, LY⟩
    refine th_yds (s := 3) Y3 Y1' ⟨rfl, th_rel T (fun s' hs' => ?_)⟩
    exact th_Sn_cg (Sn s' hs') rfl (pk_un (by omega)) (fun j _ _ => ⟨rfl, rfl, rfl⟩) (fun j h1 h2 => uY j (by omega))
  · exact th_xs0 g (br_t rfl (th_ys0 g (br_f th_10 ⟨rfl, th_rel T Sn⟩)))
end
section
/-! repeated -/
def rp_S (Q : Int32 → Prop) (a l : Int32) : Prop := (a = 0 ∧ l = 0 ∧ ∀ c, ¬ Q c) ∨ (a = 1 ∧ Q l ∧ ∀ c, Q c → l ≤ c)
theorem rp_ext {Q Q' : Int32 → Prop} {a l : Int32} (e : ∀ c, Q c ↔ Q' c) (h : rp_S Q a l) : rp_S Q' a l := by
  obtain ⟨h1, h2, h3⟩ | ⟨h1, h2, h3⟩ := h
  · exact Or.inl ⟨h1, h2, fun c q => h3 c ((e c).mpr q)⟩
  · exact Or.inr ⟨h1, (e l).mp h2, fun c q => h3 c ((e c).mpr q)⟩
theorem rp_u {Q : Int32 → Prop} {a l a' l' : Int32} (h : rp_S Q a l) (h' : rp_S Q a' l') : l = l' := by
  obtain ⟨h1, h2, h3⟩ | ⟨h1, h2, h3⟩ := h
  · obtain ⟨g1, g2, g3⟩ | ⟨g1, g2, g3⟩ := h'
    · rw [h2, g2]
    · exact absurd g2 (h3 l')
  · obtain ⟨g1, g2, g3⟩ | ⟨g1, g2, g3⟩ := h'
    · exact absurd h2 (g3 l)
    · exact Int32.le_antisymm (h3 l' g2) (g3 l h2)
theorem rp_new {Q : Int32 → Prop} {a l c : Int32} (h : rp_S Q a l) (hn : a = 0 ∨ ¬ l ≤ c) : rp_S (fun x => Q x ∨ x = c) 1 c := by
  refine Or.inr ⟨rfl, Or.inr rfl, fun x q => ?_⟩
  cases q with
  | inr q => rw [q]; exact Int32.le_refl c
  | inl q =>
    obtain ⟨h1, h2, h3⟩ | ⟨h1, h2, h3⟩ := h
    · exact absurd q (h3 x)
    · cases hn with
      | inl hn => rw [h1] at hn; exact absurd hn th_10
      | inr hn =>
        have a1 := h3 x q
        rw [Int32.le_iff_toInt_le] at a1 hn ⊢
        omega
theorem rp_old {Q : Int32 → Prop} {a l c : Int32} (h : rp_S Q a l) (ha : ¬ a = 0) (hn : l ≤ c) : rp_S (fun x => Q x ∨ x = c) a l := by
  obtain ⟨h1, h2, h3⟩ | ⟨h1, h2, h3⟩ := h
  · exact absurd h1 ha
  · refine Or.inr ⟨h1, Or.inl h2, fun x q => ?_⟩
    cases q with
    | inl q => exact h3 x q
    | inr q => rw [q]; exact hn
def rp_R (R : Nat → Int32 → Int32 → Prop) (c : Int32) : Prop := ∃ q q' f f', ¬ q = q' ∧ ¬ f = 0 ∧ ¬ f' = 0 ∧ R q f c ∧ R q' f' c
def rp_P (B G : Nat → Int32) (o i j : Nat) : Prop := ¬ B (o + i) = 0 ∧ ¬ B (o + j) = 0 ∧ G (o + j) = G (o + i)
theorem rp_RP {A B G : Nat → Int32} {o n : Nat} {R : Nat → Int32 → Int32 → Prop} (W : sn_W R) (L : sn_L A B G o n R) (c : Int32) : rp_R R c ↔ ∃ i j, i < j ∧ j < n ∧ rp_P B G o i j ∧ G (o + i) = c := by
  constructor
  · intro ⟨q, q', f, f', hq, hf, hf', r, r'⟩
    obtain ⟨i, hi, a1, a2, a3⟩ := L.2.1 _ _ _ r
    obtain ⟨j, hj, b1, b2, b3⟩ := L.2.1 _ _ _ r'
    have ne : ¬ i = j := by
      intro e
      subst e
      exact hq (sn_inj (W.1 _ _ _ r).2.1 (W.1 _ _ _ r').2.1 (a1.symm.trans b1))
    by_cases z : i < j
    · exact ⟨i, j, z, hj, ⟨by rw [a2]; exact hf, by rw [b2]; exact hf', by rw [a3, b3]⟩, a3⟩
    · exact ⟨j, i, by omega, hi, ⟨by rw [b2]; exact hf', by rw [a2]; exact hf, by rw [a3, b3]⟩, b3⟩
  · intro ⟨i, j, hij, hj, ⟨p1, p2, p3⟩, e⟩
    obtain ⟨q, a1, r, _, _⟩ := sn_row W L (show i < n by omega)
    obtain ⟨q', b1, r', _, _⟩ := sn_row W L hj
    refine ⟨q, q', _, _, fun z => ?_, p1, p2, by rw [← e]; exact r, by rw [← e, ← p3]; exact r'⟩
    subst z
    have := L.2.2 i j (by omega) hj (a1.trans b1.symm)
    omega
section
variable {E F P N C RC RP RF RO M YP YF YC YN : Nat → Int32} {R : Nat → Int32 → Int32 → Prop}
theorem th_xrl {s n i : Nat} (K : xs_K RC RP RF RO s n R) (hi : i < n) {post : Int32 → Prop} (h1 : (∃ j, i < j ∧ j < n ∧ rp_P RF RO (s * 23) i j) → post 1) (h0 : ¬ (∃ j, i < j ∧ j < n ∧ rp_P RF RO (s * 23) i j) → post 0) : wpX_isRepeatedLater post (E, F, P, N, C, RC, RP, RF, RO) (nI s) (nI i) := by
  obtain ⟨hs, hn, hc, W, L, So⟩ := K
  have ci : s * 23 + i < 69 := by omega
  unfold wpX_isRepeatedLater
  refine nm_r (th_cX s i) ⟨pk_in _ 69 ci, ?_⟩
  by_cases hF : RF (s * 23 + i) = 0
  · exact th_kt rfl (by omega) hF (h0 (fun ⟨j, _, _, p⟩ => p.1 hF))
  · refine th_kf rfl (by omega) hF (nm_r (nI_1 i) (Exists.intro (n - (i + 1) + 1) ?_))
    have key : ∀ d j, j + d = n → i < j → (∀ k, i < k → k < j → ¬ rp_P RF RO (s * 23) i k) → wX_isRepeatedLater_23 post (nI s) (nI (s * 23 + i)) E F P N C RC RP RF RO (d + 1) (nI j) := by
      intro d
      induction d with
      | zero =>
        intro j hj hij ha
        exact ⟨pk_in s 3 hs, th_kl rfl (by omega) n j hc rfl (by omega) (by omega) (fun _ => h0 (fun ⟨k, a, b, p⟩ => ha k a (by omega) p)) (fun _ => by omega)⟩
      | succ d ih =>
        intro j hj hij ha
        have cj : s * 23 + j < 69 := by omega
        have next : ¬ rp_P RF RO (s * 23) i j → wX_isRepeatedLater_23 post (nI s) (nI (s * 23 + i)) E F P N C RC RP RF RO (d + 1) (nI (j + 1)) := by
          intro hn'
          refine ih (j + 1) (by omega) (by omega) (fun k a b => ?_)
          by_cases z : k = j
          · subst z; exact hn'
          · exact ha k a (by omega)
        refine ⟨pk_in s 3 hs, th_kl rfl (by omega) n j hc rfl (by omega) (by omega) (fun _ => by omega) (fun _ => nm_r (th_cX s j) ⟨pk_in _ 69 cj, ?_⟩)⟩
        by_cases hFj : RF (s * 23 + j) = 0
        · exact th_kt rfl (by omega) hFj (nm_r (nI_1 j) (next (fun p => p.2.1 hFj)))
        · refine th_kf rfl (by omega) hFj ⟨pk_in _ 69 cj, pk_in _ 69 ci, ?_⟩
          by_cases hC : RO (s * 23 + j) = RO (s * 23 + i)
          · exact th_k2t rfl (by omega) rfl (by omega) hC (h1 ⟨j, hij, by omega, hF, hFj, hC⟩)
          · exact th_k2f rfl (by omega) rfl (by omega) hC (nm_r (nI_1 j) (next (fun p => hC p.2.2)))
    exact key (n - (i + 1)) (i + 1) (by omega) (by omega) (fun k a b => by omega)
theorem th_xrp {s n : Nat} (K : xs_K RC RP RF RO s n R) {post : Int32 → Prop} (h : ∀ a l, rp_S (rp_R R) a l → post l) : ∃ n17 : Nat, wX_repeated_17 post (nI s) E F P N C RC RP RF RO n17 0 0 0 := by
  have K' := K
  obtain ⟨hs, hn, hc, W, L, So⟩ := K'
  have key : ∀ d i a l, i + d = n → rp_S (fun c => ∃ r j, r < i ∧ r < j ∧ j < n ∧ rp_P RF RO (s * 23) r j ∧ RO (s * 23 + r) = c) a l → wX_repeated_17 post (nI s) E F P N C RC RP RF RO (d + 1) a l (nI i) := by
    intro d
    induction d with
    | zero =>
      intro i a l hi hS
      refine ⟨pk_in s 3 hs, th_kl rfl (by omega) n i hc rfl (by omega) (by omega) (fun _ => h a l (rp_ext (fun c => ?_) hS)) (fun _ => by omega)⟩
      rw [rp_RP W L]
      constructor
      · intro ⟨r, j, _, a, b, c⟩; exact ⟨r, j, a, b, c⟩
      · intro ⟨r, j, a, b, c⟩; exact ⟨r, j, by omega, a, b, c⟩
    | succ d ih =>
      intro i a l hi hS
      have hin : i < n := by omega
      have ci : s * 23 + i < 69 := by omega
      have e32 : s * 23 + i < 2 ^ 31 := by omega
      refine ⟨pk_in s 3 hs, th_kl rfl (by omega) n i hc rfl (by omega) (by omega) (fun _ => by omega) (fun _ => nm_r (th_cX s i) (th_xrl K hin (fun w => br_f th_10 ?_) (fun w => br_t rfl (nm_r (nI_1 i) ?_))))⟩
      · have ext : ∀ c, ((∃ r j, r < i ∧ r < j ∧ j < n ∧ rp_P RF RO (s * 23) r j ∧ RO (s * 23 + r) = c) ∨ c = RO (s * 23 + i)) ↔ (∃ r j, r < i + 1 ∧ r < j ∧ j < n ∧ rp_P RF RO (s * 23) r j ∧ RO (s * 23 + r) = c) := by
          intro c
          constructor
          · intro u
            cases u with
            | inl u => obtain ⟨r, j, a, b⟩ := u; exact ⟨r, j, by omega, b⟩
            | inr u => obtain ⟨j, a, b, p⟩ := w; exact ⟨i, j, by omega, a, b, p, u.symm⟩
          · intro ⟨r, j, a, b, c', p, e⟩
            by_cases z : r = i
            · subst z; exact Or.inr e.symm
            · exact Or.inl ⟨r, j, by omega, b, c', p, e⟩
        have take : (a = 0 ∨ ¬ l ≤ RO (s * 23 + i)) → wX_repeated_62 post (wX_repeated_17 post (nI s) E F P N C RC RP RF RO (d + 1)) (nI s) (nI i) (nI (s * 23 + i)) E F P N C RC RP RF RO := by
          intro z
          unfold wX_repeated_62
          exact ⟨pk_in _ 69 ci, nm_r (e' := RO (s * 23 + i)) (by rw [nI_clamp e32]) (nm_r (nI_1 i) (ih (i + 1) 1 _ (by omega) (rp_ext ext (rp_new hS z))))⟩
        by_cases ha : a = 0
        · exact br_t ha (take (Or.inl ha))
        · refine br_f ha ⟨pk_in _ 69 ci, ?_⟩
          by_cases z : l ≤ RO (s * 23 + i)
          · exact br_t (by rw [nI_clamp e32]; exact z) (nm_r (nI_1 i) (ih (i + 1) a l (by omega) (rp_ext ext (rp_old hS ha z))))
          · exact br_f (by rw [nI_clamp e32]; exact z) (take (Or.inr z))
      · refine ih (i + 1) a l (by omega) (rp_ext (fun c => ?_) hS)
        constructor
        · intro ⟨r, j, a, b⟩; exact ⟨r, j, by omega, b⟩
        · intro ⟨r, j, a, b, c', p, e⟩
          by_cases z : r = i
          · subst z; exact absurd ⟨j, b, c', p⟩ w
          · exact ⟨r, j, by omega, b, c', p, e⟩
  exact Exists.intro (n + 1) (key n 0 0 0 (by omega) (Or.inl ⟨rfl, rfl, fun c ⟨r, j, a, _⟩ => by omega⟩))
def rp_Y (B G : Nat → Int32) (o i j : Nat) (c : Int32) : Prop := ∃ x y, y < x ∧ (x < i ∨ (x = i ∧ y < j)) ∧ rp_P B G o x y ∧ G (o + x) = c
theorem th_yrp {s n : Nat} (K : ys_K YP YF YC YN s n R) {post : Int32 → Prop} (h : ∀ a l, rp_S (rp_R R) a l → post l) : ∃ n17 : Nat, wY_repeated_17 post (nI s) E F P N C M YP YF YC YN n17 0 0 0 := by
  obtain ⟨hs, hn, hc, W, L⟩ := K
  have inner : ∀ (J : Int32 → Int32 → Int32 → Prop) i, i < n → (∀ a l, rp_S (rp_Y YF YC (24 * s) (i + 1) 0) a l → J a l (nI (i + 1))) → ∀ d j a l, j + d = i → rp_S (rp_Y YF YC (24 * s) i j) a l → wY_repeated_38 post J (nI s) (nI i) E F P N C M YP YF YC YN (d + 1) a l (nI j) := by
    intro J i hi hJ d
    have ci : 24 * s + i < 96 := by omega
    have pi : vp_in (24 * nI s + nI i) 96 := pk_in (24 * s + i) 96 ci (th_cY s i)
    induction d with
    | zero =>
      intro j a l hj hS
      refine pk_le i j (fun _ => nm_r (nI_1 i) (hJ a l (rp_ext (fun c => ?_) hS))) (fun _ => by omega)
      constructor
      · intro ⟨x, y, a, b, c⟩; exact ⟨x, y, a, Or.inl (by omega), c⟩
      · intro ⟨x, y, a, b, c⟩; exact ⟨x, y, a, by omega, c⟩
    | succ d ih =>
      intro j a l hj hS
      have cj : 24 * s + j < 96 := by omega
      have pj : vp_in (24 * nI s + nI j) 96 := pk_in (24 * s + j) 96 cj (th_cY s j)
      have next : ¬ rp_P YF YC (24 * s) i j → wY_repeated_38 post J (nI s) (nI i) E F P N C M YP YF YC YN (d + 1) a l (nI (j + 1)) := by
        intro hn'
        refine ih (j + 1) a l (by omega) (rp_ext (fun c => ?_) hS)
        constructor
        · intro ⟨x, y, a, b, c⟩; exact ⟨x, y, a, by omega, c⟩
        · intro ⟨x, y, a, b, p, e⟩
          by_cases z : x = i ∧ y = j
          · obtain ⟨z1, z2⟩ := z
            subst z1 z2
            exact absurd p hn'
          · exact ⟨x, y, a, by omega, p, e⟩
      have no : ¬ rp_P YF YC (24 * s) i j → wY_repeated_93 post J (wY_repeated_38 post J (nI s) (nI i) E F P N C M YP YF YC YN (d + 1)) (nI s) a l (nI i) (nI j) (YC (24 * s + i)) E F P N C M YP YF YC YN := by
        intro hn'
        unfold wY_repeated_93
        exact br_t rfl (nm_r (nI_1 j) (next hn'))
      refine pk_le i j (fun _ => by omega) (fun _ => ⟨pi, nm_r (e' := YC (24 * s + i)) (by rw [th_cY, nI_clamp (by omega)]) ⟨pi, ?_⟩⟩)
      by_cases hF : YF (24 * s + i) = 0
      · exact th_kt (th_cY s i) (by omega) hF (no (fun p => p.1 hF))
      · refine th_kf (th_cY s i) (by omega) hF ⟨pj, ?_⟩
        by_cases hFj : YF (24 * s + j) = 0
        · exact th_kt (th_cY s j) (by omega) hFj (no (fun p => p.2.1 hFj))
        · refine th_kf (th_cY s j) (by omega) hFj ?_
          unfold wY_repeated_94
          refine br_f th_10 ⟨pj, ?_⟩
          have ecl : (24 * nI s + nI j).toNatClampNeg = 24 * s + j := by rw [th_cY, nI_clamp (by omega)]
          rw [ecl]
          by_cases hC : YC (24 * s + i) = YC (24 * s + j)
          · have hp : rp_P YF YC (24 * s) i j := ⟨hF, hFj, hC.symm⟩
            have ext : ∀ c, (rp_Y YF YC (24 * s) i j c ∨ c = YC (24 * s + i)) ↔ rp_Y YF YC (24 * s) i (j + 1) c := by
              intro c
              constructor
              · intro u
                cases u with
                | inl u => obtain ⟨x, y, a, b, c⟩ := u; exact ⟨x, y, a, by omega, c⟩
                | inr u => exact ⟨i, j, by omega, Or.inr ⟨rfl, by omega⟩, hp, u.symm⟩
              · intro ⟨x, y, a, b, p, e⟩
                by_cases z : x = i ∧ y = j
                · obtain ⟨z1, z2⟩ := z
                  subst z1
                  exact Or.inr e.symm
                · exact Or.inl ⟨x, y, a, by omega, p, e⟩
            refine br_t hC ?_
            by_cases ha : a = 0
            · exact br_t ha (nm_r (nI_1 j) (ih (j + 1) 1 _ (by omega) (rp_ext ext (rp_new hS (Or.inl ha)))))
            · refine br_f ha ?_
              by_cases z : l ≤ YC (24 * s + i)
              · exact br_t z (nm_r (nI_1 j) (ih (j + 1) a l (by omega) (rp_ext ext (rp_old hS ha z))))
              · exact br_f z (nm_r (nI_1 j) (ih (j + 1) 1 _ (by omega) (rp_ext ext (rp_new hS (Or.inr z)))))
          · exact br_f hC (nm_r (nI_1 j) (next (fun p => hC p.2.2.symm)))
  have key : ∀ d i a l, i + d = n → rp_S (rp_Y YF YC (24 * s) i 0) a l → wY_repeated_17 post (nI s) E F P N C M YP YF YC YN (d + 1) a l (nI i) := by
    intro d
    induction d with
    | zero =>
      intro i a l hi hS
      refine ⟨pk_in s 4 hs, th_kl rfl (by omega) n i hc rfl (by omega) (by omega) (fun _ => h a l (rp_ext (fun c => ?_) hS)) (fun _ => by omega)⟩
      rw [rp_RP W L]
      constructor
      · intro ⟨x, y, a, b, ⟨p1, p2, p3⟩, e⟩
        exact ⟨y, x, a, by omega, ⟨p2, p1, p3.symm⟩, p3.trans e⟩
      · intro ⟨x, y, a, b, ⟨p1, p2, p3⟩, e⟩
        exact ⟨y, x, a, Or.inl (by omega), ⟨p2, p1, p3.symm⟩, p3.trans e⟩
    | succ d ih =>
      intro i a l hi hS
      refine ⟨pk_in s 4 hs, th_kl rfl (by omega) n i hc rfl (by omega) (by omega) (fun _ => by omega) (fun _ => pk_le 24 i (fun _ => by omega) (fun _ => Exists.intro (i + 1) ?_))⟩
      exact inner _ i (by omega) (fun a l hS' => ih (i + 1) a l (by omega) hS') i 0 a l (by omega) hS
  exact Exists.intro (n + 1) (key n 0 0 0 (by omega) (Or.inl ⟨rfl, rfl, fun c ⟨x, y, a, b, _⟩ => by omega⟩))
end
theorem i_vc_repeated {k : Nat} {u : SX} {v : SY} (I : i_Rel k u v) (hk : k + 4 ≤ 2048) (v1 : Int32) : wpX_repeated (fun r => wpY_repeated (fun r' => r' = r ∧ i_Rel (k + 4) u v) v v1) u v1 := by
  have I' : i_Rel (k + 4) u v := I
  obtain ⟨E, F, P, N, C, RC, RP, RF, RO, M, YP, YF, YC, YN, D, rfl, rfl, T, Sn⟩ := I
  unfold wpX_repeated wpY_repeated
  by_cases g : th_Q 3 v1
  · obtain ⟨s, hs, rfl⟩ := g
    have g : th_Q 3 (nI s) := ⟨s, hs, rfl⟩
    obtain ⟨n, R, X1, Y1⟩ := th_snX hs (Sn s hs)
    refine th_xs1 g (br_f th_10 (th_xrp X1 (fun a l h => ?_)))
    exact th_ys1 g (br_t rfl (th_yrp Y1 (fun a' l' h' => ⟨rp_u h' h, I'⟩)))
  · exact th_xs0 g (br_t rfl (th_ys0 g (br_f th_10 ⟨rfl, I'⟩)))
end
section
/-! restore -/
def rs_z (E : Nat → Int32) (i : Nat) : Nat → Int32 := fun j => if 0 < j ∧ j < i then 0 else E j
theorem rs_z1 (E : Nat → Int32) : rs_z E 1 = E := by
  funext j
  unfold rs_z
  rw [if_neg (by omega)]
theorem rs_zs (E : Nat → Int32) {i : Nat} (hi : 0 < i) : upd (rs_z E i) i 0 = rs_z E (i + 1) := by
  funext j
  by_cases z : j = i
  · subst z
    rw [pk_us]
    unfold rs_z
    rw [if_pos (by omega)]
  · rw [pk_un z]
    unfold rs_z
    by_cases w : 0 < j ∧ j < i
    · rw [if_pos w, if_pos (by omega)]
    · rw [if_neg w, if_neg (by omega)]
theorem rs_zS {E : Nat → Int32} (h0 : ¬ E 0 = 0) (x : Nat) : th_S (rs_z E 24) x ↔ x = 0 := by
  constructor
  · intro h
    by_cases z : x = 0
    · exact z
    · refine absurd ?_ h.2
      unfold rs_z
      rw [if_pos ⟨by omega, h.1⟩]
  · intro h
    subst h
    refine ⟨by omega, ?_⟩
    unfold rs_z
    rw [if_neg (by omega)]; exact h0
section
variable {D : Nat → Nat} {E F P N C RC RP RF RO M YP YF YC YN : Nat → Int32} {R : Nat → Int32 → Int32 → Prop}
theorem rs_xz {x : Int32} {post : Int32 → SX → Prop} (h : ∃ m, wX_restore_33 post x m 0 (rs_z E 24) F P N C RC RP RF RO) : ∀ d i, i + d = 24 → 0 < i → wX_restore_12 post x (d + 1) (nI i) (rs_z E i) F P N C RC RP RF RO := by
  intro d
  induction d with
  | zero =>
    intro i hi _
    have : i = 24 := by omega
    subst this
    exact pk_le 24 24 (fun _ => h) (fun _ => by omega)
  | succ d ih =>
    intro i hi h0
    have := ih (i + 1) (by omega) (by omega)
    rw [← rs_zs E h0] at this
    exact pk_le 24 i (fun _ => by omega) (fun _ => th_up (by omega) th_n0 (nm_r (nI_1 i) this))
theorem rs_yz {x : Int32} {post : Int32 → SY → Prop} (h : ∃ m, wY_restore_35 post x m 0 0 (rs_z E 24) F P N C M YP YF YC YN) : ∀ d i, i + d = 24 → 0 < i → wY_restore_12 post x (d + 1) (nI i) (rs_z E i) F P N C M YP YF YC YN := by
  intro d
  induction d with
  | zero =>
    intro i hi _
    have : i = 24 := by omega
    subst this
    exact pk_le 24 24 (fun _ => h) (fun _ => by omega)
  | succ d ih =>
    intro i hi h0
    have := ih (i + 1) (by omega) (by omega)
    rw [← rs_zs E h0] at this
    exact pk_le 24 i (fun _ => by omega) (fun _ => th_up (by omega) th_n0 (nm_r (nI_1 i) this))
/-- above: the row with the least path beyond l -/
def ab_K (A : Nat → Int32) (o n l : Nat) (r : Int32) : Prop := (r = -1 ∧ ∀ j q, j < n → A (o + j) = nI q → q < 59049 → q ≤ l) ∨
  (∃ j q, j < n ∧ r = nI j ∧ A (o + j) = nI q ∧ q < 59049 ∧ l < q ∧ ∀ j' q', j' < n → A (o + j') = nI q' → q' < 59049 → l < q' → q ≤ q')
theorem th_yab {s n l : Nat} (K : ys_K YP YF YC YN s n R) (hl : l < 59049) {post : Int32 → Prop} (h : ∀ r, ab_K YP (24 * s) n l r → post r) : wpY_above post (E, F, P, N, C, M, YP, YF, YC, YN) (nI s) (nI l) := by
  obtain ⟨hs, hn, hc, W, L⟩ := K
  have key : ∀ d i r, i + d = n → ab_K YP (24 * s) i l r → wY_above_5 post (nI s) (nI l) E F P N C M YP YF YC YN (d + 1) r (nI i) := by
    intro d
    induction d with
    | zero =>
      intro i r hi hK
      have : i = n := by omega
      subst this
      exact ⟨pk_in s 4 hs, th_kl rfl (by omega) i i hc rfl (by omega) (by omega) (fun _ => h r hK) (fun _ => by omega)⟩
    | succ d ih =>
      intro i r hi hK
      have hin : i < n := by omega
      obtain ⟨q, eq, _, q0, q59⟩ := sn_row W L hin
      have pi : vp_in (24 * nI s + nI i) 96 := pk_in (24 * s + i) 96 (by omega) (th_cY s i)
      have new : (∀ j' q', j' < i → YP (24 * s + j') = nI q' → q' < 59049 → l < q' → q ≤ q') → l < q → ab_K YP (24 * s) (i + 1) l (nI i) := by
        intro w hlq
        refine Or.inr ⟨i, q, by omega, rfl, eq, q59, hlq, fun j' q' hj' e' h59 hl' => ?_⟩
        by_cases z : j' = i
        · subst z
          have := sn_inj h59 q59 (e'.symm.trans eq)
          omega
        · exact w j' q' (by omega) e' h59 hl'
      have uq : ∀ q', YP (24 * s + i) = nI q' → q' < 59049 → q' = q := fun q' e h59 => sn_inj h59 q59 (e.symm.trans eq)
      refine ⟨pk_in s 4 hs, th_kl rfl (by omega) n i hc rfl (by omega) (by omega) (fun _ => by omega) (fun _ => pk_le 24 i (fun _ => by omega) (fun _ => ⟨pi, nm_r (e' := nI q) (th_kr (K := fun v => v = nI q) (th_cY s i) (by omega) eq rfl) ?_⟩))⟩
      refine pk_le q l (fun z => nm_r (nI_1 i) (ih (i + 1) r (by omega) ?_)) (fun z => ?_)
      · obtain ⟨e1, ha⟩ | ⟨j, b, hj, e1, e2, b59, hlb, ha⟩ := hK
        · refine Or.inl ⟨e1, fun j' q' hj' e' h59 => ?_⟩
          by_cases w : j' = i
          · subst w; rw [uq q' e' h59]; exact z
          · exact ha j' q' (by omega) e' h59
        · refine Or.inr ⟨j, b, by omega, e1, e2, b59, hlb, fun j' q' hj' e' h59 hl' => ?_⟩
          by_cases w : j' = i
          · subst w; have := uq q' e' h59; omega
          · exact ha j' q' (by omega) e' h59 hl'
      · obtain ⟨e1, ha⟩ | ⟨j, b, hj, e1, e2, b59, hlb, ha⟩ := hK
        · refine br_t (by rw [e1]; exact th_m1lt) (nm_r (nI_1 i) (ih (i + 1) (nI i) (by omega) (new (fun j' q' hj' e' h59 hl' => ?_) z)))
          have := ha j' q' hj' e' h59
          omega
        · subst e1
          have pj : vp_in (24 * nI s + nI j) 96 := pk_in (24 * s + j) 96 (by omega) (th_cY s j)
          refine br_f (nI_pos (by omega)) ⟨pj, th_kl (th_cY s j) (by omega) b q e2 rfl (by omega) (by omega) (fun w => nm_r (nI_1 i) (ih (i + 1) _ (by omega) ?_)) (fun w => nm_r (nI_1 i) (ih (i + 1) _ (by omega) (new (fun j' q' hj' e' h59 hl' => ?_) z)))⟩
          · refine Or.inr ⟨j, b, by omega, rfl, e2, b59, hlb, fun j' q' hj' e' h59 hl' => ?_⟩
            by_cases v : j' = i
            · subst v; have := uq q' e' h59; omega
            · exact ha j' q' (by omega) e' h59 hl'
          · have := ha j' q' hj' e' h59 hl'
            omega
  exact Exists.intro (n + 1) (key n 0 (-1) (by omega) (Or.inl ⟨rfl, fun j q hj => by omega⟩))
/-- the tree after k rows -/
def rs_J (E F P N : Nat → Int32) (RP RF : Nat → Int32) (o k : Nat) : Prop := (∀ x, th_S E x ↔ x ≤ k) ∧ ∀ i, i < k → ∃ q, RP (o + i) = nI q ∧ q < 59049 ∧ th_pl P N 0 (i + 1) = some q ∧ F (i + 1) = RF (o + i)
theorem rs_par (T : th_T E F P N C D) {s n k q : Nat} {f c : Int32} (K : xs_K RC RP RF RO s n R) (J : rs_J E F P N RP RF (s * 23) k) (hk : k < n) (hq : RP (s * 23 + k) = nI q) (r : R q f c) : ∃ p, th_S E p ∧ th_pl P N 0 p = some (q / 9) ∧ F p = 0 := by
  obtain ⟨hs, hn, hc, W, L, So⟩ := K
  obtain ⟨q0, q59, _, _, hpar, _⟩ := W.1 _ _ _ r
  cases hpar with
  | inl z => exact ⟨0, (J.1 0).mpr (by omega), by rw [z]; exact th_pl_t, T.2.2.1⟩
  | inr z =>
    obtain ⟨c', r'⟩ := z
    obtain ⟨i, hi, a, b, _⟩ := L.2.1 _ _ _ r'
    have hik : i < k := by
      by_cases w : i < k
      · exact w
      · by_cases v : i = k
        · subst v
          have := sn_inj (by omega) q59 (a.symm.trans hq)
          omega
        · have lt := So k i (by omega) hi
          rw [hq, a, nI_ltI (by omega) (by omega)] at lt
          omega
    obtain ⟨q', e, h59, g, hF⟩ := J.2 i hik
    have := sn_inj h59 (by omega) (e.symm.trans a)
    subst this
    exact ⟨i + 1, (J.1 _).mpr (by omega), g, hF.trans b⟩
theorem rs_ch (T : th_T E F P N C D) {s n k q p : Nat} {f c : Int32} (K : xs_K RC RP RF RO s n R) (J : rs_J E F P N RP RF (s * 23) k) (hk : k < n) (hq : RP (s * 23 + k) = nI q) (r : R q f c) (hp : th_S E p) (g : th_pl P N 0 p = some (q / 9)) :
    ∀ x, th_S E x → ¬ x = 0 → P x = nI p → N x = nI (q % 9 - 1) → False := by
  intro x hx x0 hP hN
  obtain ⟨hs, hn, hc, W, L, So⟩ := K
  have H := T.1
  obtain ⟨q0, q59, _, q9, _, _⟩ := W.1 _ _ _ r
  obtain ⟨p', n', hP', hN', hn', hpS', hD, _⟩ := (H.2 x hx).2 x0
  have e1 := th_sub hp.1 hpS'.1 (hP.symm.trans hP')
  subst e1
  have e2 := th_sub (show q % 9 - 1 < 24 by omega) (by omega) (hN.symm.trans hN')
  have gx := th_pl_s H hx x0 x0 hP' hN' hn' hpS' hD
  rw [g] at gx
  have gx' : th_pl P N 0 x = some q := by
    rw [gx]
    show some (q / 9 * 9 + (n' + 1)) = some q
    exact congrArg some (by omega)
  have hxk := (J.1 x).mp hx
  obtain ⟨q', e, h59, g', _⟩ := J.2 (x - 1) (by omega)
  rw [show x - 1 + 1 = x by omega, gx'] at g'
  have := Option.some.inj g'
  subst this
  have := L.2.2 (x - 1) k (by omega) hk (e.trans hq.symm)
  omega
theorem rs_new (T : th_T E F P N C D) {s n k q p : Nat} (K : xs_K RC RP RF RO s n R) (J : rs_J E F P N RP RF (s * 23) k) (hk : k < n) (hq : RP (s * 23 + k) = nI q) (r : R q (RF (s * 23 + k)) (RO (s * 23 + k))) (hp : th_S E p) (g : th_pl P N 0 p = some (q / 9)) (hF : F p = 0) :
    D p < 5 ∧ E (k + 1) = 0 ∧ (∃ D', th_T (upd E (k + 1) 1) (upd F (k + 1) (RF (s * 23 + k))) (upd P (k + 1) (nI p)) (upd N (k + 1) (nI (q % 9 - 1))) (upd C (k + 1) (RO (s * 23 + k))) D') ∧
    rs_J (upd E (k + 1) 1) (upd F (k + 1) (RF (s * 23 + k))) (upd P (k + 1) (nI p)) (upd N (k + 1) (nI (q % 9 - 1))) RP RF (s * 23) (k + 1) := by
  have hch := rs_ch T K J hk hq r hp g
  obtain ⟨hs, hn, hc, W, L, So⟩ := K
  have H := T.1
  obtain ⟨q0, q59, hf, q9, _, hfc⟩ := W.1 _ _ _ r
  have hDp := (th_pl_D H p hp _ g).2
  have hln : th_ln (q / 9) + 1 ≤ 5 := by rw [← th_lnD q0 q59]; exact th_ln5 q
  rw [H.1] at hDp
  have hE : E (k + 1) = 0 := by
    by_cases z : E (k + 1) = 0
    · exact z
    · have := (J.1 (k + 1)).mp ⟨by omega, z⟩
      omega
  have T' := th_T_new T (f := RF (s * 23 + k)) (c := RO (s * 23 + k)) (by omega) (show k + 1 < 24 by omega) hE hp hF (show q % 9 - 1 < 8 by omega) (by omega) hf hfc hch
  have hne : ∀ x, th_S E x → ¬ x = k + 1 := fun x hx => by have := (J.1 x).mp hx; omega
  have cg : ∀ x, th_S E x → th_pl (upd P (k + 1) (nI p)) (upd N (k + 1) (nI (q % 9 - 1))) 0 x = th_pl P N 0 x := th_pl_cg H (fun x hx => pk_un (hne x hx)) (fun x hx => pk_un (hne x hx))
  have hS' : ∀ x, th_S (upd E (k + 1) 1) x ↔ x ≤ k + 1 := by
    intro x
    constructor
    · intro h
      by_cases z : x = k + 1
      · omega
      · have := (J.1 x).mp (th_upS h z); omega
    · intro h
      by_cases z : x = k + 1
      · subst z
        exact ⟨by omega, by rw [pk_us]; exact th_10⟩
      · exact th_upS' ((J.1 x).mpr (by omega))
  refine ⟨by omega, hE, ⟨_, T'⟩, hS', fun i hi => ?_⟩
  by_cases z : i = k
  · subst z
    refine ⟨q, hq, q59, ?_, pk_us⟩
    have hx : th_S (upd E (i + 1) 1) (i + 1) := (hS' _).mpr (by omega)
    rw [th_pl_s T'.1 hx (by omega) (by omega) pk_us pk_us (by omega) (th_upS' hp) (by
      show (if i + 1 = i + 1 then D p + 1 else D (i + 1)) = (if p = i + 1 then D p + 1 else D p) + 1
      rw [if_pos rfl, if_neg (hne p hp)]), cg p hp, g]
    show some (q / 9 * 9 + (q % 9 - 1 + 1)) = some q
    exact congrArg some (by omega)
  · obtain ⟨q', e, h59, g', hF'⟩ := J.2 i (by omega)
    exact ⟨q', e, h59, by rw [cg _ ((J.1 _).mpr (by omega))]; exact g', by rw [pk_un (by omega)]; exact hF'⟩
end
end
section
section
variable {E F P N C RC RP RF RO M YP YF YC YN : Nat → Int32} {R : Nat → Int32 → Int32 → Prop}
theorem rs_key {s n : Nat} (K : xs_K RC RP RF RO s n R) (Y : ys_K YP YF YC YN s n R) : ∀ d k l (E F P N C : Nat → Int32) (D : Nat → Nat), k + d = n → th_T E F P N C D → rs_J E F P N RP RF (s * 23) k → l < 59049 →
    (∀ i q, i < n → RP (s * 23 + i) = nI q → q < 59049 → (i < k → q ≤ l) ∧ (k ≤ i → l < q)) →
    ∃ E' F' P' N' C' D', th_T E' F' P' N' C' D' ∧ (∀ post : Int32 → SX → Prop, post (nI n) (E', F', P', N', C', RC, RP, RF, RO) → wX_restore_33 post (nI s) (d + 1) (nI k) E F P N C RC RP RF RO) ∧
      (∀ post : Int32 → SY → Prop, post (nI n) (E', F', P', N', C', M, YP, YF, YC, YN) → wY_restore_35 post (nI s) (d + 1) (nI l) (nI k) E F P N C M YP YF YC YN) := by
  have K0 := K
  have Y0 := Y
  obtain ⟨hs, hn, hc, W, L, So⟩ := K0
  obtain ⟨hs4, _, hcY, _, LY⟩ := Y0
  have eX : RC (nI s).toNatClampNeg = nI n := by rw [th_cl (by omega), hc]
  have eY : YN (nI s).toNatClampNeg = nI n := by rw [th_cl (by omega), hcY]
  intro d
  induction d with
  | zero =>
    intro k l E F P N C D hk T J hl hb
    refine ⟨E, F, P, N, C, D, T, fun post h => ⟨pk_in s 3 hs, th_kl rfl (by omega) n k hc rfl (by omega) (by omega) (fun _ => ⟨pk_in s 3 hs, ?_⟩) (fun _ => by omega)⟩, fun post h => ⟨pk_in s 4 hs4, th_kl rfl (by omega) n k hcY rfl (by omega) (by omega) (fun _ => ⟨pk_in s 4 hs4, ?_⟩) (fun _ => by omega)⟩⟩
    · rw [eX]; exact h
    · rw [eY]; exact h
  | succ d ih =>
    intro k l E F P N C D hk T J hl hb
    have hkn : k < n := by omega
    have H := T.1
    obtain ⟨q, eq, r, q0, q59⟩ := sn_row W L hkn
    obtain ⟨_, _, hf, q9, _, _⟩ := W.1 _ _ _ r
    obtain ⟨p, hp, g, hF⟩ := rs_par T K J hkn eq r
    obtain ⟨hD, hE, ⟨D', T'⟩, J'⟩ := rs_new T K J hkn eq r hp g hF
    have hch := rs_ch T K J hkn eq r hp g
    have hlq := (hb k q hkn eq q59).2 (by omega)
    obtain ⟨E2, F2, P2, N2, C2, D2, T2, hX, hY⟩ := ih (k + 1) q _ _ _ _ _ D' (by omega) T' J' q59 (fun i q' hi e h59 => by
      constructor
      · intro w
        by_cases z : i = k
        · subst z; have := sn_inj h59 q59 (e.symm.trans eq); omega
        · have := (hb i q' hi e h59).1 (by omega); omega
      · intro w
        have lt := So k i (by omega) hi
        rw [eq, e, nI_ltI (by omega) (by omega)] at lt
        exact lt)
    have c69 : s * 23 + k < 69 := by omega
    have c32 : s * 23 + k < 2 ^ 31 := by omega
    have hdiv : nI q / 9 = nI (q / 9) := pk_div (d := 9) (by omega) (by omega) (by omega)
    have hrem : nI q - nI q / 9 * 9 - 1 = nI (q % 9 - 1) := by
      have e1 : nI q - nI q / 9 * 9 = nI (q % 9) := pk_rem (d := 9) (by omega) (by omega) (by omega)
      rw [e1]
      exact pk_sub (b := 1) (by omega)
    have FP : th_F E P N 0 (q / 9) (nI p) := Or.inr ⟨p, hp, rfl, g⟩
    refine ⟨E2, F2, P2, N2, C2, D2, T2, fun post h => ?_, fun post h => ?_⟩
    · refine ⟨pk_in s 3 hs, th_kl rfl (by omega) n k hc rfl (by omega) (by omega) (fun _ => by omega) (fun _ => nm_r (th_cX s k) ⟨pk_in _ 69 c69, th_90, ?_⟩)⟩
      rw [nI_clamp c32, eq, hrem, hdiv]
      refine th_xe (t := 0) H (by omega) (by omega) (fun r' hr' => ?_)
      rw [th_Fu H T.2.2.2.2.2.2 hr' FP]
      refine ⟨pk_in _ 69 c69, th_90, nm_e ⟨pk_in _ 69 c69, pk_in _ 69 c69, ?_⟩⟩
      rw [nI_1 k]
      exact th_xpl (show k + 1 < 24 by omega) hf (nm_e (hX post h))
    · refine ⟨pk_in s 4 hs4, th_kl rfl (by omega) n k hcY rfl (by omega) (by omega) (fun _ => by omega) (fun _ => pk_le 24 k (fun _ => by omega) (fun _ => th_yab Y hl (fun r' hr' => ?_)))⟩
      obtain ⟨j0, hj0, a0, _⟩ := LY.2.1 _ _ _ r
      obtain ⟨e1, ha⟩ | ⟨j, b, hj, e1, e2, b59, hlb, ha⟩ := hr'
      · have := ha j0 q hj0 a0 q59
        omega
      · subst e1
        have hbq : b = q := by
          have h1 := ha j0 q hj0 a0 q59 hlq
          obtain ⟨b', a', rb, _, b59'⟩ := sn_row W LY hj
          have := sn_inj b59' b59 (a'.symm.trans e2)
          subst this
          obtain ⟨i, hi, ai, _⟩ := L.2.1 _ _ _ rb
          have hik : k ≤ i := by
            by_cases z : i < k
            · have := (hb i b' hi ai b59).1 z; omega
            · omega
          by_cases z : i = k
          · subst z; exact sn_inj b59 q59 (ai.symm.trans eq)
          · have lt := So k i (by omega) hi
            rw [eq, ai, nI_ltI (by omega) (by omega)] at lt
            omega
        subst hbq
        obtain ⟨b', a', rb, _, b59'⟩ := sn_row W LY hj
        have := sn_inj b59' b59 (a'.symm.trans e2)
        subst this
        obtain ⟨eF, eC⟩ := W.2 _ _ _ _ _ rb r
        have cj : 24 * s + j < 96 := by omega
        have pj : vp_in (24 * nI s + nI j) 96 := pk_in (24 * s + j) 96 cj (th_cY s j)
        have ecl : (24 * nI s + nI j).toNatClampNeg = 24 * s + j := by rw [th_cY, nI_clamp (by omega)]
        refine br_f (nI_pos (by omega)) ⟨pj, nm_r (e' := nI b') (by rw [ecl, e2]) ⟨th_90, ?_⟩⟩
        rw [ecl, eF, eC, hrem, hdiv]
        refine th_ye H (by omega) (fun r' hr' => ?_)
        rw [th_Fu H T.2.2.2.2.2.2 hr' FP]
        refine ⟨th_90, pj, pj, ?_⟩
        obtain ⟨rc, _, cY, cs⟩ := th_chd (E := E) (F := F) (P := P) (N := N) (C := C) (RC := RC) (RP := RP) (RF := RF) (RO := RO) (M := M) (YP := YP) (YF := YF) (YC := YC) (YN := YN) p (b' % 9 - 1)
        have erc : rc = -1 := by
          obtain ⟨e, _⟩ | ⟨x, hx, x0, _, hP, hN⟩ := cs
          · exact e
          · exact absurd (hch x hx x0 hP hN) id
        subst erc
        obtain ⟨rl, _, lY, ls⟩ := th_lfr (E := E) (F := F) (P := P) (N := N) (C := C) (RC := RC) (RP := RP) (RF := RF) (RO := RO) (M := M) (YP := YP) (YF := YF) (YC := YC) (YN := YN)
        have erl : rl = nI (k + 1) := by
          obtain ⟨_, hall⟩ | ⟨x, x1, x24, e, hx0, hmin⟩ := ls
          · exact absurd hE (hall (k + 1) (by omega) (by omega))
          · rw [e]
            have a1 : ¬ x ≤ k := fun z => ((J.1 x).mpr z).2 hx0
            have a2 : ¬ k + 1 < x := fun z => hmin (k + 1) (by omega) z hE
            rw [show x = k + 1 by omega]
        subst erl
        exact th_ymk H (show k + 1 < 24 by omega) hp hF (by omega) cY hD lY hf (nm_r (nI_1 k) (hY post h))
end
theorem i_vc_restore {k : Nat} {u : SX} {v : SY} (I : i_Rel k u v) (hk : k + 4 ≤ 2048) (v1 : Int32) : wpX_restore (fun r u' => wpY_restore (fun r' v' => r' = r ∧ i_Rel (k + 4) u' v') v v1) u v1 := by
  obtain ⟨E, F, P, N, C, RC, RP, RF, RO, M, YP, YF, YC, YN, D, rfl, rfl, T, Sn⟩ := I
  unfold wpX_restore wpY_restore
  by_cases g : th_Q 3 v1
  · obtain ⟨s, hs, rfl⟩ := g
    have g : th_Q 3 (nI s) := ⟨s, hs, rfl⟩
    obtain ⟨n, R, X1, Y1⟩ := th_snX hs (Sn s hs)
    have hS := rs_zS (E := E) T.2.1
    have T1 := th_T_one T hS
    have W := X1.2.2.2.1
    have L := X1.2.2.2.2.1
    obtain ⟨E', F', P', N', C', D', T', hX, hY⟩ := rs_key (M := M) X1 Y1 n 0 0 (rs_z E 24) F P N C D (by omega) T1 ⟨fun x => by rw [hS x]; omega, fun i hi => by omega⟩ (by omega) (fun i q hi e h59 => ⟨fun z => by omega, fun _ => by
      obtain ⟨q', e', _, q0, h59'⟩ := sn_row W L hi
      have := sn_inj h59 h59' (e.symm.trans e')
      omega⟩)
    refine th_xs1 g (br_f th_10 (Exists.intro 24 ?_))
    have x := rs_xz (E := E) (F := F) (P := P) (N := N) (C := C) (RC := RC) (RP := RP) (RF := RF) (RO := RO) (post := fun r u' => wpY_restore (fun r' v' => r' = r ∧ i_Rel (k + 4) u' v') (E, F, P, N, C, M, YP, YF, YC, YN) (nI s)) (x := nI s) (Exists.intro (n + 1) (hX _ ?_)) 23 1 rfl (by omega)
    · rw [rs_z1] at x; exact x
    · unfold wpY_restore
      refine th_ys1 g (br_t rfl (Exists.intro 24 ?_))
      have y := rs_yz (E := E) (F := F) (P := P) (N := N) (C := C) (M := M) (YP := YP) (YF := YF) (YC := YC) (YN := YN) (post := fun r' v' => r' = nI n ∧ i_Rel (k + 4) (E', F', P', N', C', RC, RP, RF, RO) v') (x := nI s) (Exists.intro (n + 1) (hY _ ⟨rfl, th_rel T' Sn⟩)) 23 1 rfl (by omega)
      rw [rs_z1] at y; exact y
  · exact th_xs0 g (br_t rfl (th_ys0 g (br_f th_10 ⟨rfl, th_rel T Sn⟩)))
end
