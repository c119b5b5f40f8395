/-! the tree's invariant, and how it lasts -/
def th_T (E F P N C : Nat → Int32) (D : Nat → Nat) : Prop :=
  th_Ch (th_S E) P N D ∧ ¬ E 0 = 0 ∧ F 0 = 0 ∧ (∀ j, F j = 0 ∨ F j = 1) ∧ (∀ e, th_S E e → F e = 0 → C e = 0) ∧
  (∀ e p, th_S E e → ¬ e = 0 → P e = nI p → p < 24 → F p = 0) ∧ th_U (th_S E) P N
theorem th_sub {p q : Nat} (hp : p < 24) (hq : q < 24) (h : nI p = nI q) : p = q := (nI_eq (by omega) (by omega)).mp h
theorem th_S0 {E F P N C : Nat → Int32} {D : Nat → Nat} (T : th_T E F P N C D) : th_S E 0 := ⟨by omega, T.2.1⟩
theorem th_upS {E : Nat → Int32} {e j : Nat} (h : th_S (upd E e 1) j) (hj : ¬ j = e) : th_S E j := by
  refine ⟨h.1, ?_⟩
  have := h.2
  rw [pk_un hj] at this
  exact this
theorem th_upS' {E : Nat → Int32} {e j : Nat} (h : th_S E j) : th_S (upd E e 1) j := by
  refine ⟨h.1, ?_⟩
  by_cases z : j = e
  · subst z; rw [pk_us]; decide
  · rw [pk_un z]; exact h.2
/-- a new entry -/
theorem th_T_new {E F P N C : Nat → Int32} {D : Nat → Nat} (T : th_T E F P N C D) {e p q : Nat} {f c : Int32} (h0 : 0 < e) (h24 : e < 24) (hE : E e = 0) (hp : th_S E p) (hF : F p = 0) (hq : q < 8)
    (hD : D p < 5) (hf : f = 0 ∨ f = 1) (hc : f = 0 → c = 0) (hch : ∀ x, th_S E x → ¬ x = 0 → P x = nI p → N x = nI q → False) :
    th_T (upd E e 1) (upd F e f) (upd P e (nI p)) (upd N e (nI q)) (upd C e c) (fun j => if j = e then D p + 1 else D j) := by
  obtain ⟨⟨H0, H⟩, T0, T1, T2, T3, T4, T5⟩ := T
  have hne : ∀ x, th_S E x → ¬ x = e := fun x hx z => hx.2 (by rw [z]; exact hE)
  refine ⟨⟨?_, ?_⟩, ?_, ?_, ?_, ?_, ?_, ?_⟩
  · show (if 0 = e then D p + 1 else D 0) = 0
    rw [if_neg (by omega), H0]
  · intro x hx
    refine ⟨hx.1, fun z => ?_⟩
    by_cases y : x = e
    · subst y
      refine ⟨p, q, pk_us, pk_us, hq, th_upS' hp, ?_, ?_⟩
      · show (if x = x then D p + 1 else D x) = (if p = x then D p + 1 else D p) + 1
        rw [if_pos rfl, if_neg (hne p hp)]
      · show (if x = x then D p + 1 else D x) ≤ 5
        rw [if_pos rfl]; omega
    · obtain ⟨p', q', a, b, c', d, e', g⟩ := (H x (th_upS hx y)).2 z
      refine ⟨p', q', by rw [pk_un y]; exact a, by rw [pk_un y]; exact b, c', th_upS' d, ?_, ?_⟩
      · show (if x = e then D p + 1 else D x) = (if p' = e then D p + 1 else D p') + 1
        rw [if_neg y, if_neg (hne p' d)]; exact e'
      · show (if x = e then D p + 1 else D x) ≤ 5
        rw [if_neg y]; exact g
  · rw [pk_un (by omega)]; exact T0
  · rw [pk_un (by omega)]; exact T1
  · intro j
    by_cases y : j = e
    · subst y; rw [pk_us]; exact hf
    · rw [pk_un y]; exact T2 j
  · intro x hx
    by_cases y : x = e
    · subst y; rw [pk_us, pk_us]; exact hc
    · rw [pk_un y, pk_un y]; exact T3 x (th_upS hx y)
  · intro x p' hx z
    by_cases y : x = e
    · subst y
      rw [pk_us]
      intro a b
      have := th_sub hp.1 b a
      subst this
      rw [pk_un (hne p hp)]; exact hF
    · rw [pk_un y]
      intro a b
      obtain ⟨p2, q2, a2, _, _, d2, _, _⟩ := (H x (th_upS hx y)).2 z
      have := th_sub d2.1 b (a2.symm.trans a)
      subst this
      rw [pk_un (hne _ d2)]
      exact T4 x p2 (th_upS hx y) z a b
  · intro x x' hx hx' z z'
    by_cases y : x = e
    · by_cases y' : x' = e
      · intro _ _; rw [y, y']
      · subst y
        rw [pk_us, pk_us, pk_un y', pk_un y']
        intro a b
        exact absurd (hch x' (th_upS hx' y') z' a.symm b.symm) id
    · by_cases y' : x' = e
      · subst y'
        rw [pk_us, pk_us, pk_un y, pk_un y]
        intro a b
        exact absurd (hch x (th_upS hx y) z a b) id
      · rw [pk_un y, pk_un y', pk_un y, pk_un y']
        exact T5 x x' (th_upS hx y) (th_upS hx' y') z z'
/-- what stays when all below t goes -/
theorem th_T_rem {E E' F P N C : Nat → Int32} {D : Nat → Nat} (T : th_T E F P N C D) {t : Nat} (ht : ¬ t = 0) (h : ∀ x, th_S E' x ↔ th_S E x ∧ th_pl P N t x = none) : th_T E' F P N C D := by
  obtain ⟨H, T0, T1, T2, T3, T4, T5⟩ := T
  refine ⟨⟨H.1, ?_⟩, ?_, T1, T2, ?_, ?_, ?_⟩
  · intro x hx
    obtain ⟨a, b⟩ := (h x).mp hx
    refine ⟨a.1, fun z => ?_⟩
    obtain ⟨p, q, hP, hN, hq, hpS, hD, h5⟩ := (H.2 x a).2 z
    refine ⟨p, q, hP, hN, hq, (h p).mpr ⟨hpS, ?_⟩, hD, h5⟩
    by_cases y : x = t
    · subst y; rw [th_pl_t] at b; cases b
    · rw [th_pl_s H a y z hP hN hq hpS hD] at b
      cases g : th_pl P N t p with
      | none => rfl
      | some r => rw [g] at b; cases b
  · exact ((h 0).mpr ⟨⟨by omega, T0⟩, th_pl_0 ht⟩).2
  · exact fun x hx => T3 x ((h x).mp hx).1
  · exact fun x p hx => T4 x p ((h x).mp hx).1
  · exact fun x x' hx hx' => T5 x x' ((h x).mp hx).1 ((h x').mp hx').1
/-- only the root -/
theorem th_T_one {E E' F P N C : Nat → Int32} {D : Nat → Nat} (T : th_T E F P N C D) (h : ∀ x, th_S E' x ↔ x = 0) : th_T E' F P N C D := by
  obtain ⟨H, T0, T1, T2, T3, T4, T5⟩ := T
  refine ⟨⟨H.1, ?_⟩, ((h 0).mpr rfl).2, T1, T2, ?_, ?_, ?_⟩
  · intro x hx
    exact ⟨hx.1, fun z => absurd ((h x).mp hx) z⟩
  · intro x hx
    rw [(h x).mp hx]
    exact T3 0 ⟨by omega, T0⟩
  · exact fun x p hx z => absurd ((h x).mp hx) z
  · exact fun x x' hx hx' z => absurd ((h x).mp hx) z
/-- another content of a file -/
theorem th_T_wr {E F P N C : Nat → Int32} {D : Nat → Nat} (T : th_T E F P N C D) {e : Nat} {c : Int32} (hF : ¬ F e = 0) : th_T E F P N (upd C e c) D := by
  obtain ⟨H, T0, T1, T2, T3, T4, T5⟩ := T
  refine ⟨H, T0, T1, T2, ?_, T4, T5⟩
  intro x hx hf
  by_cases y : x = e
  · subst y; exact absurd hf hF
  · rw [pk_un y]; exact T3 x hx hf
/-- an entry moved with what is below it -/
theorem th_T_mv {E F P N C : Nat → Int32} {D : Nat → Nat} (T : th_T E F P N C D) {t p q : Nat} (hS : th_S E t) (ht : ¬ t = 0) (hp : th_S E p) (hF : F p = 0) (hq : q < 8) (hb : th_pl P N t p = none)
    (hch : ∀ x, th_S E x → ¬ x = 0 → P x = nI p → N x = nI q → x = t) (hh : ∀ x, th_S E x → ¬ th_pl P N t x = none → D p + 1 + (D x - D t) ≤ 5) :
    ∃ D', th_T E F (upd P t (nI p)) (upd N t (nI q)) C D' := by
  obtain ⟨H, T0, T1, T2, T3, T4, T5⟩ := T
  have key : ∃ D' : Nat → Nat, ∀ x, (th_pl P N t x = none → D' x = D x) ∧ (¬ th_pl P N t x = none → D' x = D p + 1 + (D x - D t)) := by
    refine ⟨fun x => match th_pl P N t x with
      | none => D x
      | some _ => D p + 1 + (D x - D t), fun x => ⟨fun h => ?_, fun h => ?_⟩⟩
    · dsimp only; rw [h]
    · dsimp only
      cases g : th_pl P N t x with
      | none => exact absurd g h
      | some r => rfl
  obtain ⟨D', hD'⟩ := key
  refine ⟨D', ⟨?_, ?_⟩, T0, T1, T2, T3, ?_, ?_⟩
  · rw [(hD' 0).1 (th_pl_0 ht), H.1]
  · intro x hx
    refine ⟨hx.1, fun z => ?_⟩
    by_cases y : x = t
    · subst y
      have hn : ¬ th_pl P N x x = none := by rw [th_pl_t]; exact fun z => nomatch z
      refine ⟨p, q, pk_us, pk_us, hq, hp, ?_, ?_⟩
      · rw [(hD' p).1 hb, (hD' x).2 hn]; omega
      · rw [(hD' x).2 hn]; exact hh x hx hn
    · obtain ⟨p', q', hP, hN, hq', hpS, hD, h5⟩ := (H.2 x hx).2 z
      refine ⟨p', q', by rw [pk_un y]; exact hP, by rw [pk_un y]; exact hN, hq', hpS, ?_⟩
      have hs := th_pl_s H hx y z hP hN hq' hpS hD
      cases g : th_pl P N t p' with
      | none =>
        have g' : th_pl P N t x = none := by rw [hs, g]; rfl
        rw [(hD' x).1 g', (hD' p').1 g]
        exact ⟨hD, h5⟩
      | some r =>
        have g' : ¬ th_pl P N t x = none := by rw [hs, g]; exact fun z => nomatch z
        have k := (th_pl_D H p' hpS r g).2
        have k2 := hh x hx g'
        rw [(hD' x).2 g', (hD' p').2 (by rw [g]; exact fun z => nomatch z)]
        omega
  · intro x p' hx z
    by_cases y : x = t
    · subst y
      rw [pk_us]
      intro a b
      have := th_sub hp.1 b a
      subst this
      exact hF
    · rw [pk_un y]
      exact T4 x p' hx z
  · intro x x' hx hx' z z'
    by_cases y : x = t
    · by_cases y' : x' = t
      · intro _ _; rw [y, y']
      · subst y
        rw [pk_us, pk_us, pk_un y', pk_un y']
        intro a b
        exact (hch x' hx' z' a.symm b.symm).symm
    · by_cases y' : x' = t
      · subst y'
        rw [pk_us, pk_us, pk_un y, pk_un y]
        intro a b
        exact hch x hx z a b
      · rw [pk_un y, pk_un y', pk_un y, pk_un y']
        exact T5 x x' hx hx' z z'
/-- paths stand on the chain alone -/
theorem th_pl_cg {S : Nat → Prop} {P N P' N' : Nat → Int32} {D : Nat → Nat} (H : th_Ch S P N D) (hP : ∀ x, S x → P' x = P x) (hN : ∀ x, S x → N' x = N x) {t : Nat} : ∀ e, S e → th_pl P' N' t e = th_pl P N t e := by
  have H' : th_Ch S P' N' D := ⟨H.1, fun x hx => ⟨(H.2 x hx).1, fun z => by
    obtain ⟨p, q, a, b, c⟩ := (H.2 x hx).2 z
    exact ⟨p, q, (hP x hx).trans a, (hN x hx).trans b, c⟩⟩⟩
  apply th_ind H
  · intro _
    by_cases z : t = 0
    · subst z; rw [th_pl_t, th_pl_t]
    · rw [th_pl_0 z, th_pl_0 z]
  · intro e p q he z a b hq hp hD h5 ih
    by_cases y : e = t
    · subst y; rw [th_pl_t, th_pl_t]
    · rw [th_pl_s H he y z a b hq hp hD, th_pl_s H' he y z ((hP e he).trans a) ((hN e he).trans b) hq hp hD, ih]
/-! the tree's own rows -/
def th_R (E F P N C : Nat → Int32) (q : Nat) (f c : Int32) : Prop := ∃ e, th_S E e ∧ ¬ e = 0 ∧ th_pl P N 0 e = some q ∧ F e = f ∧ C e = c
theorem th_RW {E F P N C : Nat → Int32} {D : Nat → Nat} (T : th_T E F P N C D) : sn_W (th_R E F P N C) := by
  obtain ⟨H, T0, T1, T2, T3, T4, T5⟩ := T
  constructor
  · intro q f c ⟨e, he, z, h, hf, hc⟩
    obtain ⟨p, n, hP, hN, hn, hpS, hD, h5⟩ := (H.2 e he).2 z
    have hb := th_pl_D H e he q h
    rw [th_pl_s H he z z hP hN hn hpS hD] at h
    obtain ⟨x, hx⟩ := th_pl_root H p hpS
    rw [hx] at h
    have e1 := Option.some.inj h
    dsimp only at e1
    refine ⟨by omega, hb.1, by rw [← hf]; exact T2 e, by omega, ?_, ?_⟩
    · have e2 : q / 9 = x := by omega
      rw [e2]
      by_cases y : p = 0
      · subst y
        rw [th_pl_t] at hx
        exact Or.inl (Option.some.inj hx).symm
      · exact Or.inr ⟨C p, p, hpS, y, hx, T4 e p he z hP hpS.1, rfl⟩
    · intro g
      rw [← hc]
      exact T3 e he (hf.trans g)
  · intro q f c f' c' ⟨e, he, z, h, hf, hc⟩ ⟨e', he', z', h', hf', hc'⟩
    have := th_pl_inj H T5 e he e' q he' h h'
    subst this
    exact ⟨hf.symm.trans hf', hc.symm.trans hc'⟩
