section
variable {E F P N C RC RP RF RO M YP YF YC YN : Nat → Int32} {R R' : Nat → Int32 → Int32 → Prop}
/-- has: is row i of s among the rows of t -/
theorem th_yha {t n s i q : Nat} (K : ys_K YP YF YC YN t n R) (hs : s < 4) (hi : i < 24) (hq : YP (24 * s + i) = nI q) (hq59 : q < 59049) {post : Int32 → Prop} (h1 : R q (YF (24 * s + i)) (YC (24 * s + i)) → post 1) (h0 : ¬ R q (YF (24 * s + i)) (YC (24 * s + i)) → post 0) : wpY_has post (E, F, P, N, C, M, YP, YF, YC, YN) (nI t) (nI s) (nI i) := by
  obtain ⟨ht, hn, hc, W, L⟩ := K
  have ci : 24 * s + i < 96 := by omega
  have key : ∀ d j, j + d = n → (∀ k, k < j → ¬ (YP (24 * t + k) = YP (24 * s + i) ∧ YF (24 * t + k) = YF (24 * s + i) ∧ YC (24 * t + k) = YC (24 * s + i))) → wY_has_3 post (nI t) (nI s) (nI i) E F P N C M YP YF YC YN (d + 1) (nI j) := by
    intro d
    induction d with
    | zero =>
      intro j hj ha
      refine ⟨pk_in t 4 ht, th_kl rfl (by omega) n j hc rfl (by omega) (by omega) (fun _ => h0 (fun r => ?_)) (fun _ => by omega)⟩
      obtain ⟨k, hk, a, b, c⟩ := L.2.1 _ _ _ r
      exact ha k (by omega) ⟨a.trans hq.symm, b, c⟩
    | succ d ih =>
      intro j hj ha
      have cj : 24 * t + j < 96 := by omega
      have jn : j < n := by omega
      have next : ¬ (YP (24 * t + j) = YP (24 * s + i) ∧ YF (24 * t + j) = YF (24 * s + i) ∧ YC (24 * t + j) = YC (24 * s + i)) → wY_has_3 post (nI t) (nI s) (nI i) E F P N C M YP YF YC YN (d + 1) (nI (j + 1)) := by
        intro hn
        refine ih (j + 1) (by omega) (fun k hk => ?_)
        by_cases z : k = j
        · subst z; exact hn
        · exact ha k (by omega)
      have no : ¬ (YP (24 * t + j) = YP (24 * s + i) ∧ YF (24 * t + j) = YF (24 * s + i) ∧ YC (24 * t + j) = YC (24 * s + i)) → wY_has_77 post (wY_has_3 post (nI t) (nI s) (nI i) E F P N C M YP YF YC YN (d + 1)) (nI t) (nI s) (nI i) (nI j) E F P N C M YP YF YC YN := by
        intro hn
        unfold wY_has_77
        exact br_t rfl (nm_r (nI_1 j) (next hn))
      have pj : vp_in (24 * nI t + nI j) 96 := pk_in (24 * t + j) 96 cj (th_cY t j)
      have pi : vp_in (24 * nI s + nI i) 96 := pk_in (24 * s + i) 96 ci (th_cY s i)
      refine ⟨pk_in t 4 ht, th_kl rfl (by omega) n j hc rfl (by omega) (by omega) (fun _ => by omega) (fun _ => pk_le 24 j (fun _ => by omega) (fun _ => ⟨pj, pi, ?_⟩))⟩
      by_cases eP : YP (24 * t + j) = YP (24 * s + i)
      · refine th_k2t (th_cY t j) (by omega) (th_cY s i) (by omega) eP ⟨pj, pi, ?_⟩
        by_cases eF : YF (24 * t + j) = YF (24 * s + i)
        · refine th_k2t (th_cY t j) (by omega) (th_cY s i) (by omega) eF (br_f th_10 ⟨pj, pi, ?_⟩)
          by_cases eC : YC (24 * t + j) = YC (24 * s + i)
          · refine th_k2t (th_cY t j) (by omega) (th_cY s i) (by omega) eC (h1 ?_)
            obtain ⟨q', a, b, _, q'59⟩ := sn_row W L jn
            have := sn_inj q'59 hq59 (a.symm.trans (eP.trans hq))
            subst this
            rw [← eF, ← eC]; exact b
          · exact th_k2f (th_cY t j) (by omega) (th_cY s i) (by omega) eC (nm_r (nI_1 j) (next (fun z => eC z.2.2)))
        · exact th_k2f (th_cY t j) (by omega) (th_cY s i) (by omega) eF (no (fun z => eF z.2.1))
      · exact th_k2f (th_cY t j) (by omega) (th_cY s i) (by omega) eP (no (fun z => eP z.1))
  exact Exists.intro (n + 1) (key n 0 (by omega) (fun j hj => by omega))
def th_w (o : Option Nat) : Int32 := match o with
  | none => 0
  | some q => nI q
/-- row i of a snapshot at o is a path with no like row in R' -/
def nd_C (A B G : Nat → Int32) (o n : Nat) (R' : Nat → Int32 → Int32 → Prop) (i q : Nat) : Prop := i < n ∧ A (o + i) = nI q ∧ q < 59049 ∧ ¬ R' q (B (o + i)) (G (o + i))
theorem nd_U {A B G : Nat → Int32} {o n : Nat} (hn : n ≤ 23) (W : sn_W R) (L : sn_L A B G o n R) (q : Nat) : sn_U R R' q ↔ ∃ i, i < 24 ∧ nd_C A B G o n R' i q := by
  constructor
  · intro ⟨f, c, r, nr⟩
    obtain ⟨i, hi, a, b, c'⟩ := L.2.1 _ _ _ r
    exact ⟨i, by omega, hi, a, (W.1 _ _ _ r).2.1, by rw [b, c']; exact nr⟩
  · intro ⟨i, _, hi, a, h59, nr⟩
    obtain ⟨q', a', b', _, h59'⟩ := sn_row W L hi
    have := sn_inj h59' h59 (a'.symm.trans a)
    subst this
    exact ⟨_, _, b', nr⟩
theorem th_ynd2 {s n t n' l i : Nat} (K : ys_K YP YF YC YN s n R) (K' : ys_K YP YF YC YN t n' R') (hl : l < 59049) (hi : i < 24) {post : Int32 → Prop} {J : Int32 → Int32 → Prop} {B : Nat → Prop} (hB : ∀ q, B q → q < 59049) {o : Option Nat} (ho : nx_O B l o)
    (h : ∀ o', nx_O (fun q => B q ∨ nd_C YP YF YC (24 * t) n' R i q) l o' → J (th_w o') (nI (i + 1))) : wY_nextDifference_87 post J (nI s) (nI t) (nI l) (th_w o) (nI i) E F P N C M YP YF YC YN := by
  have K2 := K'
  obtain ⟨ht, hn, hc, W, L⟩ := K2
  have pi : vp_in (24 * nI t + nI i) 96 := pk_in (24 * t + i) 96 (by omega) (th_cY t i)
  have c32 : 24 * t + i < 2 ^ 31 := by omega
  have skip : (∀ q, l < q → nd_C YP YF YC (24 * t) n' R i q → ∃ p, o = some p ∧ p ≤ q) → J (th_w o) (nI (i + 1)) := fun w => h o (nx_l ho w)
  unfold wY_nextDifference_87
  refine ⟨pk_in t 4 ht, th_kl rfl (by omega) n' i hc rfl (by omega) (by omega) (fun z => nm_r (nI_1 i) (skip (fun q _ c => ?_))) (fun z => ⟨pi, ?_⟩)⟩
  · have := c.1; omega
  · obtain ⟨q, eq, r, q0, q59⟩ := sn_row W L z
    have uq : ∀ q', nd_C YP YF YC (24 * t) n' R i q' → q' = q := fun q' c => sn_inj c.2.2.1 q59 (c.2.1.symm.trans eq)
    refine th_kl (th_cY t i) c32 q l eq rfl (by omega) (by omega) (fun y => nm_r (nI_1 i) (skip (fun q' hq' c => ?_))) (fun y => ?_)
    · have := uq q' c; omega
    · refine th_yha K ht hi eq q59 (fun m => br_f th_10 (nm_r (nI_1 i) (skip (fun q' _ c => ?_)))) (fun m => br_t rfl ?_)
      · have e := uq q' c
        subst e
        exact absurd m c.2.2.2
      · have cand : nd_C YP YF YC (24 * t) n' R i q := ⟨z, eq, q59, m⟩
        have take : (∀ b, o = some b → q ≤ b) → wY_nextDifference_147 post J (nI s) (nI t) (nI l) (nI i) E F P N C M YP YF YC YN := by
          intro w
          unfold wY_nextDifference_147
          refine ⟨pi, nm_r (e' := nI q) (th_kr (K := fun v => v = nI q) (th_cY t i) c32 eq rfl) (nm_r (nI_1 i) ?_)⟩
          exact h (some q) (nx_r ho y cand (fun q' _ c => by have := uq q' c; omega) w)
        cases o with
        | none => exact br_t rfl (take (fun b e => by cases e))
        | some b =>
          have hb := hB b ho.2.1
          have hb0 := ho.1
          refine br_f (nI_ne0 (by omega) (by omega)) ⟨pi, th_klr (th_cY t i) c32 q b eq rfl (by omega) (by omega) (fun v => nm_r (nI_1 i) (skip (fun q' _ c => ⟨b, rfl, ?_⟩))) (fun v => take (fun b' e => ?_))⟩
          · have := uq q' c; omega
          · cases e; omega
theorem th_ynd1 {s n t n' l i : Nat} (K : ys_K YP YF YC YN s n R) (K' : ys_K YP YF YC YN t n' R') (hl : l < 59049) (hi : i < 24) {post : Int32 → Prop} {f : Nat} {B : Nat → Prop} (hB : ∀ q, B q → q < 59049) {o : Option Nat} (ho : nx_O B l o)
    (h : ∀ o', nx_O (fun q => (B q ∨ nd_C YP YF YC (24 * s) n R' i q) ∨ nd_C YP YF YC (24 * t) n' R i q) l o' → wY_nextDifference_6 post (nI s) (nI t) (nI l) E F P N C M YP YF YC YN f (th_w o') (nI (i + 1))) : wY_nextDifference_6 post (nI s) (nI t) (nI l) E F P N C M YP YF YC YN (f + 1) (th_w o) (nI i) := by
  have K2 := K
  obtain ⟨hs, hn, hc, W, L⟩ := K2
  have pi : vp_in (24 * nI s + nI i) 96 := pk_in (24 * s + i) 96 (by omega) (th_cY s i)
  have c32 : 24 * s + i < 2 ^ 31 := by omega
  have hB' : ∀ q, (B q ∨ nd_C YP YF YC (24 * s) n R' i q) → q < 59049 := fun q u => by
    cases u with
    | inl u => exact hB q u
    | inr u => exact u.2.2.1
  have go : ∀ o', nx_O (fun q => B q ∨ nd_C YP YF YC (24 * s) n R' i q) l o' → wY_nextDifference_87 post (wY_nextDifference_6 post (nI s) (nI t) (nI l) E F P N C M YP YF YC YN f) (nI s) (nI t) (nI l) (th_w o') (nI i) E F P N C M YP YF YC YN :=
    fun o' ho' => th_ynd2 K K' hl hi hB' ho' h
  have skip : (∀ q, l < q → nd_C YP YF YC (24 * s) n R' i q → ∃ p, o = some p ∧ p ≤ q) → wY_nextDifference_87 post (wY_nextDifference_6 post (nI s) (nI t) (nI l) E F P N C M YP YF YC YN f) (nI s) (nI t) (nI l) (th_w o) (nI i) E F P N C M YP YF YC YN := fun w => go o (nx_l ho w)
  refine pk_le 24 i (fun _ => by omega) (fun _ => ⟨pk_in s 4 hs, th_kl rfl (by omega) n i hc rfl (by omega) (by omega) (fun z => skip (fun q _ c => ?_)) (fun z => ⟨pi, ?_⟩)⟩)
  · have := c.1; omega
  · obtain ⟨q, eq, r, q0, q59⟩ := sn_row W L z
    have uq : ∀ q', nd_C YP YF YC (24 * s) n R' i q' → q' = q := fun q' c => sn_inj c.2.2.1 q59 (c.2.1.symm.trans eq)
    refine th_kl (th_cY s i) c32 q l eq rfl (by omega) (by omega) (fun y => skip (fun q' hq' c => ?_)) (fun y => ?_)
    · have := uq q' c; omega
    · refine th_yha K' hs hi eq q59 (fun m => br_f th_10 (skip (fun q' _ c => ?_))) (fun m => br_t rfl ?_)
      · have e := uq q' c
        subst e
        exact absurd m c.2.2.2
      · have cand : nd_C YP YF YC (24 * s) n R' i q := ⟨z, eq, q59, m⟩
        have take : (∀ b, o = some b → q ≤ b) → wY_nextDifference_73 post (wY_nextDifference_6 post (nI s) (nI t) (nI l) E F P N C M YP YF YC YN f) (nI s) (nI t) (nI l) (nI i) E F P N C M YP YF YC YN := by
          intro w
          unfold wY_nextDifference_73
          refine ⟨pi, nm_r (e' := nI q) (th_kr (K := fun v => v = nI q) (th_cY s i) c32 eq rfl) ?_⟩
          exact go (some q) (nx_r ho y cand (fun q' _ c => by have := uq q' c; omega) w)
        cases o with
        | none => exact br_t rfl (take (fun b e => by cases e))
        | some b =>
          have hb := hB b ho.2.1
          have hb0 := ho.1
          refine br_f (nI_ne0 (by omega) (by omega)) ⟨pi, th_klr (th_cY s i) c32 q b eq rfl (by omega) (by omega) (fun v => skip (fun q' _ c => ⟨b, rfl, ?_⟩)) (fun v => take (fun b' e => ?_))⟩
          · have := uq q' c; omega
          · cases e; omega
theorem th_ynd {s n t n' l : Nat} (K : ys_K YP YF YC YN s n R) (K' : ys_K YP YF YC YN t n' R') (hl : l < 59049) {post : Int32 → Prop} (h : ∀ o, nx_O (sn_D R R') l o → post (th_w o)) : wpY_nextDifference post (E, F, P, N, C, M, YP, YF, YC, YN) (nI s) (nI t) (nI l) := by
  have key : ∀ d i o, i + d = 24 → nx_O (fun q => ∃ j, j < i ∧ (nd_C YP YF YC (24 * s) n R' j q ∨ nd_C YP YF YC (24 * t) n' R j q)) l o → wY_nextDifference_6 post (nI s) (nI t) (nI l) E F P N C M YP YF YC YN (d + 1) (th_w o) (nI i) := by
    intro d
    induction d with
    | zero =>
      intro i o hi ho
      have : i = 24 := by omega
      subst this
      refine pk_le 24 24 (fun _ => h o (nx_ext (fun q => ?_) ho)) (fun _ => by omega)
      rw [sn_UD, nd_U K.2.1 K.2.2.2.1 K.2.2.2.2, nd_U K'.2.1 K'.2.2.2.1 K'.2.2.2.2]
      constructor
      · intro ⟨j, hj, c⟩
        cases c with
        | inl c => exact Or.inl ⟨j, hj, c⟩
        | inr c => exact Or.inr ⟨j, hj, c⟩
      · intro c
        cases c with
        | inl c => obtain ⟨j, hj, c⟩ := c; exact ⟨j, hj, Or.inl c⟩
        | inr c => obtain ⟨j, hj, c⟩ := c; exact ⟨j, hj, Or.inr c⟩
    | succ d ih =>
      intro i o hi ho
      refine th_ynd1 K K' hl (by omega) (fun q u => ?_) ho (fun o' ho' => ih (i + 1) o' (by omega) (nx_ext (fun q => ?_) ho'))
      · obtain ⟨j, _, c⟩ := u
        cases c with
        | inl c => exact c.2.2.1
        | inr c => exact c.2.2.1
      · constructor
        · intro c
          obtain (⟨j, hj, c⟩ | c) | c := c
          · exact ⟨j, by omega, c⟩
          · exact ⟨i, by omega, Or.inl c⟩
          · exact ⟨i, by omega, Or.inr c⟩
        · intro ⟨j, hj, c⟩
          by_cases z : j = i
          · subst z
            cases c with
            | inl c => exact Or.inl (Or.inr c)
            | inr c => exact Or.inr c
          · exact Or.inl (Or.inl ⟨j, by omega, c⟩)
  exact Exists.intro 25 (key 24 0 none rfl (fun q _ ⟨j, hj, _⟩ => by omega))
/-- differences: how many there are -/
theorem th_yds {s n t n' : Nat} (K : ys_K YP YF YC YN s n R) (K' : ys_K YP YF YC YN t n' R') {post : Int32 → Prop} (h : post (nI (nx_c (sn_D R R') 0))) : wpY_differences post (E, F, P, N, C, M, YP, YF, YC, YN) (nI s) (nI t) := by
  have W := K.2.2.2.1
  have W' := K'.2.2.2.1
  have tot := sn_tot W W' K.2.2.2.2 K'.2.2.2.2 0
  have n23 := K.2.1
  have n23' := K'.2.1
  have hb : ∀ q, sn_D R R' q → q < 59049 := fun q hq => (sn_Db W W' hq).2
  have key : ∀ d k c l, k + d = 48 → l < 59049 → c + nx_c (sn_D R R') l = nx_c (sn_D R R') 0 → (c = k ∨ nx_c (sn_D R R') l = 0) → wY_differences_8 post (nI s) (nI t) E F P N C M YP YF YC YN (d + 1) (nI c) (nI l) (nI k) := by
    intro d
    induction d with
    | zero =>
      intro k c l hk hl hc hz
      refine pk_le 48 k (fun _ => ?_) (fun _ => by omega)
      rw [show c = nx_c (sn_D R R') 0 by omega]; exact h
    | succ d ih =>
      intro k c l hk hl hc hz
      refine pk_le 48 k (fun _ => by omega) (fun _ => th_ynd K K' hl (fun o ho => ?_))
      cases o with
      | none => exact br_t (by show (0 : Int32) ≤ 0; decide) (nm_r (nI_1 k) (ih (k + 1) c l (by omega) hl hc (Or.inr (nx_c0 ho))))
      | some q =>
        have hq := hb q ho.2.1
        have e := nx_c1 hb ho
        have := ho.1
        exact br_f (nI_nle (by omega) (by omega)) (nm_r (nI_1 c) (nm_r (nI_1 k) (ih (k + 1) (c + 1) q (by omega) hq (by omega) (by omega))))
  exact Exists.intro 49 (key 48 0 0 0 rfl (by omega) (by omega) (Or.inl rfl))
theorem th_xds {s n s' n' : Nat} (K : xs_K RC RP RF RO s n R) (K' : xs_K RC RP RF RO s' n' R') {post : Int32 → Prop} (h : post (nI (nx_c (sn_D R R') 0))) : wpX_nextDifference (fun r => ∃ n32 : Nat, wX_differing_32 post (nI s) (nI s') E F P N C RC RP RF RO n32 0 r 0) (E, F, P, N, C, RC, RP, RF, RO) (nI s) (nI s') 0 := by
  have W := K.2.2.2.1
  have W' := K'.2.2.2.1
  have tot := sn_tot W W' K.2.2.2.2.1 K'.2.2.2.2.1 0
  have n23 := K.2.1
  have n23' := K'.2.1
  have hb : ∀ q, sn_D R R' q → q < 59049 := fun q hq => (sn_Db W W' hq).2
  have key : ∀ d k o l, k + d = 46 → nx_O (sn_D R R') l o → k + nx_c (sn_D R R') l = nx_c (sn_D R R') 0 → wX_differing_32 post (nI s) (nI s') E F P N C RC RP RF RO (d + 1) (nI k) (th_v o) (nI k) := by
    intro d
    induction d with
    | zero =>
      intro k o l hk ho hc
      refine pk_le 46 k (fun _ => ?_) (fun _ => by omega)
      rw [show k = nx_c (sn_D R R') 0 by omega]; exact h
    | succ d ih =>
      intro k o l hk ho hc
      refine pk_le 46 k (fun _ => by omega) (fun _ => ?_)
      cases o with
      | none =>
        have := nx_c0 ho
        refine br_t rfl ?_
        rw [show k = nx_c (sn_D R R') 0 by omega]; exact h
      | some q =>
        have hq := hb q ho.2.1
        have e := nx_c1 hb ho
        refine br_f (th_m1 (by omega)) (nm_r (nI_1 k) (th_xnd K K' hq (fun o' ho' => nm_r (nI_1 k) (ih (k + 1) o' q (by omega) ho' (by omega)))))
  exact th_xnd (l := 0) K K' (by omega) (fun o ho => Exists.intro 47 (key 46 0 o 0 rfl ho (by omega)))
end
