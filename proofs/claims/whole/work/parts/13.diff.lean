/-! differences of two snapshots -/
theorem th_kt {f : Nat → Int32} {x a : Int32} {j : Nat} {A B : Prop} (hx : x = nI j) (hj : j < 2 ^ 31) (z : f j = a) (h : A) : (f x.toNatClampNeg = a → A) ∧ (¬ f x.toNatClampNeg = a → B) := by
  subst hx; rw [nI_clamp hj]; exact br_t z h
theorem th_kf {f : Nat → Int32} {x a : Int32} {j : Nat} {A B : Prop} (hx : x = nI j) (hj : j < 2 ^ 31) (z : ¬ f j = a) (h : B) : (f x.toNatClampNeg = a → A) ∧ (¬ f x.toNatClampNeg = a → B) := by
  subst hx; rw [nI_clamp hj]; exact br_f z h
theorem th_kl {f : Nat → Int32} {x y : Int32} {j : Nat} {A B : Prop} (hx : x = nI j) (hj : j < 2 ^ 31) (a b : Nat) (ha : f j = nI a) (hy : y = nI b) (ha' : a < 2 ^ 31) (hb' : b < 2 ^ 31) (p : a ≤ b → A) (q : b < a → B) : (f x.toNatClampNeg ≤ y → A) ∧ (¬ f x.toNatClampNeg ≤ y → B) := by
  subst hx; rw [nI_clamp hj, ha]; exact pk_le a b p q rfl hy ha' hb'
theorem th_klr {f : Nat → Int32} {x y : Int32} {j : Nat} {A B : Prop} (hx : x = nI j) (hj : j < 2 ^ 31) (a b : Nat) (ha : f j = nI a) (hy : y = nI b) (ha' : a < 2 ^ 31) (hb' : b < 2 ^ 31) (p : b ≤ a → A) (q : a < b → B) : (y ≤ f x.toNatClampNeg → A) ∧ (¬ y ≤ f x.toNatClampNeg → B) := by
  subst hx; rw [nI_clamp hj, ha]; exact pk_le b a p q hy rfl hb' ha'
theorem th_k2t {f g : Nat → Int32} {x y : Int32} {i j : Nat} {A B : Prop} (hx : x = nI i) (hi : i < 2 ^ 31) (hy : y = nI j) (hj : j < 2 ^ 31) (z : f i = g j) (h : A) : (f x.toNatClampNeg = g y.toNatClampNeg → A) ∧ (¬ f x.toNatClampNeg = g y.toNatClampNeg → B) := by
  subst hx hy; rw [nI_clamp hi, nI_clamp hj]; exact br_t z h
theorem th_k2f {f g : Nat → Int32} {x y : Int32} {i j : Nat} {A B : Prop} (hx : x = nI i) (hi : i < 2 ^ 31) (hy : y = nI j) (hj : j < 2 ^ 31) (z : ¬ f i = g j) (h : B) : (f x.toNatClampNeg = g y.toNatClampNeg → A) ∧ (¬ f x.toNatClampNeg = g y.toNatClampNeg → B) := by
  subst hx hy; rw [nI_clamp hi, nI_clamp hj]; exact br_f z h
theorem th_kr {f : Nat → Int32} {x a : Int32} {j : Nat} {K : Int32 → Prop} (hx : x = nI j) (hj : j < 2 ^ 31) (z : f j = a) (h : K a) : K (f x.toNatClampNeg) := by
  subst hx; rw [nI_clamp hj, z]; exact h
def xs_K (RC RP RF RO : Nat → Int32) (s n : Nat) (R : Nat → Int32 → Int32 → Prop) : Prop := s < 3 ∧ n ≤ 23 ∧ RC s = nI n ∧ sn_W R ∧ sn_L RP RF RO (s * 23) n R ∧ sn_So RP (s * 23) n
def ys_K (YP YF YC YN : Nat → Int32) (t n : Nat) (R : Nat → Int32 → Int32 → Prop) : Prop := t < 4 ∧ n ≤ 23 ∧ YN t = nI n ∧ sn_W R ∧ sn_L YP YF YC (24 * t) n R
theorem sn_row {A B G : Nat → Int32} {o n : Nat} {R : Nat → Int32 → Int32 → Prop} (W : sn_W R) (L : sn_L A B G o n R) {i : Nat} (hi : i < n) : ∃ q, A (o + i) = nI q ∧ R q (B (o + i)) (G (o + i)) ∧ 0 < q ∧ q < 59049 := by
  obtain ⟨q, a, b⟩ := L.1 i hi
  exact ⟨q, a, b, (W.1 _ _ _ b).1, (W.1 _ _ _ b).2.1⟩
section
variable {E F P N C RC RP RF RO M YP YF YC YN : Nat → Int32} {R R' : Nat → Int32 → Int32 → Prop}
def xc_K (RP : Nat → Int32) (s n q : Nat) (r : Int32) : Prop := (r = -1 ∧ ∀ i, i < n → ¬ RP (s * 23 + i) = nI q) ∨ (∃ i, i < n ∧ r = nI (s * 23 + i) ∧ RP (s * 23 + i) = nI q)
theorem th_xco {s n q : Nat} (K : xs_K RC RP RF RO s n R) {post : Int32 → Prop} (h : ∀ r, xc_K RP s n q r → post r) : wpX_cellOf post (E, F, P, N, C, RC, RP, RF, RO) (nI s) (nI q) := by
  obtain ⟨hs, hn, hc, W, L, So⟩ := K
  have key : ∀ d i, i + d = n → (∀ j, j < i → ¬ RP (s * 23 + j) = nI q) → wX_cellOf_2 post (nI s) (nI q) E F P N C RC RP RF RO (d + 1) (nI i) := by
    intro d
    induction d with
    | zero =>
      intro i hi ha
      refine ⟨pk_in s 3 hs, th_kl rfl (by omega) n i hc rfl (by omega) (by omega) (fun _ => h _ (Or.inl ⟨rfl, fun j hj => ha j (by omega)⟩)) (fun _ => by omega)⟩
    | succ d ih =>
      intro i hi ha
      refine ⟨pk_in s 3 hs, th_kl rfl (by omega) n i hc rfl (by omega) (by omega) (fun _ => by omega) (fun _ => ⟨pk_in (s * 23 + i) 69 (by omega) (th_cX s i), ?_⟩)⟩
      by_cases z : RP (s * 23 + i) = nI q
      · exact th_kt (th_cX s i) (by omega) z (h _ (Or.inr ⟨i, by omega, th_cX s i, z⟩))
      · refine th_kf (th_cX s i) (by omega) z (nm_r (nI_1 i) (ih (i + 1) (by omega) (fun j hj => ?_)))
        by_cases w : j = i
        · subst w; exact z
        · exact ha j (by omega)
  exact Exists.intro (n + 1) (key n 0 (by omega) (fun j hj => by omega))
theorem th_xss {s n c q : Nat} (K : xs_K RC RP RF RO s n R) (hc : c < 69) (hq : RP c = nI q) (hq59 : q < 59049) {post : Int32 → Prop} (h1 : R q (RF c) (RO c) → post 1) (h0 : ¬ R q (RF c) (RO c) → post 0) : wpX_standsInSnapshot post (E, F, P, N, C, RC, RP, RF, RO) (nI c) (nI s) := by
  have K' := K
  obtain ⟨hs, hn, hcn, W, L, So⟩ := K'
  unfold wpX_standsInSnapshot
  refine ⟨pk_in c 69 hc, ?_⟩
  rw [nI_clamp (show c < 2 ^ 31 by omega), hq]
  refine th_xco K (fun r hr => ?_)
  obtain ⟨e1, ha⟩ | ⟨i, hi, e1, e2⟩ := hr
  · refine br_t e1 (h0 (fun w => ?_))
    obtain ⟨i, hi, a, _⟩ := L.2.1 _ _ _ w
    exact ha i hi a
  · subst e1
    have hi69 : s * 23 + i < 69 := by omega
    obtain ⟨q', a, b, _, hq'⟩ := sn_row W L hi
    have := sn_inj hq' hq59 (a.symm.trans e2)
    subst this
    have un : R q' (RF c) (RO c) → RF (s * 23 + i) = RF c ∧ RO (s * 23 + i) = RO c := fun w => W.2 _ _ _ _ _ b w
    refine br_f (th_m1 (by omega)) ⟨pk_in _ 69 hi69, pk_in c 69 hc, ?_⟩
    by_cases hF : RF (s * 23 + i) = RF c
    · refine th_kt rfl (by omega) hF ⟨pk_in _ 69 hi69, pk_in c 69 hc, ?_⟩
      by_cases hC : RO (s * 23 + i) = RO c
      · exact th_kt rfl (by omega) hC (h1 (by rw [← hF, ← hC]; exact b))
      · exact th_kf rfl (by omega) hC (h0 (fun w => hC (un w).2))
    · exact th_kf rfl (by omega) hF (h0 (fun w => hF (un w).1))
def sn_U (R R' : Nat → Int32 → Int32 → Prop) (q : Nat) : Prop := ∃ f c, R q f c ∧ ¬ R' q f c
theorem th_xnu {s n s' n' l : Nat} (K : xs_K RC RP RF RO s n R) (K' : xs_K RC RP RF RO s' n' R') (hl : l < 59049) {post : Int32 → Prop} (h : ∀ o, nx_O (sn_U R R') l o → post (th_v o)) : wpX_nextUnmatched post (E, F, P, N, C, RC, RP, RF, RO) (nI s) (nI s') (nI l) := by
  obtain ⟨hs, hn, hc, W, L, So⟩ := K
  have key : ∀ d i, i + d = n → (∀ j q, j < i → RP (s * 23 + j) = nI q → q < 59049 → l < q → ¬ sn_U R R' q) → wX_nextUnmatched_3 post (nI s) (nI s') (nI l) E F P N C RC RP RF RO (d + 1) (nI i) := by
    intro d
    induction d with
    | zero =>
      intro i hi ha
      refine ⟨pk_in s 3 hs, th_kl rfl (by omega) n i hc rfl (by omega) (by omega) (fun _ => h none (fun q hq u => ?_)) (fun _ => by omega)⟩
      obtain ⟨f, c, r, nr⟩ := u
      obtain ⟨j, hj, a, _⟩ := L.2.1 _ _ _ r
      exact ha j q (by omega) a (W.1 _ _ _ r).2.1 hq ⟨f, c, r, nr⟩
    | succ d ih =>
      intro i hi ha
      have hin : i < n := by omega
      obtain ⟨q, eq, r, q0, q59⟩ := sn_row W L hin
      have hcell : s * 23 + i < 69 := by omega
      have skip : (l < q → ¬ sn_U R R' q) → wX_nextUnmatched_3 post (nI s) (nI s') (nI l) E F P N C RC RP RF RO (d + 1) (nI (i + 1)) := by
        intro hn'
        refine ih (i + 1) (by omega) (fun j q' hj e h59 hl' => ?_)
        by_cases z : j = i
        · subst z
          have := sn_inj h59 q59 (e.symm.trans eq)
          subst this
          exact hn' hl'
        · exact ha j q' (by omega) e h59 hl'
      refine ⟨pk_in s 3 hs, th_kl rfl (by omega) n i hc rfl (by omega) (by omega) (fun _ => by omega) (fun _ => nm_r (th_cX s i) ⟨pk_in _ 69 hcell, th_kl rfl (by omega) q l eq rfl (by omega) (by omega) (fun z => nm_r (nI_1 i) (skip (fun w => by omega))) (fun z => ?_)⟩)⟩
      refine th_xss K' hcell eq q59 (fun m => br_f th_10 (nm_r (nI_1 i) (skip (fun _ u => ?_)))) (fun m => br_t rfl ⟨pk_in _ 69 hcell, ?_⟩)
      · obtain ⟨f, c, r', nr⟩ := u
        obtain ⟨a, b⟩ := W.2 _ _ _ _ _ r r'
        rw [a, b] at m
        exact nr m
      · rw [nI_clamp (by omega), eq]
        refine h (some q) ⟨z, ⟨_, _, r, m⟩, fun q' hl' u => ?_⟩
        have u' := u
        obtain ⟨f, c, r', nr⟩ := u
        obtain ⟨j, hj, e, _⟩ := L.2.1 _ _ _ r'
        have h59 := (W.1 _ _ _ r').2.1
        by_cases z1 : j < i
        · exact absurd u' (ha j q' z1 e h59 hl')
        · by_cases z2 : j = i
          · subst z2
            have := sn_inj h59 q59 (e.symm.trans eq)
            omega
          · have lt := So i j (by omega) hj
            rw [eq, e, nI_ltI (by omega) (by omega)] at lt
            omega
  exact Exists.intro (n + 1) (key n 0 (by omega) (fun j q hj => by omega))
theorem sn_UD (q : Nat) : sn_D R R' q ↔ sn_U R R' q ∨ sn_U R' R q := by
  constructor
  · intro ⟨f, c, h⟩
    cases h with
    | inl h => exact Or.inl ⟨f, c, h⟩
    | inr h => exact Or.inr ⟨f, c, h⟩
  · intro h
    cases h with
    | inl h => obtain ⟨f, c, h⟩ := h; exact ⟨f, c, Or.inl h⟩
    | inr h => obtain ⟨f, c, h⟩ := h; exact ⟨f, c, Or.inr h⟩
theorem nx_l {A B : Nat → Prop} {l : Nat} {o : Option Nat} (h : nx_O A l o) (h' : ∀ q, l < q → B q → ∃ p, o = some p ∧ p ≤ q) : nx_O (fun q => A q ∨ B q) l o := by
  cases o with
  | none =>
    intro q hq u
    cases u with
    | inl u => exact h q hq u
    | inr u => obtain ⟨p, e, _⟩ := h' q hq u; cases e
  | some p =>
    refine ⟨h.1, Or.inl h.2.1, fun q hq u => ?_⟩
    cases u with
    | inl u => exact h.2.2 q hq u
    | inr u => obtain ⟨p', e, hp⟩ := h' q hq u; cases e; exact hp
theorem nx_r {A B : Nat → Prop} {l p : Nat} {o : Option Nat} (h : nx_O A l o) (h1 : l < p) (h2 : B p) (h3 : ∀ q, l < q → B q → p ≤ q) (ho : ∀ b, o = some b → p ≤ b) : nx_O (fun q => A q ∨ B q) l (some p) := by
  refine ⟨h1, Or.inr h2, fun q hq u => ?_⟩
  cases u with
  | inl u =>
    cases o with
    | none => exact absurd u (h q hq)
    | some b => have := ho b rfl; have := h.2.2 q hq u; omega
  | inr u => exact h3 q hq u
theorem th_xnd {s n s' n' l : Nat} (K : xs_K RC RP RF RO s n R) (K' : xs_K RC RP RF RO s' n' R') (hl : l < 59049) {post : Int32 → Prop} (h : ∀ o, nx_O (sn_D R R') l o → post (th_v o)) : wpX_nextDifference post (E, F, P, N, C, RC, RP, RF, RO) (nI s) (nI s') (nI l) := by
  have W := K.2.2.2.1
  have W' := K'.2.2.2.1
  have b1 : ∀ q, sn_U R R' q → q < 59049 := fun q ⟨f, c, r, _⟩ => (W.1 _ _ _ r).2.1
  have b2 : ∀ q, sn_U R' R q → q < 59049 := fun q ⟨f, c, r, _⟩ => (W'.1 _ _ _ r).2.1
  have fin : ∀ o, nx_O (fun q => sn_U R R' q ∨ sn_U R' R q) l o → post (th_v o) := fun o ho => h o (nx_ext (fun q => (sn_UD q).symm) ho)
  unfold wpX_nextDifference
  refine th_xnu K K' hl (fun o1 h1 => th_xnu K' K hl (fun o2 h2 => ?_))
  cases o1 with
  | none =>
    refine br_t rfl (fin o2 ?_)
    refine nx_ext (fun q => Or.comm) (nx_l h2 (fun q hq u => absurd u (h1 q hq)))
  | some p1 =>
    have p1b := b1 p1 h1.2.1
    refine br_f (th_m1 (by omega)) ?_
    cases o2 with
    | none => exact br_t rfl (fin (some p1) (nx_l h1 (fun q hq u => absurd u (h2 q hq))))
    | some p2 =>
      have p2b := b2 p2 h2.2.1
      refine br_f (th_m1 (by omega)) (pk_le p2 p1 (fun z => fin (some p2) ?_) (fun z => fin (some p1) ?_))
      · exact nx_r h1 h2.1 h2.2.1 h2.2.2 (fun b e => by cases e; exact z)
      · exact nx_l h1 (fun q hq u => ⟨p1, rfl, by have := h2.2.2 q hq u; omega⟩)
end
