/-! save: X by rising path, Y by rising number; both hold the tree's rows -/
theorem sn_cg {A B G A' B' G' : Nat → Int32} {o n : Nat} {R : Nat → Int32 → Int32 → Prop} (h : ∀ i, i < n → A' (o + i) = A (o + i) ∧ B' (o + i) = B (o + i) ∧ G' (o + i) = G (o + i)) (L : sn_L A B G o n R) : sn_L A' B' G' o n R := by
  refine ⟨fun i hi => ?_, fun q f c r => ?_, fun i j hi hj e => ?_⟩
  · obtain ⟨a, b, c⟩ := h i hi
    rw [a, b, c]; exact L.1 i hi
  · obtain ⟨i, hi, x, y, z⟩ := L.2.1 q f c r
    obtain ⟨a, b, c⟩ := h i hi
    exact ⟨i, hi, a.trans x, b.trans y, c.trans z⟩
  · rw [(h i hi).1, (h j hj).1] at e
    exact L.2.2 i j hi hj e
theorem sn_cgS {A A' : Nat → Int32} {o n : Nat} (h : ∀ i, i < n → A' (o + i) = A (o + i)) (L : sn_So A o n) : sn_So A' o n := by
  intro i j hij hj
  rw [h i (by omega), h j hj]
  exact L i j hij hj
theorem sn_SoI {A : Nat → Int32} {o n : Nat} (h : sn_So A o n) : ∀ i j, i < n → j < n → A (o + i) = A (o + j) → i = j := by
  intro i j hi hj e
  by_cases a : i < j
  · have := h i j a hj; rw [e] at this; exact absurd this Int32.lt_irrefl
  · by_cases b : j < i
    · have := h j i b hi; rw [e] at this; exact absurd this Int32.lt_irrefl
    · omega
theorem th_uc {f : Nat → Int32} {x a b : Int32} {j N : Nat} {K : (Nat → Int32) → Prop} (hx : x = nI j) (hj : j < N) (hN : N < 2 ^ 31) (hb : a = b) (h : K (upd f j b)) : vp_in x N ∧ ∀ y, y = upd f x.toNatClampNeg a → K y := by
  subst hx
  exact ⟨vp_in_nI hj hN, nm_r (by rw [nI_clamp (by omega), hb]) h⟩
theorem th_cX (s k : Nat) : nI s * 23 + nI k = nI (s * 23 + k) := by
  rw [show (23 : Int32) = nI 23 from rfl, pk_mul, nI_add]
theorem th_cY (s k : Nat) : 24 * nI s + nI k = nI (24 * s + k) := by
  rw [show (24 : Int32) = nI 24 from rfl, pk_mul, nI_add]
section
variable {D : Nat → Nat} {E F P N C RC RP RF RO M YP YF YC YN : Nat → Int32}
def th_e (E : Nat → Int32) (x : Nat) : Prop := th_S E x ∧ ¬ x = 0
def th_pt (E P N : Nat → Int32) (q : Nat) : Prop := ∃ e, th_e E e ∧ th_pl P N 0 e = some q
theorem th_ptb (H : th_Ch (th_S E) P N D) {q : Nat} (h : th_pt E P N q) : 0 < q ∧ q < 59049 := by
  obtain ⟨e, he, g⟩ := h
  refine ⟨?_, (th_pl_D H e he.1 q g).1⟩
  by_cases z : q = 0
  · subst z; exact absurd (th_pl_z H he.1 g) he.2
  · omega
theorem th_tot (T : th_T E F P N C D) : nx_c (th_pt E P N) 0 = cn_c (th_e E) 24 := by
  have H := T.1
  refine (cn_bij (A := th_e E) (f := fun x => (th_pl P N 0 x).getD 0) (M := 59049) 24 (fun q => 0 < q ∧ th_pt E P N q) ?_ ?_ ?_).symm
  · intro i hi he
    obtain ⟨q, g⟩ := th_pl_root H i he.1
    have hp : th_pt E P N q := ⟨i, he, g⟩
    have := th_ptb H hp
    rw [g]
    exact ⟨this.2, this.1, hp⟩
  · intro q hq h
    obtain ⟨_, e, he, g⟩ := h
    refine ⟨e, he.1.1, he, ?_⟩
    rw [g]; rfl
  · intro i j hi hj ai aj e
    obtain ⟨q, g⟩ := th_pl_root H i ai.1
    obtain ⟨q', g'⟩ := th_pl_root H j aj.1
    rw [g, g'] at e
    have e' : q = q' := e
    subst e'
    exact th_pl_inj H T.2.2.2.2.2.2 i ai.1 j q aj.1 g g'
theorem th_e23 : cn_c (th_e E) 24 ≤ 23 := by
  apply cn_len (f := fun i => i + 1) 23
  intro q hq h
  have := h.2
  exact ⟨q - 1, by omega, by omega⟩
def th_af (E P N : Nat → Int32) (l : Nat) (r : Int32) : Prop := (r = -1 ∧ nx_O (th_pt E P N) l none) ∨ (∃ e q, th_e E e ∧ r = nI e ∧ th_pl P N 0 e = some q ∧ nx_O (th_pt E P N) l (some q))
theorem th_xaf (H : th_Ch (th_S E) P N D) {l : Nat} (hl : l < 59049) {post : Int32 → Prop} (h : ∀ r, th_af E P N l r → post r) : wpX_entryAfter post (E, F, P, N, C, RC, RP, RF, RO) (nI l) := by
  have key : ∀ d i x2 x3, i + d = 24 → 1 ≤ i → ((x2 = -1 ∧ ∀ e q, e < i → th_e E e → th_pl P N 0 e = some q → q ≤ l) ∨ (∃ e q, th_e E e ∧ x2 = nI e ∧ x3 = nI q ∧ th_pl P N 0 e = some q ∧ l < q ∧ ∀ e' q', e' < i → th_e E e' → th_pl P N 0 e' = some q' → l < q' → q ≤ q')) →
      wX_entryAfter_7 post (nI l) E F P N C RC RP RF RO (d + 1) x2 x3 (nI i) := by
    intro d
    induction d with
    | zero =>
      intro i x2 x3 hi h1 inv
      refine pk_le 24 i (fun _ => h x2 ?_) (fun _ => by omega)
      obtain ⟨e1, ha⟩ | ⟨e, q, he, e1, e2, g, hq, ha⟩ := inv
      · refine Or.inl ⟨e1, fun q hq ⟨e, he, g⟩ => ?_⟩
        have := ha e q (by have := he.1.1; omega) he g
        omega
      · refine Or.inr ⟨e, q, he, e1, g, hq, ⟨e, he, g⟩, fun q' hq' ⟨e', he', g'⟩ => ha e' q' (by have := he'.1.1; omega) he' g' hq'⟩
    | succ d ih =>
      intro i x2 x3 hi h1 inv
      have i24 : i < 24 := by omega
      have skip : (∀ q, th_e E i → th_pl P N 0 i = some q → q ≤ l ∨ ∃ b, x3 = nI b ∧ b ≤ q ∧ ¬ x2 = -1 ∧ b < 59049) → wX_entryAfter_7 post (nI l) E F P N C RC RP RF RO (d + 1) x2 x3 (nI (i + 1)) := by
        intro hn
        refine ih (i + 1) x2 x3 (by omega) (by omega) ?_
        obtain ⟨e1, ha⟩ | ⟨e, q, he, e1, e2, g, hq, ha⟩ := inv
        · refine Or.inl ⟨e1, fun e q hi' he g => ?_⟩
          by_cases z : e = i
          · subst z
            cases hn q he g with
            | inl w => exact w
            | inr w => obtain ⟨b, _, _, w, _⟩ := w; exact absurd e1 w
          · exact ha e q (by omega) he g
        · refine Or.inr ⟨e, q, he, e1, e2, g, hq, fun e' q' hi' he' g' hl' => ?_⟩
          by_cases z : e' = i
          · subst z
            cases hn q' he' g' with
            | inl w => omega
            | inr w =>
              obtain ⟨b, eb, w, _, hb⟩ := w
              have hq59 := (th_pl_D H e he.1 q g).1
              have := sn_inj hq59 hb (e2.symm.trans eb)
              omega
          · exact ha e' q' (by omega) he' g' hl'
      refine pk_le 24 i (fun _ => by omega) (fun _ => ⟨pk_in i 24 i24, ?_⟩)
      by_cases hE : E i = 0
      · exact th_bt i24 hE (nm_r (nI_1 i) (skip (fun q z => absurd hE z.1.2)))
      · have iS : th_S E i := ⟨i24, hE⟩
        have ie : th_e E i := ⟨iS, by omega⟩
        obtain ⟨y, g⟩ := th_pl_root H i iS
        have hy := (th_pl_D H i iS y g).1
        refine th_bf i24 hE (th_xpb (t := 0) H (by omega) iS ?_)
        rw [g]
        refine pk_le y l (fun z => nm_r (nI_1 i) (skip (fun q _ w => ?_))) (fun z => ?_)
        · rw [g] at w; cases w; exact Or.inl z
        · obtain ⟨e1, ha⟩ | ⟨e, q, he, e1, e2, g2, hq, ha⟩ := inv
          · refine br_t e1 (nm_r (nI_1 i) (ih (i + 1) (nI i) (nI y) (by omega) (by omega) (Or.inr ⟨i, y, ie, rfl, rfl, g, z, fun e' q' hi' he' g' hl' => ?_⟩)))
            by_cases w : e' = i
            · subst w; rw [g] at g'; cases g'; omega
            · have := ha e' q' (by omega) he' g'; omega
          · have hq59 := (th_pl_D H e he.1 q g2).1
            have e24 := he.1.1
            refine br_f (by rw [e1]; exact th_m1 (by omega)) ?_
            refine pk_le q y (fun w => nm_r (nI_1 i) (skip (fun q' _ w' => ?_))) (fun w => nm_r (nI_1 i) (ih (i + 1) (nI i) (nI y) (by omega) (by omega) (Or.inr ⟨i, y, ie, rfl, rfl, g, z, fun e' q' hi' he' g' hl' => ?_⟩))) e2
            · rw [g] at w'; cases w'
              exact Or.inr ⟨q, e2, w, by rw [e1]; exact th_m1 (by omega), hq59⟩
            · by_cases v : e' = i
              · subst v; rw [g] at g'; cases g'; omega
              · have := ha e' q' (by omega) he' g' hl'; omega
  refine Exists.intro 24 (key 23 1 (-1) (-1) rfl (by omega) (Or.inl ⟨rfl, fun e q he h => ?_⟩))
  have := h.2
  omega
theorem nx_c0' {B : Nat → Prop} {l : Nat} (hB : ∀ q, B q → q < 59049) (h : nx_c B l = 0) : nx_O B l none := by
  obtain ⟨o, ho⟩ := nx_ex B l
  cases o with
  | none => exact ho
  | some q => have := nx_c1 hB ho; omega
def sv_J (E F P N C : Nat → Int32) (o k l : Nat) (A B G : Nat → Int32) : Prop :=
  (∀ i, i < k → ∃ q, A (o + i) = nI q ∧ th_R E F P N C q (B (o + i)) (G (o + i)) ∧ q ≤ l) ∧ (∀ q, q ≤ l → th_pt E P N q → ∃ i, i < k ∧ A (o + i) = nI q) ∧ sn_So A o k
theorem sv_fin (T : th_T E F P N C D) {o k l : Nat} {A B G : Nat → Int32} (J : sv_J E F P N C o k l A B G) (h : nx_O (th_pt E P N) l none) : sn_L A B G o k (th_R E F P N C) := by
  have W := th_RW T
  refine ⟨fun i hi => ?_, fun q f c r => ?_, sn_SoI J.2.2⟩
  · obtain ⟨q, a, b, _⟩ := J.1 i hi
    exact ⟨q, a, b⟩
  · obtain ⟨e, he, z, g, hf, hc⟩ := r
    have hp : th_pt E P N q := ⟨e, ⟨he, z⟩, g⟩
    have hl : q ≤ l := by
      by_cases w : q ≤ l
      · exact w
      · exact absurd hp (h q (by omega))
    obtain ⟨i, hi, ei⟩ := J.2.1 q hl hp
    obtain ⟨q', a, b, _⟩ := J.1 i hi
    have h1 := (W.1 _ _ _ b).2.1
    have h2 := (W.1 q f c ⟨e, he, z, g, hf, hc⟩).2.1
    have := sn_inj h1 h2 (a.symm.trans ei)
    subst this
    obtain ⟨u1, u2⟩ := W.2 _ _ _ _ _ b ⟨e, he, z, g, hf, hc⟩
    exact ⟨i, hi, ei, u1, u2⟩
theorem sv_step (T : th_T E F P N C D) {o k l e q : Nat} {A B G : Nat → Int32} (J : sv_J E F P N C o k l A B G) (he : th_e E e) (g : th_pl P N 0 e = some q) (h : nx_O (th_pt E P N) l (some q)) :
    sv_J E F P N C o (k + 1) q (upd A (o + k) (nI q)) (upd B (o + k) (F e)) (upd G (o + k) (C e)) := by
  have hq := (th_pl_D T.1 e he.1 q g).1
  have W := th_RW T
  refine ⟨fun i hi => ?_, fun q' hq' hp => ?_, fun i j hij hj => ?_⟩
  · by_cases z : i = k
    · subst z
      rw [pk_us, pk_us, pk_us]
      exact ⟨q, rfl, ⟨e, he.1, he.2, g, rfl, rfl⟩, by omega⟩
    · rw [pk_un (by omega), pk_un (by omega), pk_un (by omega)]
      obtain ⟨q', a, b, c⟩ := J.1 i (by omega)
      have := h.1
      exact ⟨q', a, b, by omega⟩
  · by_cases z : q' ≤ l
    · obtain ⟨i, hi, ei⟩ := J.2.1 q' z hp
      exact ⟨i, by omega, by rw [pk_un (by omega)]; exact ei⟩
    · have := h.2.2 q' (by omega) hp
      exact ⟨k, by omega, by rw [pk_us, show q = q' by omega]⟩
  · rw [pk_un (show o + i ≠ o + k by omega)]
    by_cases z : j = k
    · subst z
      rw [pk_us]
      obtain ⟨q', a, b, c⟩ := J.1 i (by omega)
      rw [a]
      have := h.1
      exact nI_lt (by omega) (by omega)
    · rw [pk_un (by omega)]
      exact J.2.2 i j hij (by omega)
theorem sv_X (T : th_T E F P N C D) {s : Nat} (hs : s < 3) {post : Int32 → SX → Prop} (h : ∀ RP' RF' RO', sn_L RP' RF' RO' (s * 23) (cn_c (th_e E) 24) (th_R E F P N C) → sn_So RP' (s * 23) (cn_c (th_e E) 24) →
    (∀ j, (j < s * 23 ∨ s * 23 + 23 ≤ j) → RP' j = RP j ∧ RF' j = RF j ∧ RO' j = RO j) → post (nI (cn_c (th_e E) 24)) (E, F, P, N, C, upd RC s (nI (cn_c (th_e E) 24)), RP', RF', RO')) : ∃ n, wX_save_17 post (nI s) n 0 0 0 E F P N C RC RP RF RO := by
  have H := T.1
  have hb : ∀ q, th_pt E P N q → q < 59049 := fun q hq => (th_ptb H hq).2
  have key : ∀ d k l RP' RF' RO', k + d = 23 → l < 59049 → sv_J E F P N C (s * 23) k l RP' RF' RO' → k + nx_c (th_pt E P N) l = cn_c (th_e E) 24 → (∀ j, (j < s * 23 ∨ s * 23 + 23 ≤ j) → RP' j = RP j ∧ RF' j = RF j ∧ RO' j = RO j) →
      wX_save_17 post (nI s) (d + 1) (nI k) (nI l) (nI k) E F P N C RC RP' RF' RO' := by
    intro d
    induction d with
    | zero =>
      intro k l RP' RF' RO' hk hl J hc hu
      have h23 := th_e23 (E := E)
      have hz : nx_c (th_pt E P N) l = 0 := by omega
      have hn := nx_c0' hb hz
      have ek : k = cn_c (th_e E) 24 := by omega
      subst ek
      exact pk_le 23 (cn_c (th_e E) 24) (fun _ => th_uc rfl hs (by omega) rfl (h RP' RF' RO' (sv_fin T J hn) J.2.2 hu)) (fun _ => by omega)
    | succ d ih =>
      intro k l RP' RF' RO' hk hl J hc hu
      refine pk_le 23 k (fun _ => by omega) (fun _ => th_xaf H hl (fun r hr => ?_))
      obtain ⟨e1, hn⟩ | ⟨e, q, he, e1, g, hn⟩ := hr
      · have hz := nx_c0 hn
        have ek : k = cn_c (th_e E) 24 := by omega
        subst ek
        exact br_t e1 (th_uc rfl hs (by omega) rfl (h RP' RF' RO' (sv_fin T J hn) J.2.2 hu))
      · subst e1
        have e24 := he.1.1
        have hq := (th_pl_D H e he.1 q g).1
        have hc1 := nx_c1 hb hn
        refine br_f (th_m1 (by omega)) (th_xpb (t := 0) H (by omega) he.1 ?_)
        rw [g]
        refine nm_r (th_cX s k) (th_uc rfl (show s * 23 + k < 69 by omega) (by omega) rfl ⟨pk_in e 24 e24, th_uc rfl (show s * 23 + k < 69 by omega) (by omega) (by rw [th_cl e24, th_nb (T.2.2.2.1 e)]) ⟨pk_in e 24 e24, th_uc rfl (show s * 23 + k < 69 by omega) (by omega) (by rw [th_cl e24]) (nm_r (nI_1 k) (nm_r (nI_1 k) ?_))⟩⟩)
        refine ih (k + 1) q _ _ _ (by omega) hq (sv_step T J he g hn) (by omega) (fun j hj => ?_)
        rw [pk_un (by omega), pk_un (by omega), pk_un (by omega)]
        exact hu j hj
  refine Exists.intro 24 (key 23 0 0 RP RF RO rfl (by omega) ⟨fun i hi => by omega, fun q hq hp => ?_, fun i j _ hj => by omega⟩ (by rw [th_tot T]; omega) (fun j _ => ⟨rfl, rfl, rfl⟩))
  have := th_ptb H hp
  omega
end
