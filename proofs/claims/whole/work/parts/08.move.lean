/-! remove: both sides take away what is below t -/
section
variable {D : Nat → Nat} {E F P N C RC RP RF RO M YP YF YC YN : Nat → Int32}
def th_B (E P N : Nat → Int32) (t : Nat) (x : Nat) : Prop := th_S E x ∧ ¬ th_pl P N t x = none
def th_K (E P N : Nat → Int32) (t i : Nat) (E' : Nat → Int32) : Prop := ∀ x, (x < i ∧ th_B E P N t x → E' x = 0) ∧ (¬ (x < i ∧ th_B E P N t x) → E' x = E x)
theorem th_Ku {t i : Nat} {E' E'' : Nat → Int32} (h : th_K E P N t i E') (h' : th_K E P N t i E'') : E' = E'' := by
  funext x
  by_cases z : x < i ∧ th_B E P N t x
  · rw [(h x).1 z, (h' x).1 z]
  · rw [(h x).2 z, (h' x).2 z]
theorem th_K0 {t i : Nat} {E' : Nat → Int32} (h : th_K E P N t i E') (hn : ¬ th_B E P N t i) : th_K E P N t (i + 1) E' := by
  intro x
  refine ⟨fun a => (h x).1 ⟨?_, a.2⟩, fun a => (h x).2 (fun b => a ⟨by omega, b.2⟩)⟩
  by_cases z : x = i
  · subst z; exact absurd a.2 hn
  · have := a.1; omega
theorem th_K1 {t i : Nat} {E' : Nat → Int32} (h : th_K E P N t i E') (hn : th_B E P N t i) : th_K E P N t (i + 1) (upd E' i 0) := by
  intro x
  by_cases z : x = i
  · subst z
    exact ⟨fun _ => pk_us, fun a => absurd ⟨by omega, hn⟩ a⟩
  · rw [pk_un z]
    exact ⟨fun a => (h x).1 ⟨by have := a.1; omega, a.2⟩, fun a => (h x).2 (fun b => a ⟨by omega, b.2⟩)⟩
theorem th_KT (T : th_T E F P N C D) {t : Nat} {E' : Nat → Int32} (ht : ¬ t = 0) (h : th_K E P N t 24 E') : th_T E' F P N C D := by
  refine th_T_rem T ht (fun x => ?_)
  by_cases b : th_B E P N t x
  · refine ⟨fun a => absurd ((h x).1 ⟨a.1, b⟩) a.2, fun a => absurd a.2 b.2⟩
  · have e := (h x).2 (fun z => b z.2)
    constructor
    · intro a
      have hS : th_S E x := ⟨a.1, by rw [← e]; exact a.2⟩
      refine ⟨hS, ?_⟩
      cases g : th_pl P N t x with
      | none => rfl
      | some r => exact absurd ⟨hS, by rw [g]; exact fun z => nomatch z⟩ b
    · intro a
      exact ⟨a.1.1, by rw [e]; exact a.1.2⟩
theorem th_xrm (H : th_Ch (th_S E) P N D) {t : Nat} (ht : t < 24) {post : Int32 → SX → Prop} (h : ∀ E', th_K E P N t 24 E' → post (nI (cn_c (th_B E P N t) 24)) (E', F, P, N, C, RC, RP, RF, RO)) : ∀ d i E', i + d = 24 → th_K E P N t i E' →
    wX_remove_21 post (nI t) (d + 1) (nI (cn_c (th_B E P N t) i)) (nI i) E' F P N C RC RP RF RO := by
  intro d
  induction d with
  | zero =>
    intro i E' hi hK
    have : i = 24 := by omega
    subst this
    exact pk_le 24 24 (fun _ => h E' hK) (fun _ => by omega)
  | succ d ih =>
    intro i E' hi hK
    have i24 : i < 24 := by omega
    have eE : E' i = E i := (hK i).2 (fun z => by omega)
    refine pk_le 24 i (fun _ => by omega) (fun _ => ⟨pk_in i 24 i24, ?_⟩)
    have skip : ¬ th_B E P N t i → wX_remove_21 post (nI t) (d + 1) (nI (cn_c (th_B E P N t) i)) (nI (i + 1)) E' F P N C RC RP RF RO := by
      intro hn
      have := ih (i + 1) E' (by omega) (th_K0 hK hn)
      rw [cn_s0 hn] at this
      exact this
    by_cases hE : E i = 0
    · exact th_bt i24 (eE.trans hE) (nm_r (nI_1 i) (skip (fun z => z.1.2 hE)))
    · have hS : th_S E i := ⟨i24, hE⟩
      refine th_bf i24 (by rw [eE]; exact hE) (th_xpb H ht hS ?_)
      cases g : th_pl P N t i with
      | none => exact br_t rfl (nm_r (nI_1 i) (skip (fun z => z.2 g)))
      | some q =>
        have hq := (th_pl_D H i hS q g).1
        have hB : th_B E P N t i := ⟨hS, by rw [g]; exact fun z => nomatch z⟩
        refine br_f (th_m1 (by omega)) (th_up i24 th_n0 (nm_r (nI_1 _) (nm_r (nI_1 i) ?_)))
        have := ih (i + 1) (upd E' i 0) (by omega) (th_K1 hK hB)
        rw [cn_s1 hB] at this
        exact this
theorem th_yrm2 {t : Nat} {c : Int32} {M' : Nat → Int32} (hM : ∀ x, x < 24 → (th_B E P N t x → ¬ M' x = 0) ∧ (¬ th_B E P N t x → M' x = 0)) {post : Int32 → SY → Prop} (h : ∀ E', th_K E P N t 24 E' → post c (E', F, P, N, C, M', YP, YF, YC, YN)) : ∀ d i E', i + d = 24 → th_K E P N t i E' →
    wY_remove_76 post c (d + 1) (nI i) E' F P N C M' YP YF YC YN := by
  intro d
  induction d with
  | zero =>
    intro i E' hi hK
    have : i = 24 := by omega
    subst this
    exact pk_le 24 24 (fun _ => h E' hK) (fun _ => by omega)
  | succ d ih =>
    intro i E' hi hK
    have i24 : i < 24 := by omega
    refine pk_le 24 i (fun _ => by omega) (fun _ => ⟨pk_in i 24 i24, ?_⟩)
    by_cases b : th_B E P N t i
    · exact th_bf i24 ((hM i i24).1 b) (th_up i24 th_n0 (nm_r (nI_1 i) (ih (i + 1) _ (by omega) (th_K1 hK b))))
    · exact th_bt i24 ((hM i i24).2 b) (nm_r (nI_1 i) (ih (i + 1) _ (by omega) (th_K0 hK b)))
theorem th_yrm (H : th_Ch (th_S E) P N D) {t : Nat} (ht : t < 24) {post : Int32 → SY → Prop} (h : ∀ E' M', th_K E P N t 24 E' → post (nI (cn_c (th_B E P N t) 24)) (E', F, P, N, C, M', YP, YF, YC, YN)) : ∀ d i M', i + d = 24 →
    (∀ x, x < i → (th_B E P N t x → ¬ M' x = 0) ∧ (¬ th_B E P N t x → M' x = 0)) →
    wY_remove_21 post (nI t) (d + 1) (nI (cn_c (th_B E P N t) i)) (nI i) E F P N C M' YP YF YC YN := by
  intro d
  induction d with
  | zero =>
    intro i M' hi hM
    have : i = 24 := by omega
    subst this
    refine pk_le 24 24 (fun _ => Exists.intro 25 ?_) (fun _ => by omega)
    exact th_yrm2 (t := t) hM (fun E' hK => h E' M' hK) 24 0 E rfl (fun x => ⟨fun z => by omega, fun _ => rfl⟩)
  | succ d ih =>
    intro i M' hi hM
    have i24 : i < 24 := by omega
    refine pk_le 24 i (fun _ => by omega) (fun _ => ⟨pk_in i 24 i24, ?_⟩)
    have skip : ¬ th_B E P N t i → wY_remove_54 post (wY_remove_21 post (nI t) (d + 1)) (nI t) (nI (cn_c (th_B E P N t) i)) (nI i) (nI i) E F P N C M' YP YF YC YN := by
      intro hn
      unfold wY_remove_54
      refine th_up i24 th_n0 ⟨pk_in i 24 i24, th_bt i24 pk_us (nm_r (nI_1 i) ?_)⟩
      have := ih (i + 1) (upd M' i 0) (by omega) (fun x hx => by
        by_cases z : x = i
        · subst z; exact ⟨fun z => absurd z hn, fun _ => pk_us⟩
        · rw [pk_un z]; exact hM x (by omega))
      rw [cn_s0 hn] at this
      exact this
    by_cases hE : E i = 0
    · exact th_bt i24 hE (skip (fun z => z.1.2 hE))
    · have hS : th_S E i := ⟨i24, hE⟩
      refine th_bf i24 hE (th_ypb H ht hS ?_)
      cases g : th_pl P N t i with
      | none => exact br_t th_m1lt (skip (fun z => z.2 g))
      | some q =>
        have hq := (th_pl_D H i hS q g).1
        have hB : th_B E P N t i := ⟨hS, by rw [g]; exact fun z => nomatch z⟩
        refine br_f (nI_pos (by omega)) ?_
        unfold wY_remove_55
        refine th_up i24 th_n1 ⟨pk_in i 24 i24, th_bf i24 (by rw [pk_us]; exact th_10) (nm_r (nI_1 _) (nm_r (nI_1 i) ?_))⟩
        have := ih (i + 1) (upd M' i 1) (by omega) (fun x hx => by
          by_cases z : x = i
          · subst z; exact ⟨fun _ => by rw [pk_us]; exact th_10, fun z => absurd hB z⟩
          · rw [pk_un z]; exact hM x (by omega))
        rw [cn_s1 hB] at this
        exact this
/-! move: the height of what is moved -/
def th_H (E P N : Nat → Int32) (D : Nat → Nat) (t h : Nat) : Prop := (∃ x, th_B E P N t x ∧ D x = D t + h) ∧ ∀ x, th_B E P N t x → D x ≤ D t + h
theorem th_Hu {t h h' : Nat} (a : th_H E P N D t h) (b : th_H E P N D t h') : h = h' := by
  obtain ⟨⟨x, hx, ex⟩, ax⟩ := a
  obtain ⟨⟨y, hy, ey⟩, ay⟩ := b
  have := ax y hy
  have := ay x hx
  omega
theorem th_Bq {t x : Nat} (h : th_B E P N t x) : ∃ q, th_pl P N t x = some q := by
  cases g : th_pl P N t x with
  | none => exact absurd g h.2
  | some q => exact ⟨q, rfl⟩
theorem th_qB {t x q : Nat} (hS : th_S E x) (h : th_pl P N t x = some q) : th_B E P N t x := ⟨hS, by rw [h]; exact fun z => nomatch z⟩
theorem th_xht (H : th_Ch (th_S E) P N D) {t : Nat} (hS : th_S E t) (t0 : ¬ t = 0) {post : Int32 → Prop} (h : ∀ n, th_H E P N D t n → post (nI n)) : wpX_heightOf post (E, F, P, N, C, RC, RP, RF, RO) (nI t) := by
  have key : ∀ d i m, i + d = 24 → 1 ≤ i → m < 59049 → (∃ x, th_S E x ∧ th_pl P N t x = some m) → (∀ x q, x < i → th_S E x → th_pl P N t x = some q → q ≤ m) →
      wX_heightOf_4 post (nI t) E F P N C RC RP RF RO (d + 1) (nI m) (nI i) := by
    intro d
    induction d with
    | zero =>
      intro i m hi _ hm he ha
      refine pk_le 24 i (fun _ => th_xln hm (h _ ⟨?_, ?_⟩)) (fun _ => by omega)
      · obtain ⟨x, hx, g⟩ := he
        exact ⟨x, th_qB hx g, (th_pl_D H x hx m g).2⟩
      · intro x hx
        obtain ⟨q, g⟩ := th_Bq hx
        have := th_lnM (ha x q (by have := hx.1.1; omega) hx.1 g)
        rw [(th_pl_D H x hx.1 q g).2]
        omega
    | succ d ih =>
      intro i m hi h1 hm he ha
      have i24 : i < 24 := by omega
      refine pk_le 24 i (fun _ => by omega) (fun _ => ⟨pk_in i 24 i24, ?_⟩)
      have skip : (∀ q, th_S E i → th_pl P N t i = some q → q ≤ m) → wX_heightOf_4 post (nI t) E F P N C RC RP RF RO (d + 1) (nI m) (nI (i + 1)) := by
        intro hn
        refine ih (i + 1) m (by omega) (by omega) hm he (fun x q hx hxS g => ?_)
        by_cases z : x = i
        · subst z; exact hn q hxS g
        · exact ha x q (by omega) hxS g
      by_cases hE : E i = 0
      · exact th_bt i24 hE (nm_r (nI_1 i) (skip (fun q z => absurd hE z.2)))
      · have hiS : th_S E i := ⟨i24, hE⟩
        refine th_bf i24 hE (th_xpb H hS.1 hiS ?_)
        cases g : th_pl P N t i with
        | none => exact br_t (th_m1le (by omega)) (nm_r (nI_1 i) (skip (fun q _ z => by rw [g] at z; cases z)))
        | some y =>
          have hy := (th_pl_D H i hiS y g).1
          refine pk_le y m (fun z => nm_r (nI_1 i) (skip (fun q _ w => ?_))) (fun z => nm_r (nI_1 i) ?_)
          · rw [g] at w; cases w; exact z
          · refine ih (i + 1) y (by omega) (by omega) hy ⟨i, hiS, g⟩ (fun x q hx hxS w => ?_)
            by_cases e : x = i
            · subst e; rw [g] at w; cases w; omega
            · have := ha x q (by omega) hxS w; omega
  refine Exists.intro 24 (key 23 1 0 rfl (by omega) (by omega) ⟨t, hS, th_pl_t⟩ (fun x q hx hxS g => ?_))
  have : x = 0 := by omega
  subst this
  rw [th_pl_0 t0] at g; cases g
theorem th_yht (H : th_Ch (th_S E) P N D) {t : Nat} (hS : th_S E t) {post : Int32 → Prop} (h : ∀ n, th_H E P N D t n → post (nI n)) : wpY_height post (E, F, P, N, C, M, YP, YF, YC, YN) (nI t) := by
  unfold wpY_height
  refine th_ydp H hS ?_
  have key : ∀ d i m, i + d = 24 → (∃ x, th_B E P N t x ∧ D x = D t + m) → (∀ x, x < i → th_B E P N t x → D x ≤ D t + m) →
      wY_height_11 post (nI t) (nI (D t)) E F P N C M YP YF YC YN (d + 1) (nI m) (nI i) := by
    intro d
    induction d with
    | zero =>
      intro i m hi he ha
      exact pk_le 24 i (fun _ => h m ⟨he, fun x hx => ha x (by have := hx.1.1; omega) hx⟩) (fun _ => by omega)
    | succ d ih =>
      intro i m hi he ha
      have i24 : i < 24 := by omega
      have hm : m ≤ 5 := by
        obtain ⟨x, hx, e⟩ := he
        have := th_D5 H hx.1
        omega
      refine pk_le 24 i (fun _ => by omega) (fun _ => ⟨pk_in i 24 i24, ?_⟩)
      have skip : (th_B E P N t i → D i ≤ D t + m) → wY_height_11 post (nI t) (nI (D t)) E F P N C M YP YF YC YN (d + 1) (nI m) (nI (i + 1)) := by
        intro hn
        refine ih (i + 1) m (by omega) he (fun x hx hxS => ?_)
        by_cases z : x = i
        · subst z; exact hn hxS
        · exact ha x (by omega) hxS
      by_cases hE : E i = 0
      · exact th_bt i24 hE (nm_r (nI_1 i) (skip (fun z => absurd hE z.1.2)))
      · have hiS : th_S E i := ⟨i24, hE⟩
        refine th_bf i24 hE (th_ypb H hS.1 hiS ?_)
        cases g : th_pl P N t i with
        | none => exact br_t th_m1lt (nm_r (nI_1 i) (skip (fun z => absurd g z.2)))
        | some y =>
          have hy := (th_pl_D H i hiS y g)
          have hB := th_qB hiS g
          have h5 := th_D5 H hiS
          refine br_f (nI_pos (by omega)) (th_ydp H hiS ?_)
          refine pk_le (D i - D t) m (fun z => nm_r (nI_1 i) (skip (fun _ => by omega))) (fun z => th_ydp H hiS (nm_r (pk_sub (by omega)) (nm_r (nI_1 i) ?_))) (pk_sub (by omega))
          refine ih (i + 1) (D i - D t) (by omega) ⟨i, hB, by omega⟩ (fun x hx hxS => ?_)
          by_cases e : x = i
          · subst e; omega
          · have := ha x (by omega) hxS; omega
  exact Exists.intro 25 (key 24 0 0 rfl ⟨t, th_qB hS th_pl_t, by omega⟩ (fun x hx => by omega))
end
theorem i_vc_remove {k : Nat} {u : SX} {v : SY} (I : i_Rel k u v) (hk : k + 4 ≤ 2048) (v1 : Int32) : wpX_remove (fun r u' => wpY_remove (fun r' v' => r' = r ∧ i_Rel (k + 4) u' v') v v1) u v1 := by
  obtain ⟨E, F, P, N, C, RC, RP, RF, RO, M, YP, YF, YC, YN, D, rfl, rfl, T, Sn⟩ := I
  unfold wpX_remove wpY_remove
  by_cases g : th_G E v1
  · obtain ⟨e, he, rfl, hE⟩ := g
    have g : th_G E (nI e) := ⟨e, he, rfl, hE⟩
    by_cases z : e = 0
    · subst z
      exact th_xg1 g (br_f th_10 (br_t rfl (th_yg1 g (br_t rfl (br_t rfl ⟨rfl, th_rel T Sn⟩)))))
    · have hn : ¬ nI e = 0 := nI_ne0 (by omega) (by omega)
      refine th_xg1 g (br_f th_10 (br_f hn (Exists.intro 24 ?_)))
      have h0 : ¬ th_B E P N e 0 := fun b => b.2 (th_pl_0 z)
      have c1 : cn_c (th_B E P N e) 1 = 0 := cn_s0 h0
      have := th_xrm (E := E) (P := P) (N := N) (F := F) (C := C) (RC := RC) (RP := RP) (RF := RF) (RO := RO) (post := (fun r u' => wpY_remove (fun r' v' => r' = r ∧ i_Rel (k + 4) u' v') (E, F, P, N, C, M, YP, YF, YC, YN) (nI e))) T.1 he (fun E' hK => ?_) 23 1 E rfl (fun x => ⟨fun w => ?_, fun _ => rfl⟩)
      · rw [c1] at this; exact this
      · unfold wpY_remove
        refine th_yg1 g (br_t rfl (br_f hn (Exists.intro 25 ?_)))
        refine th_yrm T.1 he (fun E'' M' hK' => ?_) 24 0 M rfl (fun x hx => by omega)
        rw [th_Ku hK' hK]
        exact ⟨rfl, th_rel (th_KT T z hK) Sn⟩
      · have : x = 0 := by omega
        subst this
        exact absurd w.2 h0
  · exact th_xg0 g (br_t rfl (th_yg0 g (br_f th_10 ⟨rfl, th_rel T Sn⟩)))
