/-! the relation -/
def th_Sn (RC RP RF RO YP YF YC YN : Nat → Int32) (s : Nat) : Prop := ∃ n R, n ≤ 23 ∧ RC s = nI n ∧ YN s = nI n ∧ sn_W R ∧ sn_L RP RF RO (s * 23) n R ∧ sn_So RP (s * 23) n ∧ sn_L YP YF YC (24 * s) n R
/-- the two trees are the same arrays, the invariant holds; each snapshot holds the same rows on both sides, X's by rising path -/
def i_Rel (_ : Nat) (u : SX) (v : SY) : Prop := ∃ E F P N C RC RP RF RO M YP YF YC YN D, u = (E, F, P, N, C, RC, RP, RF, RO) ∧ v = (E, F, P, N, C, M, YP, YF, YC, YN) ∧ th_T E F P N C D ∧ ∀ s, s < 3 → th_Sn RC RP RF RO YP YF YC YN s
theorem i_up {k : Nat} {u : SX} {v : SY} (h : i_Rel k u v) : i_Rel (k + 4) u v := h
theorem th_rel {k : Nat} {E F P N C RC RP RF RO M YP YF YC YN : Nat → Int32} {D : Nat → Nat} (T : th_T E F P N C D) (Sn : ∀ s, s < 3 → th_Sn RC RP RF RO YP YF YC YN s) : i_Rel k (E, F, P, N, C, RC, RP, RF, RO) (E, F, P, N, C, M, YP, YF, YC, YN) :=
  ⟨E, F, P, N, C, RC, RP, RF, RO, M, YP, YF, YC, YN, D, rfl, rfl, T, Sn⟩
theorem i_vc0 : wpX_init (fun u => wpY_init (fun v => i_Rel 0 u v)) := by
  refine nm_r (e' := upd (fun _ => 0) 0 1) (by rw [th_n1]) (nm_r (e' := upd (fun _ => 0) 0 1) (by rw [th_n1]) (th_rel (D := fun _ => 0) ?_ ?_))
  · have hS : ∀ e, th_S (upd (fun _ => 0) 0 1) e → e = 0 := by
      intro e he
      by_cases z : e = 0
      · exact z
      · exact absurd (pk_un z) he.2
    refine ⟨⟨rfl, fun e he => ⟨he.1, fun z => absurd (hS e he) z⟩⟩, ?_, rfl, fun _ => Or.inl rfl, fun _ _ _ => rfl, fun e _ he z => absurd (hS e he) z, fun e _ he _ z => absurd (hS e he) z⟩
    rw [pk_us]; decide
  · intro s _
    refine ⟨0, fun _ _ _ => False, by omega, rfl, rfl, ⟨fun _ _ _ h => h.elim, fun _ _ _ _ _ h => h.elim⟩, ⟨fun i h => by omega, fun _ _ _ h => h.elim, fun i j h => by omega⟩, fun i j _ h => by omega, ⟨fun i h => by omega, fun _ _ _ h => h.elim, fun i j h => by omega⟩⟩
theorem th_bt {f : Nat → Int32} {j : Nat} {a : Int32} {A B : Prop} (hj : j < 24) (z : f j = a) (h : A) : (f (nI j).toNatClampNeg = a → A) ∧ (¬ f (nI j).toNatClampNeg = a → B) := by
  rw [th_cl hj]; exact br_t z h
theorem th_bf {f : Nat → Int32} {j : Nat} {a : Int32} {A B : Prop} (hj : j < 24) (z : ¬ f j = a) (h : B) : (f (nI j).toNatClampNeg = a → A) ∧ (¬ f (nI j).toNatClampNeg = a → B) := by
  rw [th_cl hj]; exact br_f z h
theorem th_up {f : Nat → Int32} {j : Nat} {a b : Int32} {K : (Nat → Int32) → Prop} (hj : j < 24) (hb : a = b) (h : K (upd f j b)) : vp_in (nI j) 24 ∧ ∀ y, y = upd f (nI j).toNatClampNeg a → K y :=
  ⟨pk_in j 24 hj, nm_r (by rw [th_cl hj, hb]) h⟩
section
variable {S : Nat → Prop} {D : Nat → Nat} {E F P N C RC RP RF RO M YP YF YC YN : Nat → Int32}
theorem th_chl {p q : Nat} : ∀ d j, j + d = 24 → 1 ≤ j → ∃ r, (∀ post : Int32 → Prop, post r → wX_childNamed_2 post (nI p) (nI q) E F P N C RC RP RF RO (d + 1) (nI j)) ∧ (∀ post : Int32 → Prop, post r → wY_child_2 post (nI p) (nI q) E F P N C M YP YF YC YN (d + 1) (nI j)) ∧
    ((r = -1 ∧ ∀ x, th_S E x → j ≤ x → P x = nI p → N x = nI q → False) ∨ (∃ x, th_S E x ∧ ¬ x = 0 ∧ r = nI x ∧ P x = nI p ∧ N x = nI q)) := by
  intro d
  induction d with
  | zero =>
    intro j hj h1
    exact ⟨-1, fun post hp => pk_le 24 j (fun _ => hp) (fun _ => by omega), fun post hp => pk_le 24 j (fun _ => hp) (fun _ => by omega), Or.inl ⟨rfl, fun x hx h => by have := hx.1; omega⟩⟩
  | succ d ih =>
    intro j hj h1
    obtain ⟨r, hX, hY, hs⟩ := ih (j + 1) (by omega) (by omega)
    have j24 : j < 24 := by omega
    have nx : (∀ x, th_S E x → x = j → P x = nI p → N x = nI q → False) → ((r = -1 ∧ ∀ x, th_S E x → j ≤ x → P x = nI p → N x = nI q → False) ∨ (∃ x, th_S E x ∧ ¬ x = 0 ∧ r = nI x ∧ P x = nI p ∧ N x = nI q)) := by
      intro hn
      cases hs with
      | inl hs =>
        refine Or.inl ⟨hs.1, fun x hx h a b => ?_⟩
        by_cases z : x = j
        · exact hn x hx z a b
        · exact hs.2 x hx (by omega) a b
      | inr hs => exact Or.inr hs
    by_cases hE : E j = 0
    · refine ⟨r, fun post hp => pk_le 24 j (fun _ => by omega) (fun _ => ⟨pk_in j 24 j24, th_bt j24 hE (nm_r (nI_1 j) (hX post hp))⟩), fun post hp => pk_le 24 j (fun _ => by omega) (fun _ => ⟨pk_in j 24 j24, th_bt j24 hE (nm_r (nI_1 j) (hY post hp))⟩), nx ?_⟩
      intro x hx z; subst z; exact absurd hE hx.2
    · by_cases hP : P j = nI p
      · by_cases hN : N j = nI q
        · exact ⟨nI j, fun post hp => pk_le 24 j (fun _ => by omega) (fun _ => ⟨pk_in j 24 j24, th_bf j24 hE ⟨pk_in j 24 j24, th_bt j24 hP ⟨pk_in j 24 j24, th_bt j24 hN hp⟩⟩⟩),
            fun post hp => pk_le 24 j (fun _ => by omega) (fun _ => ⟨pk_in j 24 j24, th_bf j24 hE ⟨pk_in j 24 j24, th_bt j24 hP ⟨pk_in j 24 j24, th_bt j24 hN hp⟩⟩⟩), Or.inr ⟨j, ⟨j24, hE⟩, by omega, rfl, hP, hN⟩⟩
        · refine ⟨r, fun post hp => pk_le 24 j (fun _ => by omega) (fun _ => ⟨pk_in j 24 j24, th_bf j24 hE ⟨pk_in j 24 j24, th_bt j24 hP ⟨pk_in j 24 j24, th_bf j24 hN (nm_r (nI_1 j) (hX post hp))⟩⟩⟩),
            fun post hp => pk_le 24 j (fun _ => by omega) (fun _ => ⟨pk_in j 24 j24, th_bf j24 hE ⟨pk_in j 24 j24, th_bt j24 hP ⟨pk_in j 24 j24, th_bf j24 hN (nm_r (nI_1 j) (hY post hp))⟩⟩⟩), nx ?_⟩
          intro x hx z _ b; subst z; exact hN b
      · refine ⟨r, fun post hp => pk_le 24 j (fun _ => by omega) (fun _ => ⟨pk_in j 24 j24, th_bf j24 hE ⟨pk_in j 24 j24, th_bf j24 hP (nm_r (nI_1 j) (hX post hp))⟩⟩),
            fun post hp => pk_le 24 j (fun _ => by omega) (fun _ => ⟨pk_in j 24 j24, th_bf j24 hE ⟨pk_in j 24 j24, th_bf j24 hP (nm_r (nI_1 j) (hY post hp))⟩⟩), nx ?_⟩
        intro x hx z a; subst z; exact absurd a hP
theorem th_chd (p q : Nat) : ∃ r, (∀ post : Int32 → Prop, post r → wpX_childNamed post (E, F, P, N, C, RC, RP, RF, RO) (nI p) (nI q)) ∧ (∀ post : Int32 → Prop, post r → wpY_child post (E, F, P, N, C, M, YP, YF, YC, YN) (nI p) (nI q)) ∧
    ((r = -1 ∧ ∀ x, th_S E x → ¬ x = 0 → P x = nI p → N x = nI q → False) ∨ (∃ x, th_S E x ∧ ¬ x = 0 ∧ r = nI x ∧ P x = nI p ∧ N x = nI q)) := by
  obtain ⟨r, hX, hY, hs⟩ := th_chl (E := E) (F := F) (P := P) (N := N) (C := C) (RC := RC) (RP := RP) (RF := RF) (RO := RO) (M := M) (YP := YP) (YF := YF) (YC := YC) (YN := YN) (p := p) (q := q) 23 1 rfl (by omega)
  refine ⟨r, fun post hp => Exists.intro 24 (hX post hp), fun post hp => Exists.intro 24 (hY post hp), ?_⟩
  cases hs with
  | inl hs => exact Or.inl ⟨hs.1, fun x hx z => hs.2 x hx (by omega)⟩
  | inr hs => exact Or.inr hs
theorem th_lfl : ∀ d j, j + d = 24 → 1 ≤ j → ∃ r, (∀ post : Int32 → Prop, post r → wX_leastFree_2 post E F P N C RC RP RF RO (d + 1) (nI j)) ∧ (∀ post : Int32 → Prop, post r → wY_leastFree_2 post E F P N C M YP YF YC YN (d + 1) (nI j)) ∧
    ((r = -1 ∧ ∀ x, j ≤ x → x < 24 → ¬ E x = 0) ∨ (∃ x, j ≤ x ∧ x < 24 ∧ r = nI x ∧ E x = 0 ∧ ∀ y, j ≤ y → y < x → ¬ E y = 0)) := by
  intro d
  induction d with
  | zero =>
    intro j hj h1
    exact ⟨-1, fun post hp => pk_le 24 j (fun _ => hp) (fun _ => by omega), fun post hp => pk_le 24 j (fun _ => hp) (fun _ => by omega), Or.inl ⟨rfl, fun x hx h => by omega⟩⟩
  | succ d ih =>
    intro j hj h1
    have j24 : j < 24 := by omega
    by_cases hE : E j = 0
    · exact ⟨nI j, fun post hp => pk_le 24 j (fun _ => by omega) (fun _ => ⟨pk_in j 24 j24, th_bt j24 hE hp⟩), fun post hp => pk_le 24 j (fun _ => by omega) (fun _ => ⟨pk_in j 24 j24, th_bt j24 hE hp⟩), Or.inr ⟨j, by omega, j24, rfl, hE, fun y a b => by omega⟩⟩
    · obtain ⟨r, hX, hY, hs⟩ := ih (j + 1) (by omega) (by omega)
      refine ⟨r, fun post hp => pk_le 24 j (fun _ => by omega) (fun _ => ⟨pk_in j 24 j24, th_bf j24 hE (nm_r (nI_1 j) (hX post hp))⟩), fun post hp => pk_le 24 j (fun _ => by omega) (fun _ => ⟨pk_in j 24 j24, th_bf j24 hE (nm_r (nI_1 j) (hY post hp))⟩), ?_⟩
      cases hs with
      | inl hs =>
        refine Or.inl ⟨hs.1, fun x a b => ?_⟩
        by_cases z : x = j
        · rw [z]; exact hE
        · exact hs.2 x (by omega) b
      | inr hs =>
        obtain ⟨x, a, b, c, d', e⟩ := hs
        refine Or.inr ⟨x, by omega, b, c, d', fun y a b => ?_⟩
        by_cases z : y = j
        · rw [z]; exact hE
        · exact e y (by omega) b
theorem th_lfr : ∃ r, (∀ post : Int32 → Prop, post r → wpX_leastFree post (E, F, P, N, C, RC, RP, RF, RO)) ∧ (∀ post : Int32 → Prop, post r → wpY_leastFree post (E, F, P, N, C, M, YP, YF, YC, YN)) ∧
    ((r = -1 ∧ ∀ x, 1 ≤ x → x < 24 → ¬ E x = 0) ∨ (∃ x, 1 ≤ x ∧ x < 24 ∧ r = nI x ∧ E x = 0 ∧ ∀ y, 1 ≤ y → y < x → ¬ E y = 0)) := by
  obtain ⟨r, hX, hY, hs⟩ := th_lfl (E := E) (F := F) (P := P) (N := N) (C := C) (RC := RC) (RP := RP) (RF := RF) (RO := RO) (M := M) (YP := YP) (YF := YF) (YC := YC) (YN := YN) 23 1 rfl (by omega)
  exact ⟨r, fun post hp => Exists.intro 24 (hX post hp), fun post hp => Exists.intro 24 (hY post hp), hs⟩
theorem th_xpl {e : Nat} {p q f c : Int32} (he : e < 24) (hf : f = 0 ∨ f = 1) {post : SX → Prop} (h : post (upd E e 1, upd F e f, upd P e p, upd N e q, upd C e c, RC, RP, RF, RO)) : wpX_place post (E, F, P, N, C, RC, RP, RF, RO) (nI e) p q f c :=
  th_up he th_n1 (th_up he (th_nb hf) (th_up he rfl (th_up he rfl (th_up he rfl h))))
theorem th_ymk (H : th_Ch (th_S E) P N D) {e p q : Nat} {f c : Int32} (he : e < 24) (hp : th_S E p) (hF : F p = 0) (hq : q < 8) (hc : ∀ post : Int32 → Prop, post (-1) → wpY_child post (E, F, P, N, C, M, YP, YF, YC, YN) (nI p) (nI q)) (hD : D p < 5)
    (hl : ∀ post : Int32 → Prop, post (nI e) → wpY_leastFree post (E, F, P, N, C, M, YP, YF, YC, YN)) (hf : f = 0 ∨ f = 1) {post : Int32 → SY → Prop} (h : post (nI e) (upd E e 1, upd F e f, upd P e (nI p), upd N e (nI q), upd C e c, M, YP, YF, YC, YN)) :
    wpY_make post (E, F, P, N, C, M, YP, YF, YC, YN) (nI p) (nI q) f c := by
  unfold wpY_make
  refine th_yg1 ⟨p, hp.1, rfl, hp.2⟩ (br_t rfl ⟨pk_in p 24 hp.1, th_bt hp.1 hF (br_f (nI_pos (by omega)) (pk_le q 7 (fun _ => hc _ (br_t th_m1lt ?_)) (fun _ => by omega)))⟩)
  refine th_ydp H hp (pk_eq (D p) 5 (fun _ => by omega) (fun _ => hl _ (br_t (nI_pos' (by omega)) ?_)))
  exact th_up he th_n1 (th_up he (th_nb hf) (th_up he rfl (th_up he rfl (th_up he rfl h))))
/-- make, on both sides -/
theorem th_make (T : th_T E F P N C D) (v1 v2 : Int32) {f c : Int32} (hf : f = 0 ∨ f = 1) (hfc : f = 0 → c = 0) : ∃ r E' F' P' N' C' D', (∀ post : Int32 → SX → Prop, post r (E', F', P', N', C', RC, RP, RF, RO) → wpX_make post (E, F, P, N, C, RC, RP, RF, RO) v1 v2 f c) ∧
    (∀ post : Int32 → SY → Prop, post r (E', F', P', N', C', M, YP, YF, YC, YN) → wpY_make post (E, F, P, N, C, M, YP, YF, YC, YN) v1 v2 f c) ∧ th_T E' F' P' N' C' D' := by
  have H := T.1
  by_cases g : th_G E v1
  · obtain ⟨p, hp, rfl, hE⟩ := g
    have hpS : th_S E p := ⟨hp, hE⟩
    have g : th_G E (nI p) := ⟨p, hp, rfl, hE⟩
    by_cases hF : F p = 0
    · by_cases gn : th_Q 8 v2
      · obtain ⟨q, hq, rfl⟩ := gn
        have gn : th_Q 8 (nI q) := ⟨q, hq, rfl⟩
        obtain ⟨r, hX, hY, hs⟩ := th_chd (E := E) (F := F) (P := P) (N := N) (C := C) (RC := RC) (RP := RP) (RF := RF) (RO := RO) (M := M) (YP := YP) (YF := YF) (YC := YC) (YN := YN) p q
        obtain ⟨hr, hn⟩ | ⟨x, hx, x0, hr, _, _⟩ := hs
        · subst hr
          by_cases hD : D p < 5
          · obtain ⟨r, lX, lY, ls⟩ := th_lfr (E := E) (F := F) (P := P) (N := N) (C := C) (RC := RC) (RP := RP) (RF := RF) (RO := RO) (M := M) (YP := YP) (YF := YF) (YC := YC) (YN := YN)
            obtain ⟨hr, hn2⟩ | ⟨e, e1, e24, hr, he, _⟩ := ls
            · subst hr
              refine ⟨-6, E, F, P, N, C, D, fun post h => ?_, fun post h => ?_, T⟩
              · unfold wpX_make
                refine th_xg1 g (br_f th_10 ⟨pk_in p 24 hp, th_bt hp hF (th_xn1 gn (br_f th_10 (hX _ (br_t rfl ?_))))⟩)
                exact th_xdp H hpS (pk_lt (D p) 5 (fun _ => lX _ (br_t rfl h)) (fun _ => by omega))
              · unfold wpY_make
                refine th_yg1 g (br_t rfl ⟨pk_in p 24 hp, th_bt hp hF (br_f (nI_pos (by omega)) (pk_le q 7 (fun _ => hY _ (br_t th_m1lt ?_)) (fun _ => by omega)))⟩)
                exact th_ydp H hpS (pk_eq (D p) 5 (fun _ => by omega) (fun _ => lY _ (br_f (by decide) h)))
            · subst hr
              refine ⟨nI e, _, _, _, _, _, _, fun post h => ?_, fun post h => ?_, th_T_new T (by omega) e24 he hpS hF hq hD hf hfc hn⟩
              · unfold wpX_make
                refine th_xg1 g (br_f th_10 ⟨pk_in p 24 hp, th_bt hp hF (th_xn1 gn (br_f th_10 (hX _ (br_t rfl ?_))))⟩)
                exact th_xdp H hpS (pk_lt (D p) 5 (fun _ => lX _ (br_f (th_m1 (by omega)) (th_xpl e24 hf h))) (fun _ => by omega))
              · exact th_ymk H e24 hpS hF hq hY hD lY hf h
          · have hD5 := th_D5 H hpS
            refine ⟨-5, E, F, P, N, C, D, fun post h => ?_, fun post h => ?_, T⟩
            · unfold wpX_make
              refine th_xg1 g (br_f th_10 ⟨pk_in p 24 hp, th_bt hp hF (th_xn1 gn (br_f th_10 (hX _ (br_t rfl ?_))))⟩)
              exact th_xdp H hpS (pk_lt (D p) 5 (fun _ => by omega) (fun _ => h))
            · unfold wpY_make
              refine th_yg1 g (br_t rfl ⟨pk_in p 24 hp, th_bt hp hF (br_f (nI_pos (by omega)) (pk_le q 7 (fun _ => hY _ (br_t th_m1lt ?_)) (fun _ => by omega)))⟩)
              exact th_ydp H hpS (pk_eq (D p) 5 (fun _ => h) (fun _ => by omega))
        · subst hr
          have hx24 := hx.1
          refine ⟨-4, E, F, P, N, C, D, fun post h => ?_, fun post h => ?_, T⟩
          · unfold wpX_make
            exact th_xg1 g (br_f th_10 ⟨pk_in p 24 hp, th_bt hp hF (th_xn1 gn (br_f th_10 (hX _ (br_f (th_m1 (by omega)) h))))⟩)
          · unfold wpY_make
            exact th_yg1 g (br_t rfl ⟨pk_in p 24 hp, th_bt hp hF (br_f (nI_pos (by omega)) (pk_le q 7 (fun _ => hY _ (br_f (nI_pos (by omega)) h)) (fun _ => by omega)))⟩)
      · refine ⟨-3, E, F, P, N, C, D, fun post h => ?_, fun post h => ?_, T⟩
        · unfold wpX_make
          exact th_xg1 g (br_f th_10 ⟨pk_in p 24 hp, th_bt hp hF (th_xn0 gn (br_t rfl h))⟩)
        · unfold wpY_make
          refine th_yg1 g (br_t rfl ⟨pk_in p 24 hp, th_bt hp hF (br_c (fun _ => h) (fun h0 => ?_))⟩)
          obtain ⟨j, hj, rfl⟩ := nI_of h0
          exact pk_le j 7 (fun z => absurd ⟨j, by omega, rfl⟩ gn) (fun _ => h)
    · refine ⟨-2, E, F, P, N, C, D, fun post h => ?_, fun post h => ?_, T⟩
      · unfold wpX_make
        exact th_xg1 g (br_f th_10 ⟨pk_in p 24 hp, th_bf hp hF h⟩)
      · unfold wpY_make
        exact th_yg1 g (br_t rfl ⟨pk_in p 24 hp, th_bf hp hF h⟩)
  · refine ⟨-1, E, F, P, N, C, D, fun post h => ?_, fun post h => ?_, T⟩
    · unfold wpX_make
      exact th_xg0 g (br_t rfl h)
    · unfold wpY_make
      exact th_yg0 g (br_f th_10 h)
end
theorem i_vc_directory {k : Nat} {u : SX} {v : SY} (I : i_Rel k u v) (hk : k + 4 ≤ 2048) (v1 : Int32) (v2 : Int32) : wpX_directory (fun r u' => wpY_directory (fun r' v' => r' = r ∧ i_Rel (k + 4) u' v') v v1 v2) u v1 v2 := by
  obtain ⟨E, F, P, N, C, RC, RP, RF, RO, M, YP, YF, YC, YN, D, rfl, rfl, T, Sn⟩ := I
  obtain ⟨r, E', F', P', N', C', D', hX, hY, T'⟩ := th_make (RC := RC) (RP := RP) (RF := RF) (RO := RO) (M := M) (YP := YP) (YF := YF) (YC := YC) (YN := YN) T v1 v2 (f := 0) (c := 0) (Or.inl rfl) (fun _ => rfl)
  unfold wpX_directory wpY_directory
  exact hX _ (hY _ ⟨rfl, th_rel T' Sn⟩)
theorem i_vc_file {k : Nat} {u : SX} {v : SY} (I : i_Rel k u v) (hk : k + 4 ≤ 2048) (v1 : Int32) (v2 : Int32) (v3 : Int32) : wpX_file (fun r u' => wpY_file (fun r' v' => r' = r ∧ i_Rel (k + 4) u' v') v v1 v2 v3) u v1 v2 v3 := by
  obtain ⟨E, F, P, N, C, RC, RP, RF, RO, M, YP, YF, YC, YN, D, rfl, rfl, T, Sn⟩ := I
  obtain ⟨r, E', F', P', N', C', D', hX, hY, T'⟩ := th_make (RC := RC) (RP := RP) (RF := RF) (RO := RO) (M := M) (YP := YP) (YF := YF) (YC := YC) (YN := YN) T v1 v2 (f := 1) (c := v3) (Or.inr rfl) (fun z => absurd z th_10)
  unfold wpX_file wpY_file
  exact hX _ (hY _ ⟨rfl, th_rel T' Sn⟩)
