/-! differing, difference, changed -/
theorem th_snX {RC RP RF RO YP YF YC YN : Nat → Int32} {s : Nat} (hs : s < 3) (h : th_Sn RC RP RF RO YP YF YC YN s) : ∃ n R, xs_K RC RP RF RO s n R ∧ ys_K YP YF YC YN s n R := by
  obtain ⟨n, R, a, b, c, d, e, f, g⟩ := h
  exact ⟨n, R, ⟨hs, a, b, d, e, f⟩, ⟨by omega, a, c, d, g⟩⟩
theorem i_vc_differing {k : Nat} {u : SX} {v : SY} (I : i_Rel k u v) (hk : k + 4 ≤ 2048) (v1 : Int32) (v2 : Int32) : wpX_differing (fun r => wpY_differing (fun r' => r' = r ∧ i_Rel (k + 4) u v) v v1 v2) u v1 v2 := by
  have I' : i_Rel (k + 4) u v := I
  obtain ⟨E, F, P, N, C, RC, RP, RF, RO, M, YP, YF, YC, YN, D, rfl, rfl, T, Sn⟩ := I
  unfold wpX_differing wpY_differing
  by_cases g : th_Q 3 v1
  · by_cases g2 : th_Q 3 v2
    · obtain ⟨a, ha, rfl⟩ := g
      obtain ⟨b, hb, rfl⟩ := g2
      have g : th_Q 3 (nI a) := ⟨a, ha, rfl⟩
      have g2 : th_Q 3 (nI b) := ⟨b, hb, rfl⟩
      obtain ⟨n, R, X1, Y1⟩ := th_snX ha (Sn a ha)
      obtain ⟨n', R', X2, Y2⟩ := th_snX hb (Sn b hb)
      refine th_xs1 g (br_f th_10 (th_xs1 g2 (br_f th_10 (th_xds X1 X2 ?_))))
      exact th_ys1 g (br_t rfl (th_ys1 g2 (br_t rfl (th_yds Y1 Y2 ⟨rfl, I'⟩))))
    · refine th_xs1 g (br_f th_10 (th_xs0 g2 (br_t rfl ?_)))
      exact th_ys1 g (br_t rfl (th_ys0 g2 (br_f th_10 ⟨rfl, I'⟩)))
  · exact th_xs0 g (br_t rfl (th_ys0 g (br_f th_10 ⟨rfl, I'⟩)))
section
variable {D : Nat → Nat} {E F P N C RC RP RF RO M YP YF YC YN : Nat → Int32} {R R' : Nat → Int32 → Int32 → Prop}
theorem th_dfl {s n s' n' i : Nat} (K : xs_K RC RP RF RO s n R) (K' : xs_K RC RP RF RO s' n' R') (Y : ys_K YP YF YC YN s n R) (Y' : ys_K YP YF YC YN s' n' R') (hi : i < 46) : ∀ d k l o, k + d = i → l < 59049 → nx_O (sn_D R R') l o →
    ∃ r, (∀ post : Int32 → Prop, post r → wX_difference_43 post (nI s) (nI s') (nI i) E F P N C RC RP RF RO (d + 1) (th_v o) (nI k)) ∧ (∀ post : Int32 → Prop, post r → wY_difference_24 post (nI s) (nI s') (nI i) E F P N C M YP YF YC YN (d + 1) (nI l) (nI k)) := by
  have hb : ∀ q, sn_D R R' q → q < 59049 := fun q hq => (sn_Db K.2.2.2.1 K'.2.2.2.1 hq).2
  intro d
  induction d with
  | zero =>
    intro k l o hk hl ho
    cases o with
    | none =>
      refine ⟨-2, fun post h => pk_le i k (fun _ => br_t rfl h) (fun _ => by omega), fun post h => pk_le 48 k (fun _ => by omega) (fun _ => th_ynd Y Y' hl (fun o' ho' => ?_))⟩
      rw [nx_u ho' ho]
      exact br_t rfl h
    | some q =>
      have hq := hb q ho.2.1
      have hq0 := ho.1
      refine ⟨nI q, fun post h => pk_le i k (fun _ => br_f (th_m1 (by omega)) h) (fun _ => by omega), fun post h => pk_le 48 k (fun _ => by omega) (fun _ => th_ynd Y Y' hl (fun o' ho' => ?_))⟩
      rw [nx_u ho' ho]
      exact br_f (nI_ne0 (by omega) (by omega)) (pk_eq k i (fun _ => h) (fun _ => by omega))
  | succ d ih =>
    intro k l o hk hl ho
    cases o with
    | none =>
      refine ⟨-2, fun post h => pk_le i k (fun _ => by omega) (fun _ => br_t rfl (br_t rfl h)), fun post h => pk_le 48 k (fun _ => by omega) (fun _ => th_ynd Y Y' hl (fun o' ho' => ?_))⟩
      rw [nx_u ho' ho]
      exact br_t rfl h
    | some q =>
      have hq := hb q ho.2.1
      have hq0 := ho.1
      obtain ⟨o2, ho2⟩ := nx_ex (sn_D R R') q
      obtain ⟨r, hX, hY⟩ := ih (k + 1) q o2 (by omega) hq ho2
      refine ⟨r, fun post h => pk_le i k (fun _ => by omega) (fun _ => br_f (th_m1 (by omega)) (th_xnd K K' hq (fun o3 ho3 => ?_))), fun post h => pk_le 48 k (fun _ => by omega) (fun _ => th_ynd Y Y' hl (fun o' ho' => ?_))⟩
      · rw [nx_u ho3 ho2]
        exact nm_r (nI_1 k) (hX post h)
      · rw [nx_u ho' ho]
        exact br_f (nI_ne0 (by omega) (by omega)) (pk_eq k i (fun _ => by omega) (fun _ => nm_r (nI_1 k) (hY post h)))
theorem th_ydn {s n s' n' : Nat} (Y : ys_K YP YF YC YN s n R) (Y' : ys_K YP YF YC YN s' n' R') {v : Int32} (hv : ∀ j, j < 46 → ¬ nI j = v) {post : Int32 → Prop} (h : post (-2)) : ∀ d k l, k + d = 48 → l < 59049 → k + nx_c (sn_D R R') l ≤ 46 →
    wY_difference_24 post (nI s) (nI s') v E F P N C M YP YF YC YN (d + 1) (nI l) (nI k) := by
  have hb : ∀ q, sn_D R R' q → q < 59049 := fun q hq => (sn_Db Y.2.2.2.1 Y'.2.2.2.1 hq).2
  intro d
  induction d with
  | zero => intro k l hk hl hc; omega
  | succ d ih =>
    intro k l hk hl hc
    refine pk_le 48 k (fun _ => by omega) (fun _ => th_ynd Y Y' hl (fun o ho => ?_))
    cases o with
    | none => exact br_t rfl h
    | some q =>
      have hq := hb q ho.2.1
      have hq0 := ho.1
      have e := nx_c1 hb ho
      exact br_f (nI_ne0 (by omega) (by omega)) (br_f (hv k (by omega)) (nm_r (nI_1 k) (ih (k + 1) q (by omega) hq (by omega))))
/-- does a row stand in the tree -/
theorem th_xst (T : th_T E F P N C D) {c q : Nat} (hc : c < 69) (hq : RP c = nI q) (q0 : 0 < q) (hq59 : q < 59049) {post : Int32 → Prop} (h1 : th_R E F P N C q (RF c) (RO c) → post 1) (h0 : ¬ th_R E F P N C q (RF c) (RO c) → post 0) : wpX_standsInTree post (E, F, P, N, C, RC, RP, RF, RO) (nI c) := by
  have H := T.1
  unfold wpX_standsInTree
  refine ⟨pk_in c 69 hc, ?_⟩
  rw [nI_clamp (show c < 2 ^ 31 by omega), hq]
  refine th_xe (t := 0) H (by omega) (by omega) (fun r hr => ?_)
  obtain ⟨e1, ha⟩ | ⟨x, hx, e1, g⟩ := hr
  · refine br_t e1 (h0 (fun w => ?_))
    obtain ⟨e, he, _, g, _⟩ := w
    exact ha e he g
  · subst e1
    have x24 := hx.1
    have un : th_R E F P N C q (RF c) (RO c) → F x = RF c ∧ C x = RO c := by
      intro ⟨e, he, _, g', a, b⟩
      have := th_pl_inj H T.2.2.2.2.2.2 x hx e q he g g'
      subst this
      exact ⟨a, b⟩
    refine br_f (th_m1 (by omega)) ⟨pk_in x 24 x24, pk_in c 69 hc, ?_⟩
    by_cases hF : F x = RF c
    · refine th_bt x24 hF ⟨pk_in x 24 x24, pk_in c 69 hc, ?_⟩
      by_cases hC : C x = RO c
      · refine th_bt x24 hC (h1 ⟨x, hx, fun z => ?_, g, hF, hC⟩)
        subst z
        rw [th_pl_t] at g
        have := Option.some.inj g
        omega
      · exact th_bf x24 hC (h0 (fun w => hC (un w).2))
    · exact th_bf x24 hF (h0 (fun w => hF (un w).1))
theorem th_xhp (T : th_T E F P N C D) {s n e q : Nat} (K : xs_K RC RP RF RO s n R) (he : th_S E e) (g : th_pl P N 0 e = some q) {post : Int32 → Prop} (h1 : (∃ f c, R q f c) → post 1) (h0 : ¬ (∃ f c, R q f c) → post 0) : wpX_hasPathOf post (E, F, P, N, C, RC, RP, RF, RO) (nI s) (nI e) := by
  have q59 := (th_pl_D T.1 e he q g).1
  have K' := K
  obtain ⟨hs, hn, hc, W, L, So⟩ := K'
  unfold wpX_hasPathOf
  refine th_xpb (t := 0) T.1 (by omega) he ?_
  rw [g]
  refine th_xco K (fun r hr => ?_)
  obtain ⟨e1, ha⟩ | ⟨i, hi, e1, e2⟩ := hr
  · refine br_t e1 (h0 (fun ⟨f, c, w⟩ => ?_))
    obtain ⟨i, hi, a, _⟩ := L.2.1 _ _ _ w
    exact ha i hi a
  · subst e1
    obtain ⟨q', a, b, _, hq'⟩ := sn_row W L hi
    have := sn_inj hq' q59 (a.symm.trans e2)
    subst this
    exact br_f (th_m1 (by omega)) (h1 ⟨_, _, b⟩)
def cg_1 (E F P N C RP RF RO : Nat → Int32) (s : Nat) (i : Nat) : Prop := ∃ q, q < 59049 ∧ RP (s * 23 + i) = nI q ∧ ¬ th_R E F P N C q (RF (s * 23 + i)) (RO (s * 23 + i))
def cg_2 (E P N : Nat → Int32) (R : Nat → Int32 → Int32 → Prop) (e : Nat) : Prop := th_e E e ∧ ∃ q, th_pl P N 0 e = some q ∧ ¬ ∃ f c, R q f c
theorem cg_tot (T : th_T E F P N C D) {s n : Nat} (K : xs_K RC RP RF RO s n R) : cn_c (cg_1 E F P N C RP RF RO s) n + cn_c (cg_2 E P N R) 24 = nx_c (sn_D (th_R E F P N C) R) 0 := by
  obtain ⟨hs, hn, hc, W, L, So⟩ := K
  have H := T.1
  have WT := th_RW T
  have e1 : cn_c (cg_1 E F P N C RP RF RO s) n = cn_c (sn_U R (th_R E F P N C)) 59049 := by
    refine cn_bij (f := fun i => (RP (s * 23 + i)).toNatClampNeg) n _ ?_ ?_ ?_
    · intro i hi ⟨q, hq, e, nr⟩
      obtain ⟨q', a, b, _, hq'⟩ := sn_row W L hi
      have := sn_inj hq' hq (a.symm.trans e)
      subst this
      rw [e, nI_clamp (by omega)]
      exact ⟨hq, _, _, b, nr⟩
    · intro q hq ⟨f, c, r, nr⟩
      obtain ⟨i, hi, a, b, c'⟩ := L.2.1 _ _ _ r
      refine ⟨i, hi, ⟨q, hq, a, by rw [b, c']; exact nr⟩, ?_⟩
      rw [a, nI_clamp (by omega)]
    · intro i j hi hj ⟨q, hq, e, _⟩ ⟨q', hq', e', _⟩ w
      rw [e, e', nI_clamp (by omega), nI_clamp (by omega)] at w
      exact L.2.2 i j hi hj (by rw [e, e', w])
  have e2 : cn_c (cg_2 E P N R) 24 = cn_c (fun q => th_pt E P N q ∧ ¬ ∃ f c, R q f c) 59049 := by
    refine cn_bij (f := fun x => (th_pl P N 0 x).getD 0) 24 _ ?_ ?_ ?_
    · intro i hi ⟨he, q, g, nr⟩
      rw [g]
      exact ⟨(th_pl_D H i he.1 q g).1, ⟨i, he, g⟩, nr⟩
    · intro q hq ⟨⟨e, he, g⟩, nr⟩
      refine ⟨e, he.1.1, ⟨he, q, g, nr⟩, ?_⟩
      rw [g]; rfl
    · intro i j hi hj ⟨ai, q, g, _⟩ ⟨aj, q', g', _⟩ e
      rw [g, g'] at e
      have e' : q = q' := e
      subst e'
      exact th_pl_inj H T.2.2.2.2.2.2 i ai.1 j q aj.1 g g'
  rw [e1, e2, ← cn_or 59049 (fun q _ ⟨f, c, r, _⟩ ⟨_, nr⟩ => nr ⟨f, c, r⟩)]
  refine cn_ext 59049 (fun q _ => ?_)
  rw [sn_UD]
  constructor
  · intro u
    cases u with
    | inl u =>
      obtain ⟨f, c, r, nr⟩ := u
      exact ⟨(W.1 _ _ _ r).1, Or.inr ⟨f, c, r, nr⟩⟩
    | inr u =>
      obtain ⟨hp, nr⟩ := u
      refine ⟨(th_ptb H hp).1, Or.inl ?_⟩
      obtain ⟨e, he, g⟩ := hp
      exact ⟨F e, C e, ⟨e, he.1, he.2, g, rfl, rfl⟩, fun r => nr ⟨_, _, r⟩⟩
  · intro ⟨_, u⟩
    cases u with
    | inl u =>
      obtain ⟨f, c, r, nr⟩ := u
      by_cases z : ∃ f c, R q f c
      · obtain ⟨f', c', r'⟩ := z
        refine Or.inl ⟨f', c', r', fun w => ?_⟩
        obtain ⟨a, b⟩ := WT.2 _ _ _ _ _ r w
        subst a b
        exact nr r'
      · obtain ⟨e, he, z0, g, _⟩ := r
        exact Or.inr ⟨⟨e, ⟨he, z0⟩, g⟩, z⟩
    | inr u => exact Or.inl u
theorem th_xch (T : th_T E F P N C D) {s n : Nat} (K : xs_K RC RP RF RO s n R) {post : Int32 → Prop} (h : post (nI (nx_c (sn_D (th_R E F P N C) R) 0))) : ∃ n14 : Nat, wX_changed_14 post (nI s) E F P N C RC RP RF RO n14 0 0 := by
  have K' := K
  obtain ⟨hs, hn, hc, W, L, So⟩ := K'
  have H := T.1
  have key2 : ∀ d e, e + d = 24 → 1 ≤ e → wX_changed_48 post (nI s) E F P N C RC RP RF RO (d + 1) (nI (cn_c (cg_1 E F P N C RP RF RO s) n + cn_c (cg_2 E P N R) e)) (nI e) := by
    intro d
    induction d with
    | zero =>
      intro e he _
      have : e = 24 := by omega
      subst this
      refine pk_le 24 24 (fun _ => ?_) (fun _ => by omega)
      rw [cg_tot T K]; exact h
    | succ d ih =>
      intro e he h1
      have e24 : e < 24 := by omega
      have next := ih (e + 1) (by omega) (by omega)
      refine pk_le 24 e (fun _ => by omega) (fun _ => ⟨pk_in e 24 e24, ?_⟩)
      by_cases hE : E e = 0
      · rw [cn_s0 (fun z => z.1.1.2 hE)] at next
        exact th_bt e24 hE (nm_r (nI_1 e) next)
      · have eS : th_S E e := ⟨e24, hE⟩
        obtain ⟨q, g⟩ := th_pl_root H e eS
        refine th_bf e24 hE (th_xhp T K eS g (fun w => br_f th_10 ?_) (fun w => br_t rfl ?_))
        · rw [cn_s0 (fun ⟨_, q', g', nr⟩ => by rw [g] at g'; cases g'; exact nr w)] at next
          exact nm_r (nI_1 e) next
        · rw [cn_s1 ⟨⟨eS, by omega⟩, q, g, w⟩] at next
          exact nm_r (nI_1 _) (nm_r (nI_1 e) next)
  have key1 : ∀ d i, i + d = n → wX_changed_14 post (nI s) E F P N C RC RP RF RO (d + 1) (nI (cn_c (cg_1 E F P N C RP RF RO s) i)) (nI i) := by
    intro d
    induction d with
    | zero =>
      intro i hi
      have : i = n := by omega
      subst this
      have h0 : cn_c (cg_2 E P N R) 1 = 0 := cn_s0 (fun z => z.1.2 rfl)
      have k2 := key2 23 1 rfl (by omega)
      rw [h0, Nat.add_zero] at k2
      exact ⟨pk_in s 3 hs, th_kl rfl (by omega) i i hc rfl (by omega) (by omega) (fun _ => Exists.intro 24 k2) (fun _ => by omega)⟩
    | succ d ih =>
      intro i hi
      have next := ih (i + 1) (by omega)
      have hin : i < n := by omega
      obtain ⟨q, eq, r, q0, q59⟩ := sn_row W L hin
      refine ⟨pk_in s 3 hs, th_kl rfl (by omega) n i hc rfl (by omega) (by omega) (fun _ => by omega) (fun _ => ?_)⟩
      rw [th_cX]
      refine th_xst T (by omega) eq q0 q59 (fun w => br_f th_10 ?_) (fun w => br_t rfl ?_)
      · rw [cn_s0 (fun ⟨q', hq', e', nr⟩ => by have := sn_inj hq' q59 (e'.symm.trans eq); subst this; exact nr w)] at next
        exact nm_r (nI_1 i) next
      · rw [cn_s1 ⟨q, q59, eq, w⟩] at next
        exact nm_r (nI_1 _) (nm_r (nI_1 i) next)
  exact Exists.intro (n + 1) (key1 n 0 (by omega))
end
theorem i_vc_difference {k : Nat} {u : SX} {v : SY} (I : i_Rel k u v) (hk : k + 4 ≤ 2048) (v1 : Int32) (v2 : Int32) (v3 : Int32) : wpX_difference (fun r => wpY_difference (fun r' => r' = r ∧ i_Rel (k + 4) u v) v v1 v2 v3) u v1 v2 v3 := by
  have I' : i_Rel (k + 4) u v := I
  obtain ⟨E, F, P, N, C, RC, RP, RF, RO, M, YP, YF, YC, YN, D, rfl, rfl, T, Sn⟩ := I
  unfold wpX_difference wpY_difference
  by_cases g : th_Q 3 v1
  · by_cases g2 : th_Q 3 v2
    · obtain ⟨a, ha, rfl⟩ := g
      obtain ⟨b, hb, rfl⟩ := g2
      have g : th_Q 3 (nI a) := ⟨a, ha, rfl⟩
      have g2 : th_Q 3 (nI b) := ⟨b, hb, rfl⟩
      obtain ⟨n, R, X1, Y1⟩ := th_snX ha (Sn a ha)
      obtain ⟨n', R', X2, Y2⟩ := th_snX hb (Sn b hb)
      have n1 := Y1.2.1
      have n2 := Y2.2.1
      refine th_xs1 g (br_f th_10 (th_xs1 g2 (br_f th_10 ?_)))
      by_cases gi : th_Q 46 v3
      · obtain ⟨i, hi, rfl⟩ := gi
        obtain ⟨o, ho⟩ := nx_ex (sn_D R R') 0
        obtain ⟨r, hX, hY⟩ := th_dfl (E := E) (F := F) (P := P) (N := N) (C := C) (M := M) X1 X2 Y1 Y2 hi i 0 0 o (by omega) (by omega) ho
        refine br_f (nI_pos (by omega)) (pk_lt i 46 (fun _ => th_xnd (l := 0) X1 X2 (by omega) (fun o' ho' => Exists.intro (i + 1) ?_)) (fun _ => by omega))
        rw [nx_u ho' ho]
        refine hX _ ?_
        exact th_ys1 g (br_t rfl (th_ys1 g2 (br_t rfl (Exists.intro (i + 1) (hY _ ⟨rfl, I'⟩)))))
      · have hv : ∀ j, j < 46 → ¬ nI j = v3 := fun j hj e => gi ⟨j, hj, e.symm⟩
        have tot := sn_tot Y1.2.2.2.1 Y2.2.2.2.1 Y1.2.2.2.2 Y2.2.2.2.2 0
        refine br_c (fun _ => th_ys1 g (br_t rfl (th_ys1 g2 (br_t rfl (Exists.intro 49 (th_ydn Y1 Y2 hv ⟨rfl, I'⟩ 48 0 0 rfl (by omega) (by omega))))))) (fun h0 => ?_)
        obtain ⟨j, hj, rfl⟩ := nI_of h0
        exact pk_lt j 46 (fun z => absurd ⟨j, z, rfl⟩ gi) (fun _ => th_ys1 g (br_t rfl (th_ys1 g2 (br_t rfl (Exists.intro 49 (th_ydn Y1 Y2 hv ⟨rfl, I'⟩ 48 0 0 rfl (by omega) (by omega)))))))
    · refine th_xs1 g (br_f th_10 (th_xs0 g2 (br_t rfl ?_)))
      exact th_ys1 g (br_t rfl (th_ys0 g2 (br_f th_10 ⟨rfl, I'⟩)))
  · exact th_xs0 g (br_t rfl (th_ys0 g (br_f th_10 ⟨rfl, I'⟩)))
theorem i_vc_changed {k : Nat} {u : SX} {v : SY} (I : i_Rel k u v) (hk : k + 4 ≤ 2048) (v1 : Int32) : wpX_changed (fun r => wpY_changed (fun r' v' => r' = r ∧ i_Rel (k + 4) u v') v v1) u v1 := by
  obtain ⟨E, F, P, N, C, RC, RP, RF, RO, M, YP, YF, YC, YN, D, rfl, rfl, T, Sn⟩ := I
  unfold wpX_changed wpY_changed
  by_cases g : th_Q 3 v1
  · obtain ⟨s, hs, rfl⟩ := g
    have g : th_Q 3 (nI s) := ⟨s, hs, rfl⟩
    obtain ⟨n, R, X1, Y1⟩ := th_snX hs (Sn s hs)
    refine th_xs1 g (br_f th_10 (th_xch T X1 ?_))
    refine th_ys1 g (br_t rfl (sv_Y (t := 3) T (by omega) (fun YP' YF' YC' LY uY => ?_)))
    have Y1' : ys_K YP' YF' YC' (upd YN 3 (nI (cn_c (th_e E) 24))) s n R := by
      obtain ⟨a, b, c, d, e⟩ := Y1
      exact ⟨a, b, by rw [pk_un (by omega)]; exact c, d, sn_cg (fun i hi => uY _ (by omega)) e⟩
    have Y3 : ys_K YP' YF' YC' (upd YN 3 (nI (cn_c (th_e E) 24))) 3 (cn_c (th_e E) 24) (th_R E F P N C) := ⟨by omega, th_e23 (E := E), pk_us, th_RW T, LY⟩
    refine th_yds (s := 3) Y3 Y1' ⟨rfl, th_rel T (fun s' hs' => ?_)⟩
    exact th_Sn_cg (Sn s' hs') rfl (pk_un (by omega)) (fun j _ _ => ⟨rfl, rfl, rfl⟩) (fun j h1 h2 => uY j (by omega))
  · exact th_xs0 g (br_t rfl (th_ys0 g (br_f th_10 ⟨rfl, th_rel T Sn⟩)))
