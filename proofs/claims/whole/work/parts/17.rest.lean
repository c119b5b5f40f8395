/-! restore -/
def rs_z (E : Nat → Int32) (i : Nat) : Nat → Int32 := fun j => if 0 < j ∧ j < i then 0 else E j
theorem rs_z1 (E : Nat → Int32) : rs_z E 1 = E := by
  funext j
  unfold rs_z
  rw [if_neg (by omega)]
theorem rs_zs (E : Nat → Int32) {i : Nat} (hi : 0 < i) : upd (rs_z E i) i 0 = rs_z E (i + 1) := by
  funext j
  by_cases z : j = i
  · subst z
    rw [pk_us]
    unfold rs_z
    rw [if_pos (by omega)]
  · rw [pk_un z]
    unfold rs_z
    by_cases w : 0 < j ∧ j < i
    · rw [if_pos w, if_pos (by omega)]
    · rw [if_neg w, if_neg (by omega)]
theorem rs_zS {E : Nat → Int32} (h0 : ¬ E 0 = 0) (x : Nat) : th_S (rs_z E 24) x ↔ x = 0 := by
  constructor
  · intro h
    by_cases z : x = 0
    · exact z
    · refine absurd ?_ h.2
      unfold rs_z
      rw [if_pos ⟨by omega, h.1⟩]
  · intro h
    subst h
    refine ⟨by omega, ?_⟩
    unfold rs_z
    rw [if_neg (by omega)]; exact h0
section
variable {D : Nat → Nat} {E F P N C RC RP RF RO M YP YF YC YN : Nat → Int32} {R : Nat → Int32 → Int32 → Prop}
theorem rs_xz {x : Int32} {post : Int32 → SX → Prop} (h : ∃ m, wX_restore_33 post x m 0 (rs_z E 24) F P N C RC RP RF RO) : ∀ d i, i + d = 24 → 0 < i → wX_restore_12 post x (d + 1) (nI i) (rs_z E i) F P N C RC RP RF RO := by
  intro d
  induction d with
  | zero =>
    intro i hi _
    have : i = 24 := by omega
    subst this
    exact pk_le 24 24 (fun _ => h) (fun _ => by omega)
  | succ d ih =>
    intro i hi h0
    have := ih (i + 1) (by omega) (by omega)
    rw [← rs_zs E h0] at this
    exact pk_le 24 i (fun _ => by omega) (fun _ => th_up (by omega) th_n0 (nm_r (nI_1 i) this))
theorem rs_yz {x : Int32} {post : Int32 → SY → Prop} (h : ∃ m, wY_restore_35 post x m 0 0 (rs_z E 24) F P N C M YP YF YC YN) : ∀ d i, i + d = 24 → 0 < i → wY_restore_12 post x (d + 1) (nI i) (rs_z E i) F P N C M YP YF YC YN := by
  intro d
  induction d with
  | zero =>
    intro i hi _
    have : i = 24 := by omega
    subst this
    exact pk_le 24 24 (fun _ => h) (fun _ => by omega)
  | succ d ih =>
    intro i hi h0
    have := ih (i + 1) (by omega) (by omega)
    rw [← rs_zs E h0] at this
    exact pk_le 24 i (fun _ => by omega) (fun _ => th_up (by omega) th_n0 (nm_r (nI_1 i) this))
/-- above: the row with the least path beyond l -/
def ab_K (A : Nat → Int32) (o n l : Nat) (r : Int32) : Prop := (r = -1 ∧ ∀ j q, j < n → A (o + j) = nI q → q < 59049 → q ≤ l) ∨
  (∃ j q, j < n ∧ r = nI j ∧ A (o + j) = nI q ∧ q < 59049 ∧ l < q ∧ ∀ j' q', j' < n → A (o + j') = nI q' → q' < 59049 → l < q' → q ≤ q')
theorem th_yab {s n l : Nat} (K : ys_K YP YF YC YN s n R) (hl : l < 59049) {post : Int32 → Prop} (h : ∀ r, ab_K YP (24 * s) n l r → post r) : wpY_above post (E, F, P, N, C, M, YP, YF, YC, YN) (nI s) (nI l) := by
  obtain ⟨hs, hn, hc, W, L⟩ := K
  have key : ∀ d i r, i + d = n → ab_K YP (24 * s) i l r → wY_above_5 post (nI s) (nI l) E F P N C M YP YF YC YN (d + 1) r (nI i) := by
    intro d
    induction d with
    | zero =>
      intro i r hi hK
      have : i = n := by omega
      subst this
      exact ⟨pk_in s 4 hs, th_kl rfl (by omega) i i hc rfl (by omega) (by omega) (fun _ => h r hK) (fun _ => by omega)⟩
    | succ d ih =>
      intro i r hi hK
      have hin : i < n := by omega
      obtain ⟨q, eq, _, q0, q59⟩ := sn_row W L hin
      have pi : vp_in (24 * nI s + nI i) 96 := pk_in (24 * s + i) 96 (by omega) (th_cY s i)
      have new : (∀ j' q', j' < i → YP (24 * s + j') = nI q' → q' < 59049 → l < q' → q ≤ q') → l < q → ab_K YP (24 * s) (i + 1) l (nI i) := by
        intro w hlq
        refine Or.inr ⟨i, q, by omega, rfl, eq, q59, hlq, fun j' q' hj' e' h59 hl' => ?_⟩
        by_cases z : j' = i
        · subst z
          have := sn_inj h59 q59 (e'.symm.trans eq)
          omega
        · exact w j' q' (by omega) e' h59 hl'
      have uq : ∀ q', YP (24 * s + i) = nI q' → q' < 59049 → q' = q := fun q' e h59 => sn_inj h59 q59 (e.symm.trans eq)
      refine ⟨pk_in s 4 hs, th_kl rfl (by omega) n i hc rfl (by omega) (by omega) (fun _ => by omega) (fun _ => pk_le 24 i (fun _ => by omega) (fun _ => ⟨pi, nm_r (e' := nI q) (th_kr (K := fun v => v = nI q) (th_cY s i) (by omega) eq rfl) ?_⟩))⟩
      refine pk_le q l (fun z => nm_r (nI_1 i) (ih (i + 1) r (by omega) ?_)) (fun z => ?_)
      · obtain ⟨e1, ha⟩ | ⟨j, b, hj, e1, e2, b59, hlb, ha⟩ := hK
        · refine Or.inl ⟨e1, fun j' q' hj' e' h59 => ?_⟩
          by_cases w : j' = i
          · subst w; rw [uq q' e' h59]; exact z
          · exact ha j' q' (by omega) e' h59
        · refine Or.inr ⟨j, b, by omega, e1, e2, b59, hlb, fun j' q' hj' e' h59 hl' => ?_⟩
          by_cases w : j' = i
          · subst w; have := uq q' e' h59; omega
          · exact ha j' q' (by omega) e' h59 hl'
      · obtain ⟨e1, ha⟩ | ⟨j, b, hj, e1, e2, b59, hlb, ha⟩ := hK
        · refine br_t (by rw [e1]; exact th_m1lt) (nm_r (nI_1 i) (ih (i + 1) (nI i) (by omega) (new (fun j' q' hj' e' h59 hl' => ?_) z)))
          have := ha j' q' hj' e' h59
          omega
        · subst e1
          have pj : vp_in (24 * nI s + nI j) 96 := pk_in (24 * s + j) 96 (by omega) (th_cY s j)
          refine br_f (nI_pos (by omega)) ⟨pj, th_kl (th_cY s j) (by omega) b q e2 rfl (by omega) (by omega) (fun w => nm_r (nI_1 i) (ih (i + 1) _ (by omega) ?_)) (fun w => nm_r (nI_1 i) (ih (i + 1) _ (by omega) (new (fun j' q' hj' e' h59 hl' => ?_) z)))⟩
          · refine Or.inr ⟨j, b, by omega, rfl, e2, b59, hlb, fun j' q' hj' e' h59 hl' => ?_⟩
            by_cases v : j' = i
            · subst v; have := uq q' e' h59; omega
            · exact ha j' q' (by omega) e' h59 hl'
          · have := ha j' q' hj' e' h59 hl'
            omega
  exact Exists.intro (n + 1) (key n 0 (-1) (by omega) (Or.inl ⟨rfl, fun j q hj => by omega⟩))
/-- the tree after k rows -/
def rs_J (E F P N : Nat → Int32) (RP RF : Nat → Int32) (o k : Nat) : Prop := (∀ x, th_S E x ↔ x ≤ k) ∧ ∀ i, i < k → ∃ q, RP (o + i) = nI q ∧ q < 59049 ∧ th_pl P N 0 (i + 1) = some q ∧ F (i + 1) = RF (o + i)
theorem rs_par (T : th_T E F P N C D) {s n k q : Nat} {f c : Int32} (K : xs_K RC RP RF RO s n R) (J : rs_J E F P N RP RF (s * 23) k) (hk : k < n) (hq : RP (s * 23 + k) = nI q) (r : R q f c) : ∃ p, th_S E p ∧ th_pl P N 0 p = some (q / 9) ∧ F p = 0 := by
  obtain ⟨hs, hn, hc, W, L, So⟩ := K
  obtain ⟨q0, q59, _, _, hpar, _⟩ := W.1 _ _ _ r
  cases hpar with
  | inl z => exact ⟨0, (J.1 0).mpr (by omega), by rw [z]; exact th_pl_t, T.2.2.1⟩
  | inr z =>
    obtain ⟨c', r'⟩ := z
    obtain ⟨i, hi, a, b, _⟩ := L.2.1 _ _ _ r'
    have hik : i < k := by
      by_cases w : i < k
      · exact w
      · by_cases v : i = k
        · subst v
          have := sn_inj (by omega) q59 (a.symm.trans hq)
          omega
        · have lt := So k i (by omega) hi
          rw [hq, a, nI_ltI (by omega) (by omega)] at lt
          omega
    obtain ⟨q', e, h59, g, hF⟩ := J.2 i hik
    have := sn_inj h59 (by omega) (e.symm.trans a)
    subst this
    exact ⟨i + 1, (J.1 _).mpr (by omega), g, hF.trans b⟩
theorem rs_ch (T : th_T E F P N C D) {s n k q p : Nat} {f c : Int32} (K : xs_K RC RP RF RO s n R) (J : rs_J E F P N RP RF (s * 23) k) (hk : k < n) (hq : RP (s * 23 + k) = nI q) (r : R q f c) (hp : th_S E p) (g : th_pl P N 0 p = some (q / 9)) :
    ∀ x, th_S E x → ¬ x = 0 → P x = nI p → N x = nI (q % 9 - 1) → False := by
  intro x hx x0 hP hN
  obtain ⟨hs, hn, hc, W, L, So⟩ := K
  have H := T.1
  obtain ⟨q0, q59, _, q9, _, _⟩ := W.1 _ _ _ r
  obtain ⟨p', n', hP', hN', hn', hpS', hD, _⟩ := (H.2 x hx).2 x0
  have e1 := th_sub hp.1 hpS'.1 (hP.symm.trans hP')
  subst e1
  have e2 := th_sub (show q % 9 - 1 < 24 by omega) (by omega) (hN.symm.trans hN')
  have gx := th_pl_s H hx x0 x0 hP' hN' hn' hpS' hD
  rw [g] at gx
  have gx' : th_pl P N 0 x = some q := by
    rw [gx]
    show some (q / 9 * 9 + (n' + 1)) = some q
    exact congrArg some (by omega)
  have hxk := (J.1 x).mp hx
  obtain ⟨q', e, h59, g', _⟩ := J.2 (x - 1) (by omega)
  rw [show x - 1 + 1 = x by omega, gx'] at g'
  have := Option.some.inj g'
  subst this
  have := L.2.2 (x - 1) k (by omega) hk (e.trans hq.symm)
  omega
theorem rs_new (T : th_T E F P N C D) {s n k q p : Nat} (K : xs_K RC RP RF RO s n R) (J : rs_J E F P N RP RF (s * 23) k) (hk : k < n) (hq : RP (s * 23 + k) = nI q) (r : R q (RF (s * 23 + k)) (RO (s * 23 + k))) (hp : th_S E p) (g : th_pl P N 0 p = some (q / 9)) (hF : F p = 0) :
    D p < 5 ∧ E (k + 1) = 0 ∧ (∃ D', th_T (upd E (k + 1) 1) (upd F (k + 1) (RF (s * 23 + k))) (upd P (k + 1) (nI p)) (upd N (k + 1) (nI (q % 9 - 1))) (upd C (k + 1) (RO (s * 23 + k))) D') ∧
    rs_J (upd E (k + 1) 1) (upd F (k + 1) (RF (s * 23 + k))) (upd P (k + 1) (nI p)) (upd N (k + 1) (nI (q % 9 - 1))) RP RF (s * 23) (k + 1) := by
  have hch := rs_ch T K J hk hq r hp g
  obtain ⟨hs, hn, hc, W, L, So⟩ := K
  have H := T.1
  obtain ⟨q0, q59, hf, q9, _, hfc⟩ := W.1 _ _ _ r
  have hDp := (th_pl_D H p hp _ g).2
  have hln : th_ln (q / 9) + 1 ≤ 5 := by rw [← th_lnD q0 q59]; exact th_ln5 q
  rw [H.1] at hDp
  have hE : E (k + 1) = 0 := by
    by_cases z : E (k + 1) = 0
    · exact z
    · have := (J.1 (k + 1)).mp ⟨by omega, z⟩
      omega
  have T' := th_T_new T (f := RF (s * 23 + k)) (c := RO (s * 23 + k)) (by omega) (show k + 1 < 24 by omega) hE hp hF (show q % 9 - 1 < 8 by omega) (by omega) hf hfc hch
  have hne : ∀ x, th_S E x → ¬ x = k + 1 := fun x hx => by have := (J.1 x).mp hx; omega
  have cg : ∀ x, th_S E x → th_pl (upd P (k + 1) (nI p)) (upd N (k + 1) (nI (q % 9 - 1))) 0 x = th_pl P N 0 x := th_pl_cg H (fun x hx => pk_un (hne x hx)) (fun x hx => pk_un (hne x hx))
  have hS' : ∀ x, th_S (upd E (k + 1) 1) x ↔ x ≤ k + 1 := by
    intro x
    constructor
    · intro h
      by_cases z : x = k + 1
      · omega
      · have := (J.1 x).mp (th_upS h z); omega
    · intro h
      by_cases z : x = k + 1
      · subst z
        exact ⟨by omega, by rw [pk_us]; exact th_10⟩
      · exact th_upS' ((J.1 x).mpr (by omega))
  refine ⟨by omega, hE, ⟨_, T'⟩, hS', fun i hi => ?_⟩
  by_cases z : i = k
  · subst z
    refine ⟨q, hq, q59, ?_, pk_us⟩
    have hx : th_S (upd E (i + 1) 1) (i + 1) := (hS' _).mpr (by omega)
    rw [th_pl_s T'.1 hx (by omega) (by omega) pk_us pk_us (by omega) (th_upS' hp) (by
      show (if i + 1 = i + 1 then D p + 1 else D (i + 1)) = (if p = i + 1 then D p + 1 else D p) + 1
      rw [if_pos rfl, if_neg (hne p hp)]), cg p hp, g]
    show some (q / 9 * 9 + (q % 9 - 1 + 1)) = some q
    exact congrArg some (by omega)
  · obtain ⟨q', e, h59, g', hF'⟩ := J.2 i (by omega)
    exact ⟨q', e, h59, by rw [cg _ ((J.1 _).mpr (by omega))]; exact g', by rw [pk_un (by omega)]; exact hF'⟩
end
