/-! repeated -/
def rp_S (Q : Int32 → Prop) (a l : Int32) : Prop := (a = 0 ∧ l = 0 ∧ ∀ c, ¬ Q c) ∨ (a = 1 ∧ Q l ∧ ∀ c, Q c → l ≤ c)
theorem rp_ext {Q Q' : Int32 → Prop} {a l : Int32} (e : ∀ c, Q c ↔ Q' c) (h : rp_S Q a l) : rp_S Q' a l := by
  obtain ⟨h1, h2, h3⟩ | ⟨h1, h2, h3⟩ := h
  · exact Or.inl ⟨h1, h2, fun c q => h3 c ((e c).mpr q)⟩
  · exact Or.inr ⟨h1, (e l).mp h2, fun c q => h3 c ((e c).mpr q)⟩
theorem rp_u {Q : Int32 → Prop} {a l a' l' : Int32} (h : rp_S Q a l) (h' : rp_S Q a' l') : l = l' := by
  obtain ⟨h1, h2, h3⟩ | ⟨h1, h2, h3⟩ := h
  · obtain ⟨g1, g2, g3⟩ | ⟨g1, g2, g3⟩ := h'
    · rw [h2, g2]
    · exact absurd g2 (h3 l')
  · obtain ⟨g1, g2, g3⟩ | ⟨g1, g2, g3⟩ := h'
    · exact absurd h2 (g3 l)
    · exact Int32.le_antisymm (h3 l' g2) (g3 l h2)
theorem rp_new {Q : Int32 → Prop} {a l c : Int32} (h : rp_S Q a l) (hn : a = 0 ∨ ¬ l ≤ c) : rp_S (fun x => Q x ∨ x = c) 1 c := by
  refine Or.inr ⟨rfl, Or.inr rfl, fun x q => ?_⟩
  cases q with
  | inr q => rw [q]; exact Int32.le_refl c
  | inl q =>
    obtain ⟨h1, h2, h3⟩ | ⟨h1, h2, h3⟩ := h
    · exact absurd q (h3 x)
    · cases hn with
      | inl hn => rw [h1] at hn; exact absurd hn th_10
      | inr hn =>
        have a1 := h3 x q
        rw [Int32.le_iff_toInt_le] at a1 hn ⊢
        omega
theorem rp_old {Q : Int32 → Prop} {a l c : Int32} (h : rp_S Q a l) (ha : ¬ a = 0) (hn : l ≤ c) : rp_S (fun x => Q x ∨ x = c) a l := by
  obtain ⟨h1, h2, h3⟩ | ⟨h1, h2, h3⟩ := h
  · exact absurd h1 ha
  · refine Or.inr ⟨h1, Or.inl h2, fun x q => ?_⟩
    cases q with
    | inl q => exact h3 x q
    | inr q => rw [q]; exact hn
def rp_R (R : Nat → Int32 → Int32 → Prop) (c : Int32) : Prop := ∃ q q' f f', ¬ q = q' ∧ ¬ f = 0 ∧ ¬ f' = 0 ∧ R q f c ∧ R q' f' c
def rp_P (B G : Nat → Int32) (o i j : Nat) : Prop := ¬ B (o + i) = 0 ∧ ¬ B (o + j) = 0 ∧ G (o + j) = G (o + i)
theorem rp_RP {A B G : Nat → Int32} {o n : Nat} {R : Nat → Int32 → Int32 → Prop} (W : sn_W R) (L : sn_L A B G o n R) (c : Int32) : rp_R R c ↔ ∃ i j, i < j ∧ j < n ∧ rp_P B G o i j ∧ G (o + i) = c := by
  constructor
  · intro ⟨q, q', f, f', hq, hf, hf', r, r'⟩
    obtain ⟨i, hi, a1, a2, a3⟩ := L.2.1 _ _ _ r
    obtain ⟨j, hj, b1, b2, b3⟩ := L.2.1 _ _ _ r'
    have ne : ¬ i = j := by
      intro e
      subst e
      exact hq (sn_inj (W.1 _ _ _ r).2.1 (W.1 _ _ _ r').2.1 (a1.symm.trans b1))
    by_cases z : i < j
    · exact ⟨i, j, z, hj, ⟨by rw [a2]; exact hf, by rw [b2]; exact hf', by rw [a3, b3]⟩, a3⟩
    · exact ⟨j, i, by omega, hi, ⟨by rw [b2]; exact hf', by rw [a2]; exact hf, by rw [a3, b3]⟩, b3⟩
  · intro ⟨i, j, hij, hj, ⟨p1, p2, p3⟩, e⟩
    obtain ⟨q, a1, r, _, _⟩ := sn_row W L (show i < n by omega)
    obtain ⟨q', b1, r', _, _⟩ := sn_row W L hj
    refine ⟨q, q', _, _, fun z => ?_, p1, p2, by rw [← e]; exact r, by rw [← e, ← p3]; exact r'⟩
    subst z
    have := L.2.2 i j (by omega) hj (a1.trans b1.symm)
    omega
section
variable {E F P N C RC RP RF RO M YP YF YC YN : Nat → Int32} {R : Nat → Int32 → Int32 → Prop}
theorem th_xrl {s n i : Nat} (K : xs_K RC RP RF RO s n R) (hi : i < n) {post : Int32 → Prop} (h1 : (∃ j, i < j ∧ j < n ∧ rp_P RF RO (s * 23) i j) → post 1) (h0 : ¬ (∃ j, i < j ∧ j < n ∧ rp_P RF RO (s * 23) i j) → post 0) : wpX_isRepeatedLater post (E, F, P, N, C, RC, RP, RF, RO) (nI s) (nI i) := by
  obtain ⟨hs, hn, hc, W, L, So⟩ := K
  have ci : s * 23 + i < 69 := by omega
  unfold wpX_isRepeatedLater
  refine nm_r (th_cX s i) ⟨pk_in _ 69 ci, ?_⟩
  by_cases hF : RF (s * 23 + i) = 0
  · exact th_kt rfl (by omega) hF (h0 (fun ⟨j, _, _, p⟩ => p.1 hF))
  · refine th_kf rfl (by omega) hF (nm_r (nI_1 i) (Exists.intro (n - (i + 1) + 1) ?_))
    have key : ∀ d j, j + d = n → i < j → (∀ k, i < k → k < j → ¬ rp_P RF RO (s * 23) i k) → wX_isRepeatedLater_23 post (nI s) (nI (s * 23 + i)) E F P N C RC RP RF RO (d + 1) (nI j) := by
      intro d
      induction d with
      | zero =>
        intro j hj hij ha
        exact ⟨pk_in s 3 hs, th_kl rfl (by omega) n j hc rfl (by omega) (by omega) (fun _ => h0 (fun ⟨k, a, b, p⟩ => ha k a (by omega) p)) (fun _ => by omega)⟩
      | succ d ih =>
        intro j hj hij ha
        have cj : s * 23 + j < 69 := by omega
        have next : ¬ rp_P RF RO (s * 23) i j → wX_isRepeatedLater_23 post (nI s) (nI (s * 23 + i)) E F P N C RC RP RF RO (d + 1) (nI (j + 1)) := by
          intro hn'
          refine ih (j + 1) (by omega) (by omega) (fun k a b => ?_)
          by_cases z : k = j
          · subst z; exact hn'
          · exact ha k a (by omega)
        refine ⟨pk_in s 3 hs, th_kl rfl (by omega) n j hc rfl (by omega) (by omega) (fun _ => by omega) (fun _ => nm_r (th_cX s j) ⟨pk_in _ 69 cj, ?_⟩)⟩
        by_cases hFj : RF (s * 23 + j) = 0
        · exact th_kt rfl (by omega) hFj (nm_r (nI_1 j) (next (fun p => p.2.1 hFj)))
        · refine th_kf rfl (by omega) hFj ⟨pk_in _ 69 cj, pk_in _ 69 ci, ?_⟩
          by_cases hC : RO (s * 23 + j) = RO (s * 23 + i)
          · exact th_k2t rfl (by omega) rfl (by omega) hC (h1 ⟨j, hij, by omega, hF, hFj, hC⟩)
          · exact th_k2f rfl (by omega) rfl (by omega) hC (nm_r (nI_1 j) (next (fun p => hC p.2.2)))
    exact key (n - (i + 1)) (i + 1) (by omega) (by omega) (fun k a b => by omega)
theorem th_xrp {s n : Nat} (K : xs_K RC RP RF RO s n R) {post : Int32 → Prop} (h : ∀ a l, rp_S (rp_R R) a l → post l) : ∃ n17 : Nat, wX_repeated_17 post (nI s) E F P N C RC RP RF RO n17 0 0 0 := by
  have K' := K
  obtain ⟨hs, hn, hc, W, L, So⟩ := K'
  have key : ∀ d i a l, i + d = n → rp_S (fun c => ∃ r j, r < i ∧ r < j ∧ j < n ∧ rp_P RF RO (s * 23) r j ∧ RO (s * 23 + r) = c) a l → wX_repeated_17 post (nI s) E F P N C RC RP RF RO (d + 1) a l (nI i) := by
    intro d
    induction d with
    | zero =>
      intro i a l hi hS
      refine ⟨pk_in s 3 hs, th_kl rfl (by omega) n i hc rfl (by omega) (by omega) (fun _ => h a l (rp_ext (fun c => ?_) hS)) (fun _ => by omega)⟩
      rw [rp_RP W L]
      constructor
      · intro ⟨r, j, _, a, b, c⟩; exact ⟨r, j, a, b, c⟩
      · intro ⟨r, j, a, b, c⟩; exact ⟨r, j, by omega, a, b, c⟩
    | succ d ih =>
      intro i a l hi hS
      have hin : i < n := by omega
      have ci : s * 23 + i < 69 := by omega
      have e32 : s * 23 + i < 2 ^ 31 := by omega
      refine ⟨pk_in s 3 hs, th_kl rfl (by omega) n i hc rfl (by omega) (by omega) (fun _ => by omega) (fun _ => nm_r (th_cX s i) (th_xrl K hin (fun w => br_f th_10 ?_) (fun w => br_t rfl (nm_r (nI_1 i) ?_))))⟩
      · have ext : ∀ c, ((∃ r j, r < i ∧ r < j ∧ j < n ∧ rp_P RF RO (s * 23) r j ∧ RO (s * 23 + r) = c) ∨ c = RO (s * 23 + i)) ↔ (∃ r j, r < i + 1 ∧ r < j ∧ j < n ∧ rp_P RF RO (s * 23) r j ∧ RO (s * 23 + r) = c) := by
          intro c
          constructor
          · intro u
            cases u with
            | inl u => obtain ⟨r, j, a, b⟩ := u; exact ⟨r, j, by omega, b⟩
            | inr u => obtain ⟨j, a, b, p⟩ := w; exact ⟨i, j, by omega, a, b, p, u.symm⟩
          · intro ⟨r, j, a, b, c', p, e⟩
            by_cases z : r = i
            · subst z; exact Or.inr e.symm
            · exact Or.inl ⟨r, j, by omega, b, c', p, e⟩
        have take : (a = 0 ∨ ¬ l ≤ RO (s * 23 + i)) → wX_repeated_62 post (wX_repeated_17 post (nI s) E F P N C RC RP RF RO (d + 1)) (nI s) (nI i) (nI (s * 23 + i)) E F P N C RC RP RF RO := by
          intro z
          unfold wX_repeated_62
          exact ⟨pk_in _ 69 ci, nm_r (e' := RO (s * 23 + i)) (by rw [nI_clamp e32]) (nm_r (nI_1 i) (ih (i + 1) 1 _ (by omega) (rp_ext ext (rp_new hS z))))⟩
        by_cases ha : a = 0
        · exact br_t ha (take (Or.inl ha))
        · refine br_f ha ⟨pk_in _ 69 ci, ?_⟩
          by_cases z : l ≤ RO (s * 23 + i)
          · exact br_t (by rw [nI_clamp e32]; exact z) (nm_r (nI_1 i) (ih (i + 1) a l (by omega) (rp_ext ext (rp_old hS ha z))))
          · exact br_f (by rw [nI_clamp e32]; exact z) (take (Or.inr z))
      · refine ih (i + 1) a l (by omega) (rp_ext (fun c => ?_) hS)
        constructor
        · intro ⟨r, j, a, b⟩; exact ⟨r, j, by omega, b⟩
        · intro ⟨r, j, a, b, c', p, e⟩
          by_cases z : r = i
          · subst z; exact absurd ⟨j, b, c', p⟩ w
          · exact ⟨r, j, by omega, b, c', p, e⟩
  exact Exists.intro (n + 1) (key n 0 0 0 (by omega) (Or.inl ⟨rfl, rfl, fun c ⟨r, j, a, _⟩ => by omega⟩))
def rp_Y (B G : Nat → Int32) (o i j : Nat) (c : Int32) : Prop := ∃ x y, y < x ∧ (x < i ∨ (x = i ∧ y < j)) ∧ rp_P B G o x y ∧ G (o + x) = c
theorem th_yrp {s n : Nat} (K : ys_K YP YF YC YN s n R) {post : Int32 → Prop} (h : ∀ a l, rp_S (rp_R R) a l → post l) : ∃ n17 : Nat, wY_repeated_17 post (nI s) E F P N C M YP YF YC YN n17 0 0 0 := by
  obtain ⟨hs, hn, hc, W, L⟩ := K
  have inner : ∀ (J : Int32 → Int32 → Int32 → Prop) i, i < n → (∀ a l, rp_S (rp_Y YF YC (24 * s) (i + 1) 0) a l → J a l (nI (i + 1))) → ∀ d j a l, j + d = i → rp_S (rp_Y YF YC (24 * s) i j) a l → wY_repeated_38 post J (nI s) (nI i) E F P N C M YP YF YC YN (d + 1) a l (nI j) := by
    intro J i hi hJ d
    have ci : 24 * s + i < 96 := by omega
    have pi : vp_in (24 * nI s + nI i) 96 := pk_in (24 * s + i) 96 ci (th_cY s i)
    induction d with
    | zero =>
      intro j a l hj hS
      refine pk_le i j (fun _ => nm_r (nI_1 i) (hJ a l (rp_ext (fun c => ?_) hS))) (fun _ => by omega)
      constructor
      · intro ⟨x, y, a, b, c⟩; exact ⟨x, y, a, Or.inl (by omega), c⟩
      · intro ⟨x, y, a, b, c⟩; exact ⟨x, y, a, by omega, c⟩
    | succ d ih =>
      intro j a l hj hS
      have cj : 24 * s + j < 96 := by omega
      have pj : vp_in (24 * nI s + nI j) 96 := pk_in (24 * s + j) 96 cj (th_cY s j)
      have next : ¬ rp_P YF YC (24 * s) i j → wY_repeated_38 post J (nI s) (nI i) E F P N C M YP YF YC YN (d + 1) a l (nI (j + 1)) := by
        intro hn'
        refine ih (j + 1) a l (by omega) (rp_ext (fun c => ?_) hS)
        constructor
        · intro ⟨x, y, a, b, c⟩; exact ⟨x, y, a, by omega, c⟩
        · intro ⟨x, y, a, b, p, e⟩
          by_cases z : x = i ∧ y = j
          · obtain ⟨z1, z2⟩ := z
            subst z1 z2
            exact absurd p hn'
          · exact ⟨x, y, a, by omega, p, e⟩
      have no : ¬ rp_P YF YC (24 * s) i j → wY_repeated_93 post J (wY_repeated_38 post J (nI s) (nI i) E F P N C M YP YF YC YN (d + 1)) (nI s) a l (nI i) (nI j) (YC (24 * s + i)) E F P N C M YP YF YC YN := by
        intro hn'
        unfold wY_repeated_93
        exact br_t rfl (nm_r (nI_1 j) (next hn'))
      refine pk_le i j (fun _ => by omega) (fun _ => ⟨pi, nm_r (e' := YC (24 * s + i)) (by rw [th_cY, nI_clamp (by omega)]) ⟨pi, ?_⟩⟩)
      by_cases hF : YF (24 * s + i) = 0
      · exact th_kt (th_cY s i) (by omega) hF (no (fun p => p.1 hF))
      · refine th_kf (th_cY s i) (by omega) hF ⟨pj, ?_⟩
        by_cases hFj : YF (24 * s + j) = 0
        · exact th_kt (th_cY s j) (by omega) hFj (no (fun p => p.2.1 hFj))
        · refine th_kf (th_cY s j) (by omega) hFj ?_
          unfold wY_repeated_94
          refine br_f th_10 ⟨pj, ?_⟩
          have ecl : (24 * nI s + nI j).toNatClampNeg = 24 * s + j := by rw [th_cY, nI_clamp (by omega)]
          rw [ecl]
          by_cases hC : YC (24 * s + i) = YC (24 * s + j)
          · have hp : rp_P YF YC (24 * s) i j := ⟨hF, hFj, hC.symm⟩
            have ext : ∀ c, (rp_Y YF YC (24 * s) i j c ∨ c = YC (24 * s + i)) ↔ rp_Y YF YC (24 * s) i (j + 1) c := by
              intro c
              constructor
              · intro u
                cases u with
                | inl u => obtain ⟨x, y, a, b, c⟩ := u; exact ⟨x, y, a, by omega, c⟩
                | inr u => exact ⟨i, j, by omega, Or.inr ⟨rfl, by omega⟩, hp, u.symm⟩
              · intro ⟨x, y, a, b, p, e⟩
                by_cases z : x = i ∧ y = j
                · obtain ⟨z1, z2⟩ := z
                  subst z1
                  exact Or.inr e.symm
                · exact Or.inl ⟨x, y, a, by omega, p, e⟩
            refine br_t hC ?_
            by_cases ha : a = 0
            · exact br_t ha (nm_r (nI_1 j) (ih (j + 1) 1 _ (by omega) (rp_ext ext (rp_new hS (Or.inl ha)))))
            · refine br_f ha ?_
              by_cases z : l ≤ YC (24 * s + i)
              · exact br_t z (nm_r (nI_1 j) (ih (j + 1) a l (by omega) (rp_ext ext (rp_old hS ha z))))
              · exact br_f z (nm_r (nI_1 j) (ih (j + 1) 1 _ (by omega) (rp_ext ext (rp_new hS (Or.inr z)))))
          · exact br_f hC (nm_r (nI_1 j) (next (fun p => hC p.2.2.symm)))
  have key : ∀ d i a l, i + d = n → rp_S (rp_Y YF YC (24 * s) i 0) a l → wY_repeated_17 post (nI s) E F P N C M YP YF YC YN (d + 1) a l (nI i) := by
    intro d
    induction d with
    | zero =>
      intro i a l hi hS
      refine ⟨pk_in s 4 hs, th_kl rfl (by omega) n i hc rfl (by omega) (by omega) (fun _ => h a l (rp_ext (fun c => ?_) hS)) (fun _ => by omega)⟩
      rw [rp_RP W L]
      constructor
      · intro ⟨x, y, a, b, ⟨p1, p2, p3⟩, e⟩
        exact ⟨y, x, a, by omega, ⟨p2, p1, p3.symm⟩, p3.trans e⟩
      · intro ⟨x, y, a, b, ⟨p1, p2, p3⟩, e⟩
        exact ⟨y, x, a, Or.inl (by omega), ⟨p2, p1, p3.symm⟩, p3.trans e⟩
    | succ d ih =>
      intro i a l hi hS
      refine ⟨pk_in s 4 hs, th_kl rfl (by omega) n i hc rfl (by omega) (by omega) (fun _ => by omega) (fun _ => pk_le 24 i (fun _ => by omega) (fun _ => Exists.intro (i + 1) ?_))⟩
      exact inner _ i (by omega) (fun a l hS' => ih (i + 1) a l (by omega) hS') i 0 a l (by omega) hS
  exact Exists.intro (n + 1) (key n 0 0 0 (by omega) (Or.inl ⟨rfl, rfl, fun c ⟨x, y, a, b, _⟩ => by omega⟩))
end
theorem i_vc_repeated {k : Nat} {u : SX} {v : SY} (I : i_Rel k u v) (hk : k + 4 ≤ 2048) (v1 : Int32) : wpX_repeated (fun r => wpY_repeated (fun r' => r' = r ∧ i_Rel (k + 4) u v) v v1) u v1 := by
  have I' : i_Rel (k + 4) u v := I
  obtain ⟨E, F, P, N, C, RC, RP, RF, RO, M, YP, YF, YC, YN, D, rfl, rfl, T, Sn⟩ := I
  unfold wpX_repeated wpY_repeated
  by_cases g : th_Q 3 v1
  · obtain ⟨s, hs, rfl⟩ := g
    have g : th_Q 3 (nI s) := ⟨s, hs, rfl⟩
    obtain ⟨n, R, X1, Y1⟩ := th_snX hs (Sn s hs)
    refine th_xs1 g (br_f th_10 (th_xrp X1 (fun a l h => ?_)))
    exact th_ys1 g (br_t rfl (th_yrp Y1 (fun a' l' h' => ⟨rp_u h' h, I'⟩)))
  · exact th_xs0 g (br_t rfl (th_ys0 g (br_f th_10 ⟨rfl, I'⟩)))
