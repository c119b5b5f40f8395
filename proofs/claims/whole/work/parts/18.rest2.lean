section
variable {E F P N C RC RP RF RO M YP YF YC YN : Nat → Int32} {R : Nat → Int32 → Int32 → Prop}
theorem rs_key {s n : Nat} (K : xs_K RC RP RF RO s n R) (Y : ys_K YP YF YC YN s n R) : ∀ d k l (E F P N C : Nat → Int32) (D : Nat → Nat), k + d = n → th_T E F P N C D → rs_J E F P N RP RF (s * 23) k → l < 59049 →
    (∀ i q, i < n → RP (s * 23 + i) = nI q → q < 59049 → (i < k → q ≤ l) ∧ (k ≤ i → l < q)) →
    ∃ E' F' P' N' C' D', th_T E' F' P' N' C' D' ∧ (∀ post : Int32 → SX → Prop, post (nI n) (E', F', P', N', C', RC, RP, RF, RO) → wX_restore_33 post (nI s) (d + 1) (nI k) E F P N C RC RP RF RO) ∧
      (∀ post : Int32 → SY → Prop, post (nI n) (E', F', P', N', C', M, YP, YF, YC, YN) → wY_restore_35 post (nI s) (d + 1) (nI l) (nI k) E F P N C M YP YF YC YN) := by
  have K0 := K
  have Y0 := Y
  obtain ⟨hs, hn, hc, W, L, So⟩ := K0
  obtain ⟨hs4, _, hcY, _, LY⟩ := Y0
  have eX : RC (nI s).toNatClampNeg = nI n := by rw [th_cl (by omega), hc]
  have eY : YN (nI s).toNatClampNeg = nI n := by rw [th_cl (by omega), hcY]
  intro d
  induction d with
  | zero =>
    intro k l E F P N C D hk T J hl hb
    refine ⟨E, F, P, N, C, D, T, fun post h => ⟨pk_in s 3 hs, th_kl rfl (by omega) n k hc rfl (by omega) (by omega) (fun _ => ⟨pk_in s 3 hs, ?_⟩) (fun _ => by omega)⟩, fun post h => ⟨pk_in s 4 hs4, th_kl rfl (by omega) n k hcY rfl (by omega) (by omega) (fun _ => ⟨pk_in s 4 hs4, ?_⟩) (fun _ => by omega)⟩⟩
    · rw [eX]; exact h
    · rw [eY]; exact h
  | succ d ih =>
    intro k l E F P N C D hk T J hl hb
    have hkn : k < n := by omega
    have H := T.1
    obtain ⟨q, eq, r, q0, q59⟩ := sn_row W L hkn
    obtain ⟨_, _, hf, q9, _, _⟩ := W.1 _ _ _ r
    obtain ⟨p, hp, g, hF⟩ := rs_par T K J hkn eq r
    obtain ⟨hD, hE, ⟨D', T'⟩, J'⟩ := rs_new T K J hkn eq r hp g hF
    have hch := rs_ch T K J hkn eq r hp g
    have hlq := (hb k q hkn eq q59).2 (by omega)
    obtain ⟨E2, F2, P2, N2, C2, D2, T2, hX, hY⟩ := ih (k + 1) q _ _ _ _ _ D' (by omega) T' J' q59 (fun i q' hi e h59 => by
      constructor
      · intro w
        by_cases z : i = k
        · subst z; have := sn_inj h59 q59 (e.symm.trans eq); omega
        · have := (hb i q' hi e h59).1 (by omega); omega
      · intro w
        have lt := So k i (by omega) hi
        rw [eq, e, nI_ltI (by omega) (by omega)] at lt
        exact lt)
    have c69 : s * 23 + k < 69 := by omega
    have c32 : s * 23 + k < 2 ^ 31 := by omega
    have hdiv : nI q / 9 = nI (q / 9) := pk_div (d := 9) (by omega) (by omega) (by omega)
    have hrem : nI q - nI q / 9 * 9 - 1 = nI (q % 9 - 1) := by
      have e1 : nI q - nI q / 9 * 9 = nI (q % 9) := pk_rem (d := 9) (by omega) (by omega) (by omega)
      rw [e1]
      exact pk_sub (b := 1) (by omega)
    have FP : th_F E P N 0 (q / 9) (nI p) := Or.inr ⟨p, hp, rfl, g⟩
    refine ⟨E2, F2, P2, N2, C2, D2, T2, fun post h => ?_, fun post h => ?_⟩
    · refine ⟨pk_in s 3 hs, th_kl rfl (by omega) n k hc rfl (by omega) (by omega) (fun _ => by omega) (fun _ => nm_r (th_cX s k) ⟨pk_in _ 69 c69, th_90, ?_⟩)⟩
      rw [nI_clamp c32, eq, hrem, hdiv]
      refine th_xe (t := 0) H (by omega) (by omega) (fun r' hr' => ?_)
      rw [th_Fu H T.2.2.2.2.2.2 hr' FP]
      refine ⟨pk_in _ 69 c69, th_90, nm_e ⟨pk_in _ 69 c69, pk_in _ 69 c69, ?_⟩⟩
      rw [nI_1 k]
      exact th_xpl (show k + 1 < 24 by omega) hf (nm_e (hX post h))
    · refine ⟨pk_in s 4 hs4, th_kl rfl (by omega) n k hcY rfl (by omega) (by omega) (fun _ => by omega) (fun _ => pk_le 24 k (fun _ => by omega) (fun _ => th_yab Y hl (fun r' hr' => ?_)))⟩
      obtain ⟨j0, hj0, a0, _⟩ := LY.2.1 _ _ _ r
      obtain ⟨e1, ha⟩ | ⟨j, b, hj, e1, e2, b59, hlb, ha⟩ := hr'
      · have := ha j0 q hj0 a0 q59
        omega
      · subst e1
        have hbq : b = q := by
          have h1 := ha j0 q hj0 a0 q59 hlq
          obtain ⟨b', a', rb, _, b59'⟩ := sn_row W LY hj
          have := sn_inj b59' b59 (a'.symm.trans e2)
          subst this
          obtain ⟨i, hi, ai, _⟩ := L.2.1 _ _ _ rb
          have hik : k ≤ i := by
            by_cases z : i < k
            · have := (hb i b' hi ai b59).1 z; omega
            · omega
          by_cases z : i = k
          · subst z; exact sn_inj b59 q59 (ai.symm.trans eq)
          · have lt := So k i (by omega) hi
            rw [eq, ai, nI_ltI (by omega) (by omega)] at lt
            omega
        subst hbq
        obtain ⟨b', a', rb, _, b59'⟩ := sn_row W LY hj
        have := sn_inj b59' b59 (a'.symm.trans e2)
        subst this
        obtain ⟨eF, eC⟩ := W.2 _ _ _ _ _ rb r
        have cj : 24 * s + j < 96 := by omega
        have pj : vp_in (24 * nI s + nI j) 96 := pk_in (24 * s + j) 96 cj (th_cY s j)
        have ecl : (24 * nI s + nI j).toNatClampNeg = 24 * s + j := by rw [th_cY, nI_clamp (by omega)]
        refine br_f (nI_pos (by omega)) ⟨pj, nm_r (e' := nI b') (by rw [ecl, e2]) ⟨th_90, ?_⟩⟩
        rw [ecl, eF, eC, hrem, hdiv]
        refine th_ye H (by omega) (fun r' hr' => ?_)
        rw [th_Fu H T.2.2.2.2.2.2 hr' FP]
        refine ⟨th_90, pj, pj, ?_⟩
        obtain ⟨rc, _, cY, cs⟩ := th_chd (E := E) (F := F) (P := P) (N := N) (C := C) (RC := RC) (RP := RP) (RF := RF) (RO := RO) (M := M) (YP := YP) (YF := YF) (YC := YC) (YN := YN) p (b' % 9 - 1)
        have erc : rc = -1 := by
          obtain ⟨e, _⟩ | ⟨x, hx, x0, _, hP, hN⟩ := cs
          · exact e
          · exact absurd (hch x hx x0 hP hN) id
        subst erc
        obtain ⟨rl, _, lY, ls⟩ := th_lfr (E := E) (F := F) (P := P) (N := N) (C := C) (RC := RC) (RP := RP) (RF := RF) (RO := RO) (M := M) (YP := YP) (YF := YF) (YC := YC) (YN := YN)
        have erl : rl = nI (k + 1) := by
          obtain ⟨_, hall⟩ | ⟨x, x1, x24, e, hx0, hmin⟩ := ls
          · exact absurd hE (hall (k + 1) (by omega) (by omega))
          · rw [e]
            have a1 : ¬ x ≤ k := fun z => ((J.1 x).mpr z).2 hx0
            have a2 : ¬ k + 1 < x := fun z => hmin (k + 1) (by omega) z hE
            rw [show x = k + 1 by omega]
        subst erl
        exact th_ymk H (show k + 1 < 24 by omega) hp hF (by omega) cY hD lY hf (nm_r (nI_1 k) (hY post h))
end
theorem i_vc_restore {k : Nat} {u : SX} {v : SY} (I : i_Rel k u v) (hk : k + 4 ≤ 2048) (v1 : Int32) : wpX_restore (fun r u' => wpY_restore (fun r' v' => r' = r ∧ i_Rel (k + 4) u' v') v v1) u v1 := by
  obtain ⟨E, F, P, N, C, RC, RP, RF, RO, M, YP, YF, YC, YN, D, rfl, rfl, T, Sn⟩ := I
  unfold wpX_restore wpY_restore
  by_cases g : th_Q 3 v1
  · obtain ⟨s, hs, rfl⟩ := g
    have g : th_Q 3 (nI s) := ⟨s, hs, rfl⟩
    obtain ⟨n, R, X1, Y1⟩ := th_snX hs (Sn s hs)
    have hS := rs_zS (E := E) T.2.1
    have T1 := th_T_one T hS
    have W := X1.2.2.2.1
    have L := X1.2.2.2.2.1
    obtain ⟨E', F', P', N', C', D', T', hX, hY⟩ := rs_key (M := M) X1 Y1 n 0 0 (rs_z E 24) F P N C D (by omega) T1 ⟨fun x => by rw [hS x]; omega, fun i hi => by omega⟩ (by omega) (fun i q hi e h59 => ⟨fun z => by omega, fun _ => by
      obtain ⟨q', e', _, q0, h59'⟩ := sn_row W L hi
      have := sn_inj h59 h59' (e.symm.trans e')
      omega⟩)
    refine th_xs1 g (br_f th_10 (Exists.intro 24 ?_))
    have x := rs_xz (E := E) (F := F) (P := P) (N := N) (C := C) (RC := RC) (RP := RP) (RF := RF) (RO := RO) (post := fun r u' => wpY_restore (fun r' v' => r' = r ∧ i_Rel (k + 4) u' v') (E, F, P, N, C, M, YP, YF, YC, YN) (nI s)) (x := nI s) (Exists.intro (n + 1) (hX _ ?_)) 23 1 rfl (by omega)
    · rw [rs_z1] at x; exact x
    · unfold wpY_restore
      refine th_ys1 g (br_t rfl (Exists.intro 24 ?_))
      have y := rs_yz (E := E) (F := F) (P := P) (N := N) (C := C) (M := M) (YP := YP) (YF := YF) (YC := YC) (YN := YN) (post := fun r' v' => r' = nI n ∧ i_Rel (k + 4) (E', F', P', N', C', RC, RP, RF, RO) v') (x := nI s) (Exists.intro (n + 1) (hY _ ⟨rfl, th_rel T' Sn⟩)) 23 1 rfl (by omega)
      rw [rs_z1] at y; exact y
  · exact th_xs0 g (br_t rfl (th_ys0 g (br_f th_10 ⟨rfl, th_rel T Sn⟩)))
