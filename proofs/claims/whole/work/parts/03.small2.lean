theorem tt_rg {x : Int32} (h : ¬ x < 0) (h3 : x ≤ 3) : x = 0 ∨ x = 1 ∨ x = 2 ∨ x = 3 := by
  obtain ⟨j, hj, rfl⟩ := nI_of2 (n := 3) (M := 3) (by decide) h h3
  have : j = 0 ∨ j = 1 ∨ j = 2 ∨ j = 3 := by omega
  rcases this with rfl | rfl | rfl | rfl
  · exact Or.inl rfl
  · exact Or.inr (Or.inl rfl)
  · exact Or.inr (Or.inr (Or.inl rfl))
  · exact Or.inr (Or.inr (Or.inr rfl))
theorem tt_Tr_h {n s : Nat} {p : Nat → Nat} {T H P PP : Nat → Int32} {x : Int32} (h : tt_Tr n p T H P PP) (hx : x = 0 ∨ x = 1 ∨ x = 2 ∨ x = 3) : tt_Tr n p T (upd H s x) P PP := by
  obtain ⟨a, b, hp, e, z, t0, hr⟩ := h
  refine ⟨a, b, hp, e, z, t0, fun q => ?_⟩
  by_cases c : q = s
  · rw [c, pk_us]; exact hx
  · rw [pk_un c]; exact hr q
theorem i_vc_hook {k : Nat} {u : SX} {v : SY} (I : i_Rel k u v) (hk : k + 4 ≤ 2048) (v1 : Int32) (v2 : Int32) (v3 : Int32) : wpX_hook (fun r u' => wpY_hook (fun r' v' => r' = r ∧ i_Rel (k + 4) u' v') v v1 v2 v3) u v1 v2 v3 := by
  obtain ⟨nc, sd, P, T, D, H, AA, BO, TG, R, TD, AM, RE, WA, RC, WU⟩ := u
  obtain ⟨ns, T', PP, D', H', TR, OC, TS, RS, CA, MD⟩ := v
  obtain ⟨rfl, rfl, rfl, n, p, rfl, rfl, hT, hB, hR⟩ := I
  have hn := hT.2.1
  have K : i_Rel (k + 4) (nI n, sd, P, T, D, H, AA, BO, TG, R, TD, AM, RE, WA, RC, WU) (nI n, T, PP, D, H, TR, OC, TS, RS, CA, MD) := ⟨rfl, rfl, rfl, n, p, rfl, rfl, hT, hB, hR⟩
  unfold wpX_hook wpY_hook; dsimp only
  rcases tt_ix v1 (n := n) (by omega) with h | ⟨j, hj, rfl⟩
  · exact xx_cno h (br_t rfl (yy_no h (br_f (by decide) ⟨rfl, K⟩)))
  · have hv : vp_in (nI j) 24 := vp_in_nI (by omega) (by omega)
    by_cases t : T j = 0
    · have t' : T (nI j).toNatClampNeg = 0 := by rw [tt_at T (by omega)]; exact t
      refine xx_c1 hj hn t (br_f (by decide) ?_)
      rcases tt_ix v2 (n := 4) (by omega) with h | ⟨w, hw, rfl⟩
      · refine xx_hk0 h (br_t rfl (yy_yes hj hn (br_t rfl ⟨hv, br_t t' ?_⟩)))
        by_cases h0 : v2 < 0
        · exact br_t h0 ⟨rfl, K⟩
        · refine br_f h0 (br_t ?_ ⟨rfl, K⟩)
          have h4 := h.resolve_left h0
          exact Int32.lt_of_lt_of_le (by decide) h4
      · have w0 : ¬ nI w < 0 := nI_pos (by omega)
        have w3 : ¬ 3 < nI w := nI_nlt (a := 3) (b := w) (by omega) (by omega)
        refine xx_hk1 hw (br_f (by decide) ?_)
        have hs : vp_in (nI (j * 4 + w)) 96 := vp_in_nI (by omega) (by omega)
        by_cases o0 : v3 < 0
        · exact br_t o0 (yy_yes hj hn (br_t rfl ⟨hv, br_t t' (br_f w0 (br_f w3 (br_t o0 ⟨rfl, K⟩)))⟩))
        · by_cases o3 : v3 ≤ 3
          · refine br_f o0 (br_t o3 (nm_r (tt_sl j w) ⟨hs, nm_r (tt_at H (by omega)) ⟨hs, nm_r (tt_un H _ (by omega)) ?_⟩⟩))
            refine yy_yes hj hn (br_t rfl ⟨hv, br_t t' (br_f w0 (br_f w3 (br_f o0 (br_t o3 ?_))))⟩)
            rw [tt_sl]
            exact ⟨hs, nm_r (tt_at H (by omega)) ⟨hs, nm_r (tt_un H _ (by omega)) ⟨rfl, rfl, rfl, rfl, n, p, rfl, rfl, tt_Tr_h hT (tt_rg o0 o3), hB, hR⟩⟩⟩
          · exact br_f o0 (br_f o3 (yy_yes hj hn (br_t rfl ⟨hv, br_t t' (br_f w0 (br_f w3 (br_f o0 (br_f o3 ⟨rfl, K⟩))))⟩)))
    · have t' : ¬ T (nI j).toNatClampNeg = 0 := by rw [tt_at T (by omega)]; exact t
      exact xx_c0 hj hn t (br_t rfl (yy_yes hj hn (br_t rfl ⟨hv, br_f t' ⟨rfl, K⟩⟩)))
theorem tt_Bd_b {n j : Nat} {T AA BO TG TR OC TS : Nat → Int32} {x y : Int32} (h : tt_Bd n T AA BO TG TR OC TS) (hj : j < n) (hx : ¬ x < 1) : tt_Bd n T (upd AA j x) (upd BO j y) TG (upd TR j x) (upd OC j y) TS := by
  refine ⟨fun i hi hT => ?_, fun i hi => by rw [pk_un (by omega)]; exact h.2 i hi⟩
  obtain ⟨e, k, hk, a, b, c⟩ := h.1 i hi hT
  by_cases q : i = j
  · subst q
    have x0 : ¬ x < 0 := fun z => hx (Int32.lt_trans z (by decide))
    obtain ⟨m, hm, rfl⟩ := nI_of x0
    rw [pk_us, pk_us]
    refine ⟨e, m, hm, rfl, rfl, fun z _ => ?_⟩
    rw [tt_own_us, tt_own_us]; exact ⟨Iff.rfl, Iff.rfl⟩
  · rw [pk_un q, pk_un q]
    refine ⟨e, k, hk, a, b, fun z hz => ?_⟩
    rw [tt_own_u q, tt_own_u q]; exact c z hz
theorem i_vc_body {k : Nat} {u : SX} {v : SY} (I : i_Rel k u v) (hk : k + 4 ≤ 2048) (v1 : Int32) (v2 : Int32) (v3 : Int32) : wpX_body (fun r u' => wpY_body (fun r' v' => r' = r ∧ i_Rel (k + 4) u' v') v v1 v2 v3) u v1 v2 v3 := by
  obtain ⟨nc, sd, P, T, D, H, AA, BO, TG, R, TD, AM, RE, WA, RC, WU⟩ := u
  obtain ⟨ns, T', PP, D', H', TR, OC, TS, RS, CA, MD⟩ := v
  obtain ⟨rfl, rfl, rfl, n, p, rfl, rfl, hT, hB, hR⟩ := I
  have hn := hT.2.1
  have K : i_Rel (k + 4) (nI n, sd, P, T, D, H, AA, BO, TG, R, TD, AM, RE, WA, RC, WU) (nI n, T, PP, D, H, TR, OC, TS, RS, CA, MD) := ⟨rfl, rfl, rfl, n, p, rfl, rfl, hT, hB, hR⟩
  unfold wpX_body wpY_body; dsimp only
  rcases tt_ix v1 (n := n) (by omega) with h | ⟨j, hj, rfl⟩
  · exact xx_tno h (br_t rfl (yy_no h (br_f (by decide) ⟨rfl, K⟩)))
  · have hv : vp_in (nI j) 24 := vp_in_nI (by omega) (by omega)
    by_cases t : T j = 0
    · have t' : T (nI j).toNatClampNeg = 0 := by rw [tt_at T (by omega)]; exact t
      exact xx_t0 hj hn t (br_t rfl (yy_yes hj hn (br_t rfl ⟨hv, br_t t' ⟨rfl, K⟩⟩)))
    · have t' : ¬ T (nI j).toNatClampNeg = 0 := by rw [tt_at T (by omega)]; exact t
      refine xx_t1 hj hn t (br_f (by decide) ?_)
      by_cases o0 : v2 < 1
      · exact br_t o0 (yy_yes hj hn (br_t rfl ⟨hv, br_f t' (br_t o0 ⟨rfl, K⟩)⟩))
      · by_cases o3 : v2 ≤ 4
        · refine br_f o0 (br_t o3 ⟨hv, nm_r (tt_un AA _ (by omega)) ⟨hv, nm_r (tt_un BO _ (by omega)) ?_⟩⟩)
          exact yy_yes hj hn (br_t rfl ⟨hv, br_f t' (br_f o0 (br_t o3 ⟨hv, nm_r (tt_un TR _ (by omega)) ⟨hv, nm_r (tt_un OC _ (by omega)) ⟨rfl, rfl, rfl, rfl, n, p, rfl, rfl, hT, tt_Bd_b hB hj o0, hR⟩⟩⟩))⟩)
        · exact br_f o0 (br_f o3 (yy_yes hj hn (br_t rfl ⟨hv, br_f t' (br_f o0 (br_f o3 ⟨rfl, K⟩))⟩)))
theorem tt_Bd_g {n j : Nat} {T AA BO TG TR OC TS : Nat → Int32} {x : Int32} (h : tt_Bd n T AA BO TG TR OC TS) : tt_Bd n T AA BO (upd TG j x) TR OC (upd TS j x) := by
  refine ⟨fun i hi hT => ?_, h.2⟩
  obtain ⟨e, r⟩ := h.1 i hi hT
  refine ⟨?_, r⟩
  by_cases q : i = j
  · subst q; rw [pk_us, pk_us]
  · rw [pk_un q, pk_un q]; exact e
theorem i_vc_tags {k : Nat} {u : SX} {v : SY} (I : i_Rel k u v) (hk : k + 4 ≤ 2048) (v1 : Int32) (v2 : Int32) : wpX_tags (fun r u' => wpY_tags (fun r' v' => r' = r ∧ i_Rel (k + 4) u' v') v v1 v2) u v1 v2 := by
  obtain ⟨nc, sd, P, T, D, H, AA, BO, TG, R, TD, AM, RE, WA, RC, WU⟩ := u
  obtain ⟨ns, T', PP, D', H', TR, OC, TS, RS, CA, MD⟩ := v
  obtain ⟨rfl, rfl, rfl, n, p, rfl, rfl, hT, hB, hR⟩ := I
  have hn := hT.2.1
  have K : i_Rel (k + 4) (nI n, sd, P, T, D, H, AA, BO, TG, R, TD, AM, RE, WA, RC, WU) (nI n, T, PP, D, H, TR, OC, TS, RS, CA, MD) := ⟨rfl, rfl, rfl, n, p, rfl, rfl, hT, hB, hR⟩
  unfold wpX_tags wpY_tags; dsimp only
  rcases tt_ix v1 (n := n) (by omega) with h | ⟨j, hj, rfl⟩
  · exact xx_tno h (br_t rfl (yy_no h (br_f (by decide) ⟨rfl, K⟩)))
  · have hv : vp_in (nI j) 24 := vp_in_nI (by omega) (by omega)
    by_cases t : T j = 0
    · have t' : T (nI j).toNatClampNeg = 0 := by rw [tt_at T (by omega)]; exact t
      exact xx_t0 hj hn t (br_t rfl (yy_yes hj hn (br_t rfl ⟨hv, br_t t' ⟨rfl, K⟩⟩)))
    · have t' : ¬ T (nI j).toNatClampNeg = 0 := by rw [tt_at T (by omega)]; exact t
      exact xx_t1 hj hn t (br_f (by decide) ⟨hv, nm_r (tt_un TG _ (by omega)) (yy_yes hj hn (br_t rfl ⟨hv, br_f t' ⟨hv, nm_r (tt_un TS _ (by omega)) ⟨rfl, rfl, rfl, rfl, n, p, rfl, rfl, hT, tt_Bd_g hB, hR⟩⟩⟩))⟩)
theorem i_vc_disable {k : Nat} {u : SX} {v : SY} (I : i_Rel k u v) (hk : k + 4 ≤ 2048) (v1 : Int32) (v2 : Int32) : wpX_disable (fun r u' => wpY_disable (fun r' v' => r' = r ∧ i_Rel (k + 4) u' v') v v1 (lw_bz v2)) u v1 (lw_bz v2) := by
  obtain ⟨nc, sd, P, T, D, H, AA, BO, TG, R, TD, AM, RE, WA, RC, WU⟩ := u
  obtain ⟨ns, T', PP, D', H', TR, OC, TS, RS, CA, MD⟩ := v
  obtain ⟨rfl, rfl, rfl, n, p, rfl, rfl, hT, hB, hR⟩ := I
  have hn := hT.2.1
  unfold wpX_disable wpY_disable; dsimp only
  rcases tt_ix v1 (n := n) (by omega) with h | ⟨j, hj, rfl⟩
  · exact xx_no h (br_t rfl (yy_no h (br_f (by decide) ⟨rfl, rfl, rfl, rfl, n, p, rfl, rfl, hT, hB, hR⟩)))
  · have hv : vp_in (nI j) 24 := vp_in_nI (by omega) (by omega)
    by_cases t : D (nI j).toNatClampNeg = 0
    · exact xx_yes hj hn (br_f (by decide) ⟨hv, br_t t ⟨hv, nm_e (yy_yes hj hn (br_t rfl ⟨hv, br_t t ⟨hv, nm_e ⟨rfl, rfl, rfl, rfl, n, p, rfl, rfl, hT, hB, hR⟩⟩⟩))⟩⟩)
    · exact xx_yes hj hn (br_f (by decide) ⟨hv, br_f t ⟨hv, nm_e (yy_yes hj hn (br_t rfl ⟨hv, br_f t ⟨hv, nm_e ⟨rfl, rfl, rfl, rfl, n, p, rfl, rfl, hT, hB, hR⟩⟩⟩))⟩⟩)
theorem i_vc_result {k : Nat} {u : SX} {v : SY} (I : i_Rel k u v) (hk : k + 4 ≤ 2048) (v1 : Int32) : wpX_result (fun r => wpY_result (fun r' => r' = r ∧ i_Rel (k + 4) u v) v v1) u v1 := by
  have K : i_Rel (k + 4) u v := I
  obtain ⟨nc, sd, P, T, D, H, AA, BO, TG, R, TD, AM, RE, WA, RC, WU⟩ := u
  obtain ⟨ns, T', PP, D', H', TR, OC, TS, RS, CA, MD⟩ := v
  obtain ⟨rfl, rfl, rfl, n, p, rfl, rfl, hT, hB, hR⟩ := I
  have hn := hT.2.1
  unfold wpX_result wpY_result; dsimp only
  rcases tt_ix v1 (n := n) (by omega) with h | ⟨j, hj, rfl⟩
  · exact xx_no h (br_t rfl (yy_no h (br_f (by decide) ⟨rfl, K⟩)))
  · have hv : vp_in (nI j) 24 := vp_in_nI (by omega) (by omega)
    refine xx_yes hj hn (br_f (by decide) ⟨hv, yy_yes hj hn (br_t rfl ⟨hv, ?_, K⟩)⟩)
    rw [tt_at R (by omega), tt_at RS (by omega)]; exact (hR.1 j (by omega)).1.symm
theorem i_vc_attempts {k : Nat} {u : SX} {v : SY} (I : i_Rel k u v) (hk : k + 4 ≤ 2048) (v1 : Int32) : wpX_attempts (fun r => wpY_attempts (fun r' => r' = r ∧ i_Rel (k + 4) u v) v v1) u v1 := by
  have K : i_Rel (k + 4) u v := I
  obtain ⟨nc, sd, P, T, D, H, AA, BO, TG, R, TD, AM, RE, WA, RC, WU⟩ := u
  obtain ⟨ns, T', PP, D', H', TR, OC, TS, RS, CA, MD⟩ := v
  obtain ⟨rfl, rfl, rfl, n, p, rfl, rfl, hT, hB, hR⟩ := I
  have hn := hT.2.1
  unfold wpX_attempts wpY_attempts; dsimp only
  rcases tt_ix v1 (n := n) (by omega) with h | ⟨j, hj, rfl⟩
  · exact xx_no h (br_t rfl (yy_no h (br_f (by decide) ⟨rfl, K⟩)))
  · have hv : vp_in (nI j) 24 := vp_in_nI (by omega) (by omega)
    refine xx_yes hj hn (br_f (by decide) ⟨hv, yy_yes hj hn (br_t rfl ⟨hv, ?_, K⟩)⟩)
    rw [tt_at AM (by omega), tt_at MD (by omega)]; exact (hR.1 j (by omega)).2.1.symm
theorem i_vc_times {k : Nat} {u : SX} {v : SY} (I : i_Rel k u v) (hk : k + 4 ≤ 2048) (v1 : Int32) (v2 : Int32) : wpX_times (fun r => wpY_times (fun r' => r' = r ∧ i_Rel (k + 4) u v) v v1 v2) u v1 v2 := by
  have K : i_Rel (k + 4) u v := I
  obtain ⟨nc, sd, P, T, D, H, AA, BO, TG, R, TD, AM, RE, WA, RC, WU⟩ := u
  obtain ⟨ns, T', PP, D', H', TR, OC, TS, RS, CA, MD⟩ := v
  obtain ⟨rfl, rfl, rfl, n, p, rfl, rfl, hT, hB, hR⟩ := I
  have hn := hT.2.1
  unfold wpX_times wpY_times; dsimp only
  rcases tt_ix v1 (n := n) (by omega) with h | ⟨j, hj, rfl⟩
  · exact xx_no h (br_t rfl (yy_no h (br_f (by decide) ⟨rfl, K⟩)))
  · refine xx_yes hj hn (br_f (by decide) ?_)
    rcases tt_ix v2 (n := 4) (by omega) with h | ⟨w, hw, rfl⟩
    · refine xx_hk0 h (br_t rfl (yy_yes hj hn (br_t rfl ?_)))
      by_cases h0 : v2 < 0
      · exact br_t h0 ⟨rfl, K⟩
      · refine br_f h0 (br_f ?_ ⟨rfl, K⟩)
        have h4 := h.resolve_left h0
        exact Int32.not_le.mpr (Int32.lt_of_lt_of_le (by decide) h4)
    · have w0 : ¬ nI w < 0 := nI_pos (by omega)
      have w3 : nI w ≤ 3 := nI_le (a := w) (b := 3) (by omega) (by omega)
      have hs : vp_in (nI (j * 4 + w)) 96 := vp_in_nI (by omega) (by omega)
      refine xx_hk1 hw (br_f (by decide) ?_)
      rw [tt_sl]
      refine ⟨hs, yy_yes hj hn (br_t rfl (br_f w0 (br_t w3 ?_)))⟩
      refine ⟨hs, ?_, K⟩
      rw [tt_at TD (by omega), tt_at CA (by omega)]; exact (hR.2.1 _ (by omega)).symm
def tt_ct (T R : Nat → Int32) (x : Int32) : Nat → Int32
  | 0 => 0
  | i + 1 => if T i = 0 then tt_ct T R x i else if R i = x then tt_ct T R x i + 1 else tt_ct T R x i
theorem tt_ct_c {T R R' : Nat → Int32} {x : Int32} : ∀ i, (∀ j, j < i → R j = R' j) → tt_ct T R x i = tt_ct T R' x i
  | 0, _ => rfl
  | i + 1, e => by
    show (if T i = 0 then tt_ct T R x i else if R i = x then tt_ct T R x i + 1 else tt_ct T R x i) = (if T i = 0 then tt_ct T R' x i else if R' i = x then tt_ct T R' x i + 1 else tt_ct T R' x i)
    rw [tt_ct_c i (fun j hj => e j (by omega)), e i (by omega)]
theorem tt_ct_t {T R : Nat → Int32} {x : Int32} {i : Nat} (h : T i = 0) : tt_ct T R x (i + 1) = tt_ct T R x i := if_pos h
theorem tt_ct_y {T R : Nat → Int32} {x : Int32} {i : Nat} (h : ¬ T i = 0) (h2 : R i = x) : tt_ct T R x (i + 1) = tt_ct T R x i + 1 := (if_neg h).trans (if_pos h2)
theorem tt_ct_n {T R : Nat → Int32} {x : Int32} {i : Nat} (h : ¬ T i = 0) (h2 : ¬ R i = x) : tt_ct T R x (i + 1) = tt_ct T R x i := (if_neg h).trans (if_neg h2)
theorem tt_ct_z {T R : Nat → Int32} {x : Int32} : ∀ i, (∀ j, j < i → ¬ R j = x) → tt_ct T R x i = 0
  | 0, _ => rfl
  | i + 1, e => by
    by_cases h : T i = 0
    · rw [tt_ct_t h]; exact tt_ct_z i (fun j hj => e j (by omega))
    · rw [tt_ct_n h (e i (by omega))]; exact tt_ct_z i (fun j hj => e j (by omega))
theorem xx_tw {post : Int32 → Prop} {sd : Int32} {P T D H AA BO TG R TD AM RE WA RC WU : Nat → Int32} {n : Nat} (hn : n ≤ 24) (x : Int32) (hp : post (tt_ct T R x n)) : ∀ d i a, i + d = n → a = tt_ct T R x i → wX_testsWith_4 post x (nI n) sd P T D H AA BO TG R TD AM RE WA RC WU (d + 1) a (nI i) := by
  intro d
  induction d with
  | zero =>
    intro i a hi ha
    have hi' : i = n := by omega
    subst hi'
    exact br_t (nI_le (by omega) (by omega)) (ha ▸ hp)
  | succ d ih =>
    intro i a hi ha
    have hv : vp_in (nI i) 24 := vp_in_nI (by omega) (by omega)
    refine br_f (nI_ge (by omega) (by omega)) ⟨hv, ?_⟩
    rw [tt_at T (by omega)]
    by_cases t : T i = 0
    · exact br_t t (nm_r (nI_1 i) (ih (i + 1) a (by omega) (ha.trans (tt_ct_t t).symm)))
    · refine br_f t ⟨hv, ?_⟩
      rw [tt_at R (by omega)]
      by_cases r : R i = x
      · exact br_t r (nm_r (by rw [ha]; exact (tt_ct_y t r).symm) (nm_r (nI_1 i) (ih (i + 1) _ (by omega) rfl)))
      · exact br_f r (nm_r (nI_1 i) (ih (i + 1) a (by omega) (ha.trans (tt_ct_n t r).symm)))
theorem xx_testsWith {post : Int32 → Prop} {sd : Int32} {P T D H AA BO TG R TD AM RE WA RC WU : Nat → Int32} {n : Nat} (hn : n ≤ 24) (x : Int32) (hp : post (tt_ct T R x n)) : wpX_testsWith post (nI n, sd, P, T, D, H, AA, BO, TG, R, TD, AM, RE, WA, RC, WU) x :=
  ⟨_, xx_tw hn x hp n 0 0 (by omega) rfl⟩
theorem yy_cw {post : Int32 → Prop} {T PP D H TR OC TS RS CA MD : Nat → Int32} {n : Nat} (hn : n ≤ 24) (x : Int32) (hx : ¬ x = 0) (hp : post (tt_ct T RS x n)) : ∀ d i a, i + d = n → a = tt_ct T RS x i → wY_count_4 post x (nI n) T PP D H TR OC TS RS CA MD (d + 1) a (nI i) := by
  intro d
  induction d with
  | zero =>
    intro i a hi ha
    have hi' : i = n := by omega
    subst hi'
    exact br_t (nI_le (by omega) (by omega)) (ha ▸ hp)
  | succ d ih =>
    intro i a hi ha
    have hv : vp_in (nI i) 24 := vp_in_nI (by omega) (by omega)
    refine br_f (nI_ge (by omega) (by omega)) ⟨hv, ?_⟩
    rw [tt_at T (by omega)]
    by_cases t : T i = 0
    · exact br_t t (nm_r (nI_1 i) (ih (i + 1) a (by omega) (ha.trans (tt_ct_t t).symm)))
    · refine br_f t ⟨hv, ?_⟩
      rw [tt_at RS (by omega)]
      by_cases r : RS i = x
      · exact br_t r (br_f hx (nm_r (by rw [ha]; exact (tt_ct_y t r).symm) (nm_r (nI_1 i) (ih (i + 1) _ (by omega) rfl))))
      · exact br_f r (nm_r (nI_1 i) (ih (i + 1) a (by omega) (ha.trans (tt_ct_n t r).symm)))
theorem yy_count {post : Int32 → Prop} {T PP D H TR OC TS RS CA MD : Nat → Int32} {n : Nat} (hn : n ≤ 24) (x : Int32) (hx : ¬ x = 0) (hp : post (tt_ct T RS x n)) : wpY_count post (nI n, T, PP, D, H, TR, OC, TS, RS, CA, MD) x :=
  ⟨_, yy_cw hn x hx hp n 0 0 (by omega) rfl⟩
theorem yy_cz {post : Int32 → Prop} {T PP D H TR OC TS RS CA MD : Nat → Int32} {n : Nat} (hn : n ≤ 24) (hp : post 0) : ∀ d i, i + d = n → wY_count_4 post 0 (nI n) T PP D H TR OC TS RS CA MD (d + 1) 0 (nI i) := by
  intro d
  induction d with
  | zero =>
    intro i hi
    have hi' : i = n := by omega
    subst hi'
    exact br_t (nI_le (by omega) (by omega)) hp
  | succ d ih =>
    intro i hi
    have hv : vp_in (nI i) 24 := vp_in_nI (by omega) (by omega)
    refine br_f (nI_ge (by omega) (by omega)) ⟨hv, br_c (fun _ => nm_r (nI_1 i) (ih (i + 1) (by omega))) (fun _ => ⟨hv, br_c (fun _ => br_t rfl (nm_r (nI_1 i) (ih (i + 1) (by omega)))) (fun _ => nm_r (nI_1 i) (ih (i + 1) (by omega)))⟩)⟩
theorem i_vc_count {k : Nat} {u : SX} {v : SY} (I : i_Rel k u v) (hk : k + 4 ≤ 2048) (v1 : Int32) : wpX_count (fun r => wpY_count (fun r' => r' = r ∧ i_Rel (k + 4) u v) v v1) u v1 := by
  have K : i_Rel (k + 4) u v := I
  obtain ⟨nc, sd, P, T, D, H, AA, BO, TG, R, TD, AM, RE, WA, RC, WU⟩ := u
  obtain ⟨ns, T', PP, D', H', TR, OC, TS, RS, CA, MD⟩ := v
  obtain ⟨rfl, rfl, rfl, n, p, rfl, rfl, hT, hB, hR⟩ := I
  have hn := hT.2.1
  unfold wpX_count; dsimp only
  by_cases z : v1 = 0
  · subst z
    exact br_t (by decide) ⟨_, yy_cz hn ⟨rfl, K⟩ n 0 (by omega)⟩
  · by_cases h1 : v1 < 1
    · refine br_t h1 (yy_count hn v1 z ⟨tt_ct_z n (fun j hj e => ?_), K⟩)
      rw [← e] at h1 z
      rcases (hR.1 j (by omega)).2.2 with q | q | q | q <;> rw [q] at h1 z <;> revert h1 z <;> decide
    · by_cases h3 : v1 ≤ 3
      · exact br_f h1 (br_t h3 (xx_testsWith hn v1 (yy_count hn v1 z ⟨tt_ct_c n (fun j hj => (hR.1 j (by omega)).1.symm), K⟩)))
      · refine br_f h1 (br_f h3 (yy_count hn v1 z ⟨tt_ct_z n (fun j hj e => ?_), K⟩))
        rw [← e] at h3
        rcases (hR.1 j (by omega)).2.2 with q | q | q | q <;> rw [q] at h3 <;> revert h3 <;> decide
theorem yy_st {post : Int32 → Prop} {ns : Int32} {T PP D H TR OC TS RS CA MD : Nat → Int32} (hp : post (tt_S CA 96)) : ∀ d i, i + d = 96 → wY_steps_4 post ns T PP D H TR OC TS RS CA MD (d + 1) (tt_S CA i) (nI i) := by
  intro d
  induction d with
  | zero =>
    intro i hi
    have hi' : i = 96 := by omega
    subst hi'
    exact br_t (by decide) hp
  | succ d ih =>
    intro i hi
    have hv : vp_in (nI i) 96 := vp_in_nI (by omega) (by omega)
    refine br_f (nI_ge (b := 96) (by omega) (by omega)) ⟨hv, nm_r (e' := tt_S CA (i + 1)) (by rw [tt_at CA (by omega)]; rfl) (nm_r (nI_1 i) (ih (i + 1) (by omega)))⟩
theorem i_vc_steps {k : Nat} {u : SX} {v : SY} (I : i_Rel k u v) (hk : k + 4 ≤ 2048) : wpX_steps (fun r => wpY_steps (fun r' => r' = r ∧ i_Rel (k + 4) u v) v) u := by
  have K : i_Rel (k + 4) u v := I
  obtain ⟨nc, sd, P, T, D, H, AA, BO, TG, R, TD, AM, RE, WA, RC, WU⟩ := u
  obtain ⟨ns, T', PP, D', H', TR, OC, TS, RS, CA, MD⟩ := v
  obtain ⟨rfl, rfl, rfl, n, p, rfl, rfl, hT, hB, hR⟩ := I
  exact ⟨_, yy_st ⟨hR.2.2.symm, K⟩ 96 0 (by omega)⟩
