theorem tt_rs_r {n : Nat} {p : Nat → Nat} {T D H TS OC TR : Nat → Int32} {g : Int32} (i : Nat) : tt_rs n p T D H TS OC TR g i = 0 ∨ tt_rs n p T D H TS OC TR g i = 1 ∨ tt_rs n p T D H TS OC TR g i = 2 ∨ tt_rs n p T D H TS OC TR g i = 3 := by
  by_cases G : tt_Go n p T D H TS g i
  · by_cases t : T i = 0
    · rw [tt_rs_c t G]; exact Or.inr (tt_g_rg _)
    · rw [tt_rs_t t G]; exact Or.inr (tt_lp_r (fun i => tt_g_rg _) _ _ _ _ (Or.inr (Or.inl rfl)))
  · exact Or.inl (tt_rs_0 G)
theorem i_vc_run {k : Nat} {u : SX} {v : SY} (I : i_Rel k u v) (hk : k + 4 ≤ 2048) (v1 : Int32) : wpX_run (fun r u' => wpY_run (fun r' v' => r' = r ∧ i_Rel (k + 4) u' v') v v1) u v1 := by
  obtain ⟨nc, sd, P, T, D, H, AA, BO, TG, R, TD, AM, RE, WA, RC, WU⟩ := u
  obtain ⟨ns, T', PP, D', H', TR, OC, TS, RS, CA, MD⟩ := v
  obtain ⟨rfl, rfl, rfl, n, p, rfl, rfl, hT, hB, hR⟩ := I
  obtain ⟨h1, hn, hh, he, hm, ht0, hr⟩ := id hT
  have hq : ∀ i, 0 < i → i < n → T (p i) = 0 := fun i a b => (he i a b).2.2
  refine xx_run (TS := TS) (OC := OC) (TR := TR) ⟨hn, hh, fun i a b => (he i a b).1⟩ h1 hq hr hB ?_
  intro R2 AM2 TD2 RE2 WA2 RC2 WU2 hx
  refine yy_run ⟨hn, hh, fun i a b => (he i a b).2.1, hm⟩ hq (fun t ht tt => ?_) ?_
  · obtain ⟨_, K, k1, _, k3, _⟩ := hB.1 t ht tt
    exact ⟨K, k1, k3⟩
  · intro RS2 MD2 CA2 a b c
    have eR : ∀ i, i < 24 → R2 i = RS2 i := fun i hi => (hx.1 i hi).trans (a i hi).symm
    have eT : ∀ s, s < 96 → TD2 s = CA2 s := by
      intro s hs
      have e : s = s / 4 * 4 + s % 4 := by omega
      rw [e]
      exact (hx.2.2.1 _ _ (by omega) (by omega)).trans (c _ _ (by omega) (by omega)).symm
    refine ⟨tt_ct_c n (fun j hj => (eR j (by omega)).symm), rfl, rfl, rfl, n, p, rfl, rfl, hT, hB, fun i hi => ⟨eR i hi, (hx.2.1 i hi).trans (b i hi).symm, ?_⟩, eT, tt_S_c 96 eT⟩
    rw [a i hi]
    by_cases q : i < n
    · rw [if_pos q]; exact tt_rs_r i
    · rw [if_neg q]; exact Or.inl rfl
