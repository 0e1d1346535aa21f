def tt_cn (TD0 : Nat → Int32) (F : Nat → Nat → Prop) (TD : Nat → Int32) : Prop := ∀ c w, w < 4 → TD (c * 4 + w) = TD0 (c * 4 + w) + tt_b (F c w)
theorem tt_cn_c {TD0 TD : Nat → Int32} {F F' : Nat → Nat → Prop} (e : ∀ c w, w < 4 → (F c w ↔ F' c w)) (h : tt_cn TD0 F TD) : tt_cn TD0 F' TD :=
  fun c w hw => by rw [h c w hw, tt_bc (e c w hw)]
theorem tt_cn_s {TD0 TD TD' : Nat → Int32} {F : Nat → Nat → Prop} {c w : Nat} {Q : Prop} (hF : ¬ F c w) (h : tt_cn TD0 F TD) (h' : ∀ c' w', w' < 4 → TD' (c' * 4 + w') = TD (c' * 4 + w') + tt_b (c' = c ∧ w' = w ∧ Q)) : tt_cn TD0 (fun c' w' => F c' w' ∨ (c' = c ∧ w' = w ∧ Q)) TD' := by
  intro c' w' hw'
  show _ = _ + tt_b (F c' w' ∨ (c' = c ∧ w' = w ∧ Q))
  rw [h' c' w' hw', h c' w' hw', tt_bor, Int32.add_assoc]
  rintro a ⟨rfl, rfl, _⟩
  exact hF a
def tt_V1 (p : Nat → Nat) (H : Nat → Int32) (x : Nat) (o : Int32) : Prop := ∃ c, tt_Ab p c x ∧ H (c * 4 + 2) = o
def tt_F1 (p : Nat → Nat) (H : Nat → Int32) (x : Nat) (c w : Nat) : Prop := w = 2 ∧ tt_Ab p c x ∧ ¬ H (c * 4 + 2) = 0
theorem tt_le1 {x : Int32} (hr : x = 0 ∨ x = 1 ∨ x = 2 ∨ x = 3) (h2 : ¬ x = 2) (h3 : ¬ x = 3) : x ≤ 1 := by
  rcases hr with e | e | e | e
  · rw [e]; decide
  · rw [e]; decide
  · exact absurd e h2
  · exact absurd e h3
theorem tt_nle1 {x : Int32} (h : x = 2 ∨ x = 3) : ¬ x ≤ 1 := by
  rcases h with e | e <;> rw [e] <;> decide
theorem tt_V1_pa {p : Nat → Nat} {H : Nat → Int32} {x : Nat} (hr : ∀ s, H s = 0 ∨ H s = 1 ∨ H s = 2 ∨ H s = 3) (h : tt_g (tt_V1 p H x) = 1) : tt_Pa p H 2 x := by
  obtain ⟨h2, h3⟩ := tt_g_eq1 h
  exact fun c hc => tt_le1 (hr _) (fun e => h2 ⟨c, hc, e⟩) (fun e => h3 ⟨c, hc, e⟩)
theorem xx_ma6 {post : Int32 → SX → Prop} {nc : Int32} {P T D H AA BO TG R AM RE WA RC WU : Nat → Int32} {n : Nat} {p : Nat → Nat} (hn : n ≤ 24) (hh : tt_Hp p) (hr : ∀ s, H s = 0 ∨ H s = 1 ∨ H s = 2 ∨ H s = 3) {t len : Nat} {x1 x2 : Int32} (hl : len < 24) (hW : tt_way n p t len WU) {TD0 : Nat → Int32}
  (hE : ∀ (r : Nat) (TD : Nat → Int32), r ≤ len → (∀ c, tt_Ab p c (tt_q p t r) → tt_Pa p H 2 c) → (r = 0 ∨ ¬ tt_g (tt_V1 p H (tt_q p t r)) = 1) → tt_cn TD0 (tt_F1 p H (tt_q p t r)) TD → wX_makeAttempt_46 post x1 x2 (nI len) (tt_g (tt_V1 p H (tt_q p t r))) (nI r) nc (tt_S TD 96) P T D H AA BO TG R TD AM RE WA RC WU) :
  ∀ k x4 (TD : Nat → Int32), k ≤ len → x4 = tt_g (tt_V1 p H (tt_q p t k)) → (∀ c, tt_Ab p c (tt_q p t k) → tt_Pa p H 2 c) → tt_cn TD0 (tt_F1 p H (tt_q p t k)) TD → wX_makeAttempt_6 post x1 x2 (nI len) (k + 1) x4 (nI k) nc (tt_S TD 96) P T D H AA BO TG R TD AM RE WA RC WU := by
  intro k
  induction k with
  | zero =>
    intro x4 TD hk hx hP hc
    subst hx
    exact br_t (by decide) (hE 0 TD hk hP (Or.inl rfl) hc)
  | succ k ih =>
    intro x4 TD hk hx hP hc
    subst hx
    refine br_f (nI_nle (by omega) (by omega)) ?_
    by_cases w1 : tt_g (tt_V1 p H (tt_q p t (k + 1))) = 1
    · obtain ⟨hw, hq0, hqn⟩ := hW k (by omega)
      have es : ∀ c, tt_Ab p c (tt_q p t k) ↔ tt_q p t (k + 1) = c ∨ tt_Ab p c (tt_q p t (k + 1)) := fun c => tt_Ab_s hh hq0
      refine br_t w1 (nm_r (pk_m1 k) ⟨vp_in_nI (by omega) (by omega), ?_⟩)
      rw [tt_at WU (by omega), hw]
      refine xx_hk (w := 2) (by omega) (by omega) (fun TD' hTD' => xx_worse ?_)
      refine ih _ TD' (by omega) ?_ ?_ ?_
      · rw [tt_gw]
        have ev : ∀ o, (tt_V1 p H (tt_q p t (k + 1)) o ∨ H (tt_q p t (k + 1) * 4 + 2) = o) ↔ tt_V1 p H (tt_q p t k) o := by
          intro o
          constructor
          · rintro (⟨c, a, b⟩ | b)
            · exact ⟨c, (es c).mpr (Or.inr a), b⟩
            · exact ⟨_, (es _).mpr (Or.inl rfl), b⟩
          · rintro ⟨c, a, b⟩
            rcases (es c).mp a with e | e
            · exact Or.inr (e ▸ b)
            · exact Or.inl ⟨c, e, b⟩
        exact tt_gc (ev 2) (ev 3)
      · intro c a
        rcases (es c).mp a with e | e
        · exact e ▸ tt_V1_pa hr w1
        · exact hP c e
      · refine tt_cn_c (fun c w hw4 => ?_) (tt_cn_s ?_ hc hTD')
        · constructor
          · rintro (⟨a, b, d⟩ | ⟨a, b, d⟩)
            · exact ⟨a, (es c).mpr (Or.inr b), d⟩
            · exact ⟨b, (es c).mpr (Or.inl a.symm), a ▸ d⟩
          · rintro ⟨a, b, d⟩
            rcases (es c).mp b with e | e
            · exact Or.inr ⟨e.symm, a, e ▸ d⟩
            · exact Or.inl ⟨a, e, d⟩
        · rintro ⟨_, a, _⟩
          have := tt_Ab_lt hh _ a; omega
    · exact br_f w1 (hE (k + 1) TD hk hP (Or.inr w1) hc)
theorem xx_ma64 {post : Int32 → SX → Prop} {nc : Int32} {P T D H AA BO TG R AM RE WA RC WU : Nat → Int32} {n : Nat} {p : Nat → Nat} (hn : n ≤ 24) (hh : tt_Hp p) {t len : Nat} (hl : len < 24) (hW : tt_way n p t len WU) (h0 : tt_q p t len = 0) {TD0 : Nat → Int32} :
  ∀ d j (V : Int32 → Prop) x4 (F : Nat → Nat → Prop) (TD : Nat → Int32), j + d = len → x4 = tt_g V → tt_cn TD0 F TD → (∀ c, tt_Ab p c (tt_q p t j) → ¬ F c 3) → (∀ TD : Nat → Int32, tt_cn TD0 (fun c w => F c w ∨ (w = 3 ∧ tt_Ab p c (tt_q p t j) ∧ ¬ H (c * 4 + 3) = 0)) TD → post (tt_g (fun o => V o ∨ ∃ c, tt_Ab p c (tt_q p t j) ∧ H (c * 4 + 3) = o)) (nc, tt_S TD 96, P, T, D, H, AA, BO, TG, R, TD, AM, RE, WA, RC, WU)) → wX_makeAttempt_64 post (nI len) (d + 1) x4 (nI j) nc (tt_S TD 96) P T D H AA BO TG R TD AM RE WA RC WU := by
  intro d
  induction d with
  | zero =>
    intro j V x4 F TD hj hx hc hF hp
    have e : j = len := by omega
    subst e
    subst hx
    have hq := hp TD (tt_cn_c (fun c w _ => ⟨Or.inl, fun z => z.elim id (fun y => absurd (h0 ▸ y.2.1) tt_Ab_0)⟩) hc)
    have eg : ∀ o, (V o ∨ ∃ c, tt_Ab p c (tt_q p t j) ∧ H (c * 4 + 3) = o) ↔ V o := fun o => ⟨fun z => z.elim id (fun ⟨c, a, _⟩ => absurd (h0 ▸ a) tt_Ab_0), Or.inl⟩
    rw [tt_gc (eg 2) (eg 3)] at hq
    exact br_t (nI_le (by omega) (by omega)) hq
  | succ d ih =>
    intro j V x4 F TD hj hx hc hF hp
    subst hx
    obtain ⟨hw, hq0, hqn⟩ := hW j (by omega)
    have es : ∀ c, tt_Ab p c (tt_q p t j) ↔ tt_q p t (j + 1) = c ∨ tt_Ab p c (tt_q p t (j + 1)) := fun c => tt_Ab_s hh hq0
    refine br_f (nI_ge (by omega) (by omega)) ⟨vp_in_nI (by omega) (by omega), ?_⟩
    rw [tt_at WU (by omega), hw]
    refine xx_hk (w := 3) (by omega) (by omega) (fun TD' hTD' => xx_worse (nm_r (nI_1 j) ?_))
    refine ih (j + 1) (fun o => V o ∨ H (tt_q p t (j + 1) * 4 + 3) = o) _ _ TD' (by omega) (tt_gw _ _) (tt_cn_s (hF _ ((es _).mpr (Or.inl rfl))) hc hTD') ?_ ?_
    · rintro c a (b | ⟨b, _⟩)
      · exact hF c ((es c).mpr (Or.inr a)) b
      · have := tt_Ab_lt hh _ a; omega
    · intro TD2 h2
      have hq := hp TD2 (tt_cn_c (fun c w _ => ?_) h2)
      · have eg : ∀ o, (V o ∨ ∃ c, tt_Ab p c (tt_q p t j) ∧ H (c * 4 + 3) = o) ↔ ((V o ∨ H (tt_q p t (j + 1) * 4 + 3) = o) ∨ ∃ c, tt_Ab p c (tt_q p t (j + 1)) ∧ H (c * 4 + 3) = o) := by
          intro o
          constructor
          · rintro (a | ⟨c, a, b⟩)
            · exact Or.inl (Or.inl a)
            · rcases (es c).mp a with e | e
              · exact Or.inl (Or.inr (e ▸ b))
              · exact Or.inr ⟨c, e, b⟩
          · rintro ((a | a) | ⟨c, a, b⟩)
            · exact Or.inl a
            · exact Or.inr ⟨_, (es _).mpr (Or.inl rfl), a⟩
            · exact Or.inr ⟨c, (es c).mpr (Or.inr a), b⟩
        rw [tt_gc (W := fun o => (V o ∨ H (tt_q p t (j + 1) * 4 + 3) = o) ∨ ∃ c, tt_Ab p c (tt_q p t (j + 1)) ∧ H (c * 4 + 3) = o) (eg 2) (eg 3)] at hq
        exact hq
      · constructor
        · rintro ((a | ⟨a, b, d⟩) | ⟨a, b, d⟩)
          · exact Or.inl a
          · exact Or.inr ⟨b, (es c).mpr (Or.inl a.symm), a ▸ d⟩
          · exact Or.inr ⟨a, (es c).mpr (Or.inr b), d⟩
        · rintro (a | ⟨a, b, d⟩)
          · exact Or.inl (Or.inl a)
          · rcases (es c).mp b with e | e
            · exact Or.inl (Or.inr ⟨e.symm, a, e ▸ d⟩)
            · exact Or.inr ⟨a, e, d⟩
theorem tt_q_ab {n : Nat} {p : Nat → Nat} (hh : tt_Hp p) {t len : Nat} {WU : Nat → Int32} (hW : tt_way n p t len WU) : ∀ k, k ≤ len → tt_q p t k = t ∨ tt_Ab p (tt_q p t k) t := by
  intro k
  induction k with
  | zero => intro _; exact Or.inl rfl
  | succ k ih =>
    intro hk
    obtain ⟨_, hq0, _⟩ := hW k (by omega)
    have a : tt_Ab p (tt_q p t (k + 1)) (tt_q p t k) := (tt_Ab_s hh hq0).mpr (Or.inl rfl)
    rcases ih (by omega) with e | e
    · rw [e] at a; exact Or.inr a
    · exact Or.inr (tt_Ab_tr hh a t e)
def tt_FF (p : Nat → Nat) (H : Nat → Int32) (t c w : Nat) : Prop := (w = 0 ∧ c = t ∧ tt_Pa p H 2 t) ∨ (2 ≤ w ∧ tt_Ab p c t ∧ tt_Pa p H 2 c ∧ ¬ H (c * 4 + w) = 0)
theorem xx_attempt {post : Int32 → SX → Prop} {nc : Int32} {P T D H AA BO TG R TD AM RE WA RC WU : Nat → Int32} {n : Nat} {p : Nat → Nat} (hn : n ≤ 24) (hh : tt_Hp p) (hr : ∀ s, H s = 0 ∨ H s = 1 ∨ H s = 2 ∨ H s = 3) {t len i : Nat} (ht : t < n) (hl : len < 24) (hW : tt_way n p t len WU) (h0 : tt_q p t len = 0)
  (hp : ∀ TD' : Nat → Int32, tt_cn TD (tt_FF p H t) TD' → post (tt_g (tt_Ha p H t (fun o => tt_own BO t i = o))) (nc, tt_S TD' 96, P, T, D, H, AA, BO, TG, R, TD', AM, RE, WA, RC, WU)) : wpX_makeAttempt post (nc, tt_S TD 96, P, T, D, H, AA, BO, TG, R, TD, AM, RE, WA, RC, WU) (nI t) (nI i) (nI len) := by
  have top : ∀ c, ¬ tt_Ab p c (tt_q p t len) := fun c a => absurd (h0 ▸ a) tt_Ab_0
  refine ⟨len + 1, xx_ma6 (TD0 := TD) hn hh hr hl hW ?_ len 1 TD (by omega) (tt_g1 (fun ⟨c, a, _⟩ => top c a) (fun ⟨c, a, _⟩ => top c a)).symm (fun c a => absurd a (top c)) (fun c w _ => by rw [tt_b0 (fun z => top c z.2.1), Int32.add_zero])⟩
  intro r TD1 hrl hPa hex hcn
  have abt : ∀ c, tt_Ab p c (tt_q p t r) → tt_Ab p c t := by
    intro c a
    rcases tt_q_ab hh hW r hrl with e | e
    · rw [e] at a; exact a
    · exact tt_Ab_tr hh a t e
  by_cases w1 : tt_g (tt_V1 p H (tt_q p t r)) = 1
  · have r0 : r = 0 := hex.resolve_right (fun z => z w1)
    subst r0
    have pa : tt_Pa p H 2 t := tt_V1_pa hr w1
    obtain ⟨v2, v3⟩ := tt_g_eq1 w1
    refine br_t w1 (xx_bd (by omega) (fun TD2 h2 => ⟨len + 1, xx_ma64 hn hh hl hW h0 len 0 _ _ _ TD2 (by omega) rfl (tt_cn_s (fun z => absurd z.1 (by omega)) hcn h2) ?_ ?_⟩))
    · rintro c a (⟨b, _⟩ | ⟨_, b, _⟩)
      · omega
      · omega
    · intro TD3 h3
      have hq := hp TD3 (tt_cn_c (fun c w hw => ?_) h3)
      · have eg : ∀ o, ¬ tt_V1 p H t o → (tt_Ha p H t (fun o => tt_own BO t i = o) o ↔ (tt_own BO t i = o ∨ ∃ c, tt_Ab p c (tt_q p t 0) ∧ H (c * 4 + 3) = o)) := by
          intro o no
          constructor
          · rintro (⟨c, a, b, d | d⟩ | ⟨a, b⟩)
            · exact absurd ⟨c, a, d⟩ no
            · exact Or.inr ⟨c, a, d⟩
            · exact Or.inl a
          · rintro (a | ⟨c, a, b⟩)
            · exact Or.inr ⟨a, pa⟩
            · exact Or.inl ⟨c, a, hPa c a, Or.inr b⟩
        rw [tt_gc (W := fun o => tt_own BO t i = o ∨ ∃ c, tt_Ab p c (tt_q p t 0) ∧ H (c * 4 + 3) = o) (eg 2 v2) (eg 3 v3)] at hq
        exact hq
      · constructor
        · rintro ((⟨a, b, d⟩ | ⟨a, b, _⟩) | ⟨a, b, d⟩)
          · subst a; exact Or.inr ⟨by omega, b, hPa c b, d⟩
          · exact Or.inl ⟨b, a, pa⟩
          · subst a; exact Or.inr ⟨by omega, b, hPa c b, d⟩
        · rintro (⟨a, b, _⟩ | ⟨a, b, d, e⟩)
          · exact Or.inl (Or.inr ⟨b, a, trivial⟩)
          · have : w = 2 ∨ w = 3 := by omega
            rcases this with rfl | rfl
            · exact Or.inl (Or.inl ⟨rfl, b, e⟩)
            · exact Or.inr ⟨rfl, b, e⟩
  · obtain ⟨c0, a0, b0⟩ : ∃ c, tt_Ab p c (tt_q p t r) ∧ ¬ H (c * 4 + 2) ≤ 1 := by
      rcases tt_g_ne1 w1 with ⟨c, a, b⟩ | ⟨c, a, b⟩
      · exact ⟨c, a, tt_nle1 (Or.inl b)⟩
      · exact ⟨c, a, tt_nle1 (Or.inr b)⟩
    have npa : ¬ tt_Pa p H 2 t := fun z => b0 (z c0 (abt c0 a0))
    have back : ∀ c, tt_Ab p c t → tt_Pa p H 2 c → tt_Ab p c (tt_q p t r) := by
      intro c a b
      rcases tt_q_ab hh hW r hrl with e | e
      · rw [e]; exact a
      · rcases tt_Ab_tri hh t a (Or.inr e) with z | z | z
        · exact z
        · exact absurd (b c0 (z ▸ a0)) b0
        · exact absurd (b c0 (tt_Ab_tr hh a0 c z)) b0
    refine br_f w1 ⟨len - r + 1, xx_ma64 hn hh hl hW h0 (len - r) r _ _ _ TD1 (by omega) rfl hcn ?_ ?_⟩
    · rintro c a ⟨b, _⟩
      omega
    · intro TD3 h3
      have hq := hp TD3 (tt_cn_c (fun c w hw => ?_) h3)
      · have eg : ∀ o, tt_Ha p H t (fun o => tt_own BO t i = o) o ↔ (tt_V1 p H (tt_q p t r) o ∨ ∃ c, tt_Ab p c (tt_q p t r) ∧ H (c * 4 + 3) = o) := by
          intro o
          constructor
          · rintro (⟨c, a, b, d | d⟩ | ⟨a, b⟩)
            · exact Or.inl ⟨c, back c a b, d⟩
            · exact Or.inr ⟨c, back c a b, d⟩
            · exact absurd b npa
          · rintro (⟨c, a, b⟩ | ⟨c, a, b⟩)
            · exact Or.inl ⟨c, abt c a, hPa c a, Or.inl b⟩
            · exact Or.inl ⟨c, abt c a, hPa c a, Or.inr b⟩
        rw [tt_gc (W := fun o => tt_V1 p H (tt_q p t r) o ∨ ∃ c, tt_Ab p c (tt_q p t r) ∧ H (c * 4 + 3) = o) (eg 2) (eg 3)] at hq
        exact hq
      · constructor
        · rintro (⟨a, b, d⟩ | ⟨a, b, d⟩)
          · subst a; exact Or.inr ⟨by omega, abt c b, hPa c b, d⟩
          · subst a; exact Or.inr ⟨by omega, abt c b, hPa c b, d⟩
        · rintro (⟨a, b, d⟩ | ⟨a, b, d, e⟩)
          · exact absurd d npa
          · have : w = 2 ∨ w = 3 := by omega
            rcases this with rfl | rfl
            · exact Or.inl ⟨rfl, back c b d, e⟩
            · exact Or.inr ⟨rfl, back c b d, e⟩
theorem xx_rt47 {post : SX → Prop} {nc sd : Int32} {P T D H AA BO TG R TD AM RE WA RC WU : Nat → Int32} {t : Nat} (ht : t < 24) {x4 x5 : Int32} (hp : post (nc, sd, P, T, D, H, AA, BO, TG, upd R t x5, TD, upd AM t x4, RE, WA, RC, WU)) : wX_runTest_47 post (nI t) x4 x5 nc sd P T D H AA BO TG R TD AM RE WA RC WU :=
  ⟨vp_in_nI ht (by omega), nm_r (tt_un AM _ (by omega)) ⟨vp_in_nI ht (by omega), nm_r (tt_un R _ (by omega)) hp⟩⟩
theorem xx_rt19 {post : SX → Prop} {nc : Int32} {P T D H AA BO TG R AM RE WA RC WU : Nat → Int32} {n : Nat} {p : Nat → Nat} {OC TD0 : Nat → Int32} (hn : n ≤ 24) (hh : tt_Hp p) (hr : ∀ s, H s = 0 ∨ H s = 1 ∨ H s = 2 ∨ H s = 3) {t len K : Nat} (ht : t < n) (hl : len < 24) (hW : tt_way n p t len WU) (h0 : tt_q p t len = 0) (hK : K < 2 ^ 31) (ho : ∀ j, j < K → (tt_own BO t j = 2 ↔ tt_own OC t j = 2) ∧ (tt_own BO t j = 3 ↔ tt_own OC t j = 3)) :
  ∀ r i l (TD : Nat → Int32), i + r = K → (∀ c w, w < 4 → TD (c * 4 + w) = TD0 (c * 4 + w) + nI i * tt_b (tt_FF p H t c w)) → (∀ TD : Nat → Int32, (∀ c w, w < 4 → TD (c * 4 + w) = TD0 (c * 4 + w) + nI (tt_lp (tt_gt p H OC t) r i i l).1 * tt_b (tt_FF p H t c w)) → post (nc, tt_S TD 96, P, T, D, H, AA, BO, TG, upd R t (tt_lp (tt_gt p H OC t) r i i l).2, TD, upd AM t (nI (tt_lp (tt_gt p H OC t) r i i l).1), RE, WA, RC, WU)) → wX_runTest_19 post (nI t) (nI len) (nI K) (r + 1) (nI i) l nc (tt_S TD 96) P T D H AA BO TG R TD AM RE WA RC WU := by
  intro r
  induction r with
  | zero =>
    intro i l TD hi hT hp
    exact br_t (nI_le (by omega) (by omega)) (xx_rt47 (by omega) (hp TD hT))
  | succ r ih =>
    intro i l TD hi hT hp
    refine br_f (nI_ge (by omega) (by omega)) ?_
    by_cases e : l = 2
    · subst e
      rw [tt_lp_s] at hp
      have eg : ∀ o, (tt_own BO t i = o ↔ tt_own OC t i = o) → (tt_Ha p H t (fun o => tt_own BO t i = o) o ↔ tt_Ha p H t (fun o => tt_own OC t i = o) o) := by
        intro o eo
        unfold tt_Ha; dsimp only
        rw [eo]
      have eq : tt_g (tt_Ha p H t (fun o => tt_own BO t i = o)) = tt_gt p H OC t i := tt_gc (eg 2 (ho i (by omega)).1) (eg 3 (ho i (by omega)).2)
      refine br_t rfl (xx_attempt hn hh hr ht hl hW h0 (fun TD' hTD' => nm_r (nI_1 i) ?_))
      rw [eq]
      refine ih (i + 1) _ TD' (by omega) (fun c w hw => ?_) hp
      rw [hTD' c w hw, hT c w hw, ← nI_1, Int32.add_mul, Int32.one_mul, Int32.add_assoc]
    · rw [tt_lp_n e] at hp
      exact br_f e (xx_rt47 (by omega) (hp TD hT))
theorem xx_runTest {post : SX → Prop} {nc : Int32} {P T D H AA BO TG R TD AM RE WA RC WU : Nat → Int32} {n : Nat} {p : Nat → Nat} {OC TR : Nat → Int32} (h : tt_PX n p P) (hr : ∀ s, H s = 0 ∨ H s = 1 ∨ H s = 2 ∨ H s = 3) {t K : Nat} (ht : t < n) (hK : K < 2 ^ 31) (hA : AA t = nI K) (hTR : TR t = nI K) (ho : ∀ j, j < K → (tt_own BO t j = 2 ↔ tt_own OC t j = 2) ∧ (tt_own BO t j = 3 ↔ tt_own OC t j = 3))
  (hp : ∀ TD' WU : Nat → Int32, (∀ c w, w < 4 → TD' (c * 4 + w) = TD (c * 4 + w) + nI (tt_mr p H OC TR t).1 * tt_b (tt_FF p H t c w)) → post (nc, tt_S TD' 96, P, T, D, H, AA, BO, TG, upd R t (tt_mr p H OC TR t).2, TD', upd AM t (nI (tt_mr p H OC TR t).1), RE, WA, RC, WU)) : wpX_runTest post (nc, tt_S TD 96, P, T, D, H, AA, BO, TG, R, TD, AM, RE, WA, RC, WU) (nI t) := by
  have hn := h.1
  have e : (TR t).toNatClampNeg = K := by rw [hTR]; exact nI_clamp hK
  unfold tt_mr at hp
  rw [e] at hp
  unfold wpX_runTest; dsimp only
  refine xx_findWayUp h ht (fun len WU' hl h0 hW => ⟨vp_in_nI (by omega) (by omega), nm_r (e' := nI K) ((tt_at AA (by omega)).trans hA) ⟨K + 1, ?_⟩⟩)
  exact xx_rt19 (TD0 := TD) (OC := OC) hn h.2.1 hr ht hl hW h0 hK ho K 0 2 TD (by omega) (fun c w _ => by rw [nI_0, Int32.zero_mul, Int32.add_zero]) (fun TD' hT' => hp TD' WU' hT')
