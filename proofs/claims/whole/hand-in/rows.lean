section
theorem pk_us {f : Nat → Int32} {k : Nat} {x : Int32} : upd f k x k = x := if_pos rfl
theorem pk_un {f : Nat → Int32} {k j : Nat} {x : Int32} (h : j ≠ k) : upd f k x j = f j := if_neg h
theorem pk_sub {a b : Nat} (h : b ≤ a) : nI a - nI b = nI (a - b) := by
  obtain ⟨c, rfl⟩ : ∃ c, a = c + b := ⟨a - b, by omega⟩
  rw [← nI_add, Int32.add_sub_cancel, Nat.add_sub_cancel]
theorem pk_m1 (n : Nat) : nI (n + 1) + (-1) = nI n := by
  rw [← nI_1, Int32.add_assoc, show (1 : Int32) + (-1) = 0 from rfl, Int32.add_zero]
theorem pk_mul (a b : Nat) : nI a * nI b = nI (a * b) := (Int32.ofNat_mul a b).symm
theorem pk_ix (x : Int32) {n : Nat} (hn : n < 2 ^ 31) : x < 0 ∨ nI n ≤ x ∨ ∃ j : Nat, j < n ∧ x = nI j := by
  by_cases h : x < 0
  · exact Or.inl h
  · obtain ⟨j, hj, rfl⟩ := nI_of h
    by_cases h2 : j < n
    · exact Or.inr (Or.inr ⟨j, h2, rfl⟩)
    · exact Or.inr (Or.inl (nI_le (by omega) hj))
theorem pk_le {x y : Int32} {A B : Prop} (a b : Nat) (f : a ≤ b → A) (g : b < a → B) (hx : x = nI a := by rfl) (hy : y = nI b := by rfl) (ha : a < 2 ^ 31 := by omega) (hb : b < 2 ^ 31 := by omega) : (x ≤ y → A) ∧ (¬ x ≤ y → B) := by
  subst hx hy
  rw [nI_leI ha hb]
  exact ⟨f, fun z => g (by omega)⟩
theorem pk_lt {x y : Int32} {A B : Prop} (a b : Nat) (f : a < b → A) (g : b ≤ a → B) (hx : x = nI a := by rfl) (hy : y = nI b := by rfl) (ha : a < 2 ^ 31 := by omega) (hb : b < 2 ^ 31 := by omega) : (x < y → A) ∧ (¬ x < y → B) := by
  subst hx hy
  rw [nI_ltI ha hb]
  exact ⟨f, fun z => g (by omega)⟩
theorem pk_eq {x y : Int32} {A B : Prop} (a b : Nat) (f : a = b → A) (g : a ≠ b → B) (hx : x = nI a := by rfl) (hy : y = nI b := by rfl) (ha : a < 2 ^ 31 := by omega) (hb : b < 2 ^ 31 := by omega) : (x = y → A) ∧ (¬ x = y → B) := by
  subst hx hy
  rw [nI_eq ha hb]
  exact ⟨f, g⟩
theorem pk_in {x : Int32} (n N : Nat) (h : n < N) (hx : x = nI n := by rfl) (hN : N < 2 ^ 31 := by omega) : vp_in x N := by
  subst hx
  exact vp_in_nI h hN
theorem pk_cl {x : Int32} (n : Nat) (hx : x = nI n := by rfl) (h : n < 2 ^ 31 := by omega) : x.toNatClampNeg = n := by
  subst hx
  exact nI_clamp h
noncomputable def tt_b (P : Prop) : Int32 := @ite Int32 P (Classical.propDecidable P) 1 0
theorem tt_b1 {P : Prop} (h : P) : tt_b P = 1 := by unfold tt_b; exact if_pos h
theorem tt_b0 {P : Prop} (h : ¬ P) : tt_b P = 0 := by unfold tt_b; exact if_neg h
theorem tt_bc {P Q : Prop} (h : P ↔ Q) : tt_b P = tt_b Q := by rw [propext h]
theorem tt_bor {P Q : Prop} (h : P → ¬ Q) : tt_b (P ∨ Q) = tt_b P + tt_b Q := by
  by_cases hP : P
  · rw [tt_b1 hP, tt_b1 (Or.inl hP), tt_b0 (h hP)]; rfl
  · by_cases hQ : Q
    · rw [tt_b0 hP, tt_b1 hQ, tt_b1 (Or.inr hQ)]; rfl
    · rw [tt_b0 hP, tt_b0 hQ, tt_b0 (fun z => z.elim hP hQ)]; rfl
theorem tt_band {P Q : Prop} : tt_b (P ∧ Q) = tt_b P * tt_b Q := by
  by_cases hP : P
  · by_cases hQ : Q
    · rw [tt_b1 hP, tt_b1 hQ, tt_b1 ⟨hP, hQ⟩]; rfl
    · rw [tt_b1 hP, tt_b0 hQ, tt_b0 (fun z => hQ z.2)]; rfl
  · rw [tt_b0 hP, tt_b0 (fun z => hP z.1), Int32.zero_mul]
noncomputable def tt_i (P : Prop) (a b : Int32) : Int32 := @ite Int32 P (Classical.propDecidable P) a b
theorem tt_i1 {P : Prop} {a b : Int32} (h : P) : tt_i P a b = a := by unfold tt_i; exact if_pos h
theorem tt_i0 {P : Prop} {a b : Int32} (h : ¬ P) : tt_i P a b = b := by unfold tt_i; exact if_neg h
noncomputable def tt_g (V : Int32 → Prop) : Int32 := tt_i (V 2) 2 (tt_i (V 3) 3 1)
theorem tt_g2 {V : Int32 → Prop} (h : V 2) : tt_g V = 2 := tt_i1 h
theorem tt_g3 {V : Int32 → Prop} (h : ¬ V 2) (h3 : V 3) : tt_g V = 3 := (tt_i0 h).trans (tt_i1 h3)
theorem tt_g1 {V : Int32 → Prop} (h : ¬ V 2) (h3 : ¬ V 3) : tt_g V = 1 := (tt_i0 h).trans (tt_i0 h3)
theorem tt_gc {V W : Int32 → Prop} (h2 : V 2 ↔ W 2) (h3 : V 3 ↔ W 3) : tt_g V = tt_g W := by
  unfold tt_g; rw [propext h2, propext h3]
theorem tt_g_eq1 {V : Int32 → Prop} (h : tt_g V = 1) : ¬ V 2 ∧ ¬ V 3 := by
  by_cases h2 : V 2
  · rw [tt_g2 h2] at h; exact absurd h (by decide)
  · by_cases h3 : V 3
    · rw [tt_g3 h2 h3] at h; exact absurd h (by decide)
    · exact ⟨h2, h3⟩
theorem tt_g_ne1 {V : Int32 → Prop} (h : ¬ tt_g V = 1) : V 2 ∨ V 3 := by
  by_cases h2 : V 2
  · exact Or.inl h2
  · by_cases h3 : V 3
    · exact Or.inr h3
    · exact absurd (tt_g1 h2 h3) h
theorem tt_gw (V : Int32 → Prop) (x : Int32) : tt_g (fun o => tt_g V = o ∨ x = o) = tt_g (fun o => V o ∨ x = o) := by
  by_cases h2 : V 2
  · rw [tt_g2 (V := fun o => V o ∨ x = o) (Or.inl h2)]
    exact tt_g2 (Or.inl (tt_g2 h2))
  · by_cases hx : x = 2
    · rw [tt_g2 (V := fun o => V o ∨ x = o) (Or.inr hx)]
      exact tt_g2 (Or.inr hx)
    · have n2 : ¬ tt_g V = 2 := by
        by_cases h3 : V 3
        · rw [tt_g3 h2 h3]; decide
        · rw [tt_g1 h2 h3]; decide
      by_cases h3 : V 3
      · rw [tt_g3 (V := fun o => V o ∨ x = o) (fun z => z.elim h2 hx) (Or.inl h3)]
        exact tt_g3 (fun z => z.elim n2 hx) (Or.inl (tt_g3 h2 h3))
      · by_cases hx3 : x = 3
        · rw [tt_g3 (V := fun o => V o ∨ x = o) (fun z => z.elim h2 hx) (Or.inr hx3)]
          exact tt_g3 (fun z => z.elim n2 hx) (Or.inr hx3)
        · rw [tt_g1 (V := fun o => V o ∨ x = o) (fun z => z.elim h2 hx) (fun z => z.elim h3 hx3)]
          refine tt_g1 (fun z => z.elim n2 hx) (fun z => z.elim (fun y => ?_) hx3)
          rw [tt_g1 h2 h3] at y
          exact absurd y (by decide)
theorem tt_g_rg (V : Int32 → Prop) : tt_g V = 1 ∨ tt_g V = 2 ∨ tt_g V = 3 := by
  by_cases h2 : V 2
  · exact Or.inr (Or.inl (tt_g2 h2))
  · by_cases h3 : V 3
    · exact Or.inr (Or.inr (tt_g3 h2 h3))
    · exact Or.inl (tt_g1 h2 h3)
def tt_S (f : Nat → Int32) : Nat → Int32
  | 0 => 0
  | i + 1 => tt_S f i + f i
theorem tt_S_c {f h : Nat → Int32} : ∀ i, (∀ j, j < i → f j = h j) → tt_S f i = tt_S h i
  | 0, _ => rfl
  | i + 1, e => by
    show tt_S f i + f i = tt_S h i + h i
    rw [tt_S_c i (fun j hj => e j (by omega)), e i (by omega)]
theorem tt_S_z {f : Nat → Int32} (i : Nat) (e : ∀ j, j < i → f j = 0) : tt_S f i = 0 := by
  induction i with
  | zero => rfl
  | succ i ih =>
    show tt_S f i + f i = 0
    rw [ih (fun j hj => e j (by omega)), e i (by omega)]; rfl
theorem tt_S_u {f : Nat → Int32} {j : Nat} : ∀ i, j < i → tt_S (upd f j (f j + 1)) i = tt_S f i + 1
  | 0, h => absurd h (by omega)
  | i + 1, h => by
    show tt_S (upd f j (f j + 1)) i + upd f j (f j + 1) i = tt_S f i + f i + 1
    by_cases e : j = i
    · subst e
      rw [pk_us, tt_S_c (h := f) j (fun q hq => pk_un (by omega)), Int32.add_assoc]
    · rw [pk_un (fun z => e z.symm), tt_S_u i (by omega), Int32.add_assoc, Int32.add_comm 1, Int32.add_assoc]
def tt_A (p : Nat → Nat) (c : Nat) : Nat → Nat → Prop
  | 0, _ => False
  | f + 1, i => i ≠ 0 ∧ (p i = c ∨ tt_A p c f (p i))
def tt_Ab (p : Nat → Nat) (c i : Nat) : Prop := tt_A p c i i
def tt_Hp (p : Nat → Nat) : Prop := ∀ i, 0 < i → p i < i
theorem tt_A_f {p : Nat → Nat} {c : Nat} (hp : tt_Hp p) : ∀ f i, i ≤ f → (tt_A p c f i ↔ tt_A p c i i) := by
  intro f
  induction f using Nat.strongRecOn with
  | ind f ih =>
    intro i hi
    match f, i, hi, ih with
    | 0, 0, _, _ => exact Iff.rfl
    | f + 1, 0, _, _ => exact ⟨fun z => absurd rfl z.1, fun z => z.elim⟩
    | f + 1, i + 1, hi, ih =>
      have h := hp (i + 1) (by omega)
      have e : tt_A p c f (p (i + 1)) ↔ tt_A p c i (p (i + 1)) := (ih f (by omega) _ (by omega)).trans (ih i (by omega) _ (by omega)).symm
      show (i + 1 ≠ 0 ∧ (p (i + 1) = c ∨ tt_A p c f (p (i + 1)))) ↔ (i + 1 ≠ 0 ∧ (p (i + 1) = c ∨ tt_A p c i (p (i + 1))))
      rw [propext e]
theorem tt_Ab_0 {p : Nat → Nat} {c : Nat} : ¬ tt_Ab p c 0 := id
theorem tt_Ab_s {p : Nat → Nat} (hp : tt_Hp p) {c i : Nat} (hi : 0 < i) : tt_Ab p c i ↔ p i = c ∨ tt_Ab p c (p i) := by
  match i, hi with
  | i + 1, _ =>
    have h := hp (i + 1) (by omega)
    show (i + 1 ≠ 0 ∧ (p (i + 1) = c ∨ tt_A p c i (p (i + 1)))) ↔ _
    rw [propext (tt_A_f hp i (p (i + 1)) (by omega))]
    exact ⟨fun z => z.2, fun z => ⟨by omega, z⟩⟩
theorem tt_Ab_pos {p : Nat → Nat} {c i : Nat} (h : tt_Ab p c i) : 0 < i := by
  match i, h with
  | i + 1, _ => omega
theorem tt_Ab_lt {p : Nat → Nat} (hp : tt_Hp p) {c : Nat} : ∀ i, tt_Ab p c i → c < i := by
  intro i
  induction i using Nat.strongRecOn with
  | ind i ih =>
    intro h
    have h0 := tt_Ab_pos h
    have h1 := hp i h0
    rcases (tt_Ab_s hp h0).mp h with e | e
    · omega
    · have := ih _ h1 e; omega
theorem tt_Ab_tr {p : Nat → Nat} (hp : tt_Hp p) {c d : Nat} (hc : tt_Ab p c d) : ∀ i, tt_Ab p d i → tt_Ab p c i := by
  intro i
  induction i using Nat.strongRecOn with
  | ind i ih =>
    intro h
    have h0 := tt_Ab_pos h
    have h1 := hp i h0
    rcases (tt_Ab_s hp h0).mp h with e | e
    · exact (tt_Ab_s hp h0).mpr (Or.inr (e ▸ hc))
    · exact (tt_Ab_s hp h0).mpr (Or.inr (ih _ h1 e))
theorem tt_Ab_tri {p : Nat → Nat} (hp : tt_Hp p) {c d : Nat} : ∀ t, tt_Ab p c t → (d = t ∨ tt_Ab p d t) → tt_Ab p c d ∨ c = d ∨ tt_Ab p d c := by
  intro t
  induction t using Nat.strongRecOn with
  | ind t ih =>
    intro hc hd
    have h0 := tt_Ab_pos hc
    have h1 := hp t h0
    rcases hd with rfl | hd
    · exact Or.inl hc
    · rcases (tt_Ab_s hp h0).mp hc with e | e
      · rcases (tt_Ab_s hp h0).mp hd with e' | e'
        · exact Or.inr (Or.inl (e.symm.trans e'))
        · exact Or.inr (Or.inr (e ▸ e'))
      · rcases (tt_Ab_s hp h0).mp hd with e' | e'
        · exact ih _ h1 e (Or.inl e'.symm)
        · exact ih _ h1 e (Or.inr e')
theorem tt_Ab_ch {p : Nat → Nat} (hp : tt_Hp p) {x : Nat} : ∀ t, tt_Ab p x t → ∃ j, 0 < j ∧ j ≤ t ∧ p j = x ∧ (j = t ∨ tt_Ab p j t) := by
  intro t
  induction t using Nat.strongRecOn with
  | ind t ih =>
    intro h
    have h0 := tt_Ab_pos h
    have h1 := hp t h0
    rcases (tt_Ab_s hp h0).mp h with e | e
    · exact ⟨t, h0, Nat.le_refl t, e, Or.inl rfl⟩
    · obtain ⟨j, a, b, q, r⟩ := ih _ h1 e
      refine ⟨j, a, by omega, q, Or.inr ((tt_Ab_s hp h0).mpr ?_)⟩
      rcases r with r | r
      · exact Or.inl r.symm
      · exact Or.inr r
def tt_Pa (p : Nat → Nat) (H : Nat → Int32) (w i : Nat) : Prop := ∀ c, tt_Ab p c i → H (c * 4 + w) ≤ 1
theorem tt_Pa_0 {p : Nat → Nat} {H : Nat → Int32} {w : Nat} : tt_Pa p H w 0 := fun _ h => absurd h tt_Ab_0
theorem tt_Pa_s {p : Nat → Nat} (hp : tt_Hp p) {H : Nat → Int32} {w i : Nat} (hi : 0 < i) : tt_Pa p H w i ↔ H (p i * 4 + w) ≤ 1 ∧ tt_Pa p H w (p i) := by
  constructor
  · intro h
    exact ⟨h _ ((tt_Ab_s hp hi).mpr (Or.inl rfl)), fun c hc => h c ((tt_Ab_s hp hi).mpr (Or.inr hc))⟩
  · intro h c hc
    rcases (tt_Ab_s hp hi).mp hc with e | e
    · exact e ▸ h.1
    · exact h.2 c e
def tt_Re (p : Nat → Nat) (D : Nat → Int32) (i : Nat) : Prop := D i = 0 ∧ ∀ c, tt_Ab p c i → D c = 0
theorem tt_Re_s {p : Nat → Nat} (hp : tt_Hp p) {D : Nat → Int32} {i : Nat} (hi : 0 < i) : tt_Re p D i ↔ D i = 0 ∧ tt_Re p D (p i) := by
  constructor
  · intro h
    exact ⟨h.1, h.2 _ ((tt_Ab_s hp hi).mpr (Or.inl rfl)), fun c hc => h.2 c ((tt_Ab_s hp hi).mpr (Or.inr hc))⟩
  · intro h
    refine ⟨h.1, fun c hc => ?_⟩
    rcases (tt_Ab_s hp hi).mp hc with e | e
    · exact e ▸ h.2.1
    · exact h.2.2 c e
def tt_Se (p : Nat → Nat) (T D TS : Nat → Int32) (g : Int32) (t : Nat) : Prop := ¬ T t = 0 ∧ ¬ TS t &&& g = 0 ∧ tt_Re p D t
def tt_Wn (n : Nat) (p : Nat → Nat) (T D TS : Nat → Int32) (g : Int32) (x : Nat) : Prop := tt_Se p T D TS g x ∨ ∃ t, t < n ∧ tt_Ab p x t ∧ tt_Se p T D TS g t
theorem tt_Wn_up {n : Nat} {p : Nat → Nat} {T D TS : Nat → Int32} {g : Int32} (hp : tt_Hp p) {j : Nat} (h0 : 0 < j) (hj : j < n) (h : tt_Wn n p T D TS g j) : tt_Wn n p T D TS g (p j) := by
  rcases h with h | ⟨t, a, b, c⟩
  · exact Or.inr ⟨j, hj, (tt_Ab_s hp h0).mpr (Or.inl rfl), h⟩
  · exact Or.inr ⟨t, a, tt_Ab_tr hp ((tt_Ab_s hp h0).mpr (Or.inl rfl)) t b, c⟩
theorem tt_Wn_s {n : Nat} {p : Nat → Nat} {T D TS : Nat → Int32} {g : Int32} (hp : tt_Hp p) (x : Nat) : tt_Wn n p T D TS g x ↔ tt_Se p T D TS g x ∨ ∃ j, 0 < j ∧ j < n ∧ p j = x ∧ tt_Wn n p T D TS g j := by
  constructor
  · rintro (h | ⟨t, a, b, c⟩)
    · exact Or.inl h
    · obtain ⟨j, j0, jt, e, r⟩ := tt_Ab_ch hp t b
      refine Or.inr ⟨j, j0, by omega, e, ?_⟩
      rcases r with r | r
      · exact Or.inl (r ▸ c)
      · exact Or.inr ⟨t, a, r, c⟩
  · rintro (h | ⟨j, j0, jn, e, h⟩)
    · exact Or.inl h
    · exact e ▸ tt_Wn_up hp j0 jn h
def tt_Go (n : Nat) (p : Nat → Nat) (T D H TS : Nat → Int32) (g : Int32) (x : Nat) : Prop := tt_Wn n p T D TS g x ∧ tt_Pa p H 0 x
def tt_Ha (p : Nat → Nat) (H : Nat → Int32) (t : Nat) (ow : Int32 → Prop) (o : Int32) : Prop := (∃ c, tt_Ab p c t ∧ tt_Pa p H 2 c ∧ (H (c * 4 + 2) = o ∨ H (c * 4 + 3) = o)) ∨ (ow o ∧ tt_Pa p H 2 t)
def tt_lp (f : Nat → Int32) : Nat → Nat → Nat → Int32 → Nat × Int32
  | 0, _, m, l => (m, l)
  | r + 1, i, m, l => if l = 2 then tt_lp f r (i + 1) (m + 1) (f i) else tt_lp f r (i + 1) m l
theorem tt_lp_n {f : Nat → Int32} {m : Nat} {l : Int32} (h : ¬ l = 2) : ∀ r i, tt_lp f r i m l = (m, l)
  | 0, _ => rfl
  | r + 1, i => by
    show (if l = 2 then _ else tt_lp f r (i + 1) m l) = _
    rw [if_neg h, tt_lp_n h r]
theorem tt_lp_s {f : Nat → Int32} {m r i : Nat} : tt_lp f (r + 1) i m 2 = tt_lp f r (i + 1) (m + 1) (f i) := by
  show (if (2 : Int32) = 2 then _ else _) = _
  rw [if_pos rfl]
theorem tt_lp_r {f : Nat → Int32} (hf : ∀ i, f i = 1 ∨ f i = 2 ∨ f i = 3) : ∀ r i m l, (l = 1 ∨ l = 2 ∨ l = 3) → ((tt_lp f r i m l).2 = 1 ∨ (tt_lp f r i m l).2 = 2 ∨ (tt_lp f r i m l).2 = 3)
  | 0, _, _, _, h => h
  | r + 1, i, m, l, h => by
    by_cases e : l = 2
    · rw [e, tt_lp_s]; exact tt_lp_r hf r _ _ _ (hf i)
    · rw [tt_lp_n e]; exact h
theorem tt_lp_le {f : Nat → Int32} : ∀ r i m l, (tt_lp f r i m l).1 ≤ m + r
  | 0, _, _, _ => Nat.le_refl _
  | r + 1, i, m, l => by
    by_cases e : l = 2
    · rw [e, tt_lp_s]; have := tt_lp_le (f := f) r (i + 1) (m + 1) (f i); omega
    · rw [tt_lp_n e]; show m ≤ _; omega
def tt_own (OC : Nat → Int32) (t i : Nat) : Int32 := (OC t >>> ((2 * nI i) &&& 31)) &&& 3
noncomputable def tt_gt (p : Nat → Nat) (H OC : Nat → Int32) (t i : Nat) : Int32 := tt_g (tt_Ha p H t (fun o => tt_own OC t i = o))
noncomputable def tt_mr (p : Nat → Nat) (H OC TR : Nat → Int32) (t : Nat) : Nat × Int32 := tt_lp (tt_gt p H OC t) (TR t).toNatClampNeg 0 0 2
noncomputable def tt_md (n : Nat) (p : Nat → Nat) (T D H TS OC TR : Nat → Int32) (g : Int32) (t : Nat) : Int32 := tt_i (¬ T t = 0 ∧ tt_Go n p T D H TS g t) (nI (tt_mr p H OC TR t).1) 0
noncomputable def tt_rs (n : Nat) (p : Nat → Nat) (T D H TS OC TR : Nat → Int32) (g : Int32) (t : Nat) : Int32 := tt_i (tt_Go n p T D H TS g t) (tt_i (T t = 0) (tt_g (fun o => H (t * 4 + 0) = o ∨ H (t * 4 + 1) = o)) (tt_mr p H OC TR t).2) 0
noncomputable def tt_ev (n : Nat) (p : Nat → Nat) (T D H TS OC TR : Nat → Int32) (g : Int32) (i c w : Nat) : Int32 :=
  if w = 0 then (if c < i then tt_i (T c = 0) (tt_b (tt_Go n p T D H TS g c ∧ ¬ H (c * 4 + 0) = 0)) (tt_b (tt_Pa p H 2 c) * tt_md n p T D H TS OC TR g c) else 0)
  else if w = 1 then (if c < i then tt_b (T c = 0 ∧ tt_Go n p T D H TS g c ∧ ¬ H (c * 4 + 1) = 0) else 0)
  else tt_b (tt_Pa p H 2 c ∧ ¬ H (c * 4 + w) = 0) * tt_S (fun t => tt_b (tt_Ab p c t) * tt_md n p T D H TS OC TR g t) i
end
section
def tt_Tr (n : Nat) (p : Nat → Nat) (T H P PP : Nat → Int32) : Prop :=
  1 ≤ n ∧ n ≤ 24 ∧ tt_Hp p ∧ (∀ i, 0 < i → i < n → P i = nI (p i) ∧ PP i = nI (p i) ∧ T (p i) = 0) ∧ PP 0 = -1 ∧ T 0 = 0 ∧ (∀ s, H s = 0 ∨ H s = 1 ∨ H s = 2 ∨ H s = 3)
def tt_Bd (n : Nat) (T AA BO TG TR OC TS : Nat → Int32) : Prop :=
  (∀ i, i < n → ¬ T i = 0 → TG i = TS i ∧ ∃ k, k < 2 ^ 31 ∧ AA i = nI k ∧ TR i = nI k ∧ ∀ j, j < k → (tt_own BO i j = 2 ↔ tt_own OC i j = 2) ∧ (tt_own BO i j = 3 ↔ tt_own OC i j = 3)) ∧ (∀ i, n ≤ i → OC i = 0)
def tt_Rs (sd : Int32) (R TD AM RS CA MD : Nat → Int32) : Prop :=
  (∀ i, i < 24 → R i = RS i ∧ AM i = MD i ∧ (RS i = 0 ∨ RS i = 1 ∨ RS i = 2 ∨ RS i = 3)) ∧ (∀ s, s < 96 → TD s = CA s) ∧ sd = tt_S CA 96
/-- one tree on both sides; bodies alike where an attempt can look; results alike; the steps are the sum of all times -/
def i_Rel (_ : Nat) (u : SX) (v : SY) : Prop := match u, v with
  | (nc, sd, P, T, D, H, AA, BO, TG, R, TD, AM, _, _, _, _), (ns, T', PP, D', H', TR, OC, TS, RS, CA, MD) => T = T' ∧ D = D' ∧ H = H' ∧ ∃ (n : Nat) (p : Nat → Nat), nc = nI n ∧ ns = nI n ∧ tt_Tr n p T H P PP ∧ tt_Bd n T AA BO TG TR OC TS ∧ tt_Rs sd R TD AM RS CA MD
theorem i_up {k : Nat} {u : SX} {v : SY} (h : i_Rel k u v) : i_Rel (k + 4) u v := h
theorem tt_n0 : vp_nar .boolean 0 = 0 := by rfl
theorem tt_n1 : vp_nar .boolean 1 = 1 := by rfl
theorem i_vc0 : wpX_init (fun u => wpY_init (fun v => i_Rel 0 u v)) := by
  refine nm_e ?_
  refine ⟨rfl, rfl, rfl, 1, fun _ => 0, rfl, rfl, ⟨by omega, by omega, fun i hi => hi, fun i h0 h1 => absurd h0 (by omega), pk_us, rfl, fun s => Or.inl rfl⟩, ⟨fun i _ hT => absurd rfl hT, fun i _ => rfl⟩, fun i _ => ⟨rfl, rfl, Or.inl rfl⟩, fun s _ => rfl, (tt_S_z 96 (fun j _ => rfl)).symm⟩
theorem tt_un (f : Nat → Int32) (x : Int32) {n : Nat} (h : n < 2 ^ 31) : upd f (nI n).toNatClampNeg x = upd f n x := by rw [nI_clamp h]
theorem tt_at (f : Nat → Int32) {n : Nat} (h : n < 2 ^ 31) : f (nI n).toNatClampNeg = f n := by rw [nI_clamp h]
theorem tt_sl (j w : Nat) : nI j * 4 + nI w = nI (j * 4 + w) := by
  rw [show (4 : Int32) = nI 4 from rfl, pk_mul, nI_add]
theorem tt_ix (x : Int32) {n : Nat} (hn : n < 2 ^ 31) : (x < 0 ∨ nI n ≤ x) ∨ ∃ j : Nat, j < n ∧ x = nI j := by
  rcases pk_ix x hn with h | h | h
  · exact Or.inl (Or.inl h)
  · exact Or.inl (Or.inr h)
  · exact Or.inr h
theorem xx_no {post : Int32 → Prop} {sd : Int32} {P T D H AA BO TG R TD AM RE WA RC WU : Nat → Int32} {n : Nat} {x : Int32} (h : x < 0 ∨ nI n ≤ x) (hp : post 0) : wpX_isNode post (nI n, sd, P, T, D, H, AA, BO, TG, R, TD, AM, RE, WA, RC, WU) x := by
  by_cases h0 : x < 0
  · exact br_t h0 hp
  · exact br_f h0 (br_t (h.resolve_left h0) hp)
theorem xx_yes {post : Int32 → Prop} {sd : Int32} {P T D H AA BO TG R TD AM RE WA RC WU : Nat → Int32} {n j : Nat} (hj : j < n) (hn : n ≤ 24) (hp : post 1) : wpX_isNode post (nI n, sd, P, T, D, H, AA, BO, TG, R, TD, AM, RE, WA, RC, WU) (nI j) :=
  br_f (nI_pos (by omega)) (br_f (nI_ge hj (by omega)) hp)
theorem yy_no {post : Int32 → Prop} {T PP D H TR OC TS RS CA MD : Nat → Int32} {n : Nat} {x : Int32} (h : x < 0 ∨ nI n ≤ x) (hp : post 1) : wpY_noNode post (nI n, T, PP, D, H, TR, OC, TS, RS, CA, MD) x := by
  by_cases h0 : x < 0
  · exact br_t h0 hp
  · exact br_f h0 (br_f (Int32.not_lt.mpr (h.resolve_left h0)) hp)
theorem yy_yes {post : Int32 → Prop} {T PP D H TR OC TS RS CA MD : Nat → Int32} {n j : Nat} (hj : j < n) (hn : n ≤ 24) (hp : post 0) : wpY_noNode post (nI n, T, PP, D, H, TR, OC, TS, RS, CA, MD) (nI j) :=
  br_f (nI_pos (by omega)) (br_t (nI_lt hj (by omega)) hp)
theorem xx_cno {post : Int32 → Prop} {sd : Int32} {P T D H AA BO TG R TD AM RE WA RC WU : Nat → Int32} {n : Nat} {x : Int32} (h : x < 0 ∨ nI n ≤ x) (hp : post 0) : wpX_isContainerNode post (nI n, sd, P, T, D, H, AA, BO, TG, R, TD, AM, RE, WA, RC, WU) x := by
  unfold wpX_isContainerNode; exact xx_no h (br_t rfl hp)
theorem xx_c0 {post : Int32 → Prop} {sd : Int32} {P T D H AA BO TG R TD AM RE WA RC WU : Nat → Int32} {n j : Nat} (hj : j < n) (hn : n ≤ 24) (hT : ¬ T j = 0) (hp : post 0) : wpX_isContainerNode post (nI n, sd, P, T, D, H, AA, BO, TG, R, TD, AM, RE, WA, RC, WU) (nI j) := by
  unfold wpX_isContainerNode; exact xx_yes hj hn (br_f (by decide) ⟨vp_in_nI (by omega) (by omega), br_f (by rw [tt_at T (by omega)]; exact hT) hp⟩)
theorem xx_c1 {post : Int32 → Prop} {sd : Int32} {P T D H AA BO TG R TD AM RE WA RC WU : Nat → Int32} {n j : Nat} (hj : j < n) (hn : n ≤ 24) (hT : T j = 0) (hp : post 1) : wpX_isContainerNode post (nI n, sd, P, T, D, H, AA, BO, TG, R, TD, AM, RE, WA, RC, WU) (nI j) := by
  unfold wpX_isContainerNode; exact xx_yes hj hn (br_f (by decide) ⟨vp_in_nI (by omega) (by omega), br_t (by rw [tt_at T (by omega)]; exact hT) hp⟩)
theorem xx_tno {post : Int32 → Prop} {sd : Int32} {P T D H AA BO TG R TD AM RE WA RC WU : Nat → Int32} {n : Nat} {x : Int32} (h : x < 0 ∨ nI n ≤ x) (hp : post 0) : wpX_isTestNode post (nI n, sd, P, T, D, H, AA, BO, TG, R, TD, AM, RE, WA, RC, WU) x := by
  unfold wpX_isTestNode; exact xx_no h (br_t rfl hp)
theorem xx_t0 {post : Int32 → Prop} {sd : Int32} {P T D H AA BO TG R TD AM RE WA RC WU : Nat → Int32} {n j : Nat} (hj : j < n) (hn : n ≤ 24) (hT : T j = 0) (hp : post 0) : wpX_isTestNode post (nI n, sd, P, T, D, H, AA, BO, TG, R, TD, AM, RE, WA, RC, WU) (nI j) := by
  unfold wpX_isTestNode; exact xx_yes hj hn (br_f (by decide) ⟨vp_in_nI (by omega) (by omega), br_t (by rw [tt_at T (by omega)]; exact hT) hp⟩)
theorem xx_t1 {post : Int32 → Prop} {sd : Int32} {P T D H AA BO TG R TD AM RE WA RC WU : Nat → Int32} {n j : Nat} (hj : j < n) (hn : n ≤ 24) (hT : ¬ T j = 0) (hp : post 1) : wpX_isTestNode post (nI n, sd, P, T, D, H, AA, BO, TG, R, TD, AM, RE, WA, RC, WU) (nI j) := by
  unfold wpX_isTestNode; exact xx_yes hj hn (br_f (by decide) ⟨vp_in_nI (by omega) (by omega), br_f (by rw [tt_at T (by omega)]; exact hT) hp⟩)
theorem xx_hk0 {post : Int32 → Prop} {x : Int32} (h : x < 0 ∨ nI 4 ≤ x) (hp : post 0) : wpX_isHook post x := by
  by_cases h0 : x < 0
  · exact br_t h0 hp
  · exact br_f h0 (br_t (h.resolve_left h0) hp)
theorem xx_hk1 {post : Int32 → Prop} {w : Nat} (hw : w < 4) (hp : post 1) : wpX_isHook post (nI w) :=
  br_f (nI_pos (by omega)) (br_f (nI_ge (b := 4) hw (by omega)) hp)
theorem xx_addB {post : Int32 → SX → Prop} {sd : Int32} {P T D H AA BO TG R TD AM RE WA RC WU : Nat → Int32} {n : Nat} {x y : Int32} (h : x < 0 ∨ nI n ≤ x) (hp : post (-1) (nI n, sd, P, T, D, H, AA, BO, TG, R, TD, AM, RE, WA, RC, WU)) : wpX_addNode post (nI n, sd, P, T, D, H, AA, BO, TG, R, TD, AM, RE, WA, RC, WU) x y := by
  unfold wpX_addNode; exact xx_cno h (br_t rfl hp)
theorem xx_addT {post : Int32 → SX → Prop} {sd : Int32} {P T D H AA BO TG R TD AM RE WA RC WU : Nat → Int32} {n j : Nat} {y : Int32} (hj : j < n) (hn : n ≤ 24) (hT : ¬ T j = 0) (hp : post (-1) (nI n, sd, P, T, D, H, AA, BO, TG, R, TD, AM, RE, WA, RC, WU)) : wpX_addNode post (nI n, sd, P, T, D, H, AA, BO, TG, R, TD, AM, RE, WA, RC, WU) (nI j) y := by
  unfold wpX_addNode; exact xx_c0 hj hn hT (br_t rfl hp)
theorem xx_addF {post : Int32 → SX → Prop} {sd : Int32} {P T D H AA BO TG R TD AM RE WA RC WU : Nat → Int32} {j : Nat} {y : Int32} (hj : j < 24) (hT : T j = 0) (hp : post (-2) (nI 24, sd, P, T, D, H, AA, BO, TG, R, TD, AM, RE, WA, RC, WU)) : wpX_addNode post (nI 24, sd, P, T, D, H, AA, BO, TG, R, TD, AM, RE, WA, RC, WU) (nI j) y := by
  unfold wpX_addNode; exact xx_c1 hj (by omega) hT (br_f (by decide) (br_f (by decide) hp))
theorem xx_add {post : Int32 → SX → Prop} {sd : Int32} {P T D H AA BO TG R TD AM RE WA RC WU : Nat → Int32} {n j : Nat} {y : Int32} (hj : j < n) (hn : n < 24) (hT : T j = 0) (hp : post (nI n) (nI (n + 1), sd, upd P n (nI j), upd T n (vp_nar .boolean y), D, H, AA, BO, TG, R, TD, AM, RE, WA, RC, WU)) : wpX_addNode post (nI n, sd, P, T, D, H, AA, BO, TG, R, TD, AM, RE, WA, RC, WU) (nI j) y := by
  unfold wpX_addNode
  have hv : vp_in (nI n) 24 := vp_in_nI hn (by omega)
  exact xx_c1 hj (by omega) hT (br_f (by decide) (br_t (nI_lt (b := 24) hn (by omega)) ⟨hv, nm_r (tt_un P _ (by omega)) ⟨hv, nm_r (tt_un T _ (by omega)) (nm_r (nI_1 n) hp)⟩⟩))
theorem yy_addB {post : Int32 → SY → Prop} {T PP D H TR OC TS RS CA MD : Nat → Int32} {n : Nat} {x y : Int32} (h : x < 0 ∨ nI n ≤ x) (hp : post (-1) (nI n, T, PP, D, H, TR, OC, TS, RS, CA, MD)) : wpY_add post (nI n, T, PP, D, H, TR, OC, TS, RS, CA, MD) x y := by
  unfold wpY_add; exact yy_no h (br_f (by decide) hp)
theorem yy_addT {post : Int32 → SY → Prop} {T PP D H TR OC TS RS CA MD : Nat → Int32} {n j : Nat} {y : Int32} (hj : j < n) (hn : n ≤ 24) (hT : ¬ T j = 0) (hp : post (-1) (nI n, T, PP, D, H, TR, OC, TS, RS, CA, MD)) : wpY_add post (nI n, T, PP, D, H, TR, OC, TS, RS, CA, MD) (nI j) y := by
  unfold wpY_add; exact yy_yes hj hn (br_t rfl ⟨vp_in_nI (by omega) (by omega), br_f (by rw [tt_at T (by omega)]; exact hT) hp⟩)
theorem yy_addF {post : Int32 → SY → Prop} {T PP D H TR OC TS RS CA MD : Nat → Int32} {j : Nat} {y : Int32} (hj : j < 24) (hT : T j = 0) (hp : post (-2) (nI 24, T, PP, D, H, TR, OC, TS, RS, CA, MD)) : wpY_add post (nI 24, T, PP, D, H, TR, OC, TS, RS, CA, MD) (nI j) y := by
  unfold wpY_add; exact yy_yes hj (by omega) (br_t rfl ⟨vp_in_nI (by omega) (by omega), br_t (by rw [tt_at T (by omega)]; exact hT) (br_t rfl hp)⟩)
theorem yy_add {post : Int32 → SY → Prop} {T PP D H TR OC TS RS CA MD : Nat → Int32} {n j : Nat} {y : Int32} (hj : j < n) (hn : n < 24) (hT : T j = 0) (hp : post (nI n) (nI (n + 1), upd T n (vp_nar .boolean y), upd PP n (nI j), D, H, upd TR n 1, OC, upd TS n 1, RS, CA, MD)) : wpY_add post (nI n, T, PP, D, H, TR, OC, TS, RS, CA, MD) (nI j) y := by
  unfold wpY_add
  have hv : vp_in (nI n) 24 := vp_in_nI hn (by omega)
  have hne : ¬ nI n = 24 := fun z => by have := (nI_eq (b := 24) (by omega) (by omega)).mp z; omega
  have hq : nI (n + 1) - 1 = nI n := nI_pred n
  refine yy_yes hj (by omega) (br_t rfl ⟨vp_in_nI (by omega) (by omega), br_t (by rw [tt_at T (by omega)]; exact hT) (br_f hne ⟨hv, nm_r (tt_un T _ (by omega)) ⟨hv, nm_r (tt_un PP _ (by omega)) ⟨hv, nm_r (tt_un TR _ (by omega)) ⟨hv, nm_r (tt_un TS _ (by omega)) (nm_r (nI_1 n) ?_)⟩⟩⟩⟩)⟩)
  rw [hq]; exact hp
theorem tt_Tr_add {n j : Nat} {p : Nat → Nat} {T H P PP : Nat → Int32} (x : Int32) (h : tt_Tr n p T H P PP) (hn : n < 24) (hj : j < n) (hT : T j = 0) : tt_Tr (n + 1) (fun i => if i = n then j else p i) (upd T n x) H (upd P n (nI j)) (upd PP n (nI j)) := by
  obtain ⟨a, b, hp, e, z, t0, hr⟩ := h
  refine ⟨by omega, by omega, ?_, ?_, ?_, ?_, hr⟩
  · intro i hi
    show (if i = n then j else p i) < i
    by_cases q : i = n
    · rw [if_pos q]; omega
    · rw [if_neg q]; exact hp i hi
  · intro i hi hi2
    show upd P n (nI j) i = nI (if i = n then j else p i) ∧ upd PP n (nI j) i = nI (if i = n then j else p i) ∧ upd T n x (if i = n then j else p i) = 0
    by_cases q : i = n
    · subst q
      rw [if_pos rfl, pk_us, pk_us, pk_un (by omega)]
      exact ⟨rfl, rfl, hT⟩
    · have := hp i hi
      rw [if_neg q, pk_un q, pk_un q, pk_un (by omega)]
      exact e i hi (by omega)
  · rw [pk_un (by omega)]; exact z
  · rw [pk_un (by omega)]; exact t0
theorem tt_Bd_c {n : Nat} {T AA BO TG TR OC TS : Nat → Int32} (h : tt_Bd n T AA BO TG TR OC TS) : tt_Bd (n + 1) (upd T n 0) AA BO TG (upd TR n 1) OC (upd TS n 1) := by
  refine ⟨fun i hi hT => ?_, fun i hi => h.2 i (by omega)⟩
  by_cases q : i = n
  · subst q; rw [pk_us] at hT; exact absurd rfl hT
  · rw [pk_un q] at hT; rw [pk_un q, pk_un q]; exact h.1 i (by omega) hT
theorem tt_own_u {f : Nat → Int32} {n i j : Nat} {x : Int32} (h : i ≠ n) : tt_own (upd f n x) i j = tt_own f i j := by
  unfold tt_own; rw [pk_un h]
theorem tt_own_us {f : Nat → Int32} {n j : Nat} {x : Int32} : tt_own (upd f n x) n j = (x >>> ((2 * nI j) &&& 31)) &&& 3 := by
  unfold tt_own; rw [pk_us]
theorem tt_own_1 : ((1 : Int32) >>> ((2 * nI 0) &&& 31)) &&& 3 = 1 := by decide +kernel
theorem tt_own_0 : ((0 : Int32) >>> ((2 * nI 0) &&& 31)) &&& 3 = 0 := by decide +kernel
theorem tt_Bd_t {n : Nat} {T AA BO TG TR OC TS : Nat → Int32} {x : Int32} (h : tt_Bd n T AA BO TG TR OC TS) : tt_Bd (n + 1) (upd T n x) (upd AA n 1) (upd BO n 1) (upd TG n 1) (upd TR n 1) OC (upd TS n 1) := by
  refine ⟨fun i hi hT => ?_, fun i hi => h.2 i (by omega)⟩
  by_cases q : i = n
  · subst q
    rw [pk_us, pk_us, pk_us, pk_us]
    refine ⟨rfl, 1, by omega, rfl, rfl, fun j hj => ?_⟩
    have hj0 : j = 0 := by omega
    subst hj0
    have e : tt_own OC i 0 = 0 := by unfold tt_own; rw [h.2 i (by omega)]; exact tt_own_0
    rw [tt_own_us, tt_own_1, e]
    decide
  · rw [pk_un q] at hT
    obtain ⟨e, k, hk, a, b, c⟩ := h.1 i (by omega) hT
    rw [pk_un q, pk_un q, pk_un q, pk_un q]
    refine ⟨e, k, hk, a, b, fun j hj => ?_⟩
    rw [tt_own_u q]; exact c j hj
theorem i_vc_container {k : Nat} {u : SX} {v : SY} (I : i_Rel k u v) (hk : k + 4 ≤ 2048) (v1 : Int32) : wpX_container (fun r u' => wpY_container (fun r' v' => r' = r ∧ i_Rel (k + 4) u' v') v v1) u v1 := by
  obtain ⟨nc, sd, P, T, D, H, AA, BO, TG, R, TD, AM, RE, WA, RC, WU⟩ := u
  obtain ⟨ns, T', PP, D', H', TR, OC, TS, RS, CA, MD⟩ := v
  obtain ⟨rfl, rfl, rfl, n, p, rfl, rfl, hT, hB, hR⟩ := I
  have hn := hT.2.1
  unfold wpX_container wpY_container; dsimp only
  rcases tt_ix v1 (n := n) (by omega) with h | ⟨j, hj, rfl⟩
  · exact xx_addB h (yy_addB h ⟨rfl, rfl, rfl, rfl, n, p, rfl, rfl, hT, hB, hR⟩)
  · by_cases t : T j = 0
    · by_cases q : n = 24
      · subst q
        exact xx_addF hj t (yy_addF hj t ⟨rfl, rfl, rfl, rfl, 24, p, rfl, rfl, hT, hB, hR⟩)
      · refine xx_add hj (by omega) t (yy_add hj (by omega) t ⟨rfl, rfl, rfl, rfl, n + 1, _, rfl, rfl, tt_Tr_add _ hT (by omega) hj t, ?_, hR⟩)
        rw [tt_n0]; exact tt_Bd_c hB
    · exact xx_addT hj hn t (yy_addT hj hn t ⟨rfl, rfl, rfl, rfl, n, p, rfl, rfl, hT, hB, hR⟩)
theorem i_vc_test {k : Nat} {u : SX} {v : SY} (I : i_Rel k u v) (hk : k + 4 ≤ 2048) (v1 : Int32) : wpX_test (fun r u' => wpY_test (fun r' v' => r' = r ∧ i_Rel (k + 4) u' v') v v1) u v1 := by
  obtain ⟨nc, sd, P, T, D, H, AA, BO, TG, R, TD, AM, RE, WA, RC, WU⟩ := u
  obtain ⟨ns, T', PP, D', H', TR, OC, TS, RS, CA, MD⟩ := v
  obtain ⟨rfl, rfl, rfl, n, p, rfl, rfl, hT, hB, hR⟩ := I
  have hn := hT.2.1
  unfold wpX_test wpY_test; dsimp only
  rcases tt_ix v1 (n := n) (by omega) with h | ⟨j, hj, rfl⟩
  · exact xx_addB h (br_t (by decide) (yy_addB h ⟨rfl, rfl, rfl, rfl, n, p, rfl, rfl, hT, hB, hR⟩))
  · by_cases t : T j = 0
    · by_cases q : n = 24
      · subst q
        exact xx_addF hj t (br_t (by decide) (yy_addF hj t ⟨rfl, rfl, rfl, rfl, 24, p, rfl, rfl, hT, hB, hR⟩))
      · have hv : vp_in (nI n) 24 := vp_in_nI (by omega) (by omega)
        refine xx_add hj (by omega) t (br_f (nI_pos (by omega)) ⟨hv, nm_r (tt_un AA _ (by omega)) ⟨hv, nm_r (tt_un BO _ (by omega)) ⟨hv, nm_r (tt_un TG _ (by omega)) ?_⟩⟩⟩)
        exact yy_add hj (by omega) t ⟨rfl, rfl, rfl, rfl, n + 1, _, rfl, rfl, tt_Tr_add _ hT (by omega) hj t, tt_Bd_t hB, hR⟩
    · exact xx_addT hj hn t (br_t (by decide) (yy_addT hj hn t ⟨rfl, rfl, rfl, rfl, n, p, rfl, rfl, hT, hB, hR⟩))
end
section
theorem tt_rg {x : Int32} (h : ¬ x < 0) (h3 : x ≤ 3) : x = 0 ∨ x = 1 ∨ x = 2 ∨ x = 3 := by
  obtain ⟨j, hj, rfl⟩ := nI_of2 (n := 3) (M := 3) (by decide) h h3
  have : j = 0 ∨ j = 1 ∨ j = 2 ∨ j = 3 := by omega
  rcases this with rfl | rfl | rfl | rfl
  · exact Or.inl rfl
  · exact Or.inr (Or.inl rfl)
  · exact Or.inr (Or.inr (Or.inl rfl))
  · exact Or.inr (Or.inr (Or.inr rfl))
theorem tt_Tr_h {n s : Nat} {p : Nat → Nat} {T H P PP : Nat → Int32} {x : Int32} (h : tt_Tr n p T H P PP) (hx : x = 0 ∨ x = 1 ∨ x = 2 ∨ x = 3) : tt_Tr n p T (upd H s x) P PP := by
  obtain ⟨a, b, hp, e, z, t0, hr⟩ := h
  refine ⟨a, b, hp, e, z, t0, fun q => ?_⟩
  by_cases c : q = s
  · rw [c, pk_us]; exact hx
  · rw [pk_un c]; exact hr q
theorem i_vc_hook {k : Nat} {u : SX} {v : SY} (I : i_Rel k u v) (hk : k + 4 ≤ 2048) (v1 : Int32) (v2 : Int32) (v3 : Int32) : wpX_hook (fun r u' => wpY_hook (fun r' v' => r' = r ∧ i_Rel (k + 4) u' v') v v1 v2 v3) u v1 v2 v3 := by
  obtain ⟨nc, sd, P, T, D, H, AA, BO, TG, R, TD, AM, RE, WA, RC, WU⟩ := u
  obtain ⟨ns, T', PP, D', H', TR, OC, TS, RS, CA, MD⟩ := v
  obtain ⟨rfl, rfl, rfl, n, p, rfl, rfl, hT, hB, hR⟩ := I
  have hn := hT.2.1
  have K : i_Rel (k + 4) (nI n, sd, P, T, D, H, AA, BO, TG, R, TD, AM, RE, WA, RC, WU) (nI n, T, PP, D, H, TR, OC, TS, RS, CA, MD) := ⟨rfl, rfl, rfl, n, p, rfl, rfl, hT, hB, hR⟩
  unfold wpX_hook wpY_hook; dsimp only
  rcases tt_ix v1 (n := n) (by omega) with h | ⟨j, hj, rfl⟩
  · exact xx_cno h (br_t rfl (yy_no h (br_f (by decide) ⟨rfl, K⟩)))
  · have hv : vp_in (nI j) 24 := vp_in_nI (by omega) (by omega)
    by_cases t : T j = 0
    · have t' : T (nI j).toNatClampNeg = 0 := by rw [tt_at T (by omega)]; exact t
      refine xx_c1 hj hn t (br_f (by decide) ?_)
      rcases tt_ix v2 (n := 4) (by omega) with h | ⟨w, hw, rfl⟩
      · refine xx_hk0 h (br_t rfl (yy_yes hj hn (br_t rfl ⟨hv, br_t t' ?_⟩)))
        by_cases h0 : v2 < 0
        · exact br_t h0 ⟨rfl, K⟩
        · refine br_f h0 (br_t ?_ ⟨rfl, K⟩)
          have h4 := h.resolve_left h0
          exact Int32.lt_of_lt_of_le (by decide) h4
      · have w0 : ¬ nI w < 0 := nI_pos (by omega)
        have w3 : ¬ 3 < nI w := nI_nlt (a := 3) (b := w) (by omega) (by omega)
        refine xx_hk1 hw (br_f (by decide) ?_)
        have hs : vp_in (nI (j * 4 + w)) 96 := vp_in_nI (by omega) (by omega)
        by_cases o0 : v3 < 0
        · exact br_t o0 (yy_yes hj hn (br_t rfl ⟨hv, br_t t' (br_f w0 (br_f w3 (br_t o0 ⟨rfl, K⟩)))⟩))
        · by_cases o3 : v3 ≤ 3
          · refine br_f o0 (br_t o3 (nm_r (tt_sl j w) ⟨hs, nm_r (tt_at H (by omega)) ⟨hs, nm_r (tt_un H _ (by omega)) ?_⟩⟩))
            refine yy_yes hj hn (br_t rfl ⟨hv, br_t t' (br_f w0 (br_f w3 (br_f o0 (br_t o3 ?_))))⟩)
            rw [tt_sl]
            exact ⟨hs, nm_r (tt_at H (by omega)) ⟨hs, nm_r (tt_un H _ (by omega)) ⟨rfl, rfl, rfl, rfl, n, p, rfl, rfl, tt_Tr_h hT (tt_rg o0 o3), hB, hR⟩⟩⟩
          · exact br_f o0 (br_f o3 (yy_yes hj hn (br_t rfl ⟨hv, br_t t' (br_f w0 (br_f w3 (br_f o0 (br_f o3 ⟨rfl, K⟩))))⟩)))
    · have t' : ¬ T (nI j).toNatClampNeg = 0 := by rw [tt_at T (by omega)]; exact t
      exact xx_c0 hj hn t (br_t rfl (yy_yes hj hn (br_t rfl ⟨hv, br_f t' ⟨rfl, K⟩⟩)))
theorem tt_Bd_b {n j : Nat} {T AA BO TG TR OC TS : Nat → Int32} {x y : Int32} (h : tt_Bd n T AA BO TG TR OC TS) (hj : j < n) (hx : ¬ x < 1) : tt_Bd n T (upd AA j x) (upd BO j y) TG (upd TR j x) (upd OC j y) TS := by
  refine ⟨fun i hi hT => ?_, fun i hi => by rw [pk_un (by omega)]; exact h.2 i hi⟩
  obtain ⟨e, k, hk, a, b, c⟩ := h.1 i hi hT
  by_cases q : i = j
  · subst q
    have x0 : ¬ x < 0 := fun z => hx (Int32.lt_trans z (by decide))
    obtain ⟨m, hm, rfl⟩ := nI_of x0
    rw [pk_us, pk_us]
    refine ⟨e, m, hm, rfl, rfl, fun z _ => ?_⟩
    rw [tt_own_us, tt_own_us]; exact ⟨Iff.rfl, Iff.rfl⟩
  · rw [pk_un q, pk_un q]
    refine ⟨e, k, hk, a, b, fun z hz => ?_⟩
    rw [tt_own_u q, tt_own_u q]; exact c z hz
theorem i_vc_body {k : Nat} {u : SX} {v : SY} (I : i_Rel k u v) (hk : k + 4 ≤ 2048) (v1 : Int32) (v2 : Int32) (v3 : Int32) : wpX_body (fun r u' => wpY_body (fun r' v' => r' = r ∧ i_Rel (k + 4) u' v') v v1 v2 v3) u v1 v2 v3 := by
  obtain ⟨nc, sd, P, T, D, H, AA, BO, TG, R, TD, AM, RE, WA, RC, WU⟩ := u
  obtain ⟨ns, T', PP, D', H', TR, OC, TS, RS, CA, MD⟩ := v
  obtain ⟨rfl, rfl, rfl, n, p, rfl, rfl, hT, hB, hR⟩ := I
  have hn := hT.2.1
  have K : i_Rel (k + 4) (nI n, sd, P, T, D, H, AA, BO, TG, R, TD, AM, RE, WA, RC, WU) (nI n, T, PP, D, H, TR, OC, TS, RS, CA, MD) := ⟨rfl, rfl, rfl, n, p, rfl, rfl, hT, hB, hR⟩
  unfold wpX_body wpY_body; dsimp only
  rcases tt_ix v1 (n := n) (by omega) with h | ⟨j, hj, rfl⟩
  · exact xx_tno h (br_t rfl (yy_no h (br_f (by decide) ⟨rfl, K⟩)))
  · have hv : vp_in (nI j) 24 := vp_in_nI (by omega) (by omega)
    by_cases t : T j = 0
    · have t' : T (nI j).toNatClampNeg = 0 := by rw [tt_at T (by omega)]; exact t
      exact xx_t0 hj hn t (br_t rfl (yy_yes hj hn (br_t rfl ⟨hv, br_t t' ⟨rfl, K⟩⟩)))
    · have t' : ¬ T (nI j).toNatClampNeg = 0 := by rw [tt_at T (by omega)]; exact t
      refine xx_t1 hj hn t (br_f (by decide) ?_)
      by_cases o0 : v2 < 1
      · exact br_t o0 (yy_yes hj hn (br_t rfl ⟨hv, br_f t' (br_t o0 ⟨rfl, K⟩)⟩))
      · by_cases o3 : v2 ≤ 4
        · refine br_f o0 (br_t o3 ⟨hv, nm_r (tt_un AA _ (by omega)) ⟨hv, nm_r (tt_un BO _ (by omega)) ?_⟩⟩)
          exact yy_yes hj hn (br_t rfl ⟨hv, br_f t' (br_f o0 (br_t o3 ⟨hv, nm_r (tt_un TR _ (by omega)) ⟨hv, nm_r (tt_un OC _ (by omega)) ⟨rfl, rfl, rfl, rfl, n, p, rfl, rfl, hT, tt_Bd_b hB hj o0, hR⟩⟩⟩))⟩)
        · exact br_f o0 (br_f o3 (yy_yes hj hn (br_t rfl ⟨hv, br_f t' (br_f o0 (br_f o3 ⟨rfl, K⟩))⟩)))
theorem tt_Bd_g {n j : Nat} {T AA BO TG TR OC TS : Nat → Int32} {x : Int32} (h : tt_Bd n T AA BO TG TR OC TS) : tt_Bd n T AA BO (upd TG j x) TR OC (upd TS j x) := by
  refine ⟨fun i hi hT => ?_, h.2⟩
  obtain ⟨e, r⟩ := h.1 i hi hT
  refine ⟨?_, r⟩
  by_cases q : i = j
  · subst q; rw [pk_us, pk_us]
  · rw [pk_un q, pk_un q]; exact e
theorem i_vc_tags {k : Nat} {u : SX} {v : SY} (I : i_Rel k u v) (hk : k + 4 ≤ 2048) (v1 : Int32) (v2 : Int32) : wpX_tags (fun r u' => wpY_tags (fun r' v' => r' = r ∧ i_Rel (k + 4) u' v') v v1 v2) u v1 v2 := by
  obtain ⟨nc, sd, P, T, D, H, AA, BO, TG, R, TD, AM, RE, WA, RC, WU⟩ := u
  obtain ⟨ns, T', PP, D', H', TR, OC, TS, RS, CA, MD⟩ := v
  obtain ⟨rfl, rfl, rfl, n, p, rfl, rfl, hT, hB, hR⟩ := I
  have hn := hT.2.1
  have K : i_Rel (k + 4) (nI n, sd, P, T, D, H, AA, BO, TG, R, TD, AM, RE, WA, RC, WU) (nI n, T, PP, D, H, TR, OC, TS, RS, CA, MD) := ⟨rfl, rfl, rfl, n, p, rfl, rfl, hT, hB, hR⟩
  unfold wpX_tags wpY_tags; dsimp only
  rcases tt_ix v1 (n := n) (by omega) with h | ⟨j, hj, rfl⟩
  · exact xx_tno h (br_t rfl (yy_no h (br_f (by decide) ⟨rfl, K⟩)))
  · have hv : vp_in (nI j) 24 := vp_in_nI (by omega) (by omega)
    by_cases t : T j = 0
    · have t' : T (nI j).toNatClampNeg = 0 := by rw [tt_at T (by omega)]; exact t
      exact xx_t0 hj hn t (br_t rfl (yy_yes hj hn (br_t rfl ⟨hv, br_t t' ⟨rfl, K⟩⟩)))
    · have t' : ¬ T (nI j).toNatClampNeg = 0 := by rw [tt_at T (by omega)]; exact t
      exact xx_t1 hj hn t (br_f (by decide) ⟨hv, nm_r (tt_un TG _ (by omega)) (yy_yes hj hn (br_t rfl ⟨hv, br_f t' ⟨hv, nm_r (tt_un TS _ (by omega)) ⟨rfl, rfl, rfl, rfl, n, p, rfl, rfl, hT, tt_Bd_g hB, hR⟩⟩⟩))⟩)
theorem i_vc_disable {k : Nat} {u : SX} {v : SY} (I : i_Rel k u v) (hk : k + 4 ≤ 2048) (v1 : Int32) (v2 : Int32) : wpX_disable (fun r u' => wpY_disable (fun r' v' => r' = r ∧ i_Rel (k + 4) u' v') v v1 (lw_bz v2)) u v1 (lw_bz v2) := by
  obtain ⟨nc, sd, P, T, D, H, AA, BO, TG, R, TD, AM, RE, WA, RC, WU⟩ := u
  obtain ⟨ns, T', PP, D', H', TR, OC, TS, RS, CA, MD⟩ := v
  obtain ⟨rfl, rfl, rfl, n, p, rfl, rfl, hT, hB, hR⟩ := I
  have hn := hT.2.1
  unfold wpX_disable wpY_disable; dsimp only
  rcases tt_ix v1 (n := n) (by omega) with h | ⟨j, hj, rfl⟩
  · exact xx_no h (br_t rfl (yy_no h (br_f (by decide) ⟨rfl, rfl, rfl, rfl, n, p, rfl, rfl, hT, hB, hR⟩)))
  · have hv : vp_in (nI j) 24 := vp_in_nI (by omega) (by omega)
    by_cases t : D (nI j).toNatClampNeg = 0
    · exact xx_yes hj hn (br_f (by decide) ⟨hv, br_t t ⟨hv, nm_e (yy_yes hj hn (br_t rfl ⟨hv, br_t t ⟨hv, nm_e ⟨rfl, rfl, rfl, rfl, n, p, rfl, rfl, hT, hB, hR⟩⟩⟩))⟩⟩)
    · exact xx_yes hj hn (br_f (by decide) ⟨hv, br_f t ⟨hv, nm_e (yy_yes hj hn (br_t rfl ⟨hv, br_f t ⟨hv, nm_e ⟨rfl, rfl, rfl, rfl, n, p, rfl, rfl, hT, hB, hR⟩⟩⟩))⟩⟩)
theorem i_vc_result {k : Nat} {u : SX} {v : SY} (I : i_Rel k u v) (hk : k + 4 ≤ 2048) (v1 : Int32) : wpX_result (fun r => wpY_result (fun r' => r' = r ∧ i_Rel (k + 4) u v) v v1) u v1 := by
  have K : i_Rel (k + 4) u v := I
  obtain ⟨nc, sd, P, T, D, H, AA, BO, TG, R, TD, AM, RE, WA, RC, WU⟩ := u
  obtain ⟨ns, T', PP, D', H', TR, OC, TS, RS, CA, MD⟩ := v
  obtain ⟨rfl, rfl, rfl, n, p, rfl, rfl, hT, hB, hR⟩ := I
  have hn := hT.2.1
  unfold wpX_result wpY_result; dsimp only
  rcases tt_ix v1 (n := n) (by omega) with h | ⟨j, hj, rfl⟩
  · exact xx_no h (br_t rfl (yy_no h (br_f (by decide) ⟨rfl, K⟩)))
  · have hv : vp_in (nI j) 24 := vp_in_nI (by omega) (by omega)
    refine xx_yes hj hn (br_f (by decide) ⟨hv, yy_yes hj hn (br_t rfl ⟨hv, ?_, K⟩)⟩)
    rw [tt_at R (by omega), tt_at RS (by omega)]; exact (hR.1 j (by omega)).1.symm
theorem i_vc_attempts {k : Nat} {u : SX} {v : SY} (I : i_Rel k u v) (hk : k + 4 ≤ 2048) (v1 : Int32) : wpX_attempts (fun r => wpY_attempts (fun r' => r' = r ∧ i_Rel (k + 4) u v) v v1) u v1 := by
  have K : i_Rel (k + 4) u v := I
  obtain ⟨nc, sd, P, T, D, H, AA, BO, TG, R, TD, AM, RE, WA, RC, WU⟩ := u
  obtain ⟨ns, T', PP, D', H', TR, OC, TS, RS, CA, MD⟩ := v
  obtain ⟨rfl, rfl, rfl, n, p, rfl, rfl, hT, hB, hR⟩ := I
  have hn := hT.2.1
  unfold wpX_attempts wpY_attempts; dsimp only
  rcases tt_ix v1 (n := n) (by omega) with h | ⟨j, hj, rfl⟩
  · exact xx_no h (br_t rfl (yy_no h (br_f (by decide) ⟨rfl, K⟩)))
  · have hv : vp_in (nI j) 24 := vp_in_nI (by omega) (by omega)
    refine xx_yes hj hn (br_f (by decide) ⟨hv, yy_yes hj hn (br_t rfl ⟨hv, ?_, K⟩)⟩)
    rw [tt_at AM (by omega), tt_at MD (by omega)]; exact (hR.1 j (by omega)).2.1.symm
theorem i_vc_times {k : Nat} {u : SX} {v : SY} (I : i_Rel k u v) (hk : k + 4 ≤ 2048) (v1 : Int32) (v2 : Int32) : wpX_times (fun r => wpY_times (fun r' => r' = r ∧ i_Rel (k + 4) u v) v v1 v2) u v1 v2 := by
  have K : i_Rel (k + 4) u v := I
  obtain ⟨nc, sd, P, T, D, H, AA, BO, TG, R, TD, AM, RE, WA, RC, WU⟩ := u
  obtain ⟨ns, T', PP, D', H', TR, OC, TS, RS, CA, MD⟩ := v
  obtain ⟨rfl, rfl, rfl, n, p, rfl, rfl, hT, hB, hR⟩ := I
  have hn := hT.2.1
  unfold wpX_times wpY_times; dsimp only
  rcases tt_ix v1 (n := n) (by omega) with h | ⟨j, hj, rfl⟩
  · exact xx_no h (br_t rfl (yy_no h (br_f (by decide) ⟨rfl, K⟩)))
  · refine xx_yes hj hn (br_f (by decide) ?_)
    rcases tt_ix v2 (n := 4) (by omega) with h | ⟨w, hw, rfl⟩
    · refine xx_hk0 h (br_t rfl (yy_yes hj hn (br_t rfl ?_)))
      by_cases h0 : v2 < 0
      · exact br_t h0 ⟨rfl, K⟩
      · refine br_f h0 (br_f ?_ ⟨rfl, K⟩)
        have h4 := h.resolve_left h0
        exact Int32.not_le.mpr (Int32.lt_of_lt_of_le (by decide) h4)
    · have w0 : ¬ nI w < 0 := nI_pos (by omega)
      have w3 : nI w ≤ 3 := nI_le (a := w) (b := 3) (by omega) (by omega)
      have hs : vp_in (nI (j * 4 + w)) 96 := vp_in_nI (by omega) (by omega)
      refine xx_hk1 hw (br_f (by decide) ?_)
      rw [tt_sl]
      refine ⟨hs, yy_yes hj hn (br_t rfl (br_f w0 (br_t w3 ?_)))⟩
      refine ⟨hs, ?_, K⟩
      rw [tt_at TD (by omega), tt_at CA (by omega)]; exact (hR.2.1 _ (by omega)).symm
def tt_ct (T R : Nat → Int32) (x : Int32) : Nat → Int32
  | 0 => 0
  | i + 1 => if T i = 0 then tt_ct T R x i else if R i = x then tt_ct T R x i + 1 else tt_ct T R x i
theorem tt_ct_c {T R R' : Nat → Int32} {x : Int32} : ∀ i, (∀ j, j < i → R j = R' j) → tt_ct T R x i = tt_ct T R' x i
  | 0, _ => rfl
  | i + 1, e => by
    show (if T i = 0 then tt_ct T R x i else if R i = x then tt_ct T R x i + 1 else tt_ct T R x i) = (if T i = 0 then tt_ct T R' x i else if R' i = x then tt_ct T R' x i + 1 else tt_ct T R' x i)
    rw [tt_ct_c i (fun j hj => e j (by omega)), e i (by omega)]
theorem tt_ct_t {T R : Nat → Int32} {x : Int32} {i : Nat} (h : T i = 0) : tt_ct T R x (i + 1) = tt_ct T R x i := if_pos h
theorem tt_ct_y {T R : Nat → Int32} {x : Int32} {i : Nat} (h : ¬ T i = 0) (h2 : R i = x) : tt_ct T R x (i + 1) = tt_ct T R x i + 1 := (if_neg h).trans (if_pos h2)
theorem tt_ct_n {T R : Nat → Int32} {x : Int32} {i : Nat} (h : ¬ T i = 0) (h2 : ¬ R i = x) : tt_ct T R x (i + 1) = tt_ct T R x i := (if_neg h).trans (if_neg h2)
theorem tt_ct_z {T R : Nat → Int32} {x : Int32} : ∀ i, (∀ j, j < i → ¬ R j = x) → tt_ct T R x i = 0
  | 0, _ => rfl
  | i + 1, e => by
    by_cases h : T i = 0
    · rw [tt_ct_t h]; exact tt_ct_z i (fun j hj => e j (by omega))
    · rw [tt_ct_n h (e i (by omega))]; exact tt_ct_z i (fun j hj => e j (by omega))
theorem xx_tw {post : Int32 → Prop} {sd : Int32} {P T D H AA BO TG R TD AM RE WA RC WU : Nat → Int32} {n : Nat} (hn : n ≤ 24) (x : Int32) (hp : post (tt_ct T R x n)) : ∀ d i a, i + d = n → a = tt_ct T R x i → wX_testsWith_4 post x (nI n) sd P T D H AA BO TG R TD AM RE WA RC WU (d + 1) a (nI i) := by
  intro d
  induction d with
  | zero =>
    intro i a hi ha
    have hi' : i = n := by omega
    subst hi'
    exact br_t (nI_le (by omega) (by omega)) (ha ▸ hp)
  | succ d ih =>
    intro i a hi ha
    have hv : vp_in (nI i) 24 := vp_in_nI (by omega) (by omega)
    refine br_f (nI_ge (by omega) (by omega)) ⟨hv, ?_⟩
    rw [tt_at T (by omega)]
    by_cases t : T i = 0
    · exact br_t t (nm_r (nI_1 i) (ih (i + 1) a (by omega) (ha.trans (tt_ct_t t).symm)))
    · refine br_f t ⟨hv, ?_⟩
      rw [tt_at R (by omega)]
      by_cases r : R i = x
      · exact br_t r (nm_r (by rw [ha]; exact (tt_ct_y t r).symm) (nm_r (nI_1 i) (ih (i + 1) _ (by omega) rfl)))
      · exact br_f r (nm_r (nI_1 i) (ih (i + 1) a (by omega) (ha.trans (tt_ct_n t r).symm)))
theorem xx_testsWith {post : Int32 → Prop} {sd : Int32} {P T D H AA BO TG R TD AM RE WA RC WU : Nat → Int32} {n : Nat} (hn : n ≤ 24) (x : Int32) (hp : post (tt_ct T R x n)) : wpX_testsWith post (nI n, sd, P, T, D, H, AA, BO, TG, R, TD, AM, RE, WA, RC, WU) x :=
  ⟨_, xx_tw hn x hp n 0 0 (by omega) rfl⟩
theorem yy_cw {post : Int32 → Prop} {T PP D H TR OC TS RS CA MD : Nat → Int32} {n : Nat} (hn : n ≤ 24) (x : Int32) (hx : ¬ x = 0) (hp : post (tt_ct T RS x n)) : ∀ d i a, i + d = n → a = tt_ct T RS x i → wY_count_4 post x (nI n) T PP D H TR OC TS RS CA MD (d + 1) a (nI i) := by
  intro d
  induction d with
  | zero =>
    intro i a hi ha
    have hi' : i = n := by omega
    subst hi'
    exact br_t (nI_le (by omega) (by omega)) (ha ▸ hp)
  | succ d ih =>
    intro i a hi ha
    have hv : vp_in (nI i) 24 := vp_in_nI (by omega) (by omega)
    refine br_f (nI_ge (by omega) (by omega)) ⟨hv, ?_⟩
    rw [tt_at T (by omega)]
    by_cases t : T i = 0
    · exact br_t t (nm_r (nI_1 i) (ih (i + 1) a (by omega) (ha.trans (tt_ct_t t).symm)))
    · refine br_f t ⟨hv, ?_⟩
      rw [tt_at RS (by omega)]
      by_cases r : RS i = x
      · exact br_t r (br_f hx (nm_r (by rw [ha]; exact (tt_ct_y t r).symm) (nm_r (nI_1 i) (ih (i + 1) _ (by omega) rfl))))
      · exact br_f r (nm_r (nI_1 i) (ih (i + 1) a (by omega) (ha.trans (tt_ct_n t r).symm)))
theorem yy_count {post : Int32 → Prop} {T PP D H TR OC TS RS CA MD : Nat → Int32} {n : Nat} (hn : n ≤ 24) (x : Int32) (hx : ¬ x = 0) (hp : post (tt_ct T RS x n)) : wpY_count post (nI n, T, PP, D, H, TR, OC, TS, RS, CA, MD) x :=
  ⟨_, yy_cw hn x hx hp n 0 0 (by omega) rfl⟩
theorem yy_cz {post : Int32 → Prop} {T PP D H TR OC TS RS CA MD : Nat → Int32} {n : Nat} (hn : n ≤ 24) (hp : post 0) : ∀ d i, i + d = n → wY_count_4 post 0 (nI n) T PP D H TR OC TS RS CA MD (d + 1) 0 (nI i) := by
  intro d
  induction d with
  | zero =>
    intro i hi
    have hi' : i = n := by omega
    subst hi'
    exact br_t (nI_le (by omega) (by omega)) hp
  | succ d ih =>
    intro i hi
    have hv : vp_in (nI i) 24 := vp_in_nI (by omega) (by omega)
    refine br_f (nI_ge (by omega) (by omega)) ⟨hv, br_c (fun _ => nm_r (nI_1 i) (ih (i + 1) (by omega))) (fun _ => ⟨hv, br_c (fun _ => br_t rfl (nm_r (nI_1 i) (ih (i + 1) (by omega)))) (fun _ => nm_r (nI_1 i) (ih (i + 1) (by omega)))⟩)⟩
theorem i_vc_count {k : Nat} {u : SX} {v : SY} (I : i_Rel k u v) (hk : k + 4 ≤ 2048) (v1 : Int32) : wpX_count (fun r => wpY_count (fun r' => r' = r ∧ i_Rel (k + 4) u v) v v1) u v1 := by
  have K : i_Rel (k + 4) u v := I
  obtain ⟨nc, sd, P, T, D, H, AA, BO, TG, R, TD, AM, RE, WA, RC, WU⟩ := u
  obtain ⟨ns, T', PP, D', H', TR, OC, TS, RS, CA, MD⟩ := v
  obtain ⟨rfl, rfl, rfl, n, p, rfl, rfl, hT, hB, hR⟩ := I
  have hn := hT.2.1
  unfold wpX_count; dsimp only
  by_cases z : v1 = 0
  · subst z
    exact br_t (by decide) ⟨_, yy_cz hn ⟨rfl, K⟩ n 0 (by omega)⟩
  · by_cases h1 : v1 < 1
    · refine br_t h1 (yy_count hn v1 z ⟨tt_ct_z n (fun j hj e => ?_), K⟩)
      rw [← e] at h1 z
      rcases (hR.1 j (by omega)).2.2 with q | q | q | q <;> rw [q] at h1 z <;> revert h1 z <;> decide
    · by_cases h3 : v1 ≤ 3
      · exact br_f h1 (br_t h3 (xx_testsWith hn v1 (yy_count hn v1 z ⟨tt_ct_c n (fun j hj => (hR.1 j (by omega)).1.symm), K⟩)))
      · refine br_f h1 (br_f h3 (yy_count hn v1 z ⟨tt_ct_z n (fun j hj e => ?_), K⟩))
        rw [← e] at h3
        rcases (hR.1 j (by omega)).2.2 with q | q | q | q <;> rw [q] at h3 <;> revert h3 <;> decide
theorem yy_st {post : Int32 → Prop} {ns : Int32} {T PP D H TR OC TS RS CA MD : Nat → Int32} (hp : post (tt_S CA 96)) : ∀ d i, i + d = 96 → wY_steps_4 post ns T PP D H TR OC TS RS CA MD (d + 1) (tt_S CA i) (nI i) := by
  intro d
  induction d with
  | zero =>
    intro i hi
    have hi' : i = 96 := by omega
    subst hi'
    exact br_t (by decide) hp
  | succ d ih =>
    intro i hi
    have hv : vp_in (nI i) 96 := vp_in_nI (by omega) (by omega)
    refine br_f (nI_ge (b := 96) (by omega) (by omega)) ⟨hv, nm_r (e' := tt_S CA (i + 1)) (by rw [tt_at CA (by omega)]; rfl) (nm_r (nI_1 i) (ih (i + 1) (by omega)))⟩
theorem i_vc_steps {k : Nat} {u : SX} {v : SY} (I : i_Rel k u v) (hk : k + 4 ≤ 2048) : wpX_steps (fun r => wpY_steps (fun r' => r' = r ∧ i_Rel (k + 4) u v) v) u := by
  have K : i_Rel (k + 4) u v := I
  obtain ⟨nc, sd, P, T, D, H, AA, BO, TG, R, TD, AM, RE, WA, RC, WU⟩ := u
  obtain ⟨ns, T', PP, D', H', TR, OC, TS, RS, CA, MD⟩ := v
  obtain ⟨rfl, rfl, rfl, n, p, rfl, rfl, hT, hB, hR⟩ := I
  exact ⟨_, yy_st ⟨hR.2.2.symm, K⟩ 96 0 (by omega)⟩
end
section
def tt_PY (n : Nat) (p : Nat → Nat) (PP : Nat → Int32) : Prop := n ≤ 24 ∧ tt_Hp p ∧ (∀ i, 0 < i → i < n → PP i = nI (p i)) ∧ PP 0 = -1
theorem yy_ab10 {post : Int32 → Prop} {ns : Int32} {T PP D H TR OC TS RS CA MD : Nat → Int32} {n : Nat} {p : Nat → Nat} (h : tt_PY n p PP) {c : Nat} (hc : c < 24) : ∀ j k f, j < n → k + j < 24 → j < f → (tt_Ab p c j → post 1) → (¬ tt_Ab p c j → post 0) → wY_above_10 post (nI c) ns T PP D H TR OC TS RS CA MD f (PP j) (nI k) := by
  intro j
  induction j using Nat.strongRecOn with
  | ind j ih =>
    intro k f hj hk hf h1 h0
    match f, hf with
    | f + 1, hf =>
      have hn := h.1
      refine br_f (nI_ge (b := 24) (by omega) (by omega)) ?_
      by_cases z : j = 0
      · subst z; rw [h.2.2.2]; exact br_t (by decide) (h0 tt_Ab_0)
      · have hp := h.2.1 j (by omega)
        rw [h.2.2.1 j (by omega) hj]
        refine br_f (nI_pos (by omega)) ?_
        have e := tt_Ab_s h.2.1 (c := c) (i := j) (by omega)
        by_cases q : p j = c
        · exact br_t (by rw [q]) (h1 (e.mpr (Or.inl q)))
        · exact br_f (fun y => q ((nI_eq (by omega) (by omega)).mp y)) ⟨vp_in_nI (by omega) (by omega), nm_r (tt_at PP (by omega)) (nm_r (nI_1 k) (ih (p j) hp (k + 1) f (by omega) (by omega) (by omega) (fun y => h1 (e.mpr (Or.inr y))) (fun y => h0 (fun y2 => (e.mp y2).elim q y))))⟩
theorem yy_above {post : Int32 → Prop} {ns : Int32} {T PP D H TR OC TS RS CA MD : Nat → Int32} {n : Nat} {p : Nat → Nat} (h : tt_PY n p PP) {c i : Nat} (hc : c < 24) (hi : i < n) (h1 : tt_Ab p c i → post 1) (h0 : ¬ tt_Ab p c i → post 0) : wpY_above post (ns, T, PP, D, H, TR, OC, TS, RS, CA, MD) (nI c) (nI i) := by
  have hn := h.1
  exact ⟨vp_in_nI (by omega) (by omega), nm_r (tt_at PP (by omega)) ⟨i + 1, yy_ab10 h hc i 0 (i + 1) hi (by omega) (by omega) h1 h0⟩⟩
theorem yy_pa2 {post : Int32 → Prop} {T PP D H TR OC TS RS CA MD : Nat → Int32} {n : Nat} {p : Nat → Nat} (h : tt_PY n p PP) {i w : Nat} (hi : i < n) (hw : w < 4) (h1 : tt_Pa p H w i → post 1) (h0 : ¬ tt_Pa p H w i → post 0) : ∀ d c, c + d = n → (∀ c', c' < c → tt_Ab p c' i → H (c' * 4 + w) ≤ 1) → wY_passes_2 post (nI i) (nI w) (nI n) T PP D H TR OC TS RS CA MD (d + 1) (nI c) := by
  have hn := h.1
  intro d
  induction d with
  | zero =>
    intro c hc hv
    exact br_t (nI_le (by omega) (by omega)) (h1 (fun c' hc' => hv c' (by have := tt_Ab_lt h.2.1 i hc'; omega) hc'))
  | succ d ih =>
    intro c hc hv
    refine br_f (nI_ge (by omega) (by omega)) (yy_above h (by omega) hi (fun a => br_f (by decide) ?_) (fun na => br_t rfl (nm_r (nI_1 c) (ih (c + 1) (by omega) (fun c' hc' a' => ?_)))))
    · rw [tt_sl]
      refine ⟨vp_in_nI (by omega) (by omega), ?_⟩
      rw [tt_at H (by omega)]
      by_cases q : H (c * 4 + w) ≤ 1
      · refine br_t q (nm_r (nI_1 c) (ih (c + 1) (by omega) (fun c' hc' a' => ?_)))
        by_cases e : c' = c
        · rw [e]; exact q
        · exact hv c' (by omega) a'
      · exact br_f q (h0 (fun z => q (z c a)))
    · by_cases e : c' = c
      · exact absurd (e ▸ a') na
      · exact hv c' (by omega) a'
theorem yy_passes {post : Int32 → Prop} {T PP D H TR OC TS RS CA MD : Nat → Int32} {n : Nat} {p : Nat → Nat} (h : tt_PY n p PP) {i w : Nat} (hi : i < n) (hw : w < 4) (h1 : tt_Pa p H w i → post 1) (h0 : ¬ tt_Pa p H w i → post 0) : wpY_passes post (nI n, T, PP, D, H, TR, OC, TS, RS, CA, MD) (nI i) (nI w) :=
  ⟨_, yy_pa2 h hi hw h1 h0 n 0 (by omega) (fun _ z => absurd z (by omega))⟩
theorem yy_se33 {post : Int32 → Prop} {T PP D H TR OC TS RS CA MD : Nat → Int32} {n : Nat} {p : Nat → Nat} (h : tt_PY n p PP) {i : Nat} (hi : i < n) (h1 : (∀ c, tt_Ab p c i → D c = 0) → post 1) (h0 : ¬ (∀ c, tt_Ab p c i → D c = 0) → post 0) : ∀ d c, c + d = n → (∀ c', c' < c → tt_Ab p c' i → D c' = 0) → wY_selected_33 post (nI i) (nI n) T PP D H TR OC TS RS CA MD (d + 1) (nI c) := by
  have hn := h.1
  intro d
  induction d with
  | zero =>
    intro c hc hv
    exact br_t (nI_le (by omega) (by omega)) (h1 (fun c' hc' => hv c' (by have := tt_Ab_lt h.2.1 i hc'; omega) hc'))
  | succ d ih =>
    intro c hc hv
    refine br_f (nI_ge (by omega) (by omega)) ⟨vp_in_nI (by omega) (by omega), ?_⟩
    rw [tt_at D (by omega)]
    by_cases q : D c = 0
    · refine br_t q (nm_r (nI_1 c) (ih (c + 1) (by omega) (fun c' hc' a' => ?_)))
      by_cases e : c' = c
      · rw [e]; exact q
      · exact hv c' (by omega) a'
    · refine br_f q (yy_above h (by omega) hi (fun a => br_f (by decide) (h0 (fun z => q (z c a)))) (fun na => br_t rfl (nm_r (nI_1 c) (ih (c + 1) (by omega) (fun c' hc' a' => ?_)))))
      by_cases e : c' = c
      · exact absurd (e ▸ a') na
      · exact hv c' (by omega) a'
theorem yy_selected {post : Int32 → Prop} {T PP D H TR OC TS RS CA MD : Nat → Int32} {n : Nat} {p : Nat → Nat} (h : tt_PY n p PP) {g : Int32} {i : Nat} (hi : i < n) (h1 : tt_Se p T D TS g i → post 1) (h0 : ¬ tt_Se p T D TS g i → post 0) : wpY_selected post (nI n, T, PP, D, H, TR, OC, TS, RS, CA, MD) (nI i) g := by
  have hn := h.1
  have hv : vp_in (nI i) 24 := vp_in_nI (by omega) (by omega)
  unfold wpY_selected; dsimp only
  rw [tt_at T (by omega), tt_at TS (by omega), tt_at D (by omega)]
  refine ⟨hv, br_c (fun t => h0 (fun z => z.1 t)) (fun t => ⟨hv, br_c (fun q => h0 (fun z => z.2.1 q)) (fun q => ⟨hv, br_c (fun e => ?_) (fun e => h0 (fun z => e z.2.2.1))⟩)⟩)⟩
  exact ⟨_, yy_se33 h hi (fun a => h1 ⟨t, q, e, a⟩) (fun a => h0 (fun z => a z.2.2.2)) n 0 (by omega) (fun _ z => absurd z (by omega))⟩
theorem yy_iu2 {post : Int32 → Prop} {T PP D H TR OC TS RS CA MD : Nat → Int32} {n : Nat} {p : Nat → Nat} (h : tt_PY n p PP) {g : Int32} {c : Nat} (hc : c < 24) (h1 : (∃ t, t < n ∧ tt_Ab p c t ∧ tt_Se p T D TS g t) → post 1) (h0 : ¬ (∃ t, t < n ∧ tt_Ab p c t ∧ tt_Se p T D TS g t) → post 0) : ∀ d i, i + d = n → (∀ t, t < i → ¬ (tt_Ab p c t ∧ tt_Se p T D TS g t)) → wY_inUse_2 post (nI c) g (nI n) T PP D H TR OC TS RS CA MD (d + 1) (nI i) := by
  have hn := h.1
  intro d
  induction d with
  | zero =>
    intro i hi hv
    exact br_t (nI_le (by omega) (by omega)) (h0 (fun ⟨t, a, b⟩ => hv t (by omega) b))
  | succ d ih =>
    intro i hi hv
    refine br_f (nI_ge (by omega) (by omega)) (yy_above h hc (by omega) (fun a => br_f (by decide) (yy_selected h (by omega) (fun s => br_f (by decide) (h1 ⟨i, by omega, a, s⟩)) (fun s => br_t rfl (nm_r (nI_1 i) (ih (i + 1) (by omega) (fun t ht z => ?_)))))) (fun na => br_t rfl (nm_r (nI_1 i) (ih (i + 1) (by omega) (fun t ht z => ?_)))))
    · by_cases e : t = i
      · exact s (e ▸ z.2)
      · exact hv t (by omega) z
    · by_cases e : t = i
      · exact na (e ▸ z.1)
      · exact hv t (by omega) z
theorem yy_inUse {post : Int32 → Prop} {T PP D H TR OC TS RS CA MD : Nat → Int32} {n : Nat} {p : Nat → Nat} (h : tt_PY n p PP) {g : Int32} {c : Nat} (hc : c < 24) (h1 : (∃ t, t < n ∧ tt_Ab p c t ∧ tt_Se p T D TS g t) → post 1) (h0 : ¬ (∃ t, t < n ∧ tt_Ab p c t ∧ tt_Se p T D TS g t) → post 0) : wpY_inUse post (nI n, T, PP, D, H, TR, OC, TS, RS, CA, MD) (nI c) g :=
  ⟨_, yy_iu2 h hc h1 h0 n 0 (by omega) (fun _ z => absurd z (by omega))⟩
theorem yy_ha3 {post : Int32 → Prop} {T PP D H TR OC TS RS CA MD : Nat → Int32} {n : Nat} {p : Nat → Nat} (h : tt_PY n p PP) {t : Nat} (ht : t < n) {a o : Int32} (h1 : tt_Ha p H t (fun q => a = q) o → post 1) (h0 : ¬ tt_Ha p H t (fun q => a = q) o → post 0) : ∀ d c, c + d = n → (∀ c', c' < c → ¬ (tt_Ab p c' t ∧ tt_Pa p H 2 c' ∧ (H (c' * 4 + 2) = o ∨ H (c' * 4 + 3) = o))) → wY_has_3 post (nI t) a o (nI n) T PP D H TR OC TS RS CA MD (d + 1) (nI c) := by
  have hn := h.1
  intro d
  induction d with
  | zero =>
    intro c hc hv
    have hv' : ¬ ∃ c, tt_Ab p c t ∧ tt_Pa p H 2 c ∧ (H (c * 4 + 2) = o ∨ H (c * 4 + 3) = o) := fun ⟨c', z⟩ => hv c' (by have := tt_Ab_lt h.2.1 t z.1; omega) z
    refine br_t (nI_le (by omega) (by omega)) (br_c (fun e => ?_) (fun e => h0 (fun z => z.elim hv' (fun y => e y.1))))
    exact yy_passes (w := 2) h ht (by omega) (fun y => br_f (by decide) (h1 (Or.inr ⟨e, y⟩))) (fun y => br_t rfl (h0 (fun z => z.elim hv' (fun x => y x.2))))
  | succ d ih =>
    intro c hc hv
    have go : ¬ (tt_Ab p c t ∧ tt_Pa p H 2 c ∧ (H (c * 4 + 2) = o ∨ H (c * 4 + 3) = o)) → wY_has_3 post (nI t) a o (nI n) T PP D H TR OC TS RS CA MD (d + 1) (nI (c + 1)) := by
      intro z
      refine ih (c + 1) (by omega) (fun c' hc' y => ?_)
      by_cases e : c' = c
      · subst e; exact z y
      · exact hv c' (by omega) y
    refine br_f (nI_ge (by omega) (by omega)) (yy_above h (by omega) ht (fun a1 => br_f (by decide) ?_) (fun na => br_t rfl (nm_r (nI_1 c) (go (fun z => na z.1)))))
    refine yy_passes (w := 2) h (by omega) (by omega) (fun a2 => br_f (by decide) ?_) (fun na => br_t rfl (nm_r (nI_1 c) (go (fun z => na z.2.1))))
    rw [show nI c * 4 + 2 = nI (c * 4 + 2) from tt_sl c 2, show nI c * 4 + 3 = nI (c * 4 + 3) from tt_sl c 3, tt_at H (by omega), tt_at H (by omega)]
    exact ⟨vp_in_nI (by omega) (by omega), br_c (fun e => h1 (Or.inl ⟨c, a1, a2, Or.inl e⟩)) (fun e => ⟨vp_in_nI (by omega) (by omega), br_c (fun e2 => h1 (Or.inl ⟨c, a1, a2, Or.inr e2⟩)) (fun e2 => nm_r (nI_1 c) (go (fun z => z.2.2.elim e e2)))⟩)⟩
theorem yy_has {post : Int32 → Prop} {T PP D H TR OC TS RS CA MD : Nat → Int32} {n : Nat} {p : Nat → Nat} (h : tt_PY n p PP) {t : Nat} (ht : t < n) {a o : Int32} (h1 : tt_Ha p H t (fun q => a = q) o → post 1) (h0 : ¬ tt_Ha p H t (fun q => a = q) o → post 0) : wpY_has post (nI n, T, PP, D, H, TR, OC, TS, RS, CA, MD) (nI t) a o :=
  ⟨_, yy_ha3 h ht h1 h0 n 0 (by omega) (fun _ z => absurd z (by omega))⟩
theorem tt_s4 (c : Nat) : nI c * 4 = nI (c * 4) := by
  rw [show (4 : Int32) = nI 4 from rfl, pk_mul]
theorem yy_rt7 {post : SY → Prop} {T PP D H TR OC TS RS CA MD : Nat → Int32} {n : Nat} {p : Nat → Nat} (h : tt_PY n p PP) {t K : Nat} (ht : t < n) (hK : K < 2 ^ 31) (hTR : TR t = nI K) : ∀ r i m l, i + r = K → post (nI n, T, PP, D, H, TR, OC, TS, upd RS t (tt_lp (tt_gt p H OC t) r i m l).2, upd CA (t * 4 + 0) (tt_b (tt_Pa p H 2 t) * nI (tt_lp (tt_gt p H OC t) r i m l).1), upd MD t (nI (tt_lp (tt_gt p H OC t) r i m l).1)) → wY_runTest_7 post (nI t) (nI n) T PP D H TR OC TS RS CA MD (r + 1) (nI m) l (nI i) := by
  have hn := h.1
  have hv : vp_in (nI t) 24 := vp_in_nI (by omega) (by omega)
  have hs : vp_in (nI t * 4) 96 := by rw [tt_s4]; exact vp_in_nI (by omega) (by omega)
  have hc : (nI t * 4).toNatClampNeg = t * 4 + 0 := by rw [tt_s4]; exact nI_clamp (by omega)
  have hTR' : TR (nI t).toNatClampNeg = nI K := (tt_at TR (by omega)).trans hTR
  intro r
  induction r with
  | zero =>
    intro i m l hi hp
    refine ⟨hv, br_t (by rw [hTR']; exact nI_le (by omega) (by omega)) ⟨hv, nm_r (tt_un RS _ (by omega)) ⟨hv, nm_r (tt_un MD _ (by omega)) ?_⟩⟩⟩
    refine yy_passes (w := 2) h ht (by omega) (fun y => br_f (by decide) ⟨hs, nm_r (e' := upd CA (t * 4 + 0) (nI m)) (by rw [hc]) ?_⟩) (fun y => br_t rfl ⟨hs, nm_r (e' := upd CA (t * 4 + 0) 0) (by rw [hc]) ?_⟩)
    · rw [tt_b1 y, Int32.one_mul] at hp; exact hp
    · rw [tt_b0 y, Int32.zero_mul] at hp; exact hp
  | succ r ih =>
    intro i m l hi hp
    refine ⟨hv, br_f (by rw [hTR']; exact nI_ge (by omega) (by omega)) ?_⟩
    by_cases e : l = 2
    · subst e
      rw [tt_lp_s] at hp
      refine br_t rfl ⟨hv, nm_r (e' := tt_own OC t i) (by rw [tt_at OC (by omega)]; rfl) ?_⟩
      refine yy_has h ht (fun h2 => yy_has h ht (fun h3 => br_f (by decide) (nm_r (nI_1 m) (nm_r (nI_1 i) ?_))) (fun h3 => br_f (by decide) (nm_r (nI_1 m) (nm_r (nI_1 i) ?_)))) (fun h2 => yy_has h ht (fun h3 => br_t rfl (br_f (by decide) (nm_r (nI_1 m) (nm_r (nI_1 i) ?_)))) (fun h3 => br_t rfl (br_t rfl (nm_r (nI_1 m) (nm_r (nI_1 i) ?_)))))
      · rw [show tt_gt p H OC t i = 2 from tt_g2 h2] at hp; exact ih (i + 1) (m + 1) 2 (by omega) hp
      · rw [show tt_gt p H OC t i = 2 from tt_g2 h2] at hp; exact ih (i + 1) (m + 1) 2 (by omega) hp
      · rw [show tt_gt p H OC t i = 3 from tt_g3 h2 h3] at hp; exact ih (i + 1) (m + 1) 3 (by omega) hp
      · rw [show tt_gt p H OC t i = 1 from tt_g1 h2 h3] at hp; exact ih (i + 1) (m + 1) 1 (by omega) hp
    · rw [tt_lp_n e] at hp
      refine br_f e (nm_r (nI_1 i) (ih (i + 1) m l (by omega) ?_))
      rw [tt_lp_n e]; exact hp
theorem yy_runTest {post : SY → Prop} {T PP D H TR OC TS RS CA MD : Nat → Int32} {n : Nat} {p : Nat → Nat} (h : tt_PY n p PP) {t K : Nat} (ht : t < n) (hK : K < 2 ^ 31) (hTR : TR t = nI K) (hp : post (nI n, T, PP, D, H, TR, OC, TS, upd RS t (tt_mr p H OC TR t).2, upd CA (t * 4 + 0) (tt_b (tt_Pa p H 2 t) * nI (tt_mr p H OC TR t).1), upd MD t (nI (tt_mr p H OC TR t).1))) : wpY_runTest post (nI n, T, PP, D, H, TR, OC, TS, RS, CA, MD) (nI t) := by
  have e : (TR t).toNatClampNeg = K := by rw [hTR]; exact nI_clamp hK
  unfold tt_mr at hp
  rw [e] at hp
  exact ⟨_, yy_rt7 h ht hK hTR K 0 0 2 (by omega) hp⟩
theorem tt_uu {f : Nat → Int32} {c : Nat} {a b : Int32} : upd (upd f c a) c b = upd f c b := by
  funext j
  by_cases e : j = c
  · rw [e, pk_us, pk_us]
  · rw [pk_un e, pk_un e, pk_un e]
theorem yy_rc80 {post : SY → Prop} {ns : Int32} {T PP D H TR OC TS RS CA MD : Nat → Int32} {c : Nat} (hc : c < 24) {a b x : Int32} (hp : post (ns, T, PP, D, H, TR, OC, TS, upd RS c (tt_i (a = 2 ∨ b = 2) 2 x), CA, MD)) : wY_runContainer_80 post (nI c) a b ns T PP D H TR OC TS (upd RS c x) CA MD := by
  have hv : vp_in (nI c) 24 := vp_in_nI (by omega) (by omega)
  by_cases ha : a = 2
  · rw [tt_i1 (Or.inl ha)] at hp
    exact br_t ha ⟨hv, nm_r (e' := upd RS c 2) (by rw [tt_un _ _ (by omega), tt_uu]) hp⟩
  · by_cases hb : b = 2
    · rw [tt_i1 (Or.inr hb)] at hp
      exact br_f ha (br_t hb ⟨hv, nm_r (e' := upd RS c 2) (by rw [tt_un _ _ (by omega), tt_uu]) hp⟩)
    · rw [tt_i0 (fun z => z.elim ha hb)] at hp
      exact br_f ha (br_f hb hp)
theorem yy_rc55 {post : SY → Prop} {ns : Int32} {T PP D H TR OC TS RS CA MD : Nat → Int32} {c s : Nat} (hc : c < 24) (hs : s < 96) {a b z : Int32} (hp : post (ns, T, PP, D, H, TR, OC, TS, upd RS c (tt_g (fun o => a = o ∨ b = o)), upd CA s z, MD)) : wY_runContainer_55 post (nI c) a b z (nI s) ns T PP D H TR OC TS RS CA MD := by
  have hv : vp_in (nI c) 24 := vp_in_nI (by omega) (by omega)
  have e3 : (a = 3 ∨ b = 3) → tt_g (fun o => a = o ∨ b = o) = tt_i (a = 2 ∨ b = 2) 2 3 := by
    intro h
    show tt_i (a = 2 ∨ b = 2) 2 (tt_i (a = 3 ∨ b = 3) 3 1) = _
    rw [tt_i1 h]
  have e1 : ¬ (a = 3 ∨ b = 3) → tt_g (fun o => a = o ∨ b = o) = tt_i (a = 2 ∨ b = 2) 2 1 := by
    intro h
    show tt_i (a = 2 ∨ b = 2) 2 (tt_i (a = 3 ∨ b = 3) 3 1) = _
    rw [tt_i0 h]
  refine ⟨vp_in_nI hs (by omega), nm_r (tt_un CA _ (by omega)) ⟨hv, nm_r (tt_un RS _ (by omega)) ?_⟩⟩
  by_cases ha : a = 3
  · rw [e3 (Or.inl ha)] at hp
    exact br_t ha ⟨hv, nm_r (e' := upd RS c 3) (by rw [tt_un _ _ (by omega), tt_uu]) (yy_rc80 hc hp)⟩
  · by_cases hb : b = 3
    · rw [e3 (Or.inr hb)] at hp
      exact br_f ha (br_t hb ⟨hv, nm_r (e' := upd RS c 3) (by rw [tt_un _ _ (by omega), tt_uu]) (yy_rc80 hc hp)⟩)
    · rw [e1 (fun z => z.elim ha hb)] at hp
      exact br_f ha (br_f hb (yy_rc80 hc hp))
theorem yy_rc36 {post : SY → Prop} {ns : Int32} {T PP D H TR OC TS RS CA MD : Nat → Int32} {c s : Nat} (hc : c < 24) (hs : s < 96) {a b z : Int32} (hp : post (ns, T, PP, D, H, TR, OC, TS, upd RS c (tt_g (fun o => a = o ∨ b = o)), upd (upd CA s z) (c * 4 + 1) (tt_b (¬ b = 0)), MD)) : wY_runContainer_36 post (nI c) a b z (nI s) ns T PP D H TR OC TS RS CA MD := by
  refine ⟨vp_in_nI hs (by omega), nm_r (tt_un CA _ (by omega)) ?_⟩
  rw [show nI c * 4 + 1 = nI (c * 4 + 1) from tt_sl c 1]
  by_cases hb : b = 0
  · rw [tt_b0 (fun z => z hb)] at hp
    exact br_t hb (yy_rc55 hc (by omega) hp)
  · rw [tt_b1 hb] at hp
    exact br_f hb (yy_rc55 hc (by omega) hp)
theorem yy_runContainer {post : SY → Prop} {ns : Int32} {T PP D H TR OC TS RS CA MD : Nat → Int32} {c : Nat} (hc : c < 24) (hp : post (ns, T, PP, D, H, TR, OC, TS, upd RS c (tt_g (fun o => H (c * 4 + 0) = o ∨ H (c * 4 + 1) = o)), upd (upd CA (c * 4 + 0) (tt_b (¬ H (c * 4 + 0) = 0))) (c * 4 + 1) (tt_b (¬ H (c * 4 + 1) = 0)), MD)) : wpY_runContainer post (ns, T, PP, D, H, TR, OC, TS, RS, CA, MD) (nI c) := by
  unfold wpY_runContainer; dsimp only
  rw [show nI c * 4 + 1 = nI (c * 4 + 1) from tt_sl c 1, show nI c * 4 = nI (c * 4 + 0) from tt_s4 c]
  refine ⟨vp_in_nI (by omega) (by omega), nm_r (tt_at H (by omega)) ⟨vp_in_nI (by omega) (by omega), nm_r (tt_at H (by omega)) ?_⟩⟩
  by_cases hb : H (c * 4 + 0) = 0
  · rw [tt_b0 (P := ¬ H (c * 4 + 0) = 0) (fun z => z hb)] at hp
    exact br_t hb (yy_rc36 hc (by omega) hp)
  · rw [tt_b1 hb] at hp
    exact br_f hb (yy_rc36 hc (by omega) hp)
theorem yy_e74 {post : SY → Prop} {ns : Int32} {T PP D H TR OC TS RS CA MD : Nat → Int32} {c : Nat} (hc : c < 24) {y z x : Int32} (hp : post (ns, T, PP, D, H, TR, OC, TS, RS, upd (upd CA (c * 4 + 2) z) (c * 4 + 3) (tt_i (¬ x = 0 ∧ ¬ H (c * 4 + 3) = 0) y 0), MD)) : wY_each_74 post (nI c) y x z (nI (c * 4 + 2)) ns T PP D H TR OC TS RS CA MD := by
  have hs : vp_in (nI (c * 4 + 3)) 96 := vp_in_nI (by omega) (by omega)
  unfold wY_each_74
  rw [show nI c * 4 + 3 = nI (c * 4 + 3) from tt_sl c 3, tt_at H (by omega)]
  refine ⟨vp_in_nI (by omega) (by omega), nm_r (tt_un CA _ (by omega)) ?_⟩
  by_cases hx : x = 0
  · rw [tt_i0 (fun z => z.1 hx)] at hp
    exact br_t hx ⟨hs, nm_r (tt_un _ _ (by omega)) hp⟩
  · by_cases hh : H (c * 4 + 3) = 0
    · rw [tt_i0 (fun z => z.2 hh)] at hp
      exact br_f hx ⟨hs, br_t hh ⟨hs, nm_r (tt_un _ _ (by omega)) hp⟩⟩
    · rw [tt_i1 ⟨hx, hh⟩] at hp
      exact br_f hx ⟨hs, br_f hh ⟨hs, nm_r (tt_un _ _ (by omega)) hp⟩⟩
theorem yy_e4 {post : SY → Prop} {T PP D H TR OC TS RS CA MD : Nat → Int32} {n : Nat} {p : Nat → Nat} (h : tt_PY n p PP) {c : Nat} (hc : c < n) (hp : post (nI n, T, PP, D, H, TR, OC, TS, RS, upd (upd CA (c * 4 + 2) (tt_b (tt_Pa p H 2 c ∧ ¬ H (c * 4 + 2) = 0) * tt_S (fun t => tt_b (tt_Ab p c t) * MD t) n)) (c * 4 + 3) (tt_b (tt_Pa p H 2 c ∧ ¬ H (c * 4 + 3) = 0) * tt_S (fun t => tt_b (tt_Ab p c t) * MD t) n), MD)) : ∀ d i a, i + d = n → a = tt_S (fun t => tt_b (tt_Ab p c t) * MD t) i → wY_each_4 post (nI c) (nI n) T PP D H TR OC TS RS CA MD (d + 1) a (nI i) := by
  have hn := h.1
  intro d
  induction d with
  | zero =>
    intro i a hi ha
    have e : i = n := by omega
    subst e
    have hs : vp_in (nI (c * 4 + 2)) 96 := vp_in_nI (by omega) (by omega)
    rw [← ha] at hp
    refine br_t (nI_le (by omega) (by omega)) (yy_passes (w := 2) h hc (by omega) (fun y => br_f (by decide) ?_) (fun y => br_t rfl ?_))
    · rw [show nI c * 4 + 2 = nI (c * 4 + 2) from tt_sl c 2, tt_at H (by omega)]
      refine ⟨hs, ?_⟩
      have e3 : tt_b (tt_Pa p H 2 c ∧ ¬ H (c * 4 + 3) = 0) * a = tt_i (¬ (1 : Int32) = 0 ∧ ¬ H (c * 4 + 3) = 0) a 0 := by
        by_cases q : H (c * 4 + 3) = 0
        · rw [tt_b0 (fun z => z.2 q), tt_i0 (fun z => z.2 q), Int32.zero_mul]
        · rw [tt_b1 ⟨y, q⟩, tt_i1 ⟨by decide, q⟩, Int32.one_mul]
      rw [e3] at hp
      by_cases q : H (c * 4 + 2) = 0
      · rw [tt_b0 (P := tt_Pa p H 2 c ∧ ¬ H (c * 4 + 2) = 0) (fun z => z.2 q), Int32.zero_mul] at hp
        exact br_t q (yy_e74 (by omega) hp)
      · rw [tt_b1 (P := tt_Pa p H 2 c ∧ ¬ H (c * 4 + 2) = 0) ⟨y, q⟩, Int32.one_mul] at hp
        exact br_f q (yy_e74 (by omega) hp)
    · rw [tt_b0 (fun z => y z.1), tt_b0 (fun z => y z.1), Int32.zero_mul] at hp
      rw [show nI c * 4 + 2 = nI (c * 4 + 2) from tt_sl c 2]
      refine yy_e74 (x := 0) (by omega) ?_
      rw [tt_i0 (fun z => z.1 rfl)]
      exact hp
  | succ d ih =>
    intro i a hi ha
    refine br_f (nI_ge (by omega) (by omega)) (yy_above h (by omega) (by omega) (fun y => br_f (by decide) ⟨vp_in_nI (by omega) (by omega), nm_r (e' := tt_S (fun t => tt_b (tt_Ab p c t) * MD t) (i + 1)) ?_ (nm_r (nI_1 i) (ih (i + 1) _ (by omega) rfl))⟩) (fun y => br_t rfl (nm_r (nI_1 i) (ih (i + 1) a (by omega) ?_))))
    · show _ = tt_S (fun t => tt_b (tt_Ab p c t) * MD t) i + tt_b (tt_Ab p c i) * MD i
      rw [tt_at MD (by omega), ha, tt_b1 y, Int32.one_mul]
    · show _ = tt_S (fun t => tt_b (tt_Ab p c t) * MD t) i + tt_b (tt_Ab p c i) * MD i
      rw [ha, tt_b0 y, Int32.zero_mul, Int32.add_zero]
theorem yy_each {post : SY → Prop} {T PP D H TR OC TS RS CA MD : Nat → Int32} {n : Nat} {p : Nat → Nat} (h : tt_PY n p PP) {c : Nat} (hc : c < n) (hp : post (nI n, T, PP, D, H, TR, OC, TS, RS, upd (upd CA (c * 4 + 2) (tt_b (tt_Pa p H 2 c ∧ ¬ H (c * 4 + 2) = 0) * tt_S (fun t => tt_b (tt_Ab p c t) * MD t) n)) (c * 4 + 3) (tt_b (tt_Pa p H 2 c ∧ ¬ H (c * 4 + 3) = 0) * tt_S (fun t => tt_b (tt_Ab p c t) * MD t) n), MD)) : wpY_each post (nI n, T, PP, D, H, TR, OC, TS, RS, CA, MD) (nI c) :=
  ⟨_, yy_e4 h hc hp n 0 0 (by omega) rfl⟩
end
section
section
variable {n : Nat} {p : Nat → Nat} {T D H TS OC TR : Nat → Int32} {g : Int32}
theorem tt_ev0 {i c : Nat} : tt_ev n p T D H TS OC TR g i c 0 = if c < i then tt_i (T c = 0) (tt_b (tt_Go n p T D H TS g c ∧ ¬ H (c * 4 + 0) = 0)) (tt_b (tt_Pa p H 2 c) * tt_md n p T D H TS OC TR g c) else 0 := if_pos rfl
theorem tt_ev1 {i c : Nat} : tt_ev n p T D H TS OC TR g i c 1 = if c < i then tt_b (T c = 0 ∧ tt_Go n p T D H TS g c ∧ ¬ H (c * 4 + 1) = 0) else 0 := by
  unfold tt_ev; rw [if_neg (by omega), if_pos rfl]
theorem tt_ev2 {i c w : Nat} (hw : 2 ≤ w) : tt_ev n p T D H TS OC TR g i c w = tt_b (tt_Pa p H 2 c ∧ ¬ H (c * 4 + w) = 0) * tt_S (fun t => tt_b (tt_Ab p c t) * tt_md n p T D H TS OC TR g t) i := by
  unfold tt_ev; rw [if_neg (by omega), if_neg (by omega)]
theorem tt_w2 {w : Nat} (h : w < 2) : w = 0 ∨ w = 1 := by omega
theorem tt_ev_ne {i c w : Nat} (hw : w < 2) (hc : c ≠ i) : tt_ev n p T D H TS OC TR g (i + 1) c w = tt_ev n p T D H TS OC TR g i c w := by
  have e : (c < i + 1) = (c < i) := propext ⟨fun z => by omega, fun z => by omega⟩
  rcases tt_w2 hw with rfl | rfl
  · rw [tt_ev0, tt_ev0]; simp only [e]
  · rw [tt_ev1, tt_ev1]; simp only [e]
theorem tt_ev_z {i c w : Nat} (hw : w < 2) (hc : i ≤ c) : tt_ev n p T D H TS OC TR g i c w = 0 := by
  rcases tt_w2 hw with rfl | rfl
  · rw [tt_ev0, if_neg (by omega)]
  · rw [tt_ev1, if_neg (by omega)]
theorem tt_ev0_c {i : Nat} (t : T i = 0) : tt_ev n p T D H TS OC TR g (i + 1) i 0 = tt_b (tt_Go n p T D H TS g i ∧ ¬ H (i * 4 + 0) = 0) := by
  rw [tt_ev0, if_pos (by omega), tt_i1 t]
theorem tt_ev0_t {i : Nat} (t : ¬ T i = 0) : tt_ev n p T D H TS OC TR g (i + 1) i 0 = tt_b (tt_Pa p H 2 i) * tt_md n p T D H TS OC TR g i := by
  rw [tt_ev0, if_pos (by omega), tt_i0 t]
theorem tt_ev1_s {i : Nat} : tt_ev n p T D H TS OC TR g (i + 1) i 1 = tt_b (T i = 0 ∧ tt_Go n p T D H TS g i ∧ ¬ H (i * 4 + 1) = 0) := by
  rw [tt_ev1, if_pos (by omega)]
theorem tt_ev2_s {i c w : Nat} (hw : 2 ≤ w) : tt_ev n p T D H TS OC TR g (i + 1) c w = tt_ev n p T D H TS OC TR g i c w + tt_b (tt_Pa p H 2 c ∧ ¬ H (c * 4 + w) = 0) * (tt_b (tt_Ab p c i) * tt_md n p T D H TS OC TR g i) := by
  rw [tt_ev2 hw, tt_ev2 hw, ← Int32.mul_add]; rfl
theorem tt_md1 {i : Nat} (t : ¬ T i = 0) (h : tt_Go n p T D H TS g i) : tt_md n p T D H TS OC TR g i = nI (tt_mr p H OC TR i).1 := tt_i1 ⟨t, h⟩
theorem tt_md0 {i : Nat} (h : ¬ (¬ T i = 0 ∧ tt_Go n p T D H TS g i)) : tt_md n p T D H TS OC TR g i = 0 := tt_i0 h
theorem tt_rs_c {i : Nat} (t : T i = 0) (h : tt_Go n p T D H TS g i) : tt_rs n p T D H TS OC TR g i = tt_g (fun o => H (i * 4 + 0) = o ∨ H (i * 4 + 1) = o) := (tt_i1 h).trans (tt_i1 t)
theorem tt_rs_t {i : Nat} (t : ¬ T i = 0) (h : tt_Go n p T D H TS g i) : tt_rs n p T D H TS OC TR g i = (tt_mr p H OC TR i).2 := (tt_i1 h).trans (tt_i0 t)
theorem tt_rs_0 {i : Nat} (h : ¬ tt_Go n p T D H TS g i) : tt_rs n p T D H TS OC TR g i = 0 := tt_i0 h
theorem tt_ife {f : Nat → Int32} {i c : Nat} (h : f i = 0) : (if c < i + 1 then f c else 0) = if c < i then f c else 0 := by
  by_cases e : c = i
  · subst e; rw [if_pos (by omega), if_neg (by omega), h]
  · by_cases q : c < i
    · rw [if_pos (by omega), if_pos q]
    · rw [if_neg (by omega), if_neg q]
theorem tt_ifu {f R : Nat → Int32} {i c : Nat} {x : Int32} (h : R c = if c < i then f c else 0) (hx : x = f i) : upd R i x c = if c < i + 1 then f c else 0 := by
  by_cases e : c = i
  · subst e; rw [pk_us, if_pos (by omega), hx]
  · rw [pk_un e, h]
    by_cases q : c < i
    · rw [if_pos q, if_pos (by omega)]
    · rw [if_neg q, if_neg (by omega)]
end
def tt_iv (n : Nat) (p : Nat → Nat) (T D H TS OC TR : Nat → Int32) (g : Int32) (i : Nat) (RS MD CA : Nat → Int32) : Prop :=
  (∀ c, c < 24 → RS c = if c < i then tt_rs n p T D H TS OC TR g c else 0) ∧ (∀ c, c < 24 → MD c = if c < i then tt_md n p T D H TS OC TR g c else 0) ∧ (∀ c w, c < 24 → w < 4 → CA (c * 4 + w) = if w < 2 then tt_ev n p T D H TS OC TR g i c w else 0)
section
variable {n : Nat} {p : Nat → Nat} {T D H TS OC TR : Nat → Int32} {g : Int32}
theorem tt_iv_no {i : Nat} {RS MD CA : Nat → Int32} (G : ¬ tt_Go n p T D H TS g i) (h : tt_iv n p T D H TS OC TR g i RS MD CA) : tt_iv n p T D H TS OC TR g (i + 1) RS MD CA := by
  refine ⟨fun c hc => (h.1 c hc).trans (tt_ife (tt_rs_0 G)).symm, fun c hc => (h.2.1 c hc).trans (tt_ife (tt_md0 (fun z => G z.2))).symm, fun c w hc hw => ?_⟩
  rw [h.2.2 c w hc hw]
  by_cases w2 : w < 2
  · rw [if_pos w2, if_pos w2]
    by_cases e : c = i
    · subst e
      rw [tt_ev_z w2 (Nat.le_refl c)]
      rcases tt_w2 w2 with rfl | rfl
      · by_cases t : T c = 0
        · rw [tt_ev0_c t, tt_b0 (fun z => G z.1)]
        · rw [tt_ev0_t t, tt_md0 (fun z => G z.2), Int32.mul_zero]
      · rw [tt_ev1_s, tt_b0 (fun z => G z.2.1)]
    · rw [tt_ev_ne w2 e]
  · rw [if_neg w2, if_neg w2]
theorem tt_iv_c {i : Nat} {RS MD CA : Nat → Int32} (t : T i = 0) (G : tt_Go n p T D H TS g i) (h : tt_iv n p T D H TS OC TR g i RS MD CA) : tt_iv n p T D H TS OC TR g (i + 1) (upd RS i (tt_g (fun o => H (i * 4 + 0) = o ∨ H (i * 4 + 1) = o))) MD (upd (upd CA (i * 4 + 0) (tt_b (¬ H (i * 4 + 0) = 0))) (i * 4 + 1) (tt_b (¬ H (i * 4 + 1) = 0))) := by
  refine ⟨fun c hc => tt_ifu (h.1 c hc) (tt_rs_c t G).symm, fun c hc => (h.2.1 c hc).trans (tt_ife (tt_md0 (fun z => z.1 t))).symm, fun c w hc hw => ?_⟩
  by_cases w2 : w < 2
  · rw [if_pos w2]
    by_cases e : c = i
    · subst e
      rcases tt_w2 w2 with rfl | rfl
      · rw [tt_ev0_c t, pk_un (by omega), pk_us]
        exact tt_bc ⟨fun z => ⟨G, z⟩, fun z => z.2⟩
      · rw [tt_ev1_s, pk_us]
        exact tt_bc ⟨fun z => ⟨t, G, z⟩, fun z => z.2.2⟩
    · rw [tt_ev_ne w2 e, pk_un (by omega), pk_un (by omega), h.2.2 c w hc hw, if_pos w2]
  · rw [pk_un (by omega), pk_un (by omega), h.2.2 c w hc hw, if_neg w2, if_neg w2]
theorem tt_iv_t {i : Nat} {RS MD CA : Nat → Int32} (t : ¬ T i = 0) (G : tt_Go n p T D H TS g i) (h : tt_iv n p T D H TS OC TR g i RS MD CA) : tt_iv n p T D H TS OC TR g (i + 1) (upd RS i (tt_mr p H OC TR i).2) (upd MD i (nI (tt_mr p H OC TR i).1)) (upd CA (i * 4 + 0) (tt_b (tt_Pa p H 2 i) * nI (tt_mr p H OC TR i).1)) := by
  refine ⟨fun c hc => tt_ifu (h.1 c hc) (tt_rs_t t G).symm, fun c hc => tt_ifu (h.2.1 c hc) (tt_md1 t G).symm, fun c w hc hw => ?_⟩
  by_cases w2 : w < 2
  · rw [if_pos w2]
    by_cases e : c = i
    · subst e
      rcases tt_w2 w2 with rfl | rfl
      · rw [tt_ev0_t t, pk_us, tt_md1 t G]
      · rw [tt_ev1_s, pk_un (by omega), tt_b0 (fun z => t z.1), h.2.2 c 1 hc hw, if_pos w2, tt_ev_z w2 (Nat.le_refl c)]
    · rw [tt_ev_ne w2 e, pk_un (by omega), h.2.2 c w hc hw, if_pos w2]
  · rw [pk_un (by omega), h.2.2 c w hc hw, if_neg w2, if_neg w2]
theorem tt_ev_none {c w : Nat} (h : ∀ t, t < n → ¬ tt_Ab p c t) (hw : 2 ≤ w) : tt_ev n p T D H TS OC TR g n c w = 0 := by
  rw [tt_ev2 hw, tt_S_z n (fun t ht => by rw [tt_b0 (h t ht), Int32.zero_mul]), Int32.mul_zero]
theorem tt_Ab_T (hp : tt_Hp p) (hq : ∀ i, 0 < i → i < n → T (p i) = 0) {c : Nat} : ∀ t, t < n → tt_Ab p c t → T c = 0 := by
  intro t
  induction t using Nat.strongRecOn with
  | ind t ih =>
    intro ht h
    have h0 := tt_Ab_pos h
    have h1 := hp t h0
    rcases (tt_Ab_s hp h0).mp h with e | e
    · exact e ▸ hq t h0 ht
    · exact ih _ h1 (by omega) e
theorem tt_Wn_c {i : Nat} (t : T i = 0) : tt_Wn n p T D TS g i ↔ ∃ t, t < n ∧ tt_Ab p i t ∧ tt_Se p T D TS g t :=
  ⟨fun z => z.elim (fun y => absurd t y.1) id, Or.inr⟩
theorem tt_Wn_t (hp : tt_Hp p) (hq : ∀ i, 0 < i → i < n → T (p i) = 0) {i : Nat} (t : ¬ T i = 0) : tt_Wn n p T D TS g i ↔ tt_Se p T D TS g i :=
  ⟨fun z => z.elim id (fun ⟨q, a, b, _⟩ => absurd (tt_Ab_T hp hq q a b) t), Or.inl⟩
end
theorem yy_r128 {post : Int32 → SY → Prop} {T PP D H TR OC TS RS MD : Nat → Int32} {n : Nat} {p : Nat → Nat} {g : Int32} (h : tt_PY n p PP) (hq : ∀ i, 0 < i → i < n → T (p i) = 0) (hM : ∀ t, t < n → MD t = tt_md n p T D H TS OC TR g t) (hp : ∀ CA : Nat → Int32, (∀ c w, c < 24 → w < 4 → CA (c * 4 + w) = tt_ev n p T D H TS OC TR g n c w) → post (tt_ct T RS 2 n) (nI n, T, PP, D, H, TR, OC, TS, RS, CA, MD)) : ∀ d i (CA : Nat → Int32), i + d = n → (∀ c w, c < 24 → w < 4 → CA (c * 4 + w) = if w < 2 then tt_ev n p T D H TS OC TR g n c w else if c < i then tt_ev n p T D H TS OC TR g n c w else 0) → wY_run_128 post (d + 1) (nI i) (nI n) T PP D H TR OC TS RS CA MD := by
  have hn := h.1
  intro d
  induction d with
  | zero =>
    intro i CA hi hv
    refine br_t (nI_le (by omega) (by omega)) (yy_count hn 2 (by decide) (hp CA (fun c w hc hw => ?_)))
    rw [hv c w hc hw]
    by_cases w2 : w < 2
    · rw [if_pos w2]
    · rw [if_neg w2]
      by_cases q : c < i
      · rw [if_pos q]
      · rw [if_neg q, tt_ev_none (fun t ht a => by have := tt_Ab_lt h.2.1 t a; omega) (by omega)]
  | succ d ih =>
    intro i CA hi hv
    refine br_f (nI_ge (by omega) (by omega)) ⟨vp_in_nI (by omega) (by omega), ?_⟩
    rw [tt_at T (by omega)]
    by_cases t : T i = 0
    · have eS : tt_S (fun t => tt_b (tt_Ab p i t) * MD t) n = tt_S (fun t => tt_b (tt_Ab p i t) * tt_md n p T D H TS OC TR g t) n := tt_S_c n (fun j hj => by rw [hM j hj])
      refine br_t t (yy_each h (by omega) (nm_r (nI_1 i) (ih (i + 1) _ (by omega) (fun c w hc hw => ?_))))
      rw [eS]
      by_cases w2 : w < 2
      · rw [if_pos w2, pk_un (by omega), pk_un (by omega), hv c w hc hw, if_pos w2]
      · rw [if_neg w2]
        by_cases e : c = i
        · subst e
          rw [if_pos (by omega), tt_ev2 (by omega)]
          have : w = 2 ∨ w = 3 := by omega
          rcases this with rfl | rfl
          · rw [pk_un (by omega), pk_us]
          · rw [pk_us]
        · rw [pk_un (by omega), pk_un (by omega), hv c w hc hw, if_neg w2]
          by_cases q : c < i
          · rw [if_pos q, if_pos (by omega)]
          · rw [if_neg q, if_neg (by omega)]
    · refine br_f t (nm_r (nI_1 i) (ih (i + 1) CA (by omega) (fun c w hc hw => ?_)))
      rw [hv c w hc hw]
      by_cases w2 : w < 2
      · rw [if_pos w2, if_pos w2]
      · rw [if_neg w2, if_neg w2]
        by_cases e : c = i
        · subst e
          rw [if_neg (by omega), if_pos (by omega), tt_ev_none (fun q hq' a => t (tt_Ab_T h.2.1 hq q hq' a)) (by omega)]
        · by_cases q : c < i
          · rw [if_pos q, if_pos (by omega)]
          · rw [if_neg q, if_neg (by omega)]
theorem yy_r51 {post : Int32 → SY → Prop} {T PP D H TR OC TS : Nat → Int32} {n : Nat} {p : Nat → Nat} {g : Int32} (h : tt_PY n p PP) (hq : ∀ i, 0 < i → i < n → T (p i) = 0) (hK : ∀ t, t < n → ¬ T t = 0 → ∃ K, K < 2 ^ 31 ∧ TR t = nI K) (hp : ∀ RS MD CA : Nat → Int32, (∀ c, c < 24 → RS c = if c < n then tt_rs n p T D H TS OC TR g c else 0) → (∀ c, c < 24 → MD c = if c < n then tt_md n p T D H TS OC TR g c else 0) → (∀ c w, c < 24 → w < 4 → CA (c * 4 + w) = tt_ev n p T D H TS OC TR g n c w) → post (tt_ct T RS 2 n) (nI n, T, PP, D, H, TR, OC, TS, RS, CA, MD)) : ∀ d i (RS MD CA : Nat → Int32), i + d = n → tt_iv n p T D H TS OC TR g i RS MD CA → wY_run_51 post g (d + 1) (nI i) (nI n) T PP D H TR OC TS RS CA MD := by
  have hn := h.1
  intro d
  induction d with
  | zero =>
    intro i RS MD CA hi hv
    have e : i = n := by omega
    subst e
    refine br_t (nI_le (by omega) (by omega)) ⟨i + 1, yy_r128 (g := g) h hq (fun t ht => by rw [hv.2.1 t (by omega), if_pos ht]) (fun CA' hC => hp RS MD CA' hv.1 hv.2.1 hC) i 0 CA (by omega) (fun c w hc hw => ?_)⟩
    rw [hv.2.2 c w hc hw, if_neg (c := c < 0) (by omega)]
  | succ d ih =>
    intro i RS MD CA hi hv
    have hi24 : vp_in (nI i) 24 := vp_in_nI (by omega) (by omega)
    have no : ¬ tt_Go n p T D H TS g i → ∀ x, x = nI i + 1 → wY_run_51 post g (d + 1) x (nI n) T PP D H TR OC TS RS CA MD := fun G => nm_r (nI_1 i) (ih (i + 1) RS MD CA (by omega) (tt_iv_no G hv))
    by_cases t : T i = 0
    · have t' : T (nI i).toNatClampNeg = 0 := (tt_at T (by omega)).trans t
      refine br_f (nI_ge (by omega) (by omega)) (yy_passes (w := 0) h (by omega) (by omega) (fun a => ⟨hi24, br_t t' ⟨hi24, br_t t' (br_f (by decide) ?_)⟩⟩) (fun a => ⟨hi24, br_t t' ⟨hi24, br_t t' (br_t rfl (no (fun z => a z.2)))⟩⟩))
      refine yy_inUse h (by omega) (fun us => br_f (by decide) ?_) (fun us => br_t rfl (no (fun z => us ((tt_Wn_c t).mp z.1))))
      exact yy_runContainer (by omega) (nm_r (nI_1 i) (ih (i + 1) _ _ _ (by omega) (tt_iv_c t ⟨(tt_Wn_c t).mpr us, a⟩ hv)))
    · have t' : ¬ T (nI i).toNatClampNeg = 0 := fun z => t ((tt_at T (by omega)).symm.trans z)
      refine br_f (nI_ge (by omega) (by omega)) (yy_passes (w := 0) h (by omega) (by omega) (fun a => ⟨hi24, br_f t' (br_f (by decide) ?_)⟩) (fun a => ⟨hi24, br_f t' (br_t rfl ⟨hi24, br_f t' (no (fun z => a z.2))⟩)⟩))
      refine yy_selected h (by omega) (fun se => br_f (by decide) ?_) (fun se => br_t rfl ⟨hi24, br_f t' (no (fun z => se ((tt_Wn_t h.2.1 hq t).mp z.1)))⟩)
      obtain ⟨K, k1, k2⟩ := hK i (by omega) t
      exact yy_runTest h (by omega) k1 k2 ⟨hi24, br_f t' (nm_r (nI_1 i) (ih (i + 1) _ _ _ (by omega) (tt_iv_t t ⟨Or.inl se, a⟩ hv)))⟩
theorem yy_r23 {post : Int32 → SY → Prop} {T PP D H TR OC TS : Nat → Int32} {n : Nat} {p : Nat → Nat} {g : Int32} (h : tt_PY n p PP) (hq : ∀ i, 0 < i → i < n → T (p i) = 0) (hK : ∀ t, t < n → ¬ T t = 0 → ∃ K, K < 2 ^ 31 ∧ TR t = nI K) (hp : ∀ RS MD CA : Nat → Int32, (∀ c, c < 24 → RS c = if c < n then tt_rs n p T D H TS OC TR g c else 0) → (∀ c, c < 24 → MD c = if c < n then tt_md n p T D H TS OC TR g c else 0) → (∀ c w, c < 24 → w < 4 → CA (c * 4 + w) = tt_ev n p T D H TS OC TR g n c w) → post (tt_ct T RS 2 n) (nI n, T, PP, D, H, TR, OC, TS, RS, CA, MD)) (CA : Nat → Int32) (hC : ∀ s, s < 96 → CA s = 0) : ∀ d i (RS MD : Nat → Int32), i + d = 24 → (∀ c, c < i → RS c = 0 ∧ MD c = 0) → wY_run_23 post g (nI n) (d + 1) (nI i) T PP D H TR OC TS RS CA MD := by
  intro d
  induction d with
  | zero =>
    intro i RS MD hi hv
    have e : i = 24 := by omega
    subst e
    refine br_t (by decide) ⟨n + 1, yy_r51 h hq hK hp n 0 RS MD CA (by omega) ⟨fun c hc => ?_, fun c hc => ?_, fun c w hc hw => ?_⟩⟩
    · rw [if_neg (by omega)]; exact (hv c hc).1
    · rw [if_neg (by omega)]; exact (hv c hc).2
    · rw [hC _ (by omega)]
      by_cases w2 : w < 2
      · rw [if_pos w2, tt_ev_z w2 (by omega)]
      · rw [if_neg w2]
  | succ d ih =>
    intro i RS MD hi hv
    have hi24 : vp_in (nI i) 24 := vp_in_nI (by omega) (by omega)
    refine br_f (nI_ge (b := 24) (by omega) (by omega)) ⟨hi24, nm_r (tt_un RS _ (by omega)) ⟨hi24, nm_r (tt_un MD _ (by omega)) (nm_r (nI_1 i) (ih (i + 1) _ _ (by omega) (fun c hc => ?_)))⟩⟩
    by_cases e : c = i
    · subst e; rw [pk_us, pk_us]; exact ⟨rfl, rfl⟩
    · rw [pk_un e, pk_un e]; exact hv c (by omega)
theorem yy_r2 {post : Int32 → SY → Prop} {T PP D H TR OC TS RS MD : Nat → Int32} {n : Nat} {p : Nat → Nat} {g : Int32} (h : tt_PY n p PP) (hq : ∀ i, 0 < i → i < n → T (p i) = 0) (hK : ∀ t, t < n → ¬ T t = 0 → ∃ K, K < 2 ^ 31 ∧ TR t = nI K) (hp : ∀ RS MD CA : Nat → Int32, (∀ c, c < 24 → RS c = if c < n then tt_rs n p T D H TS OC TR g c else 0) → (∀ c, c < 24 → MD c = if c < n then tt_md n p T D H TS OC TR g c else 0) → (∀ c w, c < 24 → w < 4 → CA (c * 4 + w) = tt_ev n p T D H TS OC TR g n c w) → post (tt_ct T RS 2 n) (nI n, T, PP, D, H, TR, OC, TS, RS, CA, MD)) : ∀ d i (CA : Nat → Int32), i + d = 96 → (∀ c, c < i → CA c = 0) → wY_run_2 post g (nI n) (d + 1) (nI i) T PP D H TR OC TS RS CA MD := by
  intro d
  induction d with
  | zero =>
    intro i CA hi hv
    have e : i = 96 := by omega
    subst e
    exact br_t (by decide) ⟨25, yy_r23 h hq hK hp CA hv 24 0 RS MD (by omega) (fun c hc => absurd hc (by omega))⟩
  | succ d ih =>
    intro i CA hi hv
    refine br_f (nI_ge (b := 96) (by omega) (by omega)) ⟨vp_in_nI (by omega) (by omega), nm_r (tt_un CA _ (by omega)) (nm_r (nI_1 i) (ih (i + 1) _ (by omega) (fun c hc => ?_)))⟩
    by_cases e : c = i
    · subst e; rw [pk_us]
    · rw [pk_un e]; exact hv c (by omega)
theorem yy_run {post : Int32 → SY → Prop} {T PP D H TR OC TS RS CA MD : Nat → Int32} {n : Nat} {p : Nat → Nat} {g : Int32} (h : tt_PY n p PP) (hq : ∀ i, 0 < i → i < n → T (p i) = 0) (hK : ∀ t, t < n → ¬ T t = 0 → ∃ K, K < 2 ^ 31 ∧ TR t = nI K) (hp : ∀ RS MD CA : Nat → Int32, (∀ c, c < 24 → RS c = if c < n then tt_rs n p T D H TS OC TR g c else 0) → (∀ c, c < 24 → MD c = if c < n then tt_md n p T D H TS OC TR g c else 0) → (∀ c w, c < 24 → w < 4 → CA (c * 4 + w) = tt_ev n p T D H TS OC TR g n c w) → post (tt_ct T RS 2 n) (nI n, T, PP, D, H, TR, OC, TS, RS, CA, MD)) : wpY_run post (nI n, T, PP, D, H, TR, OC, TS, RS, CA, MD) g :=
  ⟨97, yy_r2 h hq hK hp 96 0 CA (by omega) (fun c hc => absurd hc (by omega))⟩
end
section
theorem pk_and (x : Int32) {m : Int32} (k : Nat) (hm : m.toBitVec.toNat = 2 ^ k - 1) : x &&& m = nI (x.toBitVec.toNat % 2 ^ k) := by
  apply Int32.toBitVec_inj.mp
  apply BitVec.eq_of_toNat_eq
  rw [Int32.toBitVec_and, BitVec.toNat_and, hm, Nat.and_two_pow_sub_one_eq_mod]
  show _ = (BitVec.ofNat 32 _).toNat
  rw [BitVec.toNat_ofNat]
  exact (Nat.mod_eq_of_lt (Nat.lt_of_le_of_lt (Nat.mod_le _ _) x.toBitVec.isLt)).symm
theorem pk_andE (x : Int32) {m : Int32} (k : Nat) (hm : m.toBitVec.toNat = 2 ^ k - 1) : ∃ j : Nat, j < 2 ^ k ∧ x &&& m = nI j := ⟨_, Nat.mod_lt _ (Nat.two_pow_pos k), pk_and x k hm⟩
def tt_PX (n : Nat) (p : Nat → Nat) (P : Nat → Int32) : Prop := n ≤ 24 ∧ tt_Hp p ∧ (∀ i, 0 < i → i < n → P i = nI (p i))
theorem xx_f37 {post : SX → Prop} {nc sd : Int32} {P T D H AA BO TG R AM RE WA RC WU : Nat → Int32} (hp : ∀ TD : Nat → Int32, (∀ s, s < 96 → TD s = 0) → post (nc, 0, P, T, D, H, AA, BO, TG, R, TD, AM, RE, WA, RC, WU)) : ∀ d i (TD : Nat → Int32), i + d = 96 → (∀ s, s < i → TD s = 0) → wX_forgetLastRun_37 post nc sd (d + 1) (nI i) P T D H AA BO TG R TD AM RE WA RC WU := by
  intro d
  induction d with
  | zero =>
    intro i TD hi hv
    have e : i = 96 := by omega
    subst e
    exact br_t (by decide) (hp TD hv)
  | succ d ih =>
    intro i TD hi hv
    refine br_f (nI_ge (b := 96) (by omega) (by omega)) ⟨vp_in_nI (by omega) (by omega), nm_r (tt_un TD _ (by omega)) (nm_r (nI_1 i) (ih (i + 1) _ (by omega) (fun c hc => ?_)))⟩
    by_cases e : c = i
    · subst e; rw [pk_us]
    · rw [pk_un e]; exact hv c (by omega)
theorem xx_f2 {post : SX → Prop} {nc sd : Int32} {P T D H AA BO TG TD RE WA WU : Nat → Int32} (hp : ∀ R AM RC TD : Nat → Int32, (∀ c, c < 24 → R c = 0 ∧ AM c = 0 ∧ RC c = 0) → (∀ s, s < 96 → TD s = 0) → post (nc, 0, P, T, D, H, AA, BO, TG, R, TD, AM, RE, WA, RC, WU)) : ∀ d i (R AM RC : Nat → Int32), i + d = 24 → (∀ c, c < i → R c = 0 ∧ AM c = 0 ∧ RC c = 0) → wX_forgetLastRun_2 post nc sd (d + 1) (nI i) P T D H AA BO TG R TD AM RE WA RC WU := by
  intro d
  induction d with
  | zero =>
    intro i R AM RC hi hv
    have e : i = 24 := by omega
    subst e
    exact br_t (by decide) ⟨97, xx_f37 (fun TD hT => hp R AM RC TD hv hT) 96 0 TD (by omega) (fun c hc => absurd hc (by omega))⟩
  | succ d ih =>
    intro i R AM RC hi hv
    have hi24 : vp_in (nI i) 24 := vp_in_nI (by omega) (by omega)
    refine br_f (nI_ge (b := 24) (by omega) (by omega)) ⟨hi24, nm_r (tt_un R _ (by omega)) ⟨hi24, nm_r (tt_un AM _ (by omega)) ⟨hi24, nm_r (tt_un RC _ (by omega)) (nm_r (nI_1 i) (ih (i + 1) _ _ _ (by omega) (fun c hc => ?_)))⟩⟩⟩
    by_cases e : c = i
    · subst e; rw [pk_us, pk_us, pk_us]; exact ⟨rfl, rfl, tt_n0⟩
    · rw [pk_un e, pk_un e, pk_un e]; exact hv c (by omega)
theorem xx_forget {post : SX → Prop} {nc sd : Int32} {P T D H AA BO TG R TD AM RE WA RC WU : Nat → Int32} (hp : ∀ R AM RC TD : Nat → Int32, (∀ c, c < 24 → R c = 0 ∧ AM c = 0 ∧ RC c = 0) → (∀ s, s < 96 → TD s = 0) → post (nc, 0, P, T, D, H, AA, BO, TG, R, TD, AM, RE, WA, RC, WU)) : wpX_forgetLastRun post (nc, sd, P, T, D, H, AA, BO, TG, R, TD, AM, RE, WA, RC, WU) :=
  ⟨25, xx_f2 hp 24 0 R AM RC (by omega) (fun c hc => absurd hc (by omega))⟩
theorem xx_fr22 {post : SX → Prop} {sd : Int32} {P T D H AA BO TG R TD AM WA RC WU : Nat → Int32} {n : Nat} {p : Nat → Nat} (h : tt_PX n p P) (hp : ∀ RE : Nat → Int32, (∀ i, i < n → (¬ RE i = 0 ↔ tt_Re p D i)) → post (nI n, sd, P, T, D, H, AA, BO, TG, R, TD, AM, RE, WA, RC, WU)) : ∀ d i (RE : Nat → Int32), i + d = n → 0 < i → (∀ j, j < i → (¬ RE j = 0 ↔ tt_Re p D j)) → wX_findReachable_22 post (nI n) sd (d + 1) (nI i) P T D H AA BO TG R TD AM RE WA RC WU := by
  have hn := h.1
  intro d
  induction d with
  | zero =>
    intro i RE hi h0 hv
    have e : i = n := by omega
    subst e
    exact br_t (nI_le (by omega) (by omega)) (hp RE hv)
  | succ d ih =>
    intro i RE hi h0 hv
    have hi24 : vp_in (nI i) 24 := vp_in_nI (by omega) (by omega)
    have hpi := h.2.1 i h0
    have es := tt_Re_s h.2.1 (D := D) h0
    have go : ∀ x : Int32, (¬ x = 0 ↔ tt_Re p D i) → wX_findReachable_22 post (nI n) sd (d + 1) (nI (i + 1)) P T D H AA BO TG R TD AM (upd RE i x) WA RC WU := by
      intro x hx
      refine ih (i + 1) _ (by omega) (by omega) (fun j hj => ?_)
      by_cases e : j = i
      · subst e; rw [pk_us]; exact hx
      · rw [pk_un e]; exact hv j (by omega)
    refine br_f (nI_ge (by omega) (by omega)) ⟨hi24, ?_⟩
    rw [tt_at D (by omega), tt_at P (by omega), h.2.2 i h0 (by omega), tt_at RE (by omega)]
    refine br_c (fun a => ⟨hi24, vp_in_nI (by omega) (by omega), br_c (fun b => ⟨hi24, nm_r (tt_un RE _ (by omega)) (nm_r (nI_1 i) (go _ ?_))⟩) (fun b => ⟨hi24, nm_r (tt_un RE _ (by omega)) (nm_r (nI_1 i) (go _ ?_))⟩)⟩) (fun a => ⟨hi24, nm_r (tt_un RE _ (by omega)) (nm_r (nI_1 i) (go _ ?_))⟩)
    · rw [tt_n0]; exact ⟨fun z => absurd rfl z, fun z => absurd b ((hv _ hpi).mpr (es.mp z).2)⟩
    · rw [tt_n1]; exact ⟨fun _ => es.mpr ⟨a, (hv _ hpi).mp b⟩, fun _ => by decide⟩
    · rw [tt_n0]; exact ⟨fun z => absurd rfl z, fun z => absurd z.1 a⟩
theorem xx_findReachable {post : SX → Prop} {sd : Int32} {P T D H AA BO TG R TD AM RE WA RC WU : Nat → Int32} {n : Nat} {p : Nat → Nat} (h : tt_PX n p P) (h1 : 1 ≤ n) (hp : ∀ RE : Nat → Int32, (∀ i, i < n → (¬ RE i = 0 ↔ tt_Re p D i)) → post (nI n, sd, P, T, D, H, AA, BO, TG, R, TD, AM, RE, WA, RC, WU)) : wpX_findReachable post (nI n, sd, P, T, D, H, AA, BO, TG, R, TD, AM, RE, WA, RC, WU) := by
  have go : ∀ x : Int32, (¬ x = 0 ↔ D 0 = 0) → ∃ m, wX_findReachable_22 post (nI n) sd m 1 P T D H AA BO TG R TD AM (upd RE 0 x) WA RC WU := by
    intro x hx
    refine ⟨n - 1 + 1, xx_fr22 h hp (n - 1) 1 _ (by omega) (by omega) (fun j hj => ?_)⟩
    have e : j = 0 := by omega
    subst e
    rw [pk_us, hx]
    exact ⟨fun z => ⟨z, fun c hc => absurd hc tt_Ab_0⟩, fun z => z.1⟩
  refine br_c (fun a => nm_e (go _ ?_)) (fun a => nm_e (go _ ?_))
  · rw [tt_n1]; exact ⟨fun _ => a, fun _ => by decide⟩
  · rw [tt_n0]; exact ⟨fun z => absurd rfl z, fun z => absurd z a⟩
theorem xx_fw63 {post : SX → Prop} {nc sd : Int32} {P T D H AA BO TG R TD AM RE RC WU : Nat → Int32} {n : Nat} {p : Nat → Nat} {TS : Nat → Int32} {g : Int32} (h : tt_PX n p P) (hp : ∀ WA : Nat → Int32, (∀ i, i < n → (¬ WA i = 0 ↔ tt_Wn n p T D TS g i)) → post (nc, sd, P, T, D, H, AA, BO, TG, R, TD, AM, RE, WA, RC, WU)) : ∀ i (WA : Nat → Int32), i < n → (∀ j, j < n → (¬ WA j = 0 ↔ tt_Se p T D TS g j ∨ ∃ k, i < k ∧ k < n ∧ p k = j ∧ tt_Wn n p T D TS g k)) → wX_findWanted_63 post nc sd (i + 1) (nI i) P T D H AA BO TG R TD AM RE WA RC WU := by
  have hn := h.1
  intro i
  induction i with
  | zero =>
    intro WA hi hv
    exact br_t (by decide) (hp WA (fun j hj => (hv j hj).trans (tt_Wn_s h.2.1 j).symm))
  | succ i ih =>
    intro WA hi hv
    have hpi := h.2.1 (i + 1) (by omega)
    have hi24 : vp_in (nI (i + 1)) 24 := vp_in_nI (by omega) (by omega)
    have me : ¬ WA (i + 1) = 0 ↔ tt_Wn n p T D TS g (i + 1) := by
      rw [hv (i + 1) hi, tt_Wn_s h.2.1 (i + 1)]
      exact ⟨fun z => z.elim Or.inl (fun ⟨k, a, b, c⟩ => Or.inr ⟨k, by omega, b, c⟩), fun z => z.elim Or.inl (fun ⟨k, a, b, c⟩ => Or.inr ⟨k, by have := h.2.1 k a; omega, b, c⟩)⟩
    refine br_f (nI_nle (by omega) (by omega)) ⟨hi24, ?_⟩
    rw [tt_at WA (by omega), tt_at P (by omega), h.2.2 (i + 1) (by omega) hi]
    refine br_c (fun a => nm_r (pk_m1 i) (ih WA (by omega) (fun j hj => ?_))) (fun a => ⟨hi24, vp_in_nI (by omega) (by omega), nm_r (tt_un WA _ (by omega)) (nm_r (pk_m1 i) (ih _ (by omega) (fun j hj => ?_)))⟩)
    · rw [hv j hj]
      refine ⟨fun z => z.elim Or.inl (fun ⟨k, b, c⟩ => Or.inr ⟨k, by omega, c⟩), fun z => z.elim Or.inl (fun ⟨k, b, c, e, w⟩ => ?_)⟩
      by_cases q : k = i + 1
      · subst q; exact absurd a (me.mpr w)
      · exact Or.inr ⟨k, by omega, c, e, w⟩
    · have w := me.mp a
      by_cases q : j = p (i + 1)
      · subst q
        rw [pk_us, tt_n1]
        exact ⟨fun _ => Or.inr ⟨i + 1, by omega, hi, rfl, w⟩, fun _ => by decide⟩
      · rw [pk_un q, hv j hj]
        refine ⟨fun z => z.elim Or.inl (fun ⟨k, b, c⟩ => Or.inr ⟨k, by omega, c⟩), fun z => z.elim Or.inl (fun ⟨k, b, c, e, w⟩ => ?_)⟩
        by_cases q' : k = i + 1
        · subst q'; exact absurd e.symm q
        · exact Or.inr ⟨k, by omega, c, e, w⟩
theorem xx_fw2 {post : SX → Prop} {sd : Int32} {P T D H AA BO TG R TD AM RE RC WU : Nat → Int32} {n : Nat} {p : Nat → Nat} {TS : Nat → Int32} {g : Int32} (h : tt_PX n p P) (h1 : 1 ≤ n) (hG : ∀ i, i < n → ¬ T i = 0 → TG i = TS i) (hRE : ∀ i, i < n → (¬ RE i = 0 ↔ tt_Re p D i)) (hp : ∀ WA : Nat → Int32, (∀ i, i < n → (¬ WA i = 0 ↔ tt_Wn n p T D TS g i)) → post (nI n, sd, P, T, D, H, AA, BO, TG, R, TD, AM, RE, WA, RC, WU)) : ∀ d i (WA : Nat → Int32), i + d = n → (∀ j, j < i → (¬ WA j = 0 ↔ tt_Se p T D TS g j)) → wX_findWanted_2 post g (nI n) sd (d + 1) (nI i) P T D H AA BO TG R TD AM RE WA RC WU := by
  have hn := h.1
  intro d
  induction d with
  | zero =>
    intro i WA hi hv
    have e : i = n := by omega
    subst e
    have e1 : nI i - 1 = nI (i - 1) := by
      have e2 : i = (i - 1) + 1 := by omega
      rw [e2, nI_pred]; rfl
    refine br_t (nI_le (by omega) (by omega)) (nm_r e1 ⟨i - 1 + 1, xx_fw63 (g := g) (TS := TS) h hp (i - 1) WA (by omega) (fun j hj => ?_)⟩)
    rw [hv j hj]
    exact ⟨Or.inl, fun z => z.elim id (fun ⟨k, a, b, _⟩ => absurd a (by omega))⟩
  | succ d ih =>
    intro i WA hi hv
    have hi24 : vp_in (nI i) 24 := vp_in_nI (by omega) (by omega)
    have go : ∀ x : Int32, (¬ x = 0 ↔ tt_Se p T D TS g i) → wX_findWanted_2 post g (nI n) sd (d + 1) (nI (i + 1)) P T D H AA BO TG R TD AM RE (upd WA i x) RC WU := by
      intro x hx
      refine ih (i + 1) _ (by omega) (fun j hj => ?_)
      by_cases e : j = i
      · subst e; rw [pk_us]; exact hx
      · rw [pk_un e]; exact hv j (by omega)
    refine br_f (nI_ge (by omega) (by omega)) ⟨hi24, ?_⟩
    rw [tt_at T (by omega), tt_at RE (by omega), tt_at TG (by omega)]
    refine br_c (fun a => ⟨hi24, nm_r (tt_un WA _ (by omega)) (nm_r (nI_1 i) (go _ ?_))⟩) (fun a => ⟨hi24, br_c (fun b => ⟨hi24, nm_r (tt_un WA _ (by omega)) (nm_r (nI_1 i) (go _ ?_))⟩) (fun b => ⟨hi24, br_c (fun c => ⟨hi24, nm_r (tt_un WA _ (by omega)) (nm_r (nI_1 i) (go _ ?_))⟩) (fun c => ⟨hi24, nm_r (tt_un WA _ (by omega)) (nm_r (nI_1 i) (go _ ?_))⟩)⟩)⟩)
    · rw [tt_n0]; exact ⟨fun z => absurd rfl z, fun z => absurd a z.1⟩
    · rw [tt_n0]; exact ⟨fun z => absurd rfl z, fun z => absurd b ((hRE i (by omega)).mpr z.2.2)⟩
    · rw [hG i (by omega) a] at c; rw [tt_n0]; exact ⟨fun z => absurd rfl z, fun z => absurd c z.2.1⟩
    · rw [hG i (by omega) a] at c; rw [tt_n1]; exact ⟨fun _ => ⟨a, c, (hRE i (by omega)).mp b⟩, fun _ => by decide⟩
theorem xx_findWanted {post : SX → Prop} {sd : Int32} {P T D H AA BO TG R TD AM RE WA RC WU : Nat → Int32} {n : Nat} {p : Nat → Nat} {TS : Nat → Int32} {g : Int32} (h : tt_PX n p P) (h1 : 1 ≤ n) (hG : ∀ i, i < n → ¬ T i = 0 → TG i = TS i) (hRE : ∀ i, i < n → (¬ RE i = 0 ↔ tt_Re p D i)) (hp : ∀ WA : Nat → Int32, (∀ i, i < n → (¬ WA i = 0 ↔ tt_Wn n p T D TS g i)) → post (nI n, sd, P, T, D, H, AA, BO, TG, R, TD, AM, RE, WA, RC, WU)) : wpX_findWanted post (nI n, sd, P, T, D, H, AA, BO, TG, R, TD, AM, RE, WA, RC, WU) g :=
  ⟨n + 1, xx_fw2 h h1 hG hRE hp n 0 WA (by omega) (fun c hc => absurd hc (by omega))⟩
def tt_q (p : Nat → Nat) (t : Nat) : Nat → Nat
  | 0 => t
  | k + 1 => p (tt_q p t k)
def tt_way (n : Nat) (p : Nat → Nat) (t len : Nat) (WU : Nat → Int32) : Prop := ∀ j, j < len → WU j = nI (tt_q p t (j + 1)) ∧ 0 < tt_q p t j ∧ tt_q p t (j + 1) < n
theorem xx_fu4 {post : Int32 → SX → Prop} {nc sd : Int32} {P T D H AA BO TG R TD AM RE WA RC : Nat → Int32} {n : Nat} {p : Nat → Nat} (h : tt_PX n p P) {t : Nat} (ht : t < n) (hp : ∀ len (WU : Nat → Int32), len < 24 → tt_q p t len = 0 → tt_way n p t len WU → post (nI len) (nc, sd, P, T, D, H, AA, BO, TG, R, TD, AM, RE, WA, RC, WU)) : ∀ d k (WU : Nat → Int32), tt_q p t k < d → k + tt_q p t k ≤ t → tt_way n p t k WU → wX_findWayUp_4 post nc sd d (nI k) (nI (tt_q p t k)) P T D H AA BO TG R TD AM RE WA RC WU := by
  have hn := h.1
  intro d
  induction d with
  | zero => intro k WU hd; exact absurd hd (by omega)
  | succ d ih =>
    intro k WU hd hk hv
    refine br_f (nI_ge (b := 24) (by omega) (by omega)) ?_
    by_cases z : tt_q p t k = 0
    · exact br_t (by rw [z]; rfl) (hp k WU (by omega) z hv)
    · have hpk := h.2.1 (tt_q p t k) (by omega)
      have e : tt_q p t (k + 1) = p (tt_q p t k) := rfl
      refine br_f (nI_ne0 (by omega) (by omega)) ⟨vp_in_nI (by omega) (by omega), nm_r (e' := nI (tt_q p t (k + 1))) (by rw [tt_at P (by omega), h.2.2 _ (by omega) (by omega)]; rfl) ⟨vp_in_nI (by omega) (by omega), nm_r (tt_un WU _ (by omega)) (nm_r (nI_1 k) (ih (k + 1) _ (by omega) (by omega) (fun j hj => ?_)))⟩⟩
      by_cases q : j = k
      · subst q; rw [pk_us]; exact ⟨rfl, by omega, by omega⟩
      · rw [pk_un q]; exact hv j (by omega)
theorem xx_findWayUp {post : Int32 → SX → Prop} {nc sd : Int32} {P T D H AA BO TG R TD AM RE WA RC WU : Nat → Int32} {n : Nat} {p : Nat → Nat} (h : tt_PX n p P) {t : Nat} (ht : t < n) (hp : ∀ len (WU : Nat → Int32), len < 24 → tt_q p t len = 0 → tt_way n p t len WU → post (nI len) (nc, sd, P, T, D, H, AA, BO, TG, R, TD, AM, RE, WA, RC, WU)) : wpX_findWayUp post (nc, sd, P, T, D, H, AA, BO, TG, R, TD, AM, RE, WA, RC, WU) (nI t) :=
  ⟨t + 1, xx_fu4 h ht hp (t + 1) 0 WU (Nat.lt_succ_self t) (Nat.le_of_eq (Nat.zero_add t)) (fun c hc => absurd hc (by omega))⟩
theorem xx_hk {post : Int32 → SX → Prop} {nc : Int32} {P T D H AA BO TG R TD AM RE WA RC WU : Nat → Int32} {c w : Nat} (hc : c < 24) (hw : w < 4) (hp : ∀ TD' : Nat → Int32, (∀ c' w', w' < 4 → TD' (c' * 4 + w') = TD (c' * 4 + w') + tt_b (c' = c ∧ w' = w ∧ ¬ H (c * 4 + w) = 0)) → post (H (c * 4 + w)) (nc, tt_S TD' 96, P, T, D, H, AA, BO, TG, R, TD', AM, RE, WA, RC, WU)) : wpX_carryOutHook post (nc, tt_S TD 96, P, T, D, H, AA, BO, TG, R, TD, AM, RE, WA, RC, WU) (nI c) (nI w) := by
  have hs : vp_in (nI (c * 4 + w)) 96 := vp_in_nI (by omega) (by omega)
  refine nm_r (tt_sl c w) ⟨hs, nm_r (tt_at H (by omega)) ?_⟩
  by_cases z : H (c * 4 + w) = 0
  · exact br_t z (hp TD (fun c' w' _ => by rw [tt_b0 (fun y => y.2.2 z), Int32.add_zero]))
  · refine br_f z ⟨hs, hs, nm_r (e' := upd TD (c * 4 + w) (TD (c * 4 + w) + 1)) (by rw [tt_at TD (by omega), tt_un _ _ (by omega)]) (nm_r (e' := tt_S (upd TD (c * 4 + w) (TD (c * 4 + w) + 1)) 96) (tt_S_u 96 (by omega)).symm (hp _ (fun c' w' hw' => ?_)))⟩
    by_cases q : c' = c ∧ w' = w
    · obtain ⟨rfl, rfl⟩ := q
      rw [pk_us, tt_b1 ⟨rfl, rfl, z⟩]
    · rw [pk_un (by omega), tt_b0 (fun y => q ⟨y.1, y.2.1⟩), Int32.add_zero]
theorem xx_worse {post : Int32 → Prop} {a b : Int32} (hp : post (tt_g (fun o => a = o ∨ b = o))) : wpX_worse post a b := by
  by_cases a2 : a = 2
  · rw [tt_g2 (Or.inl a2)] at hp; exact br_t a2 hp
  · by_cases b2 : b = 2
    · rw [tt_g2 (Or.inr b2)] at hp; exact br_f a2 (br_t b2 hp)
    · have n2 : ¬ (a = 2 ∨ b = 2) := fun z => z.elim a2 b2
      by_cases a3 : a = 3
      · rw [tt_g3 n2 (Or.inl a3)] at hp; exact br_f a2 (br_f b2 (br_t a3 hp))
      · by_cases b3 : b = 3
        · rw [tt_g3 n2 (Or.inr b3)] at hp; exact br_f a2 (br_f b2 (br_f a3 (br_t b3 hp)))
        · rw [tt_g1 n2 (fun z => z.elim a3 b3)] at hp; exact br_f a2 (br_f b2 (br_f a3 (br_f b3 hp)))
theorem tt_own_r (f : Nat → Int32) (t i : Nat) : tt_own f t i = 0 ∨ tt_own f t i = 1 ∨ tt_own f t i = 2 ∨ tt_own f t i = 3 := by
  unfold tt_own
  obtain ⟨j, hj, e⟩ := pk_andE (f t >>> ((2 * nI i) &&& 31)) (m := 3) 2 (by decide)
  rw [e]
  have : j = 0 ∨ j = 1 ∨ j = 2 ∨ j = 3 := by omega
  rcases this with rfl | rfl | rfl | rfl
  · exact Or.inl rfl
  · exact Or.inr (Or.inl rfl)
  · exact Or.inr (Or.inr (Or.inl rfl))
  · exact Or.inr (Or.inr (Or.inr rfl))
theorem xx_bd {post : Int32 → SX → Prop} {nc : Int32} {P T D H AA BO TG R TD AM RE WA RC WU : Nat → Int32} {t i : Nat} (ht : t < 24) (hp : ∀ TD' : Nat → Int32, (∀ c' w', w' < 4 → TD' (c' * 4 + w') = TD (c' * 4 + w') + tt_b (c' = t ∧ w' = 0 ∧ True)) → post (tt_g (fun o => tt_own BO t i = o)) (nc, tt_S TD' 96, P, T, D, H, AA, BO, TG, R, TD', AM, RE, WA, RC, WU)) : wpX_carryOutBody post (nc, tt_S TD 96, P, T, D, H, AA, BO, TG, R, TD, AM, RE, WA, RC, WU) (nI t) (nI i) := by
  have hs : vp_in (nI (t * 4 + 0)) 96 := vp_in_nI (by omega) (by omega)
  have hq := hp (upd TD (t * 4 + 0) (TD (t * 4 + 0) + 1)) (fun c' w' hw' => by
    by_cases q : c' = t ∧ w' = 0
    · obtain ⟨rfl, rfl⟩ := q
      rw [pk_us, tt_b1 ⟨rfl, rfl, trivial⟩]
    · rw [pk_un (by omega), tt_b0 (fun y => q ⟨y.1, y.2.1⟩), Int32.add_zero])
  unfold wpX_carryOutBody; dsimp only
  rw [show nI t * 4 + 0 = nI (t * 4 + 0) from tt_sl t 0]
  refine ⟨hs, hs, nm_r (e' := upd TD (t * 4 + 0) (TD (t * 4 + 0) + 1)) (by rw [tt_at TD (by omega), tt_un _ _ (by omega)]) (nm_r (e' := tt_S (upd TD (t * 4 + 0) (TD (t * 4 + 0) + 1)) 96) (tt_S_u 96 (by omega)).symm ⟨vp_in_nI (by omega) (by omega), nm_r (e' := tt_own BO t i) (by rw [tt_at BO (by omega)]; rfl) ?_⟩)⟩
  rcases tt_own_r BO t i with e | e | e | e
  · rw [tt_g1 (by rw [e]; decide) (by rw [e]; decide)] at hq
    exact br_t e hq
  · rw [tt_g1 (by rw [e]; decide) (by rw [e]; decide)] at hq
    rw [e]; exact br_f (by decide) hq
  · rw [tt_g2 e] at hq
    rw [e]; exact br_f (by decide) hq
  · rw [tt_g3 (by rw [e]; decide) e] at hq
    rw [e]; exact br_f (by decide) hq
end
section
def tt_cn (TD0 : Nat → Int32) (F : Nat → Nat → Prop) (TD : Nat → Int32) : Prop := ∀ c w, w < 4 → TD (c * 4 + w) = TD0 (c * 4 + w) + tt_b (F c w)
theorem tt_cn_c {TD0 TD : Nat → Int32} {F F' : Nat → Nat → Prop} (e : ∀ c w, w < 4 → (F c w ↔ F' c w)) (h : tt_cn TD0 F TD) : tt_cn TD0 F' TD :=
  fun c w hw => by rw [h c w hw, tt_bc (e c w hw)]
theorem tt_cn_s {TD0 TD TD' : Nat → Int32} {F : Nat → Nat → Prop} {c w : Nat} {Q : Prop} (hF : ¬ F c w) (h : tt_cn TD0 F TD) (h' : ∀ c' w', w' < 4 → TD' (c' * 4 + w') = TD (c' * 4 + w') + tt_b (c' = c ∧ w' = w ∧ Q)) : tt_cn TD0 (fun c' w' => F c' w' ∨ (c' = c ∧ w' = w ∧ Q)) TD' := by
  intro c' w' hw'
  show _ = _ + tt_b (F c' w' ∨ (c' = c ∧ w' = w ∧ Q))
  rw [h' c' w' hw', h c' w' hw', tt_bor, Int32.add_assoc]
  rintro a ⟨rfl, rfl, _⟩
  exact hF a
def tt_V1 (p : Nat → Nat) (H : Nat → Int32) (x : Nat) (o : Int32) : Prop := ∃ c, tt_Ab p c x ∧ H (c * 4 + 2) = o
def tt_F1 (p : Nat → Nat) (H : Nat → Int32) (x : Nat) (c w : Nat) : Prop := w = 2 ∧ tt_Ab p c x ∧ ¬ H (c * 4 + 2) = 0
theorem tt_le1 {x : Int32} (hr : x = 0 ∨ x = 1 ∨ x = 2 ∨ x = 3) (h2 : ¬ x = 2) (h3 : ¬ x = 3) : x ≤ 1 := by
  rcases hr with e | e | e | e
  · rw [e]; decide
  · rw [e]; decide
  · exact absurd e h2
  · exact absurd e h3
theorem tt_nle1 {x : Int32} (h : x = 2 ∨ x = 3) : ¬ x ≤ 1 := by
  rcases h with e | e <;> rw [e] <;> decide
theorem tt_V1_pa {p : Nat → Nat} {H : Nat → Int32} {x : Nat} (hr : ∀ s, H s = 0 ∨ H s = 1 ∨ H s = 2 ∨ H s = 3) (h : tt_g (tt_V1 p H x) = 1) : tt_Pa p H 2 x := by
  obtain ⟨h2, h3⟩ := tt_g_eq1 h
  exact fun c hc => tt_le1 (hr _) (fun e => h2 ⟨c, hc, e⟩) (fun e => h3 ⟨c, hc, e⟩)
theorem xx_ma6 {post : Int32 → SX → Prop} {nc : Int32} {P T D H AA BO TG R AM RE WA RC WU : Nat → Int32} {n : Nat} {p : Nat → Nat} (hn : n ≤ 24) (hh : tt_Hp p) (hr : ∀ s, H s = 0 ∨ H s = 1 ∨ H s = 2 ∨ H s = 3) {t len : Nat} {x1 x2 : Int32} (hl : len < 24) (hW : tt_way n p t len WU) {TD0 : Nat → Int32}
  (hE : ∀ (r : Nat) (TD : Nat → Int32), r ≤ len → (∀ c, tt_Ab p c (tt_q p t r) → tt_Pa p H 2 c) → (r = 0 ∨ ¬ tt_g (tt_V1 p H (tt_q p t r)) = 1) → tt_cn TD0 (tt_F1 p H (tt_q p t r)) TD → wX_makeAttempt_46 post x1 x2 (nI len) (tt_g (tt_V1 p H (tt_q p t r))) (nI r) nc (tt_S TD 96) P T D H AA BO TG R TD AM RE WA RC WU) :
  ∀ k x4 (TD : Nat → Int32), k ≤ len → x4 = tt_g (tt_V1 p H (tt_q p t k)) → (∀ c, tt_Ab p c (tt_q p t k) → tt_Pa p H 2 c) → tt_cn TD0 (tt_F1 p H (tt_q p t k)) TD → wX_makeAttempt_6 post x1 x2 (nI len) (k + 1) x4 (nI k) nc (tt_S TD 96) P T D H AA BO TG R TD AM RE WA RC WU := by
  intro k
  induction k with
  | zero =>
    intro x4 TD hk hx hP hc
    subst hx
    exact br_t (by decide) (hE 0 TD hk hP (Or.inl rfl) hc)
  | succ k ih =>
    intro x4 TD hk hx hP hc
    subst hx
    refine br_f (nI_nle (by omega) (by omega)) ?_
    by_cases w1 : tt_g (tt_V1 p H (tt_q p t (k + 1))) = 1
    · obtain ⟨hw, hq0, hqn⟩ := hW k (by omega)
      have es : ∀ c, tt_Ab p c (tt_q p t k) ↔ tt_q p t (k + 1) = c ∨ tt_Ab p c (tt_q p t (k + 1)) := fun c => tt_Ab_s hh hq0
      refine br_t w1 (nm_r (pk_m1 k) ⟨vp_in_nI (by omega) (by omega), ?_⟩)
      rw [tt_at WU (by omega), hw]
      refine xx_hk (w := 2) (by omega) (by omega) (fun TD' hTD' => xx_worse ?_)
      refine ih _ TD' (by omega) ?_ ?_ ?_
      · rw [tt_gw]
        have ev : ∀ o, (tt_V1 p H (tt_q p t (k + 1)) o ∨ H (tt_q p t (k + 1) * 4 + 2) = o) ↔ tt_V1 p H (tt_q p t k) o := by
          intro o
          constructor
          · rintro (⟨c, a, b⟩ | b)
            · exact ⟨c, (es c).mpr (Or.inr a), b⟩
            · exact ⟨_, (es _).mpr (Or.inl rfl), b⟩
          · rintro ⟨c, a, b⟩
            rcases (es c).mp a with e | e
            · exact Or.inr (e ▸ b)
            · exact Or.inl ⟨c, e, b⟩
        exact tt_gc (ev 2) (ev 3)
      · intro c a
        rcases (es c).mp a with e | e
        · exact e ▸ tt_V1_pa hr w1
        · exact hP c e
      · refine tt_cn_c (fun c w hw4 => ?_) (tt_cn_s ?_ hc hTD')
        · constructor
          · rintro (⟨a, b, d⟩ | ⟨a, b, d⟩)
            · exact ⟨a, (es c).mpr (Or.inr b), d⟩
            · exact ⟨b, (es c).mpr (Or.inl a.symm), a ▸ d⟩
          · rintro ⟨a, b, d⟩
            rcases (es c).mp b with e | e
            · exact Or.inr ⟨e.symm, a, e ▸ d⟩
            · exact Or.inl ⟨a, e, d⟩
        · rintro ⟨_, a, _⟩
          have := tt_Ab_lt hh _ a; omega
    · exact br_f w1 (hE (k + 1) TD hk hP (Or.inr w1) hc)
theorem xx_ma64 {post : Int32 → SX → Prop} {nc : Int32} {P T D H AA BO TG R AM RE WA RC WU : Nat → Int32} {n : Nat} {p : Nat → Nat} (hn : n ≤ 24) (hh : tt_Hp p) {t len : Nat} (hl : len < 24) (hW : tt_way n p t len WU) (h0 : tt_q p t len = 0) {TD0 : Nat → Int32} :
  ∀ d j (V : Int32 → Prop) x4 (F : Nat → Nat → Prop) (TD : Nat → Int32), j + d = len → x4 = tt_g V → tt_cn TD0 F TD → (∀ c, tt_Ab p c (tt_q p t j) → ¬ F c 3) → (∀ TD : Nat → Int32, tt_cn TD0 (fun c w => F c w ∨ (w = 3 ∧ tt_Ab p c (tt_q p t j) ∧ ¬ H (c * 4 + 3) = 0)) TD → post (tt_g (fun o => V o ∨ ∃ c, tt_Ab p c (tt_q p t j) ∧ H (c * 4 + 3) = o)) (nc, tt_S TD 96, P, T, D, H, AA, BO, TG, R, TD, AM, RE, WA, RC, WU)) → wX_makeAttempt_64 post (nI len) (d + 1) x4 (nI j) nc (tt_S TD 96) P T D H AA BO TG R TD AM RE WA RC WU := by
  intro d
  induction d with
  | zero =>
    intro j V x4 F TD hj hx hc hF hp
    have e : j = len := by omega
    subst e
    subst hx
    have hq := hp TD (tt_cn_c (fun c w _ => ⟨Or.inl, fun z => z.elim id (fun y => absurd (h0 ▸ y.2.1) tt_Ab_0)⟩) hc)
    have eg : ∀ o, (V o ∨ ∃ c, tt_Ab p c (tt_q p t j) ∧ H (c * 4 + 3) = o) ↔ V o := fun o => ⟨fun z => z.elim id (fun ⟨c, a, _⟩ => absurd (h0 ▸ a) tt_Ab_0), Or.inl⟩
    rw [tt_gc (eg 2) (eg 3)] at hq
    exact br_t (nI_le (by omega) (by omega)) hq
  | succ d ih =>
    intro j V x4 F TD hj hx hc hF hp
    subst hx
    obtain ⟨hw, hq0, hqn⟩ := hW j (by omega)
    have es : ∀ c, tt_Ab p c (tt_q p t j) ↔ tt_q p t (j + 1) = c ∨ tt_Ab p c (tt_q p t (j + 1)) := fun c => tt_Ab_s hh hq0
    refine br_f (nI_ge (by omega) (by omega)) ⟨vp_in_nI (by omega) (by omega), ?_⟩
    rw [tt_at WU (by omega), hw]
    refine xx_hk (w := 3) (by omega) (by omega) (fun TD' hTD' => xx_worse (nm_r (nI_1 j) ?_))
    refine ih (j + 1) (fun o => V o ∨ H (tt_q p t (j + 1) * 4 + 3) = o) _ _ TD' (by omega) (tt_gw _ _) (tt_cn_s (hF _ ((es _).mpr (Or.inl rfl))) hc hTD') ?_ ?_
    · rintro c a (b | ⟨b, _⟩)
      · exact hF c ((es c).mpr (Or.inr a)) b
      · have := tt_Ab_lt hh _ a; omega
    · intro TD2 h2
      have hq := hp TD2 (tt_cn_c (fun c w _ => ?_) h2)
      · have eg : ∀ o, (V o ∨ ∃ c, tt_Ab p c (tt_q p t j) ∧ H (c * 4 + 3) = o) ↔ ((V o ∨ H (tt_q p t (j + 1) * 4 + 3) = o) ∨ ∃ c, tt_Ab p c (tt_q p t (j + 1)) ∧ H (c * 4 + 3) = o) := by
          intro o
          constructor
          · rintro (a | ⟨c, a, b⟩)
            · exact Or.inl (Or.inl a)
            · rcases (es c).mp a with e | e
              · exact Or.inl (Or.inr (e ▸ b))
              · exact Or.inr ⟨c, e, b⟩
          · rintro ((a | a) | ⟨c, a, b⟩)
            · exact Or.inl a
            · exact Or.inr ⟨_, (es _).mpr (Or.inl rfl), a⟩
            · exact Or.inr ⟨c, (es c).mpr (Or.inr a), b⟩
        rw [tt_gc (W := fun o => (V o ∨ H (tt_q p t (j + 1) * 4 + 3) = o) ∨ ∃ c, tt_Ab p c (tt_q p t (j + 1)) ∧ H (c * 4 + 3) = o) (eg 2) (eg 3)] at hq
        exact hq
      · constructor
        · rintro ((a | ⟨a, b, d⟩) | ⟨a, b, d⟩)
          · exact Or.inl a
          · exact Or.inr ⟨b, (es c).mpr (Or.inl a.symm), a ▸ d⟩
          · exact Or.inr ⟨a, (es c).mpr (Or.inr b), d⟩
        · rintro (a | ⟨a, b, d⟩)
          · exact Or.inl (Or.inl a)
          · rcases (es c).mp b with e | e
            · exact Or.inl (Or.inr ⟨e.symm, a, e ▸ d⟩)
            · exact Or.inr ⟨a, e, d⟩
theorem tt_q_ab {n : Nat} {p : Nat → Nat} (hh : tt_Hp p) {t len : Nat} {WU : Nat → Int32} (hW : tt_way n p t len WU) : ∀ k, k ≤ len → tt_q p t k = t ∨ tt_Ab p (tt_q p t k) t := by
  intro k
  induction k with
  | zero => intro _; exact Or.inl rfl
  | succ k ih =>
    intro hk
    obtain ⟨_, hq0, _⟩ := hW k (by omega)
    have a : tt_Ab p (tt_q p t (k + 1)) (tt_q p t k) := (tt_Ab_s hh hq0).mpr (Or.inl rfl)
    rcases ih (by omega) with e | e
    · rw [e] at a; exact Or.inr a
    · exact Or.inr (tt_Ab_tr hh a t e)
def tt_FF (p : Nat → Nat) (H : Nat → Int32) (t c w : Nat) : Prop := (w = 0 ∧ c = t ∧ tt_Pa p H 2 t) ∨ (2 ≤ w ∧ tt_Ab p c t ∧ tt_Pa p H 2 c ∧ ¬ H (c * 4 + w) = 0)
theorem xx_attempt {post : Int32 → SX → Prop} {nc : Int32} {P T D H AA BO TG R TD AM RE WA RC WU : Nat → Int32} {n : Nat} {p : Nat → Nat} (hn : n ≤ 24) (hh : tt_Hp p) (hr : ∀ s, H s = 0 ∨ H s = 1 ∨ H s = 2 ∨ H s = 3) {t len i : Nat} (ht : t < n) (hl : len < 24) (hW : tt_way n p t len WU) (h0 : tt_q p t len = 0)
  (hp : ∀ TD' : Nat → Int32, tt_cn TD (tt_FF p H t) TD' → post (tt_g (tt_Ha p H t (fun o => tt_own BO t i = o))) (nc, tt_S TD' 96, P, T, D, H, AA, BO, TG, R, TD', AM, RE, WA, RC, WU)) : wpX_makeAttempt post (nc, tt_S TD 96, P, T, D, H, AA, BO, TG, R, TD, AM, RE, WA, RC, WU) (nI t) (nI i) (nI len) := by
  have top : ∀ c, ¬ tt_Ab p c (tt_q p t len) := fun c a => absurd (h0 ▸ a) tt_Ab_0
  refine ⟨len + 1, xx_ma6 (TD0 := TD) hn hh hr hl hW ?_ len 1 TD (by omega) (tt_g1 (fun ⟨c, a, _⟩ => top c a) (fun ⟨c, a, _⟩ => top c a)).symm (fun c a => absurd a (top c)) (fun c w _ => by rw [tt_b0 (fun z => top c z.2.1), Int32.add_zero])⟩
  intro r TD1 hrl hPa hex hcn
  have abt : ∀ c, tt_Ab p c (tt_q p t r) → tt_Ab p c t := by
    intro c a
    rcases tt_q_ab hh hW r hrl with e | e
    · rw [e] at a; exact a
    · exact tt_Ab_tr hh a t e
  by_cases w1 : tt_g (tt_V1 p H (tt_q p t r)) = 1
  · have r0 : r = 0 := hex.resolve_right (fun z => z w1)
    subst r0
    have pa : tt_Pa p H 2 t := tt_V1_pa hr w1
    obtain ⟨v2, v3⟩ := tt_g_eq1 w1
    refine br_t w1 (xx_bd (by omega) (fun TD2 h2 => ⟨len + 1, xx_ma64 hn hh hl hW h0 len 0 _ _ _ TD2 (by omega) rfl (tt_cn_s (fun z => absurd z.1 (by omega)) hcn h2) ?_ ?_⟩))
    · rintro c a (⟨b, _⟩ | ⟨_, b, _⟩)
      · omega
      · omega
    · intro TD3 h3
      have hq := hp TD3 (tt_cn_c (fun c w hw => ?_) h3)
      · have eg : ∀ o, ¬ tt_V1 p H t o → (tt_Ha p H t (fun o => tt_own BO t i = o) o ↔ (tt_own BO t i = o ∨ ∃ c, tt_Ab p c (tt_q p t 0) ∧ H (c * 4 + 3) = o)) := by
          intro o no
          constructor
          · rintro (⟨c, a, b, d | d⟩ | ⟨a, b⟩)
            · exact absurd ⟨c, a, d⟩ no
            · exact Or.inr ⟨c, a, d⟩
            · exact Or.inl a
          · rintro (a | ⟨c, a, b⟩)
            · exact Or.inr ⟨a, pa⟩
            · exact Or.inl ⟨c, a, hPa c a, Or.inr b⟩
        rw [tt_gc (W := fun o => tt_own BO t i = o ∨ ∃ c, tt_Ab p c (tt_q p t 0) ∧ H (c * 4 + 3) = o) (eg 2 v2) (eg 3 v3)] at hq
        exact hq
      · constructor
        · rintro ((⟨a, b, d⟩ | ⟨a, b, _⟩) | ⟨a, b, d⟩)
          · subst a; exact Or.inr ⟨by omega, b, hPa c b, d⟩
          · exact Or.inl ⟨b, a, pa⟩
          · subst a; exact Or.inr ⟨by omega, b, hPa c b, d⟩
        · rintro (⟨a, b, _⟩ | ⟨a, b, d, e⟩)
          · exact Or.inl (Or.inr ⟨b, a, trivial⟩)
          · have : w = 2 ∨ w = 3 := by omega
            rcases this with rfl | rfl
            · exact Or.inl (Or.inl ⟨rfl, b, e⟩)
            · exact Or.inr ⟨rfl, b, e⟩
  · obtain ⟨c0, a0, b0⟩ : ∃ c, tt_Ab p c (tt_q p t r) ∧ ¬ H (c * 4 + 2) ≤ 1 := by
      rcases tt_g_ne1 w1 with ⟨c, a, b⟩ | ⟨c, a, b⟩
      · exact ⟨c, a, tt_nle1 (Or.inl b)⟩
      · exact ⟨c, a, tt_nle1 (Or.inr b)⟩
    have npa : ¬ tt_Pa p H 2 t := fun z => b0 (z c0 (abt c0 a0))
    have back : ∀ c, tt_Ab p c t → tt_Pa p H 2 c → tt_Ab p c (tt_q p t r) := by
      intro c a b
      rcases tt_q_ab hh hW r hrl with e | e
      · rw [e]; exact a
      · rcases tt_Ab_tri hh t a (Or.inr e) with z | z | z
        · exact z
        · exact absurd (b c0 (z ▸ a0)) b0
        · exact absurd (b c0 (tt_Ab_tr hh a0 c z)) b0
    refine br_f w1 ⟨len - r + 1, xx_ma64 hn hh hl hW h0 (len - r) r _ _ _ TD1 (by omega) rfl hcn ?_ ?_⟩
    · rintro c a ⟨b, _⟩
      omega
    · intro TD3 h3
      have hq := hp TD3 (tt_cn_c (fun c w hw => ?_) h3)
      · have eg : ∀ o, tt_Ha p H t (fun o => tt_own BO t i = o) o ↔ (tt_V1 p H (tt_q p t r) o ∨ ∃ c, tt_Ab p c (tt_q p t r) ∧ H (c * 4 + 3) = o) := by
          intro o
          constructor
          · rintro (⟨c, a, b, d | d⟩ | ⟨a, b⟩)
            · exact Or.inl ⟨c, back c a b, d⟩
            · exact Or.inr ⟨c, back c a b, d⟩
            · exact absurd b npa
          · rintro (⟨c, a, b⟩ | ⟨c, a, b⟩)
            · exact Or.inl ⟨c, abt c a, hPa c a, Or.inl b⟩
            · exact Or.inl ⟨c, abt c a, hPa c a, Or.inr b⟩
        rw [tt_gc (W := fun o => tt_V1 p H (tt_q p t r) o ∨ ∃ c, tt_Ab p c (tt_q p t r) ∧ H (c * 4 + 3) = o) (eg 2) (eg 3)] at hq
        exact hq
      · constructor
        · rintro (⟨a, b, d⟩ | ⟨a, b, d⟩)
          · subst a; exact Or.inr ⟨by omega, abt c b, hPa c b, d⟩
          · subst a; exact Or.inr ⟨by omega, abt c b, hPa c b, d⟩
        · rintro (⟨a, b, d⟩ | ⟨a, b, d, e⟩)
          · exact absurd d npa
          · have : w = 2 ∨ w = 3 := by omega
            rcases this with rfl | rfl
            · exact Or.inl ⟨rfl, back c b d, e⟩
            · exact Or.inr ⟨rfl, back c b d, e⟩
theorem xx_rt47 {post : SX → Prop} {nc sd : Int32} {P T D H AA BO TG R TD AM RE WA RC WU : Nat → Int32} {t : Nat} (ht : t < 24) {x4 x5 : Int32} (hp : post (nc, sd, P, T, D, H, AA, BO, TG, upd R t x5, TD, upd AM t x4, RE, WA, RC, WU)) : wX_runTest_47 post (nI t) x4 x5 nc sd P T D H AA BO TG R TD AM RE WA RC WU :=
  ⟨vp_in_nI ht (by omega), nm_r (tt_un AM _ (by omega)) ⟨vp_in_nI ht (by omega), nm_r (tt_un R _ (by omega)) hp⟩⟩
theorem xx_rt19 {post : SX → Prop} {nc : Int32} {P T D H AA BO TG R AM RE WA RC WU : Nat → Int32} {n : Nat} {p : Nat → Nat} {OC TD0 : Nat → Int32} (hn : n ≤ 24) (hh : tt_Hp p) (hr : ∀ s, H s = 0 ∨ H s = 1 ∨ H s = 2 ∨ H s = 3) {t len K : Nat} (ht : t < n) (hl : len < 24) (hW : tt_way n p t len WU) (h0 : tt_q p t len = 0) (hK : K < 2 ^ 31) (ho : ∀ j, j < K → (tt_own BO t j = 2 ↔ tt_own OC t j = 2) ∧ (tt_own BO t j = 3 ↔ tt_own OC t j = 3)) :
  ∀ r i l (TD : Nat → Int32), i + r = K → (∀ c w, w < 4 → TD (c * 4 + w) = TD0 (c * 4 + w) + nI i * tt_b (tt_FF p H t c w)) → (∀ TD : Nat → Int32, (∀ c w, w < 4 → TD (c * 4 + w) = TD0 (c * 4 + w) + nI (tt_lp (tt_gt p H OC t) r i i l).1 * tt_b (tt_FF p H t c w)) → post (nc, tt_S TD 96, P, T, D, H, AA, BO, TG, upd R t (tt_lp (tt_gt p H OC t) r i i l).2, TD, upd AM t (nI (tt_lp (tt_gt p H OC t) r i i l).1), RE, WA, RC, WU)) → wX_runTest_19 post (nI t) (nI len) (nI K) (r + 1) (nI i) l nc (tt_S TD 96) P T D H AA BO TG R TD AM RE WA RC WU := by
  intro r
  induction r with
  | zero =>
    intro i l TD hi hT hp
    exact br_t (nI_le (by omega) (by omega)) (xx_rt47 (by omega) (hp TD hT))
  | succ r ih =>
    intro i l TD hi hT hp
    refine br_f (nI_ge (by omega) (by omega)) ?_
    by_cases e : l = 2
    · subst e
      rw [tt_lp_s] at hp
      have eg : ∀ o, (tt_own BO t i = o ↔ tt_own OC t i = o) → (tt_Ha p H t (fun o => tt_own BO t i = o) o ↔ tt_Ha p H t (fun o => tt_own OC t i = o) o) := by
        intro o eo
        unfold tt_Ha; dsimp only
        rw [eo]
      have eq : tt_g (tt_Ha p H t (fun o => tt_own BO t i = o)) = tt_gt p H OC t i := tt_gc (eg 2 (ho i (by omega)).1) (eg 3 (ho i (by omega)).2)
      refine br_t rfl (xx_attempt hn hh hr ht hl hW h0 (fun TD' hTD' => nm_r (nI_1 i) ?_))
      rw [eq]
      refine ih (i + 1) _ TD' (by omega) (fun c w hw => ?_) hp
      rw [hTD' c w hw, hT c w hw, ← nI_1, Int32.add_mul, Int32.one_mul, Int32.add_assoc]
    · rw [tt_lp_n e] at hp
      exact br_f e (xx_rt47 (by omega) (hp TD hT))
theorem xx_runTest {post : SX → Prop} {nc : Int32} {P T D H AA BO TG R TD AM RE WA RC WU : Nat → Int32} {n : Nat} {p : Nat → Nat} {OC TR : Nat → Int32} (h : tt_PX n p P) (hr : ∀ s, H s = 0 ∨ H s = 1 ∨ H s = 2 ∨ H s = 3) {t K : Nat} (ht : t < n) (hK : K < 2 ^ 31) (hA : AA t = nI K) (hTR : TR t = nI K) (ho : ∀ j, j < K → (tt_own BO t j = 2 ↔ tt_own OC t j = 2) ∧ (tt_own BO t j = 3 ↔ tt_own OC t j = 3))
  (hp : ∀ TD' WU : Nat → Int32, (∀ c w, w < 4 → TD' (c * 4 + w) = TD (c * 4 + w) + nI (tt_mr p H OC TR t).1 * tt_b (tt_FF p H t c w)) → post (nc, tt_S TD' 96, P, T, D, H, AA, BO, TG, upd R t (tt_mr p H OC TR t).2, TD', upd AM t (nI (tt_mr p H OC TR t).1), RE, WA, RC, WU)) : wpX_runTest post (nc, tt_S TD 96, P, T, D, H, AA, BO, TG, R, TD, AM, RE, WA, RC, WU) (nI t) := by
  have hn := h.1
  have e : (TR t).toNatClampNeg = K := by rw [hTR]; exact nI_clamp hK
  unfold tt_mr at hp
  rw [e] at hp
  unfold wpX_runTest; dsimp only
  refine xx_findWayUp h ht (fun len WU' hl h0 hW => ⟨vp_in_nI (by omega) (by omega), nm_r (e' := nI K) ((tt_at AA (by omega)).trans hA) ⟨K + 1, ?_⟩⟩)
  exact xx_rt19 (TD0 := TD) (OC := OC) hn h.2.1 hr ht hl hW h0 hK ho K 0 2 TD (by omega) (fun c w _ => by rw [nI_0, Int32.zero_mul, Int32.add_zero]) (fun TD' hT' => hp TD' WU' hT')
end
section
theorem xx_rc26 {post : SX → Prop} {nc : Int32} {P T D H AA BO TG R TD AM RE WA RC WU : Nat → Int32} {c : Nat} (hc : c < 24) {a z : Int32} (hp : ∀ TD' : Nat → Int32, (∀ c' w', w' < 4 → TD' (c' * 4 + w') = TD (c' * 4 + w') + tt_b (c' = c ∧ w' = 1 ∧ ¬ H (c * 4 + 1) = 0)) → post (nc, tt_S TD' 96, P, T, D, H, AA, BO, TG, upd R c (tt_g (fun o => a = o ∨ H (c * 4 + 1) = o)), TD', AM, RE, WA, upd RC c (vp_nar .boolean z), WU)) : wX_runContainer_26 post (nI c) a z (nI c) nc (tt_S TD 96) P T D H AA BO TG R TD AM RE WA RC WU := by
  have hv : vp_in (nI c) 24 := vp_in_nI hc (by omega)
  exact ⟨hv, nm_r (tt_un RC _ (by omega)) (xx_hk (w := 1) hc (by omega) (fun TD' h => xx_worse ⟨hv, nm_r (tt_un R _ (by omega)) (hp TD' h)⟩))⟩
theorem xx_runContainer {post : SX → Prop} {nc : Int32} {P T D H AA BO TG R TD AM RE WA RC WU : Nat → Int32} (hr : ∀ s, H s = 0 ∨ H s = 1 ∨ H s = 2 ∨ H s = 3) {c : Nat} (hc : c < 24) (hp : ∀ (TD' : Nat → Int32) (v : Int32), (∀ c' w', w' < 4 → TD' (c' * 4 + w') = TD (c' * 4 + w') + tt_b ((c' = c ∧ w' = 0 ∧ ¬ H (c * 4 + 0) = 0) ∨ (c' = c ∧ w' = 1 ∧ ¬ H (c * 4 + 1) = 0))) → (¬ v = 0 ↔ H (c * 4 + 0) ≤ 1) → post (nc, tt_S TD' 96, P, T, D, H, AA, BO, TG, upd R c (tt_g (fun o => H (c * 4 + 0) = o ∨ H (c * 4 + 1) = o)), TD', AM, RE, WA, upd RC c v, WU)) : wpX_runContainer post (nc, tt_S TD 96, P, T, D, H, AA, BO, TG, R, TD, AM, RE, WA, RC, WU) (nI c) := by
  unfold wpX_runContainer; dsimp only
  refine xx_hk (w := 0) hc (by omega) (fun TD1 h1 => ?_)
  have all : ∀ z, (¬ vp_nar .boolean z = 0 ↔ H (c * 4 + 0) ≤ 1) → wX_runContainer_26 post (nI c) (H (c * 4 + 0)) z (nI c) nc (tt_S TD1 96) P T D H AA BO TG R TD1 AM RE WA RC WU := by
    intro z hz
    refine xx_rc26 hc (fun TD' h' => hp TD' _ (fun c' w' hw => ?_) hz)
    rw [h' c' w' hw, h1 c' w' hw, tt_bor (fun a b => by omega), Int32.add_assoc]
  refine br_c (fun e => all 1 ?_) (fun e => br_c (fun e1 => all 1 ?_) (fun e1 => all 0 ?_))
  · rw [tt_n1, e]; decide
  · rw [tt_n1, e1]; decide
  · rw [tt_n0]
    refine ⟨fun z => absurd rfl z, fun z => ?_⟩
    rcases hr (c * 4 + 0) with q | q | q | q
    · exact absurd q e
    · exact absurd q e1
    · exact absurd z (tt_nle1 (Or.inl q))
    · exact absurd z (tt_nle1 (Or.inr q))
section
variable {n : Nat} {p : Nat → Nat} {T D H TS OC TR : Nat → Int32} {g : Int32}
theorem tt_ev_no {i c w : Nat} (G : ¬ tt_Go n p T D H TS g i) : tt_ev n p T D H TS OC TR g (i + 1) c w = tt_ev n p T D H TS OC TR g i c w := by
  by_cases w2 : w < 2
  · by_cases e : c = i
    · subst e
      rw [tt_ev_z w2 (Nat.le_refl c)]
      rcases tt_w2 w2 with rfl | rfl
      · by_cases t : T c = 0
        · rw [tt_ev0_c t, tt_b0 (fun z => G z.1)]
        · rw [tt_ev0_t t, tt_md0 (fun z => G z.2), Int32.mul_zero]
      · rw [tt_ev1_s, tt_b0 (fun z => G z.2.1)]
    · rw [tt_ev_ne w2 e]
  · rw [tt_ev2_s (by omega), tt_md0 (fun z => G z.2), Int32.mul_zero, Int32.mul_zero, Int32.add_zero]
theorem tt_ev_c {i c w : Nat} (t : T i = 0) (G : tt_Go n p T D H TS g i) : tt_ev n p T D H TS OC TR g (i + 1) c w = tt_ev n p T D H TS OC TR g i c w + tt_b ((c = i ∧ w = 0 ∧ ¬ H (i * 4 + 0) = 0) ∨ (c = i ∧ w = 1 ∧ ¬ H (i * 4 + 1) = 0)) := by
  by_cases w2 : w < 2
  · by_cases e : c = i
    · subst e
      rw [tt_ev_z (i := c) w2 (Nat.le_refl c), Int32.zero_add]
      rcases tt_w2 w2 with rfl | rfl
      · rw [tt_ev0_c t]
        exact tt_bc ⟨fun z => Or.inl ⟨rfl, rfl, z.2⟩, fun z => z.elim (fun y => ⟨G, y.2.2⟩) (fun y => absurd y.2.1 (by omega))⟩
      · rw [tt_ev1_s]
        exact tt_bc ⟨fun z => Or.inr ⟨rfl, rfl, z.2.2⟩, fun z => z.elim (fun y => absurd y.2.1 (by omega)) (fun y => ⟨t, G, y.2.2⟩)⟩
    · rw [tt_ev_ne w2 e, tt_b0 (fun z => z.elim (fun y => e y.1) (fun y => e y.1)), Int32.add_zero]
  · rw [tt_ev2_s (by omega), tt_md0 (fun z => z.1 t), Int32.mul_zero, Int32.mul_zero, tt_b0 (fun z => by omega)]
theorem tt_ev_t {i c w : Nat} (t : ¬ T i = 0) (G : tt_Go n p T D H TS g i) : tt_ev n p T D H TS OC TR g (i + 1) c w = tt_ev n p T D H TS OC TR g i c w + nI (tt_mr p H OC TR i).1 * tt_b (tt_FF p H i c w) := by
  by_cases w2 : w < 2
  · by_cases e : c = i
    · subst e
      rw [tt_ev_z (i := c) w2 (Nat.le_refl c), Int32.zero_add]
      rcases tt_w2 w2 with rfl | rfl
      · rw [tt_ev0_t t, tt_md1 t G, Int32.mul_comm]
        have e : tt_b (tt_Pa p H 2 c) = tt_b (tt_FF p H c c 0) := tt_bc ⟨fun z => Or.inl ⟨rfl, rfl, z⟩, fun z => z.elim (fun y => y.2.2) (fun y => absurd y.1 (by omega))⟩
        rw [e]
      · rw [tt_ev1_s, tt_b0 (fun z => t z.1)]
        have e : tt_b (tt_FF p H c c 1) = 0 := tt_b0 (fun z => z.elim (fun y => absurd y.1 (by omega)) (fun y => absurd y.1 (by omega)))
        rw [e, Int32.mul_zero]
    · have e : tt_b (tt_FF p H i c w) = 0 := tt_b0 (fun z => z.elim (fun y => e y.2.1) (fun y => absurd y.1 (by omega)))
      rw [tt_ev_ne w2 (by assumption), e, Int32.mul_zero, Int32.add_zero]
  · have e : tt_b (tt_FF p H i c w) = tt_b ((tt_Pa p H 2 c ∧ ¬ H (c * 4 + w) = 0) ∧ tt_Ab p c i) := tt_bc ⟨fun z => z.elim (fun y => absurd y.1 (by omega)) (fun y => ⟨y.2.2, y.2.1⟩), fun z => Or.inr ⟨by omega, z.2, z.1⟩⟩
    rw [tt_ev2_s (by omega), tt_md1 t G, e, tt_band (P := tt_Pa p H 2 c ∧ ¬ H (c * 4 + w) = 0), Int32.mul_comm (nI _), Int32.mul_assoc]
end
def tt_xv (n : Nat) (p : Nat → Nat) (T D H TS OC TR : Nat → Int32) (g : Int32) (i : Nat) (R AM TD RC : Nat → Int32) : Prop :=
  (∀ c, c < 24 → R c = if c < i then tt_rs n p T D H TS OC TR g c else 0) ∧ (∀ c, c < 24 → AM c = if c < i then tt_md n p T D H TS OC TR g c else 0) ∧ (∀ c w, c < 24 → w < 4 → TD (c * 4 + w) = tt_ev n p T D H TS OC TR g i c w) ∧ (∀ c, c < i → (¬ RC c = 0 ↔ T c = 0 ∧ tt_Go n p T D H TS g c ∧ H (c * 4 + 0) ≤ 1)) ∧ (∀ c, i ≤ c → c < 24 → RC c = 0)
section
variable {n : Nat} {p : Nat → Nat} {T D H TS OC TR : Nat → Int32} {g : Int32}
theorem tt_xv_no {i : Nat} {R AM TD RC : Nat → Int32} (hi : i < 24) (G : ¬ tt_Go n p T D H TS g i) (h : tt_xv n p T D H TS OC TR g i R AM TD RC) : tt_xv n p T D H TS OC TR g (i + 1) R AM TD RC := by
  refine ⟨fun c hc => (h.1 c hc).trans (tt_ife (tt_rs_0 G)).symm, fun c hc => (h.2.1 c hc).trans (tt_ife (tt_md0 (fun z => G z.2))).symm, fun c w hc hw => ?_, fun c hc => ?_, fun c hc h24 => h.2.2.2.2 c (by omega) h24⟩
  · rw [h.2.2.1 c w hc hw, tt_ev_no G]
  · by_cases e : c = i
    · subst e
      exact ⟨fun z => absurd (h.2.2.2.2 c (Nat.le_refl c) hi) z, fun z => absurd z.2.1 G⟩
    · exact h.2.2.2.1 c (by omega)
theorem tt_xv_c {i : Nat} {R AM TD TD' RC : Nat → Int32} {v : Int32} (t : T i = 0) (G : tt_Go n p T D H TS g i) (hT : ∀ c' w', w' < 4 → TD' (c' * 4 + w') = TD (c' * 4 + w') + tt_b ((c' = i ∧ w' = 0 ∧ ¬ H (i * 4 + 0) = 0) ∨ (c' = i ∧ w' = 1 ∧ ¬ H (i * 4 + 1) = 0))) (hv : ¬ v = 0 ↔ H (i * 4 + 0) ≤ 1) (h : tt_xv n p T D H TS OC TR g i R AM TD RC) : tt_xv n p T D H TS OC TR g (i + 1) (upd R i (tt_g (fun o => H (i * 4 + 0) = o ∨ H (i * 4 + 1) = o))) AM TD' (upd RC i v) := by
  refine ⟨fun c hc => tt_ifu (h.1 c hc) (tt_rs_c t G).symm, fun c hc => (h.2.1 c hc).trans (tt_ife (tt_md0 (fun z => z.1 t))).symm, fun c w hc hw => ?_, fun c hc => ?_, fun c hc h24 => by rw [pk_un (by omega)]; exact h.2.2.2.2 c (by omega) h24⟩
  · rw [hT c w hw, h.2.2.1 c w hc hw, tt_ev_c t G]
  · by_cases e : c = i
    · subst e
      rw [pk_us, hv]
      exact ⟨fun z => ⟨t, G, z⟩, fun z => z.2.2⟩
    · rw [pk_un e]; exact h.2.2.2.1 c (by omega)
theorem tt_xv_t {i : Nat} {R AM TD TD' RC : Nat → Int32} (hi : i < 24) (t : ¬ T i = 0) (G : tt_Go n p T D H TS g i) (hT : ∀ c' w', w' < 4 → TD' (c' * 4 + w') = TD (c' * 4 + w') + nI (tt_mr p H OC TR i).1 * tt_b (tt_FF p H i c' w')) (h : tt_xv n p T D H TS OC TR g i R AM TD RC) : tt_xv n p T D H TS OC TR g (i + 1) (upd R i (tt_mr p H OC TR i).2) (upd AM i (nI (tt_mr p H OC TR i).1)) TD' RC := by
  refine ⟨fun c hc => tt_ifu (h.1 c hc) (tt_rs_t t G).symm, fun c hc => tt_ifu (h.2.1 c hc) (tt_md1 t G).symm, fun c w hc hw => ?_, fun c hc => ?_, fun c hc h24 => h.2.2.2.2 c (by omega) h24⟩
  · rw [hT c w hw, h.2.2.1 c w hc hw, tt_ev_t t G]
  · by_cases e : c = i
    · subst e
      exact ⟨fun z => absurd (h.2.2.2.2 c (Nat.le_refl c) hi) z, fun z => absurd z.1 t⟩
    · exact h.2.2.2.1 c (by omega)
end
theorem xx_rw2 {post : SX → Prop} {P T D H AA BO TG RE WA : Nat → Int32} {n : Nat} {p : Nat → Nat} {TS OC TR : Nat → Int32} {g : Int32} (h : tt_PX n p P) (hq : ∀ i, 0 < i → i < n → T (p i) = 0) (hr : ∀ s, H s = 0 ∨ H s = 1 ∨ H s = 2 ∨ H s = 3) (hB : tt_Bd n T AA BO TG TR OC TS) (hWA : ∀ i, i < n → (¬ WA i = 0 ↔ tt_Wn n p T D TS g i))
  (hp : ∀ R AM TD RC WU : Nat → Int32, tt_xv n p T D H TS OC TR g n R AM TD RC → post (nI n, tt_S TD 96, P, T, D, H, AA, BO, TG, R, TD, AM, RE, WA, RC, WU)) : ∀ d i (R AM TD RC WU : Nat → Int32), i + d = n → tt_xv n p T D H TS OC TR g i R AM TD RC → wX_runWanted_2 post (d + 1) (nI i) (nI n) (tt_S TD 96) P T D H AA BO TG R TD AM RE WA RC WU := by
  have hn := h.1
  intro d
  induction d with
  | zero =>
    intro i R AM TD RC WU hi hv
    have e : i = n := by omega
    subst e
    exact br_t (nI_le (by omega) (by omega)) (hp R AM TD RC WU hv)
  | succ d ih =>
    intro i R AM TD RC WU hi hv
    have hi24 : vp_in (nI i) 24 := vp_in_nI (by omega) (by omega)
    have no : ¬ tt_Go n p T D H TS g i → ∀ x, x = nI i + 1 → wX_runWanted_2 post (d + 1) x (nI n) (tt_S TD 96) P T D H AA BO TG R TD AM RE WA RC WU := fun G => nm_r (nI_1 i) (ih (i + 1) R AM TD RC WU (by omega) (tt_xv_no (by omega) G hv))
    have main : ∀ z0, (tt_Wn n p T D TS g i → (¬ z0 = 0 ↔ tt_Pa p H 0 i)) → wX_runWanted_33 post (wX_runWanted_2 post (d + 1)) (nI i) z0 (nI n) (tt_S TD 96) P T D H AA BO TG R TD AM RE WA RC WU := by
      intro z0 hz
      refine ⟨hi24, ?_⟩
      rw [tt_at WA (by omega), tt_at T (by omega)]
      refine br_c (fun a => no (fun G => (hWA i (by omega)).mpr G.1 a)) (fun a => br_c (fun b => no (fun G => (hz G.1).mpr G.2 b)) (fun b => ⟨hi24, br_c (fun t => ?_) (fun t => ?_)⟩))
      · have wn := (hWA i (by omega)).mp a
        exact xx_runContainer hr (by omega) (fun TD' v h1 h2 => nm_r (nI_1 i) (ih (i + 1) _ _ _ _ _ (by omega) (tt_xv_c t ⟨wn, (hz wn).mp b⟩ h1 h2 hv)))
      · have wn := (hWA i (by omega)).mp a
        obtain ⟨_, K, k1, k2, k3, k4⟩ := hB.1 i (by omega) t
        exact xx_runTest (OC := OC) (TR := TR) h hr (by omega) k1 k2 k3 k4 (fun TD' WU' h1 => nm_r (nI_1 i) (ih (i + 1) _ _ _ _ _ (by omega) (tt_xv_t (by omega) t ⟨wn, (hz wn).mp b⟩ h1 hv)))
    refine br_f (nI_ge (by omega) (by omega)) ?_
    by_cases z : i = 0
    · refine br_t (by rw [z]; rfl) (main 1 (fun _ => ⟨fun _ => ?_, fun _ => by decide⟩))
      rw [z]; exact tt_Pa_0
    · have h0 : 0 < i := by omega
      have hpi := h.2.1 i h0
      refine br_f (nI_ne0 h0 (by omega)) ⟨hi24, ?_⟩
      rw [tt_at P (by omega), h.2.2 i h0 (by omega), tt_at RC (by omega)]
      have key : tt_Wn n p T D TS g i → (¬ RC (p i) = 0 ↔ tt_Pa p H 0 i) := by
        intro wn
        rw [hv.2.2.2.1 (p i) hpi, tt_Pa_s h.2.1 h0]
        exact ⟨fun y => ⟨y.2.2, y.2.1.2⟩, fun y => ⟨hq i h0 (by omega), ⟨tt_Wn_up h.2.1 h0 (by omega) wn, y.2⟩, y.1⟩⟩
      refine ⟨vp_in_nI (by omega) (by omega), br_c (fun b => main 0 (fun wn => ?_)) (fun b => main 1 (fun wn => ?_))⟩
      · rw [← key wn]; exact ⟨fun y => absurd rfl y, fun y => absurd b y⟩
      · rw [← key wn]; exact ⟨fun _ => b, fun _ => by decide⟩
theorem xx_runWanted {post : SX → Prop} {sd : Int32} {P T D H AA BO TG R TD AM RE WA RC WU : Nat → Int32} {n : Nat} {p : Nat → Nat} {TS OC TR : Nat → Int32} {g : Int32} (h : tt_PX n p P) (hq : ∀ i, 0 < i → i < n → T (p i) = 0) (hr : ∀ s, H s = 0 ∨ H s = 1 ∨ H s = 2 ∨ H s = 3) (hB : tt_Bd n T AA BO TG TR OC TS) (hWA : ∀ i, i < n → (¬ WA i = 0 ↔ tt_Wn n p T D TS g i)) (hs : sd = tt_S TD 96) (h0 : tt_xv n p T D H TS OC TR g 0 R AM TD RC)
  (hp : ∀ R AM TD RC WU : Nat → Int32, tt_xv n p T D H TS OC TR g n R AM TD RC → post (nI n, tt_S TD 96, P, T, D, H, AA, BO, TG, R, TD, AM, RE, WA, RC, WU)) : wpX_runWanted post (nI n, sd, P, T, D, H, AA, BO, TG, R, TD, AM, RE, WA, RC, WU) := by
  subst hs
  exact ⟨n + 1, xx_rw2 h hq hr hB hWA hp n 0 R AM TD RC WU (by omega) h0⟩
theorem xx_run {post : Int32 → SX → Prop} {sd : Int32} {P T D H AA BO TG R TD AM RE WA RC WU : Nat → Int32} {n : Nat} {p : Nat → Nat} {TS OC TR : Nat → Int32} {g : Int32} (h : tt_PX n p P) (h1 : 1 ≤ n) (hq : ∀ i, 0 < i → i < n → T (p i) = 0) (hr : ∀ s, H s = 0 ∨ H s = 1 ∨ H s = 2 ∨ H s = 3) (hB : tt_Bd n T AA BO TG TR OC TS)
  (hp : ∀ R AM TD RE WA RC WU : Nat → Int32, tt_xv n p T D H TS OC TR g n R AM TD RC → post (tt_ct T R 2 n) (nI n, tt_S TD 96, P, T, D, H, AA, BO, TG, R, TD, AM, RE, WA, RC, WU)) : wpX_run post (nI n, sd, P, T, D, H, AA, BO, TG, R, TD, AM, RE, WA, RC, WU) g := by
  have hn := h.1
  unfold wpX_run; dsimp only
  refine xx_forget (fun R1 AM1 RC1 TD1 a b => ?_)
  have x0 : tt_xv n p T D H TS OC TR g 0 R1 AM1 TD1 RC1 := by
    refine ⟨fun c hc => ?_, fun c hc => ?_, fun c w hc hw => ?_, fun c hc => absurd hc (by omega), fun c _ hc => (a c hc).2.2⟩
    · rw [if_neg (by omega)]; exact (a c hc).1
    · rw [if_neg (by omega)]; exact (a c hc).2.1
    · rw [b _ (by omega)]
      by_cases w2 : w < 2
      · rw [tt_ev_z w2 (by omega)]
      · rw [tt_ev2 (by omega)]
        show (0 : Int32) = _ * 0
        rw [Int32.mul_zero]
  have s0 : (0 : Int32) = tt_S TD1 96 := (tt_S_z 96 b).symm
  refine xx_findReachable h h1 (fun RE1 hRE => ?_)
  refine xx_findWanted (TS := TS) h h1 (fun i hi t => (hB.1 i hi t).1) hRE (fun WA1 hWA => ?_)
  refine xx_runWanted (OC := OC) (TR := TR) h hq hr hB hWA s0 x0 (fun R2 AM2 TD2 RC2 WU2 hx => ?_)
  exact xx_testsWith hn 2 (hp R2 AM2 TD2 RE1 WA1 RC2 WU2 hx)
end
section
theorem tt_rs_r {n : Nat} {p : Nat → Nat} {T D H TS OC TR : Nat → Int32} {g : Int32} (i : Nat) : tt_rs n p T D H TS OC TR g i = 0 ∨ tt_rs n p T D H TS OC TR g i = 1 ∨ tt_rs n p T D H TS OC TR g i = 2 ∨ tt_rs n p T D H TS OC TR g i = 3 := by
  by_cases G : tt_Go n p T D H TS g i
  · by_cases t : T i = 0
    · rw [tt_rs_c t G]; exact Or.inr (tt_g_rg _)
    · rw [tt_rs_t t G]; exact Or.inr (tt_lp_r (fun i => tt_g_rg _) _ _ _ _ (Or.inr (Or.inl rfl)))
  · exact Or.inl (tt_rs_0 G)
theorem i_vc_run {k : Nat} {u : SX} {v : SY} (I : i_Rel k u v) (hk : k + 4 ≤ 2048) (v1 : Int32) : wpX_run (fun r u' => wpY_run (fun r' v' => r' = r ∧ i_Rel (k + 4) u' v') v v1) u v1 := by
  obtain ⟨nc, sd, P, T, D, H, AA, BO, TG, R, TD, AM, RE, WA, RC, WU⟩ := u
  obtain ⟨ns, T', PP, D', H', TR, OC, TS, RS, CA, MD⟩ := v
  obtain ⟨rfl, rfl, rfl, n, p, rfl, rfl, hT, hB, hR⟩ := I
  obtain ⟨h1, hn, hh, he, hm, ht0, hr⟩ := id hT
  have hq : ∀ i, 0 < i → i < n → T (p i) = 0 := fun i a b => (he i a b).2.2
  refine xx_run (TS := TS) (OC := OC) (TR := TR) ⟨hn, hh, fun i a b => (he i a b).1⟩ h1 hq hr hB ?_
  intro R2 AM2 TD2 RE2 WA2 RC2 WU2 hx
  refine yy_run ⟨hn, hh, fun i a b => (he i a b).2.1, hm⟩ hq (fun t ht tt => ?_) ?_
  · obtain ⟨_, K, k1, _, k3, _⟩ := hB.1 t ht tt
    exact ⟨K, k1, k3⟩
  · intro RS2 MD2 CA2 a b c
    have eR : ∀ i, i < 24 → R2 i = RS2 i := fun i hi => (hx.1 i hi).trans (a i hi).symm
    have eT : ∀ s, s < 96 → TD2 s = CA2 s := by
      intro s hs
      have e : s = s / 4 * 4 + s % 4 := by omega
      rw [e]
      exact (hx.2.2.1 _ _ (by omega) (by omega)).trans (c _ _ (by omega) (by omega)).symm
    refine ⟨tt_ct_c n (fun j hj => (eR j (by omega)).symm), rfl, rfl, rfl, n, p, rfl, rfl, hT, hB, fun i hi => ⟨eR i hi, (hx.2.1 i hi).trans (b i hi).symm, ?_⟩, eT, tt_S_c 96 eT⟩
    rw [a i hi]
    by_cases q : i < n
    · rw [if_pos q]; exact tt_rs_r i
    · rw [if_neg q]; exact Or.inl rfl
end
