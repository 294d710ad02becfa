section
/-! pasted from the kit's rows to paste: pk_us .. pk_cl -/
theorem pk_us {f : Nat → Int32} {k : Nat} {x : Int32} : upd f k x k = x := if_pos rfl
theorem pk_un {f : Nat → Int32} {k j : Nat} {x : Int32} (h : j ≠ k) : upd f k x j = f j := if_neg h
theorem pk_sub {a b : Nat} (h : b ≤ a) : nI a - nI b = nI (a - b) := by
  obtain ⟨c, rfl⟩ : ∃ c, a = c + b := ⟨a - b, by omega⟩
  rw [← nI_add, Int32.add_sub_cancel, Nat.add_sub_cancel]
theorem pk_m1 (n : Nat) : nI (n + 1) + (-1) = nI n := by
  rw [← nI_1, Int32.add_assoc, show (1 : Int32) + (-1) = 0 from rfl, Int32.add_zero]
theorem pk_mul (a b : Nat) : nI a * nI b = nI (a * b) := (Int32.ofNat_mul a b).symm
theorem pk_div {a d : Nat} (ha : a < 2 ^ 31) (h0 : 0 < d) (hd : d < 2 ^ 31) : nI a / nI d = nI (a / d) := by
  apply Int32.toInt_inj.mp
  rw [lg_idiv_nonneg (by rw [nI_toInt ha]; omega) (by rw [nI_toInt hd]; omega), nI_toInt ha, nI_toInt hd, nI_toInt (Nat.lt_of_le_of_lt (Nat.div_le_self a d) ha)]
  first | rfl | exact (Int.natCast_ediv _ _).symm
theorem pk_rem {a d : Nat} (ha : a < 2 ^ 31) (h0 : 0 < d) (hd : d < 2 ^ 31) : nI a - nI a / nI d * nI d = nI (a % d) := by
  rw [pk_div ha h0 hd, pk_mul, pk_sub (Nat.div_mul_le_self a d)]
  exact congrArg nI (by have := Nat.div_add_mod' a d; omega)
theorem pk_sub_toInt {a b : Nat} (ha : a < 2 ^ 30) (hb : b < 2 ^ 30) : (nI a - nI b).toInt = (a : Int) - b := by
  rw [Int32.toInt_sub, nI_toInt (by omega), nI_toInt (by omega)]
  exact Int.bmod_eq_of_le (by omega) (by omega)
theorem pk_sneg {a b : Nat} (hb : b < 2 ^ 30) (h : a < b) : nI a - nI b < 0 := by
  rw [Int32.lt_iff_toInt_lt, pk_sub_toInt (by omega) hb, show (0 : Int32).toInt = 0 from by decide]
  omega
theorem pk_ix (x : Int32) {n : Nat} (hn : n < 2 ^ 31) : x < 0 ∨ nI n ≤ x ∨ ∃ j : Nat, j < n ∧ x = nI j := by
  by_cases h : x < 0
  · exact Or.inl h
  · obtain ⟨j, hj, rfl⟩ := nI_of h
    by_cases h2 : j < n
    · exact Or.inr (Or.inr ⟨j, h2, rfl⟩)
    · exact Or.inr (Or.inl (nI_le (by omega) hj))
theorem pk_le {x y : Int32} {A B : Prop} (a b : Nat) (f : a ≤ b → A) (g : b < a → B) (hx : x = nI a := by rfl) (hy : y = nI b := by rfl) (ha : a < 2 ^ 31 := by omega) (hb : b < 2 ^ 31 := by omega) : (x ≤ y → A) ∧ (¬ x ≤ y → B) := by
  subst hx hy
  rw [nI_leI ha hb]
  exact ⟨f, fun z => g (by omega)⟩
theorem pk_lt {x y : Int32} {A B : Prop} (a b : Nat) (f : a < b → A) (g : b ≤ a → B) (hx : x = nI a := by rfl) (hy : y = nI b := by rfl) (ha : a < 2 ^ 31 := by omega) (hb : b < 2 ^ 31 := by omega) : (x < y → A) ∧ (¬ x < y → B) := by
  subst hx hy
  rw [nI_ltI ha hb]
  exact ⟨f, fun z => g (by omega)⟩
theorem pk_eq {x y : Int32} {A B : Prop} (a b : Nat) (f : a = b → A) (g : a ≠ b → B) (hx : x = nI a := by rfl) (hy : y = nI b := by rfl) (ha : a < 2 ^ 31 := by omega) (hb : b < 2 ^ 31 := by omega) : (x = y → A) ∧ (¬ x = y → B) := by
  subst hx hy
  rw [nI_eq ha hb]
  exact ⟨f, g⟩
theorem pk_in {x : Int32} (n N : Nat) (h : n < N) (hx : x = nI n := by rfl) (hN : N < 2 ^ 31 := by omega) : vp_in x N := by
  subst hx
  exact vp_in_nI h hN
theorem pk_cl {x : Int32} (n : Nat) (hx : x = nI n := by rfl) (h : n < 2 ^ 31 := by omega) : x.toNatClampNeg = n := by
  subst hx
  exact nI_clamp h
/-! the pictures: tables of naturals as arrays, a plan's ends, its greatest and least end, the count of plans, the chosen plan, the room -/
def ba_ar (L : Nat → Nat) : Nat → Int32 := fun j => nI (L j)
def ba_hd (L : Nat → Nat) : Nat → Int32 := fun j => if L j = 0 then 0 else 1
def ba_set (L : Nat → Nat) (k x : Nat) : Nat → Nat := fun j => if j = k then x else L j
theorem ba_set_s (L : Nat → Nat) (k x : Nat) : ba_set L k x k = x := if_pos rfl
theorem ba_set_n {L : Nat → Nat} {k x j : Nat} (h : j ≠ k) : ba_set L k x j = L j := if_neg h
theorem ba_set_le {L : Nat → Nat} {B k x : Nat} (h : ∀ j, L j ≤ B) (hx : x ≤ B) : ∀ j, ba_set L k x j ≤ B := by
  intro j
  by_cases e : j = k
  · rw [e, ba_set_s]; exact hx
  · rw [ba_set_n e]; exact h j
theorem ba_upd (L : Nat → Nat) (k x : Nat) : upd (ba_ar L) k (nI x) = ba_ar (ba_set L k x) := by
  funext j
  by_cases h : j = k
  · rw [h, pk_us]; exact congrArg nI (ba_set_s L k x).symm
  · rw [pk_un h]; exact congrArg nI (ba_set_n h).symm
theorem ba_hd_s {L : Nat → Nat} {k x : Nat} (hx : x ≠ 0) : upd (ba_hd L) k 1 = ba_hd (ba_set L k x) := by
  funext j
  by_cases h : j = k
  · rw [h, pk_us]; show 1 = if ba_set L k x k = 0 then _ else _
    rw [ba_set_s, if_neg hx]
  · rw [pk_un h]; show ba_hd L j = if ba_set L k x j = 0 then _ else _
    rw [ba_set_n h]; rfl
theorem ba_hd_0 (L : Nat → Nat) (k : Nat) : upd (ba_hd L) k 0 = ba_hd (ba_set L k 0) := by
  funext j
  by_cases h : j = k
  · rw [h, pk_us]; show 0 = if ba_set L k 0 k = 0 then _ else _
    rw [ba_set_s, if_pos rfl]
  · rw [pk_un h]; show ba_hd L j = if ba_set L k 0 j = 0 then _ else _
    rw [ba_set_n h]; rfl
theorem ba_arc (L : Nat → Nat) {j : Nat} (h : j < 2 ^ 31) : ba_ar L (nI j).toNatClampNeg = nI (L j) := by rw [nI_clamp h]; rfl
theorem ba_hd_z {L : Nat → Nat} {j : Nat} (h : j < 2 ^ 31) (z : L j = 0) : ba_hd L (nI j).toNatClampNeg = 0 := by
  rw [nI_clamp h]; exact if_pos z
theorem ba_hd_nz {L : Nat → Nat} {j : Nat} (h : j < 2 ^ 31) (z : ¬ L j = 0) : ¬ ba_hd L (nI j).toNatClampNeg = 0 := by
  rw [nI_clamp h, show ba_hd L j = 1 from if_neg z]; decide
theorem ba_7 : (7 : Int32) = nI 8 + (-1) := by decide +kernel
def ba_lo (m : Nat) (L : Nat → Nat) : Nat → Nat → (Nat → Nat) → (Nat → Nat)
  | 0, _, e => e
  | j + 1, d, e => if L j = 0 then ba_lo m L j d e else ba_lo m L j (d / m) (ba_set e (d % m) (e (d % m) + L j))
theorem ba_lo_le {m : Nat} {L : Nat → Nat} (hL : ∀ j, L j ≤ 60) : ∀ (j d : Nat) (e : Nat → Nat) (k : Nat), ba_lo m L j d e k ≤ e k + 60 * j := by
  intro j
  induction j with
  | zero => intro d e k; exact Nat.le_refl _
  | succ j ih =>
    intro d e k
    rw [ba_lo]
    by_cases z : L j = 0
    · rw [if_pos z]; have := ih d e k; omega
    · rw [if_neg z]
      have h := ih (d / m) (ba_set e (d % m) (e (d % m) + L j)) k
      have hl := hL j
      by_cases hk : k = d % m
      · rw [hk, ba_set_s] at h; rw [hk]; omega
      · rw [ba_set_n hk] at h; omega
def ba_E (m : Nat) (L R : Nat → Nat) (p : Nat) : Nat → Nat := ba_lo m L 8 p R
def ba_sd (m : Nat) (L : Nat → Nat) (i : Nat) : Nat → Nat → Nat
  | 0, d => d
  | j + 1, d => if j ≤ i then d else if L j = 0 then ba_sd m L i j d else ba_sd m L i j (d / m)
def ba_mx (e : Nat → Nat) : Nat → Nat
  | 0 => 0
  | k + 1 => if e k ≤ ba_mx e k then ba_mx e k else e k
def ba_mn (e : Nat → Nat) : Nat → Nat
  | 0 => e 0
  | k + 1 => if ba_mn e k ≤ e k then ba_mn e k else e k
theorem ba_mx1 (e : Nat → Nat) : ba_mx e 1 = e 0 := by
  show (if e 0 ≤ 0 then 0 else e 0) = e 0
  by_cases h : e 0 ≤ 0
  · rw [if_pos h]; omega
  · rw [if_neg h]
theorem ba_mn1 (e : Nat → Nat) : ba_mn e 1 = e 0 := if_pos (Nat.le_refl _)
theorem ba_mx_ge (e : Nat → Nat) : ∀ k i, i < k → e i ≤ ba_mx e k := by
  intro k
  induction k with
  | zero => intro i hi; omega
  | succ k ih =>
    intro i hi
    rw [ba_mx]
    by_cases h : i = k
    · subst h; split <;> omega
    · have := ih i (by omega); split <;> omega
theorem ba_mx_le {e : Nat → Nat} {B : Nat} : ∀ k, (∀ i, i < k → e i ≤ B) → ba_mx e k ≤ B := by
  intro k
  induction k with
  | zero => intro _; exact Nat.zero_le _
  | succ k ih =>
    intro h
    have h1 := ih (fun i hi => h i (by omega))
    have h2 := h k (by omega)
    rw [ba_mx]; split <;> omega
theorem ba_mn_le (e : Nat → Nat) : ∀ k i, i < k → ba_mn e k ≤ e i := by
  intro k
  induction k with
  | zero => intro i hi; omega
  | succ k ih =>
    intro i hi
    rw [ba_mn]
    by_cases h : i = k
    · subst h; split <;> omega
    · have := ih i (by omega); split <;> omega
theorem ba_mn_0 (e : Nat → Nat) : ∀ k, ba_mn e k ≤ e 0 := by
  intro k
  induction k with
  | zero => exact Nat.le_refl _
  | succ k ih => rw [ba_mn]; split <;> omega
def ba_ct (L : Nat → Nat) : Nat → Nat
  | 0 => 0
  | j + 1 => if L j = 0 then ba_ct L j else ba_ct L j + 1
theorem ba_ct_le (L : Nat → Nat) : ∀ j, ba_ct L j ≤ j := by
  intro j
  induction j with
  | zero => exact Nat.le_refl _
  | succ j ih => rw [ba_ct]; split <;> omega
theorem ba_ct_all {L : Nat → Nat} : ∀ j, (∀ i, i < j → ¬ L i = 0) → ba_ct L j = j := by
  intro j
  induction j with
  | zero => intro _; rfl
  | succ j ih => intro h; rw [ba_ct, if_neg (h j (by omega)), ih (fun i hi => h i (by omega))]
theorem ba_ct_lt {L : Nat → Nat} {f : Nat} (hf : L f = 0) : ∀ j, f < j → ba_ct L j < j := by
  intro j
  induction j with
  | zero => intro h; omega
  | succ j ih =>
    intro h
    rw [ba_ct]
    have h1 := ba_ct_le L j
    by_cases z : L j = 0
    · rw [if_pos z]; omega
    · rw [if_neg z]
      have : f ≠ j := fun e => z (e ▸ hf)
      have := ih (by omega)
      omega
theorem ba_first (L : Nat → Nat) : ∀ n, (∀ i, i < n → ¬ L i = 0) ∨ ∃ f, f < n ∧ L f = 0 ∧ ∀ i, i < f → ¬ L i = 0 := by
  intro n
  induction n with
  | zero => exact Or.inl (fun i hi => by omega)
  | succ n ih =>
    rcases ih with h | ⟨f, hf, z, h⟩
    · by_cases z : L n = 0
      · exact Or.inr ⟨n, by omega, z, h⟩
      · refine Or.inl (fun i hi => ?_)
        by_cases e : i = n
        · rw [e]; exact z
        · exact h i (by omega)
    · exact Or.inr ⟨f, by omega, z, h⟩
def ba_ch (G : Nat → Nat) : Nat → Nat × Nat
  | 0 => (0, G 0)
  | q + 1 => if (ba_ch G q).2 ≤ G (q + 1) then ba_ch G q else (q + 1, G (q + 1))
theorem ba_ch_is (G : Nat → Nat) : ∀ q, (ba_ch G q).1 ≤ q ∧ (ba_ch G q).2 = G (ba_ch G q).1 := by
  intro q
  induction q with
  | zero => exact ⟨Nat.le_refl _, rfl⟩
  | succ q ih =>
    rw [ba_ch]
    by_cases h : (ba_ch G q).2 ≤ G (q + 1)
    · rw [if_pos h]; exact ⟨by omega, ih.2⟩
    · rw [if_neg h]; exact ⟨Nat.le_refl _, rfl⟩
def ba_rm (G M : Nat → Nat) (D : Nat) : Nat → Nat
  | 0 => 0
  | p + 1 => if D < G p then ba_rm G M D p else if D - M p ≤ ba_rm G M D p then ba_rm G M D p else D - M p
theorem ba_rm_le (G M : Nat → Nat) (D : Nat) : ∀ p, ba_rm G M D p ≤ D := by
  intro p
  induction p with
  | zero => exact Nat.zero_le _
  | succ p ih => rw [ba_rm]; split; exact ih; split <;> omega
def ba_P (m : Nat) (L : Nat → Nat) : Nat := m ^ ba_ct L 8
def ba_OK (m D : Nat) (L R : Nat → Nat) : Prop := (1 ≤ m ∧ m ≤ 3) ∧ D ≤ 300 ∧ (∀ j, L j ≤ 60) ∧ (∀ j, R j ≤ 60)
theorem ba_P_in {m D : Nat} {L R : Nat → Nat} (K : ba_OK m D L R) : 1 ≤ ba_P m L ∧ ba_P m L ≤ 6561 := by
  have h1 := K.1.1
  have h3 := K.1.2
  constructor
  · exact Nat.pow_pos h1
  · exact Nat.le_trans (Nat.pow_le_pow_left h3 _) (Nat.le_trans (Nat.pow_le_pow_right (by decide) (ba_ct_le L 8)) (by decide))
theorem ba_E_le {m D : Nat} {L R : Nat → Nat} (K : ba_OK m D L R) (p k : Nat) : ba_E m L R p k ≤ 540 := by
  have h := ba_lo_le (m := m) K.2.2.1 8 p R k
  have := K.2.2.2 k
  exact Nat.le_trans h (by omega)
def ba_G (m : Nat) (L R : Nat → Nat) (p : Nat) : Nat := ba_mx (ba_E m L R p) m
def ba_M (m : Nat) (L R : Nat → Nat) (p : Nat) : Nat := ba_mn (ba_E m L R p) m
theorem ba_G_le {m D : Nat} {L R : Nat → Nat} (K : ba_OK m D L R) (p : Nat) : ba_G m L R p ≤ 540 := ba_mx_le m (fun i _ => ba_E_le K p i)
theorem ba_M_le {m D : Nat} {L R : Nat → Nat} (K : ba_OK m D L R) (p : Nat) : ba_M m L R p ≤ ba_G m L R p :=
  Nat.le_trans (ba_mn_0 _ m) (ba_mx_ge _ m 0 K.1.1)
end
section
/-! the component's own methods, each with a general post -/
theorem ba_x33 {m D : Nat} {L : Nat → Nat} {aR : Nat → Int32} {post : SX → Prop} (h1 : 1 ≤ m) (h3 : m ≤ 3) (hL : ∀ j, L j ≤ 60) :
    ∀ (j n d : Nat) (e : Nat → Nat) (ea : Nat → Int32), j ≤ 8 → j < n → d < 2 ^ 31 → (∀ k, k < m → ea k = nI (e k)) →
      (∀ ea' : Nat → Int32, (∀ k, k < m → ea' k = nI (ba_lo m L j d e k)) → post (nI m, nI D, ba_ar L, aR, ea')) →
      wX_layOut_33 post (nI m) (nI D) n (nI d) (nI j + (-1)) (ba_ar L) aR ea := by
  intro j
  induction j with
  | zero =>
    intro n d e ea _ hn hd he hp
    cases n with
    | zero => omega
    | succ n => exact br_t (by decide) (hp ea he)
  | succ j ih =>
    intro n d e ea hj hn hd he hp
    cases n with
    | zero => omega
    | succ n =>
      rw [pk_m1]
      have hin : vp_in (nI j) 8 := vp_in_nI (by omega) (by omega)
      have hl : ba_ar L (nI j).toNatClampNeg = nI (L j) := ba_arc L (by omega)
      have hlj := hL j
      have hm0 : ¬ nI m = 0 := nI_ne0 (by omega) (by omega)
      have hr : d % m < m := Nat.mod_lt _ (by omega)
      have hin3 : vp_in (nI (d % m)) 3 := vp_in_nI (by omega) (by omega)
      have hq : d / m < 2 ^ 31 := Nat.lt_of_le_of_lt (Nat.div_le_self _ _) hd
      refine br_f (nI_pos (by omega)) ⟨hin, pk_le (L j) 0 (fun hz => nm_e ?_) (fun hz => ⟨hm0, nm_r (pk_rem hd (by omega) (by omega)) ⟨hin3, hin, hin3, nm_e ⟨hm0, nm_r (pk_div hd (by omega) (by omega)) (nm_e ?_)⟩⟩⟩) hl⟩
      · refine ih n d e ea (by omega) (by omega) hd he (fun ea' h' => hp ea' ?_)
        rw [ba_lo, if_pos (show L j = 0 by omega)]; exact h'
      · refine ih n (d / m) (ba_set e (d % m) (e (d % m) + L j)) _ (by omega) (by omega) hq ?_ (fun ea' h' => hp ea' ?_)
        · intro k hk
          rw [nI_clamp (show d % m < 2 ^ 31 by omega), nI_clamp (show j < 2 ^ 31 by omega)]
          by_cases z : k = d % m
          · rw [z, pk_us, ba_set_s, he _ hr, show ba_ar L j = nI (L j) from rfl, nI_add]
          · rw [pk_un z, ba_set_n z]; exact he k hk
        · rw [ba_lo, if_neg (show ¬ L j = 0 by omega)]; exact h'
theorem ba_x2 {m D p : Nat} {L R : Nat → Nat} {post : SX → Prop} (K : ba_OK m D L R) (hp : p < 2 ^ 31)
    (H : ∀ ea' : Nat → Int32, (∀ k, k < m → ea' k = nI (ba_E m L R p k)) → post (nI m, nI D, ba_ar L, ba_ar R, ea')) :
    ∀ (t k n : Nat) (ea : Nat → Int32), k + t = m → t < n → (∀ i, i < k → ea i = nI (R i)) →
      wX_layOut_2 post (nI p) (nI m) (nI D) n (nI k) (ba_ar L) (ba_ar R) ea := by
  have h1 := K.1.1
  have h3 := K.1.2
  intro t
  induction t with
  | zero =>
    intro k n ea hk hn he
    cases n with
    | zero => omega
    | succ n =>
      refine br_t (nI_le (by omega) (by omega)) ⟨9, ?_⟩
      rw [ba_7]
      exact ba_x33 h1 h3 K.2.2.1 8 9 p R ea (by omega) (by omega) hp (fun i hi => he i (by omega)) H
  | succ t ih =>
    intro k n ea hk hn he
    cases n with
    | zero => omega
    | succ n =>
      have hin : vp_in (nI k) 3 := vp_in_nI (by omega) (by omega)
      refine br_f (nI_ge (by omega) (by omega)) ⟨hin, hin, nm_e (nm_r (nI_1 k) ?_)⟩
      refine ih (k + 1) n _ (by omega) (by omega) (fun i hi => ?_)
      rw [ba_arc R (show k < 2 ^ 31 by omega), nI_clamp (show k < 2 ^ 31 by omega)]
      by_cases z : i = k
      · rw [z, pk_us]
      · rw [pk_un z]; exact he i (by omega)
theorem ba_xlay {m D p : Nat} {L R : Nat → Nat} {post : SX → Prop} (K : ba_OK m D L R) (hp : p < 2 ^ 31) (ea : Nat → Int32)
    (H : ∀ ea' : Nat → Int32, (∀ k, k < m → ea' k = nI (ba_E m L R p k)) → post (nI m, nI D, ba_ar L, ba_ar R, ea')) :
    wpX_layOut post (nI m, nI D, ba_ar L, ba_ar R, ea) (nI p) := by
  unfold wpX_layOut
  dsimp only
  exact ⟨m + 1, ba_x2 K hp H m 0 (m + 1) ea (by omega) (by omega) (fun i hi => by omega)⟩
theorem ba_xgr9 {m : Nat} {fd : Int32} {e : Nat → Nat} {aL aR ea : Nat → Int32} {post : Int32 → Prop} (h3 : m ≤ 3) (hb : ∀ i, e i ≤ 540)
    (he : ∀ k, k < m → ea k = nI (e k)) (H : post (nI (ba_mx e m))) :
    ∀ (t k n : Nat), k + t = m → t < n → wX_greatestEnd_9 post (nI m) fd aL aR ea n (nI (ba_mx e k)) (nI k) := by
  intro t
  induction t with
  | zero =>
    intro k n hk hn
    cases n with
    | zero => omega
    | succ n =>
      have : k = m := by omega
      subst this
      exact br_t (nI_le (by omega) (by omega)) H
  | succ t ih =>
    intro k n hk hn
    cases n with
    | zero => omega
    | succ n =>
      have hin : vp_in (nI k) 3 := vp_in_nI (by omega) (by omega)
      have hx : ea (nI k).toNatClampNeg = nI (e k) := by rw [nI_clamp (by omega)]; exact he k (by omega)
      have hM : ba_mx e k ≤ 540 := ba_mx_le k (fun i _ => hb i)
      have hE := hb k
      have h := ih (k + 1) n (by omega) (by omega)
      rw [ba_mx] at h
      refine br_f (nI_ge (by omega) (by omega)) ⟨hin, pk_le (e k) (ba_mx e k) (fun hz => nm_r (nI_1 k) ?_) (fun hz => ⟨hin, nm_r hx (nm_r (nI_1 k) ?_)⟩) hx⟩
      · rw [if_pos hz] at h; exact h
      · rw [if_neg (by omega)] at h; exact h
theorem ba_xgr {m : Nat} {fd : Int32} {e : Nat → Nat} {aL aR ea : Nat → Int32} {post : Int32 → Prop} (h1 : 1 ≤ m) (h3 : m ≤ 3) (hb : ∀ i, e i ≤ 540)
    (he : ∀ k, k < m → ea k = nI (e k)) (H : post (nI (ba_mx e m))) : wpX_greatestEnd post (nI m, fd, aL, aR, ea) := by
  unfold wpX_greatestEnd
  dsimp only
  refine nm_r (e' := nI (ba_mx e 1)) ?_ ⟨m, ba_xgr9 h3 hb he H (m - 1) 1 m (by omega) (by omega)⟩
  rw [ba_mx1]; exact he 0 (by omega)
theorem ba_xmn9 {m : Nat} {fd : Int32} {e : Nat → Nat} {aL aR ea : Nat → Int32} {post : Int32 → Prop} (h3 : m ≤ 3) (hb : ∀ i, e i ≤ 540)
    (he : ∀ k, k < m → ea k = nI (e k)) (H : post (nI (ba_mn e m))) :
    ∀ (t k n : Nat), k + t = m → t < n → wX_leastEnd_9 post (nI m) fd aL aR ea n (nI (ba_mn e k)) (nI k) := by
  intro t
  induction t with
  | zero =>
    intro k n hk hn
    cases n with
    | zero => omega
    | succ n =>
      have : k = m := by omega
      subst this
      exact br_t (nI_le (by omega) (by omega)) H
  | succ t ih =>
    intro k n hk hn
    cases n with
    | zero => omega
    | succ n =>
      have hin : vp_in (nI k) 3 := vp_in_nI (by omega) (by omega)
      have hx : ea (nI k).toNatClampNeg = nI (e k) := by rw [nI_clamp (by omega)]; exact he k (by omega)
      have hM : ba_mn e k ≤ 540 := Nat.le_trans (ba_mn_0 e k) (hb 0)
      have hE := hb k
      have h := ih (k + 1) n (by omega) (by omega)
      rw [ba_mn] at h
      refine br_f (nI_ge (by omega) (by omega)) ⟨hin, pk_le (ba_mn e k) (e k) (fun hz => nm_r (nI_1 k) ?_) (fun hz => ⟨hin, nm_r hx (nm_r (nI_1 k) ?_)⟩) rfl hx⟩
      · rw [if_pos hz] at h; exact h
      · rw [if_neg (by omega)] at h; exact h
theorem ba_xmn {m : Nat} {fd : Int32} {e : Nat → Nat} {aL aR ea : Nat → Int32} {post : Int32 → Prop} (h1 : 1 ≤ m) (h3 : m ≤ 3) (hb : ∀ i, e i ≤ 540)
    (he : ∀ k, k < m → ea k = nI (e k)) (H : post (nI (ba_mn e m))) : wpX_leastEnd post (nI m, fd, aL, aR, ea) := by
  unfold wpX_leastEnd
  dsimp only
  refine nm_r (e' := nI (ba_mn e 1)) ?_ ⟨m, ba_xmn9 h3 hb he H (m - 1) 1 m (by omega) (by omega)⟩
  rw [ba_mn1]; exact he 0 (by omega)
theorem ba_xpc4 {m : Nat} {fd : Int32} {L : Nat → Nat} {aR ea : Nat → Int32} {post : Int32 → Prop} (hL : ∀ j, L j ≤ 60) (H : post (nI (ba_P m L))) :
    ∀ (t j n : Nat), j + t = 8 → t < n → wX_planCount_4 post (nI m) fd (ba_ar L) aR ea n (nI (m ^ ba_ct L j)) (nI j) := by
  intro t
  induction t with
  | zero =>
    intro j n hk hn
    cases n with
    | zero => omega
    | succ n =>
      have : j = 8 := by omega
      subst this
      exact br_t (nI_le (a := 8) (by omega) (by omega)) H
  | succ t ih =>
    intro j n hk hn
    cases n with
    | zero => omega
    | succ n =>
      have hin : vp_in (nI j) 8 := vp_in_nI (by omega) (by omega)
      have hl : ba_ar L (nI j).toNatClampNeg = nI (L j) := ba_arc L (by omega)
      have hlj := hL j
      have h := ih (j + 1) n (by omega) (by omega)
      rw [ba_ct] at h
      refine br_f (nI_ge (b := 8) (by omega) (by omega)) ⟨hin, pk_le (L j) 0 (fun hz => nm_r (nI_1 j) ?_) (fun hz => nm_r (pk_mul _ _) (nm_r (nI_1 j) ?_)) hl⟩
      · rw [if_pos (by omega)] at h; exact h
      · rw [if_neg (by omega), Nat.pow_succ] at h; exact h
theorem ba_xpc {m : Nat} {fd : Int32} {L : Nat → Nat} {aR ea : Nat → Int32} {post : Int32 → Prop} (hL : ∀ j, L j ≤ 60) (H : post (nI (ba_P m L))) :
    wpX_planCount post (nI m, fd, ba_ar L, aR, ea) := by
  unfold wpX_planCount
  dsimp only
  exact ⟨9, ba_xpc4 hL H 8 0 9 (by omega) (by omega)⟩
theorem ba_xjb4 {fm fd : Int32} {L : Nat → Nat} {aR ea : Nat → Int32} {post : Int32 → Prop} (hL : ∀ j, L j ≤ 60) (H : post (nI (ba_ct L 8))) :
    ∀ (t j n : Nat), j + t = 8 → t < n → wX_jobs_4 post fm fd (ba_ar L) aR ea n (nI (ba_ct L j)) (nI j) := by
  intro t
  induction t with
  | zero =>
    intro j n hk hn
    cases n with
    | zero => omega
    | succ n =>
      have : j = 8 := by omega
      subst this
      exact br_t (nI_le (a := 8) (by omega) (by omega)) H
  | succ t ih =>
    intro j n hk hn
    cases n with
    | zero => omega
    | succ n =>
      have hin : vp_in (nI j) 8 := vp_in_nI (by omega) (by omega)
      have hl : ba_ar L (nI j).toNatClampNeg = nI (L j) := ba_arc L (by omega)
      have hlj := hL j
      have h := ih (j + 1) n (by omega) (by omega)
      rw [ba_ct] at h
      refine br_f (nI_ge (b := 8) (by omega) (by omega)) ⟨hin, pk_le (L j) 0 (fun hz => nm_r (nI_1 j) ?_) (fun hz => nm_r (nI_1 _) (nm_r (nI_1 j) ?_)) hl⟩
      · rw [if_pos (by omega)] at h; exact h
      · rw [if_neg (by omega)] at h; exact h
theorem ba_xjb {fm fd : Int32} {L : Nat → Nat} {aR ea : Nat → Int32} {post : Int32 → Prop} (hL : ∀ j, L j ≤ 60) (H : post (nI (ba_ct L 8))) :
    wpX_jobs post (fm, fd, ba_ar L, aR, ea) := by
  unfold wpX_jobs
  dsimp only
  exact ⟨9, ba_xjb4 hL H 8 0 9 (by omega) (by omega)⟩
theorem ba_xlf2 {fm fd : Int32} {L : Nat → Nat} {aR ea : Nat → Int32} {post : Int32 → Prop} {f : Nat} (hL : ∀ j, L j ≤ 60) (hf : f ≤ 8) (hz : f < 8 → L f = 0)
    (hb : ∀ i, i < f → ¬ L i = 0) (H : post (nI f)) :
    ∀ (t j n : Nat), j + t = f → t < n → wX_leastFreeNumber_2 post fm fd (ba_ar L) aR ea n (nI j) := by
  intro t
  induction t with
  | zero =>
    intro j n hk hn
    cases n with
    | zero => omega
    | succ n =>
      have : j = f := by omega
      subst this
      by_cases e : j = 8
      · subst e
        exact br_t (nI_le (a := 8) (by omega) (by omega)) H
      · have hin : vp_in (nI j) 8 := vp_in_nI (by omega) (by omega)
        have hl : ba_ar L (nI j).toNatClampNeg = 0 := by rw [ba_arc L (by omega), hz (by omega)]; rfl
        exact br_f (nI_ge (b := 8) (by omega) (by omega)) ⟨hin, br_t hl H⟩
  | succ t ih =>
    intro j n hk hn
    cases n with
    | zero => omega
    | succ n =>
      have hin : vp_in (nI j) 8 := vp_in_nI (by omega) (by omega)
      have hlj := hL j
      have hnz := hb j (by omega)
      have hl : ¬ ba_ar L (nI j).toNatClampNeg = 0 := by rw [ba_arc L (by omega)]; exact nI_ne0 (by omega) (by omega)
      exact br_f (nI_ge (b := 8) (by omega) (by omega)) ⟨hin, br_f hl (nm_r (nI_1 j) (ih (j + 1) n (by omega) (by omega)))⟩
theorem ba_xlf {fm fd : Int32} {L : Nat → Nat} {aR ea : Nat → Int32} {post : Int32 → Prop} {f : Nat} (hL : ∀ j, L j ≤ 60) (hf : f ≤ 8) (hz : f < 8 → L f = 0)
    (hb : ∀ i, i < f → ¬ L i = 0) (H : post (nI f)) : wpX_leastFreeNumber post (fm, fd, ba_ar L, aR, ea) := by
  unfold wpX_leastFreeNumber
  dsimp only
  exact ⟨f + 1, ba_xlf2 hL hf hz hb H f 0 (f + 1) (by omega) (by omega)⟩
/-- what clamp answers -/
def ba_cl (v : Int32) (c : Nat) : Nat := if v < 0 then 0 else if v ≤ nI c then v.toNatClampNeg else c
theorem ba_cl_le (v : Int32) {c : Nat} (hc : c < 2 ^ 31) : ba_cl v c ≤ c := by
  unfold ba_cl
  by_cases h : v < 0
  · rw [if_pos h]; exact Nat.zero_le _
  · rw [if_neg h]
    by_cases h2 : v ≤ nI c
    · rw [if_pos h2]
      obtain ⟨j, hj, rfl⟩ := nI_of h
      rw [nI_clamp hj]
      exact (nI_leI hj hc).mp h2
    · rw [if_neg h2]; exact Nat.le_refl _
theorem ba_xcl {post : Int32 → Prop} (v : Int32) (c : Nat) (H : post (nI (ba_cl v c))) : wpX_clamp post v 0 (nI c) := by
  unfold ba_cl at H
  by_cases h : v < 0
  · rw [if_pos h] at H
    exact br_f (Int32.not_le.mpr h) H
  · rw [if_neg h] at H
    by_cases h2 : v ≤ nI c
    · rw [if_pos h2] at H
      obtain ⟨j, hj, rfl⟩ := nI_of h
      rw [nI_clamp hj] at H
      exact br_t (Int32.not_lt.mp h) (br_t h2 H)
    · rw [if_neg h2] at H
      exact br_t (Int32.not_lt.mp h) (br_f h2 H)
end
section
/-! the reference's own methods, each with a general post -/
theorem ba_y33 {m D : Nat} {L : Nat → Nat} {aR al : Nat → Int32} {post : SY → Prop} (h1 : 1 ≤ m) (h3 : m ≤ 3) (hal : ∀ j, ¬ L j = 0 → al j = nI (L j)) :
    ∀ (j n d : Nat) (e : Nat → Nat) (ag eb : Nat → Int32), j ≤ 8 → j < n → d < 2 ^ 31 → (∀ k, k < m → eb k = nI (e k)) →
      (∀ ag' eb' : Nat → Int32, (∀ k, k < m → eb' k = nI (ba_lo m L j d e k)) → (∀ i, i < j → ¬ L i = 0 → ag' i = nI (ba_sd m L i j d % m)) →
        (∀ i, j ≤ i → ag' i = ag i) → post (nI m, nI D, aR, ba_hd L, al, ag', eb')) →
      wY_lay_33 post (nI m) (nI D) n (nI d) (nI j + (-1)) aR (ba_hd L) al ag eb := by
  intro j
  induction j with
  | zero =>
    intro n d e ag eb _ hn hd he hp
    cases n with
    | zero => omega
    | succ n => exact br_t (by decide) (hp ag eb he (fun i hi => by omega) (fun i _ => rfl))
  | succ j ih =>
    intro n d e ag eb hj hn hd he hp
    cases n with
    | zero => omega
    | succ n =>
      rw [pk_m1]
      have hin : vp_in (nI j) 8 := vp_in_nI (by omega) (by omega)
      have hc : (nI j).toNatClampNeg = j := nI_clamp (by omega)
      have hm0 : ¬ nI m = 0 := nI_ne0 (by omega) (by omega)
      have hr : d % m < m := Nat.mod_lt _ (by omega)
      have hin3 : vp_in (nI (d % m)) 3 := vp_in_nI (by omega) (by omega)
      have hq : d / m < 2 ^ 31 := Nat.lt_of_le_of_lt (Nat.div_le_self _ _) hd
      by_cases z : L j = 0
      · refine br_f (nI_pos (by omega)) ⟨hin, br_t (ba_hd_z (by omega) z) (nm_e ?_)⟩
        refine ih n d e ag eb (by omega) (by omega) hd he (fun ag' eb' h' g1 g2 => hp ag' eb' ?_ ?_ ?_)
        · rw [ba_lo, if_pos z]; exact h'
        · intro i hi hz
          have : i ≠ j := fun e => hz (e ▸ z)
          rw [ba_sd, if_neg (by omega), if_pos z]
          exact g1 i (by omega) hz
        · intro i hi
          exact g2 i (by omega)
      · have hg : upd ag (nI j).toNatClampNeg (nI (d % m)) (nI j).toNatClampNeg = nI (d % m) := pk_us
        have hu : upd ag (nI j).toNatClampNeg (nI d - nI d / nI m * nI m) = upd ag (nI j).toNatClampNeg (nI (d % m)) := by
          rw [pk_rem hd (by omega) (by omega)]
        have hig : vp_in (upd ag (nI j).toNatClampNeg (nI (d % m)) (nI j).toNatClampNeg) 3 := by rw [hg]; exact hin3
        refine br_f (nI_pos (by omega)) ⟨hin, br_f (ba_hd_nz (by omega) z) (br_f (nI_nle (by omega) (by omega)) ⟨hm0, hin, nm_r hu ⟨hm0, nm_r (pk_div hd (by omega) (by omega)) ⟨hin, hig, hin, hig, nm_e (nm_e ?_)⟩⟩⟩)⟩
        refine ih n (d / m) (ba_set e (d % m) (e (d % m) + L j)) _ _ (by omega) (by omega) hq ?_ (fun ag' eb' h' g1 g2 => hp ag' eb' ?_ ?_ ?_)
        · intro k hk
          rw [hg, nI_clamp (show d % m < 2 ^ 31 by omega), hc]
          by_cases y : k = d % m
          · rw [y, pk_us, ba_set_s, he _ hr, hal j z, nI_add]
          · rw [pk_un y, ba_set_n y]; exact he k hk
        · rw [ba_lo, if_neg z]; exact h'
        · intro i hi hz
          by_cases y : i = j
          · rw [y, ba_sd, if_pos (Nat.le_refl _), g2 j (Nat.le_refl _), hc, pk_us]
          · rw [ba_sd, if_neg (by omega), if_neg z]
            exact g1 i (by omega) hz
        · intro i hi
          rw [g2 i (by omega), hc, pk_un (by omega)]
theorem ba_y4 {m D p : Nat} {L R : Nat → Nat} {al : Nat → Int32} {post : SY → Prop} (K : ba_OK m D L R) (hal : ∀ j, ¬ L j = 0 → al j = nI (L j)) (hp : p < 2 ^ 31) {ag : Nat → Int32}
    (H : ∀ ag' eb' : Nat → Int32, (∀ k, k < m → eb' k = nI (ba_E m L R p k)) → (∀ i, i < 8 → ¬ L i = 0 → ag' i = nI (ba_sd m L i 8 p % m)) →
      post (nI m, nI D, ba_ar R, ba_hd L, al, ag', eb')) :
    ∀ (t k n : Nat) (eb : Nat → Int32), k + t = m → t < n → (∀ i, i < k → eb i = nI (R i)) →
      wY_lay_4 post (nI p) (nI m) (nI D) n (nI k) (ba_ar R) (ba_hd L) al ag eb := by
  have h1 := K.1.1
  have h3 := K.1.2
  intro t
  induction t with
  | zero =>
    intro k n eb hk hn he
    cases n with
    | zero => omega
    | succ n =>
      refine br_t (nI_le (by omega) (by omega)) ⟨9, ?_⟩
      rw [ba_7]
      exact ba_y33 h1 h3 hal 8 9 p R ag eb (by omega) (by omega) hp (fun i hi => he i (by omega)) (fun ag' eb' h g _ => H ag' eb' h g)
  | succ t ih =>
    intro k n eb hk hn he
    cases n with
    | zero => omega
    | succ n =>
      have hin : vp_in (nI k) 3 := vp_in_nI (by omega) (by omega)
      refine br_f (nI_ge (by omega) (by omega)) ⟨hin, hin, nm_e (nm_r (nI_1 k) ?_)⟩
      refine ih (k + 1) n _ (by omega) (by omega) (fun i hi => ?_)
      rw [ba_arc R (show k < 2 ^ 31 by omega), nI_clamp (show k < 2 ^ 31 by omega)]
      by_cases z : i = k
      · rw [z, pk_us]
      · rw [pk_un z]; exact he i (by omega)
theorem ba_ylay {m D p : Nat} {L R : Nat → Nat} {al : Nat → Int32} {post : SY → Prop} (K : ba_OK m D L R) (hal : ∀ j, ¬ L j = 0 → al j = nI (L j)) (hp : p < 2 ^ 31) (ag eb : Nat → Int32)
    (H : ∀ ag' eb' : Nat → Int32, (∀ k, k < m → eb' k = nI (ba_E m L R p k)) → (∀ i, i < 8 → ¬ L i = 0 → ag' i = nI (ba_sd m L i 8 p % m)) →
      post (nI m, nI D, ba_ar R, ba_hd L, al, ag', eb')) :
    wpY_lay post (nI m, nI D, ba_ar R, ba_hd L, al, ag, eb) (nI p) := by
  unfold wpY_lay
  dsimp only
  exact ⟨m + 1, ba_y4 K hal hp H m 0 (m + 1) eb (by omega) (by omega) (fun i hi => by omega)⟩
theorem ba_ygr4 {m : Nat} {fd : Int32} {e : Nat → Nat} {aR ah al ag eb : Nat → Int32} {post : Int32 → Prop} (h3 : m ≤ 3) (hb : ∀ i, e i ≤ 540)
    (he : ∀ k, k < m → eb k = nI (e k)) (H : post (nI (ba_mx e m))) :
    ∀ (t k n : Nat), k + t = m → t < n → wY_greatest_4 post (nI m) fd aR ah al ag eb n (nI (ba_mx e k)) (nI k) := by
  intro t
  induction t with
  | zero =>
    intro k n hk hn
    cases n with
    | zero => omega
    | succ n =>
      have : k = m := by omega
      subst this
      exact br_t (nI_le (by omega) (by omega)) H
  | succ t ih =>
    intro k n hk hn
    cases n with
    | zero => omega
    | succ n =>
      have hin : vp_in (nI k) 3 := vp_in_nI (by omega) (by omega)
      have hx : eb (nI k).toNatClampNeg = nI (e k) := by rw [nI_clamp (by omega)]; exact he k (by omega)
      have hM : ba_mx e k ≤ 540 := ba_mx_le k (fun i _ => hb i)
      have hE := hb k
      have h := ih (k + 1) n (by omega) (by omega)
      rw [ba_mx] at h
      refine br_f (nI_ge (by omega) (by omega)) ⟨hin, pk_le (e k) (ba_mx e k) (fun hz => nm_r (nI_1 k) ?_) (fun hz => ⟨hin, nm_r hx (nm_r (nI_1 k) ?_)⟩) hx⟩
      · rw [if_pos hz] at h; exact h
      · rw [if_neg (by omega)] at h; exact h
theorem ba_ygr {m : Nat} {fd : Int32} {e : Nat → Nat} {aR ah al ag eb : Nat → Int32} {post : Int32 → Prop} (h3 : m ≤ 3) (hb : ∀ i, e i ≤ 540)
    (he : ∀ k, k < m → eb k = nI (e k)) (H : post (nI (ba_mx e m))) : wpY_greatest post (nI m, fd, aR, ah, al, ag, eb) := by
  unfold wpY_greatest
  dsimp only
  exact ⟨m + 1, ba_ygr4 h3 hb he H m 0 (m + 1) (by omega) (by omega)⟩
theorem ba_yjb4 {fm fd : Int32} {L : Nat → Nat} {aR al ag eb : Nat → Int32} {post : Int32 → Prop} (H : post (nI (ba_ct L 8))) :
    ∀ (t j n : Nat), j + t = 8 → t < n → wY_jobs_4 post fm fd aR (ba_hd L) al ag eb n (nI (ba_ct L j)) (nI j) := by
  intro t
  induction t with
  | zero =>
    intro j n hk hn
    cases n with
    | zero => omega
    | succ n =>
      have : j = 8 := by omega
      subst this
      exact br_t (nI_le (a := 8) (by omega) (by omega)) H
  | succ t ih =>
    intro j n hk hn
    cases n with
    | zero => omega
    | succ n =>
      have hin : vp_in (nI j) 8 := vp_in_nI (by omega) (by omega)
      have h := ih (j + 1) n (by omega) (by omega)
      rw [ba_ct] at h
      refine br_f (nI_ge (b := 8) (by omega) (by omega)) ⟨hin, ?_⟩
      by_cases z : L j = 0
      · rw [if_pos z] at h
        exact br_t (ba_hd_z (by omega) z) (nm_r (nI_1 j) h)
      · rw [if_neg z] at h
        exact br_f (ba_hd_nz (by omega) z) (nm_r (nI_1 _) (nm_r (nI_1 j) h))
theorem ba_yjb {fm fd : Int32} {L : Nat → Nat} {aR al ag eb : Nat → Int32} {post : Int32 → Prop} (H : post (nI (ba_ct L 8))) :
    wpY_jobs post (fm, fd, aR, ba_hd L, al, ag, eb) := by
  unfold wpY_jobs
  dsimp only
  exact ⟨9, ba_yjb4 H 8 0 9 (by omega) (by omega)⟩
theorem ba_ypw4 {m c : Nat} {post : Int32 → Prop} (hc : c < 2 ^ 31) (H : post (nI (m ^ c))) :
    ∀ (t i n : Nat), i + t = c → t < n → wY_power_4 post (nI m) (nI c) n (nI (m ^ i)) (nI i) := by
  intro t
  induction t with
  | zero =>
    intro i n hk hn
    cases n with
    | zero => omega
    | succ n =>
      have : i = c := by omega
      subst this
      exact br_t (nI_le (by omega) (by omega)) H
  | succ t ih =>
    intro i n hk hn
    cases n with
    | zero => omega
    | succ n =>
      have h := ih (i + 1) n (by omega) (by omega)
      rw [Nat.pow_succ] at h
      exact br_f (nI_ge (by omega) (by omega)) (nm_r (pk_mul _ _) (nm_r (nI_1 i) h))
theorem ba_ypl {m : Nat} {fd : Int32} {L : Nat → Nat} {aR al ag eb : Nat → Int32} {post : Int32 → Prop} (H : post (nI (ba_P m L))) :
    wpY_plans post (nI m, fd, aR, ba_hd L, al, ag, eb) := by
  unfold wpY_plans
  dsimp only
  have hc := ba_ct_le L 8
  refine ba_yjb ?_
  unfold wpY_power
  exact ⟨ba_ct L 8 + 1, ba_ypw4 (by omega) H (ba_ct L 8) 0 _ (by omega) (by omega)⟩
/-- left where every end is within the deadline -/
theorem ba_ylfA2 {m D k : Nat} {e : Nat → Nat} {aR ah al ag eb : Nat → Int32} {post : Int32 → Prop} (h3 : m ≤ 3) (hD : D ≤ 300) (hk : k < m) (hA : ∀ i, i < m → e i ≤ D)
    (he : ∀ i, i < m → eb i = nI (e i)) (H : post (nI (D - e k))) :
    ∀ (t q n : Nat), q + t = m → t < n → wY_left_2 post (nI k) (nI m) (nI D) aR ah al ag eb n (nI q) := by
  intro t
  induction t with
  | zero =>
    intro q n hq hn
    cases n with
    | zero => omega
    | succ n =>
      refine br_t (nI_le (by omega) (by omega)) ⟨vp_in_nI (by omega) (by omega), ?_⟩
      rw [nI_clamp (show k < 2 ^ 31 by omega), he k hk, pk_sub (hA k hk)]
      exact H
  | succ t ih =>
    intro q n hq hn
    cases n with
    | zero => omega
    | succ n =>
      have hin : vp_in (nI q) 3 := vp_in_nI (by omega) (by omega)
      have h := ih (q + 1) n (by omega) (by omega)
      have hx : eb (nI q).toNatClampNeg = nI (e q) := by rw [nI_clamp (by omega)]; exact he q (by omega)
      have hE := hA q (by omega)
      have hle : eb (nI q).toNatClampNeg ≤ nI D := by rw [hx]; exact nI_le hE (by omega)
      exact br_f (nI_ge (by omega) (by omega)) (br_c (fun _ => nm_r (nI_1 q) h) (fun _ => ⟨hin, br_t hle (nm_r (nI_1 q) h)⟩))
/-- left where some end is beyond the deadline: the answer is negative -/
theorem ba_ylfB2 {m D k : Nat} {e : Nat → Nat} {aR ah al ag eb : Nat → Int32} {post : Int32 → Prop} (h3 : m ≤ 3) (hD : D ≤ 300) (hk : k < m) (hb : ∀ i, e i ≤ 540)
    (hB : ¬ ∀ i, i < m → e i ≤ D)
    (he : ∀ i, i < m → eb i = nI (e i)) (H : ∀ r : Int32, r < 0 → post r) :
    ∀ (t q n : Nat), q + t = m → t < n → (∀ i, i < q → i ≠ k → e i ≤ D) → wY_left_2 post (nI k) (nI m) (nI D) aR ah al ag eb n (nI q) := by
  intro t
  induction t with
  | zero =>
    intro q n hq hn hi
    cases n with
    | zero => omega
    | succ n =>
      refine br_t (nI_le (by omega) (by omega)) ⟨vp_in_nI (by omega) (by omega), ?_⟩
      rw [nI_clamp (show k < 2 ^ 31 by omega), he k hk]
      have hkD : D < e k := by
        apply Nat.lt_of_not_le
        intro hle
        apply hB
        intro i him
        by_cases y : i = k
        · rw [y]; exact hle
        · exact hi i (by omega) y
      have := hb k
      exact H _ (pk_sneg (by omega) hkD)
  | succ t ih =>
    intro q n hq hn hi
    cases n with
    | zero => omega
    | succ n =>
      have hin : vp_in (nI q) 3 := vp_in_nI (by omega) (by omega)
      have hx : eb (nI q).toNatClampNeg = nI (e q) := by rw [nI_clamp (by omega)]; exact he q (by omega)
      have hE := hb q
      refine br_f (nI_ge (by omega) (by omega)) (pk_eq q k (fun y => nm_r (nI_1 q) (ih (q + 1) n (by omega) (by omega) ?_)) (fun y => ⟨hin, pk_le (e q) D (fun hle => nm_r (nI_1 q) (ih (q + 1) n (by omega) (by omega) ?_)) (fun _ => H _ (by decide)) hx⟩))
      · intro i h1 h2
        exact hi i (by omega) h2
      · intro i h1 h2
        by_cases w : i = q
        · rw [w]; exact hle
        · exact hi i (by omega) h2
theorem ba_ylfA {m D k : Nat} {e : Nat → Nat} {aR ah al ag eb : Nat → Int32} {post : Int32 → Prop} (h3 : m ≤ 3) (hD : D ≤ 300) (hk : k < m) (hA : ∀ i, i < m → e i ≤ D)
    (he : ∀ i, i < m → eb i = nI (e i)) (H : post (nI (D - e k))) : wpY_left post (nI m, nI D, aR, ah, al, ag, eb) (nI k) := by
  unfold wpY_left
  dsimp only
  exact ⟨m + 1, ba_ylfA2 h3 hD hk hA he H m 0 (m + 1) (by omega) (by omega)⟩
theorem ba_ylfB {m D k : Nat} {e : Nat → Nat} {aR ah al ag eb : Nat → Int32} {post : Int32 → Prop} (h3 : m ≤ 3) (hD : D ≤ 300) (hk : k < m) (hb : ∀ i, e i ≤ 540)
    (hB : ¬ ∀ i, i < m → e i ≤ D) (he : ∀ i, i < m → eb i = nI (e i)) (H : ∀ r : Int32, r < 0 → post r) : wpY_left post (nI m, nI D, aR, ah, al, ag, eb) (nI k) := by
  unfold wpY_left
  dsimp only
  exact ⟨m + 1, ba_ylfB2 h3 hD hk hb hB he H m 0 (m + 1) (by omega) (by omega) (fun i hi => by omega)⟩
/-- the most that one plan leaves, machine by machine -/
def ba_lf (e : Nat → Nat) (D w : Nat) : Nat → Nat
  | 0 => w
  | k + 1 => if D - e k ≤ ba_lf e D w k then ba_lf e D w k else D - e k
theorem ba_lf_le {e : Nat → Nat} {D w : Nat} (hw : w ≤ D) : ∀ k, ba_lf e D w k ≤ D := by
  intro k
  induction k with
  | zero => exact hw
  | succ k ih => rw [ba_lf]; split <;> omega
theorem ba_lf_is (e : Nat → Nat) (D w : Nat) : ∀ k, ba_lf e D w (k + 1) = if D - ba_mn e (k + 1) ≤ w then w else D - ba_mn e (k + 1) := by
  intro k
  induction k with
  | zero => rw [ba_mn1]; rfl
  | succ k ih =>
    have hmn : ba_mn e (k + 1 + 1) = if ba_mn e (k + 1) ≤ e (k + 1) then ba_mn e (k + 1) else e (k + 1) := rfl
    rw [ba_lf, ih, hmn]
    generalize ba_mn e (k + 1) = x
    generalize e (k + 1) = y
    by_cases a : D - x ≤ w
    · rw [if_pos a]
      by_cases b : x ≤ y
      · rw [if_pos b, if_pos a, if_pos (by omega)]
      · rw [if_neg b]
    · rw [if_neg a]
      by_cases b : x ≤ y
      · rw [if_pos b, if_neg a, if_pos (by omega)]
      · rw [if_neg b]
        by_cases c : D - y ≤ D - x
        · rw [if_pos c, if_neg (by omega)]; omega
        · rw [if_neg c, if_neg (by omega)]
end
section
/-! the walks over all plans -/
theorem ba_xch20 {m D : Nat} {L R : Nat → Nat} {post : Int32 → SX → Prop} (K : ba_OK m D L R)
    (H : ∀ ea' : Nat → Int32, post (nI (ba_ch (ba_G m L R) (ba_P m L - 1)).1) (nI m, nI D, ba_ar L, ba_ar R, ea')) :
    ∀ (t q n : Nat) (ea : Nat → Int32), q + 1 + t = ba_P m L → t < n →
      wX_chosenPlan_20 post (nI (ba_P m L)) n (nI (ba_ch (ba_G m L R) q).1) (nI (ba_ch (ba_G m L R) q).2) (nI (q + 1)) (nI m) (nI D) (ba_ar L) (ba_ar R) ea := by
  have hP := ba_P_in K
  intro t
  induction t with
  | zero =>
    intro q n ea hq hn
    cases n with
    | zero => omega
    | succ n =>
      have hh := H ea
      rw [show ba_P m L - 1 = q by omega] at hh
      exact br_t (nI_le (by omega) (by omega)) hh
  | succ t ih =>
    intro q n ea hq hn
    cases n with
    | zero => omega
    | succ n =>
      have hc := ba_ch_is (ba_G m L R) q
      have hb : (ba_ch (ba_G m L R) q).2 ≤ 540 := by rw [hc.2]; exact ba_G_le K _
      have hg : ba_G m L R (q + 1) ≤ 540 := ba_G_le K _
      refine br_f (nI_ge (by omega) (by omega)) (ba_xlay K (by omega) ea (fun ea' he => ba_xgr K.1.1 K.1.2 (ba_E_le K (q + 1)) he ?_))
      have h := ih (q + 1) n ea' (by omega) (by omega)
      rw [ba_ch] at h
      refine pk_le (ba_ch (ba_G m L R) q).2 (ba_G m L R (q + 1)) (fun hz => nm_r (nI_1 (q + 1)) ?_) (fun hz => nm_r (nI_1 (q + 1)) ?_)
      · rw [if_pos hz] at h; exact h
      · rw [if_neg (by omega)] at h; exact h
theorem ba_xch {m D : Nat} {L R : Nat → Nat} {post : Int32 → SX → Prop} (K : ba_OK m D L R) (ea : Nat → Int32)
    (H : ∀ ea' : Nat → Int32, post (nI (ba_ch (ba_G m L R) (ba_P m L - 1)).1) (nI m, nI D, ba_ar L, ba_ar R, ea')) :
    wpX_chosenPlan post (nI m, nI D, ba_ar L, ba_ar R, ea) := by
  have hP := ba_P_in K
  unfold wpX_chosenPlan
  dsimp only
  refine ba_xpc K.2.2.1 (ba_xlay (p := 0) K (by omega) ea (fun ea' he => ba_xgr K.1.1 K.1.2 (ba_E_le K 0) he ?_))
  exact ⟨ba_P m L, ba_xch20 K H (ba_P m L - 1) 0 (ba_P m L) ea' (by omega) (by omega)⟩
theorem ba_ych13 {m D : Nat} {L R : Nat → Nat} {al : Nat → Int32} {post : Int32 → SY → Prop} (K : ba_OK m D L R) (hal : ∀ j, ¬ L j = 0 → al j = nI (L j))
    (H : ∀ ag' eb' : Nat → Int32, (∀ k, k < m → eb' k = nI (ba_E m L R (ba_ch (ba_G m L R) (ba_P m L - 1)).1 k)) →
      (∀ i, i < 8 → ¬ L i = 0 → ag' i = nI (ba_sd m L i 8 (ba_ch (ba_G m L R) (ba_P m L - 1)).1 % m)) →
      post (nI (ba_ch (ba_G m L R) (ba_P m L - 1)).2) (nI m, nI D, ba_ar R, ba_hd L, al, ag', eb')) :
    ∀ (t q n : Nat) (ag eb : Nat → Int32), q + 1 + t = ba_P m L → t < n →
      wY_choose_13 post (nI (ba_P m L)) n (nI (ba_ch (ba_G m L R) q).1) (nI (ba_ch (ba_G m L R) q).2) (nI (q + 1)) (nI m) (nI D) (ba_ar R) (ba_hd L) al ag eb := by
  have hP := ba_P_in K
  intro t
  induction t with
  | zero =>
    intro q n ag eb hq hn
    cases n with
    | zero => omega
    | succ n =>
      have hh := H
      rw [show ba_P m L - 1 = q by omega] at hh
      have hc := (ba_ch_is (ba_G m L R) q).1
      exact br_t (nI_le (by omega) (by omega)) (ba_ylay K hal (by omega) ag eb hh)
  | succ t ih =>
    intro q n ag eb hq hn
    cases n with
    | zero => omega
    | succ n =>
      have hc := ba_ch_is (ba_G m L R) q
      have hb : (ba_ch (ba_G m L R) q).2 ≤ 540 := by rw [hc.2]; exact ba_G_le K _
      have hg : ba_G m L R (q + 1) ≤ 540 := ba_G_le K _
      refine br_f (nI_ge (by omega) (by omega)) (ba_ylay K hal (by omega) ag eb (fun ag' eb' he _ => ba_ygr K.1.2 (ba_E_le K (q + 1)) he ?_))
      have h := ih (q + 1) n ag' eb' (by omega) (by omega)
      rw [ba_ch] at h
      refine pk_le (ba_ch (ba_G m L R) q).2 (ba_G m L R (q + 1)) (fun hz => nm_r (nI_1 (q + 1)) ?_) (fun hz => nm_r (nI_1 (q + 1)) ?_)
      · rw [if_pos hz] at h; exact h
      · rw [if_neg (by omega)] at h; exact h
theorem ba_ych {m D : Nat} {L R : Nat → Nat} {al : Nat → Int32} {post : Int32 → SY → Prop} (K : ba_OK m D L R) (hal : ∀ j, ¬ L j = 0 → al j = nI (L j)) (ag eb : Nat → Int32)
    (H : ∀ ag' eb' : Nat → Int32, (∀ k, k < m → eb' k = nI (ba_E m L R (ba_ch (ba_G m L R) (ba_P m L - 1)).1 k)) →
      (∀ i, i < 8 → ¬ L i = 0 → ag' i = nI (ba_sd m L i 8 (ba_ch (ba_G m L R) (ba_P m L - 1)).1 % m)) →
      post (nI (ba_ch (ba_G m L R) (ba_P m L - 1)).2) (nI m, nI D, ba_ar R, ba_hd L, al, ag', eb')) :
    wpY_choose post (nI m, nI D, ba_ar R, ba_hd L, al, ag, eb) := by
  have hP := ba_P_in K
  unfold wpY_choose
  dsimp only
  refine ba_ypl ⟨ba_P m L + 1, ?_⟩
  refine br_f (nI_ge (a := 0) (by omega) (by omega)) (ba_ylay (p := 0) K hal (by omega) ag eb (fun ag' eb' he _ => ba_ygr K.1.2 (ba_E_le K 0) he ?_))
  have hg : ba_G m L R 0 ≤ 540 := ba_G_le K _
  refine br_f (nI_ge (a := ba_G m L R 0) (b := 100000) (by omega) (by omega)) (nm_r (nI_1 0) ?_)
  exact ba_ych13 K hal H (ba_P m L - 1) 0 (ba_P m L) ag' eb' (by omega) (by omega)
/-- the room's answer -/
def ba_rr (m D : Nat) (L R : Nat → Nat) : Nat := if ba_rm (ba_G m L R) (ba_M m L R) D (ba_P m L) ≤ 60 then ba_rm (ba_G m L R) (ba_M m L R) D (ba_P m L) else 60
theorem ba_rr_le (m D : Nat) (L R : Nat → Nat) : ba_rr m D L R ≤ 60 := by
  unfold ba_rr; split <;> omega
theorem ba_xrm9 {m D : Nat} {L R : Nat → Nat} {post : Int32 → SX → Prop} (K : ba_OK m D L R)
    (H : ∀ ea' : Nat → Int32, post (nI (ba_rr m D L R)) (nI m, nI D, ba_ar L, ba_ar R, ea')) :
    ∀ (t p n : Nat) (ea : Nat → Int32), p + t = ba_P m L → t < n →
      wX_room_9 post (nI (ba_P m L)) n (nI (ba_rm (ba_G m L R) (ba_M m L R) D p)) (nI p) (nI m) (nI D) (ba_ar L) (ba_ar R) ea := by
  have hP := ba_P_in K
  have hD := K.2.1
  intro t
  induction t with
  | zero =>
    intro p n ea hp hn
    cases n with
    | zero => omega
    | succ n =>
      have : p = ba_P m L := by omega
      subst this
      have hr := ba_rm_le (ba_G m L R) (ba_M m L R) D (ba_P m L)
      refine br_t (nI_le (by omega) (by omega)) (br_t (nI_pos' (by omega)) (pk_le (ba_rm (ba_G m L R) (ba_M m L R) D (ba_P m L)) 60 (fun hz => ?_) (fun hz => ?_)))
      · have hh := H ea
        rw [ba_rr, if_pos hz] at hh; exact hh
      · have hh := H ea
        rw [ba_rr, if_neg (by omega)] at hh; exact hh
  | succ t ih =>
    intro p n ea hp hn
    cases n with
    | zero => omega
    | succ n =>
      have hg : ba_G m L R p ≤ 540 := ba_G_le K _
      have hM := ba_M_le K p
      have hr := ba_rm_le (ba_G m L R) (ba_M m L R) D p
      refine br_f (nI_ge (by omega) (by omega)) (ba_xlay K (by omega) ea (fun ea' he => ba_xgr K.1.1 K.1.2 (ba_E_le K p) he ?_))
      have h := ih (p + 1) n ea' (by omega) (by omega)
      rw [ba_rm] at h
      refine pk_lt D (ba_G m L R p) (fun hz => nm_r (nI_1 p) ?_) (fun hz => ba_xmn K.1.1 K.1.2 (ba_E_le K p) he (nm_r (e' := nI (D - ba_M m L R p)) (pk_sub (Nat.le_trans hM hz)) ?_))
      · rw [if_pos hz] at h; exact h
      · rw [if_neg (by omega)] at h
        refine pk_le (D - ba_M m L R p) (ba_rm (ba_G m L R) (ba_M m L R) D p) (fun hy => nm_r (nI_1 p) ?_) (fun hy => nm_r (nI_1 p) ?_)
        · rw [if_pos hy] at h; exact h
        · rw [if_neg (by omega)] at h; exact h
theorem ba_xrm {m D : Nat} {L R : Nat → Nat} {post : Int32 → SX → Prop} (K : ba_OK m D L R) (ea : Nat → Int32)
    (H : ∀ ea' : Nat → Int32, post (nI (ba_rr m D L R)) (nI m, nI D, ba_ar L, ba_ar R, ea')) :
    wpX_room post (nI m, nI D, ba_ar L, ba_ar R, ea) := by
  unfold wpX_room
  dsimp only
  exact ba_xpc K.2.2.1 ⟨ba_P m L + 1, ba_xrm9 K H (ba_P m L) 0 (ba_P m L + 1) ea (by omega) (by omega)⟩
theorem ba_y22A {m D p : Nat} {e : Nat → Nat} {aR ah al ag eb : Nat → Int32} {x2 : Int32} {post : Int32 → SY → Prop}
    {J : Int32 → Int32 → Int32 → Int32 → (Nat → Int32) → (Nat → Int32) → (Nat → Int32) → (Nat → Int32) → (Nat → Int32) → Prop} {w : Nat}
    (h3 : m ≤ 3) (hD : D ≤ 300) (hw : w ≤ D) (hA : ∀ i, i < m → e i ≤ D) (he : ∀ i, i < m → eb i = nI (e i))
    (H : J (nI (ba_lf e D w m)) (nI (p + 1)) (nI m) (nI D) aR ah al ag eb) :
    ∀ (t k n : Nat), k + t = m → t < n → wY_most_22 post J x2 (nI p) (nI m) (nI D) aR ah al ag eb n (nI (ba_lf e D w k)) (nI k) := by
  intro t
  induction t with
  | zero =>
    intro k n hk hn
    cases n with
    | zero => omega
    | succ n =>
      have : k = m := by omega
      subst this
      exact br_t (nI_le (by omega) (by omega)) (nm_r (nI_1 p) H)
  | succ t ih =>
    intro k n hk hn
    cases n with
    | zero => omega
    | succ n =>
      have h := ih (k + 1) n (by omega) (by omega)
      rw [ba_lf] at h
      have hl := ba_lf_le (e := e) hw k
      refine br_f (nI_ge (by omega) (by omega)) (ba_ylfA h3 hD (by omega) hA he ?_)
      refine pk_le (D - e k) (ba_lf e D w k) (fun hy => nm_r (nI_1 k) ?_) (fun hy => nm_r (nI_1 k) ?_)
      · rw [if_pos hy] at h; exact h
      · rw [if_neg (by omega)] at h; exact h
theorem ba_y22B {m D p : Nat} {e : Nat → Nat} {aR ah al ag eb : Nat → Int32} {x2 : Int32} {post : Int32 → SY → Prop}
    {J : Int32 → Int32 → Int32 → Int32 → (Nat → Int32) → (Nat → Int32) → (Nat → Int32) → (Nat → Int32) → (Nat → Int32) → Prop} {w : Nat}
    (h3 : m ≤ 3) (hD : D ≤ 300) (hw : w ≤ D) (hb : ∀ i, e i ≤ 540) (hB : ¬ ∀ i, i < m → e i ≤ D) (he : ∀ i, i < m → eb i = nI (e i))
    (H : J (nI w) (nI (p + 1)) (nI m) (nI D) aR ah al ag eb) :
    ∀ (t k n : Nat), k + t = m → t < n → wY_most_22 post J x2 (nI p) (nI m) (nI D) aR ah al ag eb n (nI w) (nI k) := by
  intro t
  induction t with
  | zero =>
    intro k n hk hn
    cases n with
    | zero => omega
    | succ n => exact br_t (nI_le (by omega) (by omega)) (nm_r (nI_1 p) H)
  | succ t ih =>
    intro k n hk hn
    cases n with
    | zero => omega
    | succ n =>
      have h := ih (k + 1) n (by omega) (by omega)
      refine br_f (nI_ge (by omega) (by omega)) (ba_ylfB h3 hD (by omega) hb hB he (fun r hr => ?_))
      exact br_t (Int32.le_trans (Int32.le_of_lt hr) (nI_pos' (by omega))) (nm_r (nI_1 k) h)
theorem ba_ymo9 {m D : Nat} {L R : Nat → Nat} {al : Nat → Int32} {post : Int32 → SY → Prop} (K : ba_OK m D L R) (hal : ∀ j, ¬ L j = 0 → al j = nI (L j))
    (H : ∀ ag' eb' : Nat → Int32, post (nI (ba_rr m D L R)) (nI m, nI D, ba_ar R, ba_hd L, al, ag', eb')) :
    ∀ (t p n : Nat) (ag eb : Nat → Int32), p + t = ba_P m L → t < n →
      wY_most_9 post (nI (ba_P m L)) n (nI (ba_rm (ba_G m L R) (ba_M m L R) D p)) (nI p) (nI m) (nI D) (ba_ar R) (ba_hd L) al ag eb := by
  have hP := ba_P_in K
  have hD := K.2.1
  have h1 := K.1.1
  intro t
  induction t with
  | zero =>
    intro p n ag eb hp hn
    cases n with
    | zero => omega
    | succ n =>
      have : p = ba_P m L := by omega
      subst this
      have hr := ba_rm_le (ba_G m L R) (ba_M m L R) D (ba_P m L)
      refine br_t (nI_le (by omega) (by omega)) (pk_le (ba_rm (ba_G m L R) (ba_M m L R) D (ba_P m L)) 60 (fun hz => ?_) (fun hz => ?_))
      · have hh := H ag eb
        rw [ba_rr, if_pos hz] at hh; exact hh
      · have hh := H ag eb
        rw [ba_rr, if_neg (by omega)] at hh; exact hh
  | succ t ih =>
    intro p n ag eb hp hn
    cases n with
    | zero => omega
    | succ n =>
      have hr := ba_rm_le (ba_G m L R) (ba_M m L R) D p
      refine br_f (nI_ge (by omega) (by omega)) (ba_ylay K hal (by omega) ag eb (fun ag' eb' he _ => ⟨m + 1, ?_⟩))
      have h := ih (p + 1) n ag' eb' (by omega) (by omega)
      rw [ba_rm] at h
      by_cases hz : D < ba_G m L R p
      · rw [if_pos hz] at h
        refine ba_y22B K.1.2 hD hr (ba_E_le K p) (fun hA => ?_) he h m 0 (m + 1) (by omega) (by omega)
        have : ba_G m L R p ≤ D := ba_mx_le m hA
        omega
      · rw [if_neg hz] at h
        refine ba_y22A K.1.2 hD hr (fun i hi => ?_) he ?_ m 0 (m + 1) (by omega) (by omega)
        · have : ba_E m L R p i ≤ ba_G m L R p := ba_mx_ge _ m i hi
          omega
        · have hm := ba_lf_is (ba_E m L R p) D (ba_rm (ba_G m L R) (ba_M m L R) D p) (m - 1)
          rw [show m - 1 + 1 = m by omega] at hm
          rw [hm]
          exact h
theorem ba_ymo {m D : Nat} {L R : Nat → Nat} {al : Nat → Int32} {post : Int32 → SY → Prop} (K : ba_OK m D L R) (hal : ∀ j, ¬ L j = 0 → al j = nI (L j)) (ag eb : Nat → Int32)
    (H : ∀ ag' eb' : Nat → Int32, post (nI (ba_rr m D L R)) (nI m, nI D, ba_ar R, ba_hd L, al, ag', eb')) :
    wpY_most post (nI m, nI D, ba_ar R, ba_hd L, al, ag, eb) := by
  unfold wpY_most
  dsimp only
  exact ba_ypl ⟨ba_P m L + 1, ba_ymo9 K hal H (ba_P m L) 0 (ba_P m L + 1) ag eb (by omega) (by omega)⟩
end
section
/-! the relation, and what the calls still need -/
/-- both hold the same count of machines, deadline, ready times and lengths (0: not held); ends and given are scratch -/
def i_Rel (_ : Nat) (u : SX) (v : SY) : Prop := ∃ (m D : Nat) (L R : Nat → Nat) (ea al ag eb : Nat → Int32),
  u = (nI m, nI D, ba_ar L, ba_ar R, ea) ∧ v = (nI m, nI D, ba_ar R, ba_hd L, al, ag, eb) ∧ ba_OK m D L R ∧ (∀ j, ¬ L j = 0 → al j = nI (L j))
theorem ba_rel {k m D : Nat} {L R : Nat → Nat} {ea al ag eb : Nat → Int32} (K : ba_OK m D L R) (hal : ∀ j, ¬ L j = 0 → al j = nI (L j)) :
    i_Rel k (nI m, nI D, ba_ar L, ba_ar R, ea) (nI m, nI D, ba_ar R, ba_hd L, al, ag, eb) := ⟨m, D, L, R, ea, al, ag, eb, rfl, rfl, K, hal⟩
theorem ba_xmo19 {m : Nat} {fd : Int32} {L : Nat → Nat} {aR ea : Nat → Int32} {i : Nat} {post : Int32 → SX → Prop} (h1 : 1 ≤ m) (h3 : m ≤ 3) (hL : ∀ j, L j ≤ 60) :
    ∀ (j n d : Nat), i < j → j ≤ 8 → j < n → d < 2 ^ 31 → post (nI (ba_sd m L i j d % m)) (nI m, fd, ba_ar L, aR, ea) →
      wX_machineOf_19 post (nI i) (nI m) fd (ba_ar L) aR ea n (nI d) (nI j + (-1)) := by
  intro j
  induction j with
  | zero => intro n d hi; omega
  | succ j ih =>
    intro n d hi hj hn hd H
    cases n with
    | zero => omega
    | succ n =>
      rw [pk_m1]
      rw [ba_sd] at H
      have hm0 : ¬ nI m = 0 := nI_ne0 (by omega) (by omega)
      have hin : vp_in (nI j) 8 := vp_in_nI (by omega) (by omega)
      have hl : ba_ar L (nI j).toNatClampNeg = nI (L j) := ba_arc L (by omega)
      have hlj := hL j
      have hq : d / m < 2 ^ 31 := Nat.lt_of_le_of_lt (Nat.div_le_self _ _) hd
      by_cases y : j ≤ i
      · rw [if_pos y] at H
        refine br_t (nI_le y (by omega)) ⟨hm0, ?_⟩
        rw [pk_rem hd (by omega) (by omega)]
        exact H
      · rw [if_neg y] at H
        refine br_f (nI_ge (by omega) (by omega)) ⟨hin, pk_le (L j) 0 (fun hz => nm_e ?_) (fun hz => ⟨hm0, nm_r (pk_div hd (by omega) (by omega)) (nm_e ?_)⟩) hl⟩
        · rw [if_pos (by omega)] at H
          exact ih n d (by omega) (by omega) (by omega) hd H
        · rw [if_neg (by omega)] at H
          exact ih n (d / m) (by omega) (by omega) (by omega) hq H
def ba_H (L : Nat → Nat) (v : Int32) : Prop := ∃ j : Nat, j < 8 ∧ v = nI j ∧ ¬ L j = 0
theorem ba_xhd_n {fm fd : Int32} {L : Nat → Nat} {aR ea : Nat → Int32} {post : Int32 → Prop} {v : Int32} (hL : ∀ j, L j ≤ 60) (hn : ¬ ba_H L v) (H : post 0) :
    wpX_isHeld post (fm, fd, ba_ar L, aR, ea) v := by
  unfold wpX_isHeld
  dsimp only
  rcases pk_ix v (n := 8) (by decide) with h | h | ⟨j, hj, rfl⟩
  · exact br_t h H
  · have h8 : (8 : Int32) ≤ v := h
    exact br_f (Int32.not_lt.mpr (Int32.le_trans (by decide) h8)) (br_t h8 H)
  · have z : L j = 0 := Classical.byContradiction (fun z => hn ⟨j, hj, rfl, z⟩)
    have hl : ba_ar L (nI j).toNatClampNeg ≤ 0 := by rw [ba_arc L (by omega), z]; decide
    exact br_f (nI_pos (by omega)) (br_f (nI_ge (b := 8) hj (by decide)) ⟨vp_in_nI hj (by decide), br_t hl H⟩)
theorem ba_xhd_y {fm fd : Int32} {L : Nat → Nat} {aR ea : Nat → Int32} {post : Int32 → Prop} {j : Nat} (hL : ∀ j, L j ≤ 60) (hj : j < 8) (z : ¬ L j = 0) (H : post 1) :
    wpX_isHeld post (fm, fd, ba_ar L, aR, ea) (nI j) := by
  unfold wpX_isHeld
  dsimp only
  have := hL j
  have hl : ¬ ba_ar L (nI j).toNatClampNeg ≤ 0 := by rw [ba_arc L (by omega)]; exact nI_nle (by omega) (by omega)
  exact br_f (nI_pos (by omega)) (br_f (nI_ge (b := 8) hj (by decide)) ⟨vp_in_nI hj (by decide), br_f hl H⟩)
theorem ba_yhd_n {L : Nat → Nat} {v : Int32} {A B : Prop} (hn : ¬ ba_H L v) (H : A) :
    (v < 0 → A) ∧ (¬ v < 0 → ((7 < v → A) ∧ (¬ 7 < v → (vp_in v 8 ∧ ((ba_hd L v.toNatClampNeg = 0 → A) ∧ (¬ ba_hd L v.toNatClampNeg = 0 → B)))))) := by
  rcases pk_ix v (n := 8) (by decide) with h | h | ⟨j, hj, rfl⟩
  · exact br_t h H
  · have h8 : (8 : Int32) ≤ v := h
    exact br_f (Int32.not_lt.mpr (Int32.le_trans (by decide) h8)) (br_t (Int32.lt_of_lt_of_le (by decide) h8) H)
  · have z : L j = 0 := Classical.byContradiction (fun z => hn ⟨j, hj, rfl, z⟩)
    exact br_f (nI_pos (by omega)) (br_f (nI_nlt (b := j) (a := 7) (by omega) (by decide)) ⟨vp_in_nI hj (by decide), br_t (ba_hd_z (by omega) z) H⟩)
theorem ba_yhd_y {L : Nat → Nat} {j : Nat} {A B : Prop} (hj : j < 8) (z : ¬ L j = 0) (H : B) :
    (nI j < 0 → A) ∧ (¬ nI j < 0 → ((7 < nI j → A) ∧ (¬ 7 < nI j → (vp_in (nI j) 8 ∧ ((ba_hd L (nI j).toNatClampNeg = 0 → A) ∧ (¬ ba_hd L (nI j).toNatClampNeg = 0 → B)))))) :=
  br_f (nI_pos (by omega)) (br_f (nI_nlt (b := j) (a := 7) (by omega) (by decide)) ⟨vp_in_nI hj (by decide), br_f (ba_hd_nz (by omega) z) H⟩)
def ba_I (m : Nat) (v : Int32) : Prop := ∃ j : Nat, j < m ∧ v = nI j
theorem ba_xmc_n {m : Nat} {fd : Int32} {aL aR ea : Nat → Int32} {post : Int32 → Prop} {v : Int32} (h3 : m ≤ 3) (hn : ¬ ba_I m v) (H : post 0) :
    wpX_isMachine post (nI m, fd, aL, aR, ea) v := by
  unfold wpX_isMachine
  dsimp only
  rcases pk_ix v (n := m) (by omega) with h | h | h
  · exact br_t h H
  · exact br_f (Int32.not_lt.mpr (Int32.le_trans (nI_pos' (by omega)) h)) (br_t h H)
  · exact absurd h hn
theorem ba_xmc_y {m j : Nat} {fd : Int32} {aL aR ea : Nat → Int32} {post : Int32 → Prop} (h3 : m ≤ 3) (hj : j < m) (H : post 1) :
    wpX_isMachine post (nI m, fd, aL, aR, ea) (nI j) := by
  unfold wpX_isMachine
  dsimp only
  exact br_f (nI_pos (by omega)) (br_f (nI_ge hj (by omega)) H)
theorem ba_ymc_n {m : Nat} {v : Int32} {A B : Prop} (h3 : m ≤ 3) (hn : ¬ ba_I m v) (H : A) : (v < 0 → A) ∧ (¬ v < 0 → ((v < nI m → B) ∧ (¬ v < nI m → A))) := by
  rcases pk_ix v (n := m) (by omega) with h | h | h
  · exact br_t h H
  · exact br_f (Int32.not_lt.mpr (Int32.le_trans (nI_pos' (by omega)) h)) (br_f (Int32.not_lt.mpr h) H)
  · exact absurd h hn
theorem ba_ymc_y {m j : Nat} {A B : Prop} (h3 : m ≤ 3) (hj : j < m) (H : B) : (nI j < 0 → A) ∧ (¬ nI j < 0 → ((nI j < nI m → B) ∧ (¬ nI j < nI m → A))) :=
  br_f (nI_pos (by omega)) (br_t (nI_lt hj (by omega)) H)
theorem ba_ycl {P : Int32 → Prop} (v : Int32) (c : Nat) (H : P (nI (ba_cl v c))) : (0 ≤ v → ((v ≤ nI c → P v) ∧ (¬ v ≤ nI c → P (nI c)))) ∧ (¬ 0 ≤ v → P 0) := by
  unfold ba_cl at H
  by_cases h : v < 0
  · rw [if_pos h] at H
    exact br_f (Int32.not_le.mpr h) H
  · rw [if_neg h] at H
    by_cases h2 : v ≤ nI c
    · rw [if_pos h2] at H
      obtain ⟨j, hj, rfl⟩ := nI_of h
      rw [nI_clamp hj] at H
      exact br_t (Int32.not_lt.mp h) (br_t h2 H)
    · rw [if_neg h2] at H
      exact br_t (Int32.not_lt.mp h) (br_f h2 H)
theorem ba_b1 : vp_nar .boolean 1 = 1 := by decide +kernel
theorem ba_b0 : vp_nar .boolean 0 = 0 := by decide +kernel
theorem ba_yof38 {fm fd x1 : Int32} {L : Nat → Nat} {aR al ag eb : Nat → Int32} {f : Nat} {post : Int32 → SY → Prop} (hf : f < 8) (z : L f = 0) (hb : ∀ i, i < f → ¬ L i = 0)
    (H : post (nI f) (fm, fd, aR, upd (ba_hd L) f 1, upd al f x1, ag, eb)) :
    ∀ (t j n : Nat), j + t = f → t < n → wY_offer_38 post x1 fm fd aR (ba_hd L) al ag eb n (nI j) := by
  intro t
  induction t with
  | zero =>
    intro j n hj hn
    cases n with
    | zero => omega
    | succ n =>
      have : j = f := by omega
      subst this
      have hin : vp_in (nI j) 8 := vp_in_nI (by omega) (by omega)
      have hc : (nI j).toNatClampNeg = j := nI_clamp (by omega)
      have e1 : upd (ba_hd L) (nI j).toNatClampNeg (vp_nar .boolean 1) = upd (ba_hd L) j 1 := by rw [hc, ba_b1]
      have e2 : upd al (nI j).toNatClampNeg x1 = upd al j x1 := by rw [hc]
      exact br_f (nI_ge (b := 8) hf (by decide)) ⟨hin, br_t (ba_hd_z (by omega) z) ⟨hin, nm_r e1 ⟨hin, nm_r e2 H⟩⟩⟩
  | succ t ih =>
    intro j n hj hn
    cases n with
    | zero => omega
    | succ n =>
      have hin : vp_in (nI j) 8 := vp_in_nI (by omega) (by omega)
      exact br_f (nI_ge (b := 8) (by omega) (by decide)) ⟨hin, br_f (ba_hd_nz (by omega) (hb j (by omega))) (nm_r (nI_1 j) (ih (j + 1) n (by omega) (by omega)))⟩
end
section
theorem i_up {k : Nat} {u : SX} {v : SY} (h : i_Rel k u v) : i_Rel (k + 3) u v := h
theorem ba_hd00 : ba_hd (fun _ => 0) = fun _ => 0 := by
  funext j; exact if_pos rfl
theorem ba_ini {m D : Nat} (h1 : 1 ≤ m) (h3 : m ≤ 3) (hD : D ≤ 300) : i_Rel 2 (nI m, nI D, (fun _ => 0), (fun _ => 0), (fun _ => 0)) (nI m, nI D, (fun _ => 0), (fun _ => 0), (fun _ => 0), (fun _ => 0), (fun _ => 0)) :=
  ⟨m, D, fun _ => 0, fun _ => 0, fun _ => 0, fun _ => 0, fun _ => 0, fun _ => 0, rfl, by rw [ba_hd00]; rfl, ⟨⟨h1, h3⟩, hD, fun _ => Nat.zero_le _, fun _ => Nat.zero_le _⟩, fun _ h => absurd rfl h⟩
theorem ba_y62 {m : Nat} (h1 : 1 ≤ m) (h3 : m ≤ 3) (v : Int32) : wpX_clamp (fun r_2 => wY_init_62 (fun w => i_Rel 2 (nI m, r_2, (fun _ => 0), (fun _ => 0), (fun _ => 0)) w) v (nI m) 0 0 (fun _ => 0) (fun _ => 0) (fun _ => 0) (fun _ => 0) (fun _ => 0)) v 0 (nI 300) := by
  have hD : ba_cl v 300 ≤ 300 := ba_cl_le v (by decide)
  refine ba_xcl v 300 ?_
  unfold wY_init_62
  exact ba_ycl (P := fun d => i_Rel 2 (nI m, nI (ba_cl v 300), (fun _ => 0), (fun _ => 0), (fun _ => 0)) (nI m, d, (fun _ => 0), (fun _ => 0), (fun _ => 0), (fun _ => 0), (fun _ => 0))) v 300 (ba_ini h1 h3 hD)
theorem i_vc0 (k0 : Int32) (k1 : Int32) : wpX_init (fun u => wpY_init (fun v => i_Rel 2 u v) k0 k1) k0 k1 := by
  unfold wpX_init wpY_init
  by_cases a : 1 ≤ k0
  · by_cases b : k0 ≤ 3
    · obtain ⟨m, hm, rfl⟩ := nI_of2 (x := k0) (M := 3) (n := 3) (by decide) (Int32.not_lt.mpr (Int32.le_trans (by decide) a)) b
      have h1 : 1 ≤ m := (nI_leI (a := 1) (by decide) (by omega)).mp a
      refine br_t a (br_t b ?_)
      have h := ba_y62 h1 hm k1
      unfold wpX_clamp at h ⊢
      exact ⟨fun c => ⟨fun d => br_t a (br_t b ((h.1 c).1 d)), fun d => br_t a (br_t b ((h.1 c).2 d))⟩, fun c => br_t a (br_t b (h.2 c))⟩
    · refine br_t a (br_f b ?_)
      have h := ba_y62 (m := 3) (by decide) (by decide) k1
      unfold wpX_clamp at h ⊢
      exact ⟨fun c => ⟨fun d => br_t a (br_f b ((h.1 c).1 d)), fun d => br_t a (br_f b ((h.1 c).2 d))⟩, fun c => br_t a (br_f b (h.2 c))⟩
  · refine br_f a ?_
    have h := ba_y62 (m := 1) (by decide) (by decide) k1
    unfold wpX_clamp at h ⊢
    exact ⟨fun c => ⟨fun d => br_f a ((h.1 c).1 d), fun d => br_f a ((h.1 c).2 d)⟩, fun c => br_f a (h.2 c)⟩
theorem i_vc_offer {k : Nat} {u : SX} {v : SY} (I : i_Rel k u v) (hk : k + 3 ≤ 1538) (v1 : Int32) : wpX_offer (fun r u' => wpY_offer (fun r' v' => r' = r ∧ i_Rel (k + 3) u' v') v v1) u v1 := by
  obtain ⟨m, D, L, R, ea, al, ag, eb, rfl, rfl, K, hal⟩ := I
  have hL := K.2.2.1
  unfold wpX_offer wpY_offer
  dsimp only
  by_cases a : v1 < 1
  · exact br_t a (br_t a ⟨rfl, ba_rel K hal⟩)
  · by_cases b : v1 ≤ 60
    · obtain ⟨l, hl, rfl⟩ := nI_of2 (x := v1) (M := 60) (n := 60) (by decide) (fun h => a (Int32.lt_trans h (by decide))) b
      have h1 : 1 ≤ l := Nat.le_of_not_lt (fun h => a (nI_lt (b := 1) h (by decide)))
      rcases ba_first L 8 with h | ⟨f, hf, z, h⟩
      · refine br_f a (br_t b (ba_xlf (f := 8) hL (by decide) (fun y => by omega) h (br_t rfl (br_f a (br_t b (ba_yjb (br_t ?_ ⟨rfl, ba_rel K hal⟩)))))))
        rw [ba_ct_all 8 h]; rfl
      · have hct := ba_ct_lt z 8 hf
        have hrr := ba_rr_le m D L R
        have hne : ¬ nI f = 8 := fun e => by have := (nI_eq (b := 8) (by omega) (by decide)).mp e; omega
        have hce : ¬ nI (ba_ct L 8) = 8 := fun e => by have := (nI_eq (b := 8) (by omega) (by decide)).mp e; omega
        refine br_f a (br_t b (ba_xlf (f := f) hL (by omega) (fun _ => z) h (br_f hne (ba_xrm K ea (fun ea' => pk_le l (ba_rr m D L R) (fun hle => ⟨vp_in_nI hf (by decide), nm_e (br_f a (br_t b (ba_yjb (br_f hce (ba_ymo K hal ag eb (fun ag' eb' => br_t (nI_le hle (by omega)) ⟨f + 1, ba_yof38 hf z h ⟨rfl, ?_⟩ f 0 (f + 1) (by omega) (by omega)⟩))))))⟩) (fun hgt => br_f a (br_t b (ba_yjb (br_f hce (ba_ymo K hal ag eb (fun ag' eb' => br_f (nI_ge hgt (by omega)) ⟨rfl, ba_rel K hal⟩)))))))))))
        · dsimp only
          rw [nI_clamp (by omega), ba_upd, ba_hd_s (x := l) (by omega)]
          refine ba_rel ⟨K.1, K.2.1, ba_set_le hL hl, K.2.2.2⟩ (fun j hj => ?_)
          by_cases y : j = f
          · rw [y, pk_us, ba_set_s]
          · rw [pk_un y, ba_set_n y]
            rw [ba_set_n y] at hj
            exact hal j hj
    · exact br_f a (br_f b (br_f a (br_f b ⟨rfl, ba_rel K hal⟩)))
theorem i_vc_withdraw {k : Nat} {u : SX} {v : SY} (I : i_Rel k u v) (hk : k + 3 ≤ 1538) (v1 : Int32) : wpX_withdraw (fun r u' => wpY_withdraw (fun r' v' => r' = r ∧ i_Rel (k + 3) u' v') v v1) u v1 := by
  obtain ⟨m, D, L, R, ea, al, ag, eb, rfl, rfl, K, hal⟩ := I
  have hL := K.2.2.1
  unfold wpX_withdraw wpY_withdraw
  dsimp only
  by_cases hh : ba_H L v1
  · obtain ⟨j, hj, rfl, z⟩ := hh
    have hin : vp_in (nI j) 8 := vp_in_nI hj (by decide)
    have hc : (nI j).toNatClampNeg = j := nI_clamp (by omega)
    refine ba_xhd_y hL hj z (br_f (by decide) ⟨hin, nm_r (ba_arc L (by omega)) ⟨hin, nm_e (ba_yhd_y hj z ⟨hin, nm_e ⟨hin, ?_, ?_⟩⟩)⟩⟩)
    · rw [hc]; exact hal j z
    · rw [hc, ba_b0, ba_hd_0, show upd (ba_ar L) j 0 = ba_ar (ba_set L j 0) from ba_upd L j 0]
      refine ba_rel ⟨K.1, K.2.1, ba_set_le hL (Nat.zero_le _), K.2.2.2⟩ (fun i hi => ?_)
      by_cases y : i = j
      · rw [y, ba_set_s] at hi; exact absurd rfl hi
      · rw [ba_set_n y] at hi ⊢; exact hal i hi
  · exact ba_xhd_n hL hh (br_t rfl (ba_yhd_n hh ⟨rfl, ba_rel K hal⟩))
theorem i_vc_ready {k : Nat} {u : SX} {v : SY} (I : i_Rel k u v) (hk : k + 3 ≤ 1538) (v1 : Int32) (v2 : Int32) : wpX_ready (fun r u' => wpY_ready (fun r' v' => r' = r ∧ i_Rel (k + 3) u' v') v v1 v2) u v1 v2 := by
  obtain ⟨m, D, L, R, ea, al, ag, eb, rfl, rfl, K, hal⟩ := I
  have h3 := K.1.2
  unfold wpX_ready wpY_ready
  dsimp only
  by_cases hh : ba_I m v1
  · obtain ⟨j, hj, rfl⟩ := hh
    have hin : vp_in (nI j) 3 := vp_in_nI (by omega) (by decide)
    have hc : (nI j).toNatClampNeg = j := nI_clamp (by omega)
    have hcl : ba_cl v2 60 ≤ 60 := ba_cl_le v2 (by decide)
    refine ba_xmc_y h3 hj (br_f (by decide) ⟨hin, nm_e (ba_xcl v2 60 ⟨hin, nm_e (ba_ymc_y h3 hj ⟨hin, nm_e ?_⟩)⟩)⟩)
    refine ba_ycl (P := fun x => vp_in (nI j) 3 ∧ ∀ a : Nat → Int32, a = upd (ba_ar R) (nI j).toNatClampNeg x → ba_ar R (nI j).toNatClampNeg = ba_ar R (nI j).toNatClampNeg ∧ i_Rel (k + 3) (nI m, nI D, ba_ar L, upd (ba_ar R) (nI j).toNatClampNeg (nI (ba_cl v2 60)), ea) (nI m, nI D, a, ba_hd L, al, ag, eb)) v2 60 ?_
    refine ⟨hin, nm_e ⟨rfl, ?_⟩⟩
    rw [hc, ba_upd]
    exact ba_rel ⟨K.1, K.2.1, K.2.2.1, ba_set_le K.2.2.2 hcl⟩ hal
  · exact ba_xmc_n h3 hh (br_t rfl (ba_ymc_n h3 hh ⟨rfl, ba_rel K hal⟩))
theorem i_vc_end {k : Nat} {u : SX} {v : SY} (I : i_Rel k u v) (hk : k + 3 ≤ 1538) : wpX_end (fun r u' => wpY_end (fun r' v' => r' = r ∧ i_Rel (k + 3) u' v') v) u := by
  obtain ⟨m, D, L, R, ea, al, ag, eb, rfl, rfl, K, hal⟩ := I
  have hP := ba_P_in K
  have hc := ba_ch_is (ba_G m L R) (ba_P m L - 1)
  unfold wpX_end wpY_end
  dsimp only
  refine ba_xch K ea (fun ea' => ba_xlay K (by omega) ea' (fun ea'' he => ba_xgr K.1.1 K.1.2 (ba_E_le K _) he (ba_ych K hal ag eb (fun ag' eb' _ _ => ⟨?_, ba_rel K hal⟩))))
  rw [hc.2]; rfl
theorem i_vc_machineOf {k : Nat} {u : SX} {v : SY} (I : i_Rel k u v) (hk : k + 3 ≤ 1538) (v1 : Int32) : wpX_machineOf (fun r u' => wpY_machineOf (fun r' v' => r' = r ∧ i_Rel (k + 3) u' v') v v1) u v1 := by
  obtain ⟨m, D, L, R, ea, al, ag, eb, rfl, rfl, K, hal⟩ := I
  have hL := K.2.2.1
  have hP := ba_P_in K
  have hc := ba_ch_is (ba_G m L R) (ba_P m L - 1)
  unfold wpX_machineOf wpY_machineOf
  dsimp only
  by_cases hh : ba_H L v1
  · obtain ⟨j, hj, rfl, z⟩ := hh
    have hin : vp_in (nI j) 8 := vp_in_nI hj (by decide)
    refine ba_xhd_y hL hj z (br_f (by decide) (ba_xch K ea (fun ea' => ⟨9, ?_⟩)))
    rw [ba_7]
    refine ba_xmo19 K.1.1 K.1.2 hL 8 9 _ hj (by decide) (by decide) (by omega) (ba_yhd_y hj z (ba_ych K hal ag eb (fun ag' eb' _ hg => ⟨hin, ?_, ba_rel K hal⟩)))
    rw [nI_clamp (by omega)]; exact hg j hj z
  · exact ba_xhd_n hL hh (br_t rfl (ba_yhd_n hh ⟨rfl, ba_rel K hal⟩))
theorem i_vc_endOf {k : Nat} {u : SX} {v : SY} (I : i_Rel k u v) (hk : k + 3 ≤ 1538) (v1 : Int32) : wpX_endOf (fun r u' => wpY_endOf (fun r' v' => r' = r ∧ i_Rel (k + 3) u' v') v v1) u v1 := by
  obtain ⟨m, D, L, R, ea, al, ag, eb, rfl, rfl, K, hal⟩ := I
  have h3 := K.1.2
  have hP := ba_P_in K
  have hc := ba_ch_is (ba_G m L R) (ba_P m L - 1)
  unfold wpX_endOf wpY_endOf
  dsimp only
  by_cases hh : ba_I m v1
  · obtain ⟨j, hj, rfl⟩ := hh
    have hin : vp_in (nI j) 3 := vp_in_nI (by omega) (by decide)
    refine ba_xmc_y h3 hj (br_f (by decide) (ba_xch K ea (fun ea' => ba_xlay K (by omega) ea' (fun ea'' he => ⟨hin, ba_ymc_y h3 hj (ba_ych K hal ag eb (fun ag' eb' hb _ => ⟨hin, ?_, ba_rel K hal⟩))⟩))))
    dsimp only
    rw [nI_clamp (by omega), hb j hj, he j hj]
  · exact ba_xmc_n h3 hh (br_t rfl (ba_ymc_n h3 hh ⟨rfl, ba_rel K hal⟩))
theorem i_vc_room {k : Nat} {u : SX} {v : SY} (I : i_Rel k u v) (hk : k + 3 ≤ 1538) : wpX_room (fun r u' => wpY_room (fun r' v' => r' = r ∧ i_Rel (k + 3) u' v') v) u := by
  obtain ⟨m, D, L, R, ea, al, ag, eb, rfl, rfl, K, hal⟩ := I
  refine ba_xrm K ea (fun ea' => ?_)
  unfold wpY_room
  dsimp only
  exact ba_ymo K hal ag eb (fun ag' eb' => ⟨rfl, ba_rel K hal⟩)
theorem i_vc_jobs {k : Nat} {u : SX} {v : SY} (I : i_Rel k u v) (hk : k + 3 ≤ 1538) : wpX_jobs (fun r => wpY_jobs (fun r' => r' = r ∧ i_Rel (k + 3) u v) v) u := by
  obtain ⟨m, D, L, R, ea, al, ag, eb, rfl, rfl, K, hal⟩ := I
  exact ba_xjb K.2.2.1 (ba_yjb ⟨rfl, ba_rel K hal⟩)
end
