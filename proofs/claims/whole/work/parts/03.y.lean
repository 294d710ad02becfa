/-! the reference's own methods, each with a general post -/
theorem ba_y33 {m D : Nat} {L : Nat → Nat} {aR al : Nat → Int32} {post : SY → Prop} (h1 : 1 ≤ m) (h3 : m ≤ 3) (hal : ∀ j, ¬ L j = 0 → al j = nI (L j)) :
    ∀ (j n d : Nat) (e : Nat → Nat) (ag eb : Nat → Int32), j ≤ 8 → j < n → d < 2 ^ 31 → (∀ k, k < m → eb k = nI (e k)) →
      (∀ ag' eb' : Nat → Int32, (∀ k, k < m → eb' k = nI (ba_lo m L j d e k)) → (∀ i, i < j → ¬ L i = 0 → ag' i = nI (ba_sd m L i j d % m)) →
        (∀ i, j ≤ i → ag' i = ag i) → post (nI m, nI D, aR, ba_hd L, al, ag', eb')) →
      wY_lay_33 post (nI m) (nI D) n (nI d) (nI j + (-1)) aR (ba_hd L) al ag eb := by
  intro j
  induction j with
  | zero =>
    intro n d e ag eb _ hn hd he hp
    cases n with
    | zero => omega
    | succ n => exact br_t (by decide) (hp ag eb he (fun i hi => by omega) (fun i _ => rfl))
  | succ j ih =>
    intro n d e ag eb hj hn hd he hp
    cases n with
    | zero => omega
    | succ n =>
      rw [pk_m1]
      have hin : vp_in (nI j) 8 := vp_in_nI (by omega) (by omega)
      have hc : (nI j).toNatClampNeg = j := nI_clamp (by omega)
      have hm0 : ¬ nI m = 0 := nI_ne0 (by omega) (by omega)
      have hr : d % m < m := Nat.mod_lt _ (by omega)
      have hin3 : vp_in (nI (d % m)) 3 := vp_in_nI (by omega) (by omega)
      have hq : d / m < 2 ^ 31 := Nat.lt_of_le_of_lt (Nat.div_le_self _ _) hd
      by_cases z : L j = 0
      · refine br_f (nI_pos (by omega)) ⟨hin, br_t (ba_hd_z (by omega) z) (nm_e ?_)⟩
        refine ih n d e ag eb (by omega) (by omega) hd he (fun ag' eb' h' g1 g2 => hp ag' eb' ?_ ?_ ?_)
        · rw [ba_lo, if_pos z]; exact h'
        · intro i hi hz
          have : i ≠ j := fun e => hz (e ▸ z)
          rw [ba_sd, if_neg (by omega), if_pos z]
          exact g1 i (by omega) hz
        · intro i hi
          exact g2 i (by omega)
      · have hg : upd ag (nI j).toNatClampNeg (nI (d % m)) (nI j).toNatClampNeg = nI (d % m) := pk_us
        have hu : upd ag (nI j).toNatClampNeg (nI d - nI d / nI m * nI m) = upd ag (nI j).toNatClampNeg (nI (d % m)) := by
          rw [pk_rem hd (by omega) (by omega)]
        have hig : vp_in (upd ag (nI j).toNatClampNeg (nI (d % m)) (nI j).toNatClampNeg) 3 := by rw [hg]; exact hin3
        refine br_f (nI_pos (by omega)) ⟨hin, br_f (ba_hd_nz (by omega) z) (br_f (nI_nle (by omega) (by omega)) ⟨hm0, hin, nm_r hu ⟨hm0, nm_r (pk_div hd (by omega) (by omega)) ⟨hin, hig, hin, hig, nm_e (nm_e ?_)⟩⟩⟩)⟩
        refine ih n (d / m) (ba_set e (d % m) (e (d % m) + L j)) _ _ (by omega) (by omega) hq ?_ (fun ag' eb' h' g1 g2 => hp ag' eb' ?_ ?_ ?_)
        · intro k hk
          rw [hg, nI_clamp (show d % m < 2 ^ 31 by omega), hc]
          by_cases y : k = d % m
          · rw [y, pk_us, ba_set_s, he _ hr, hal j z, nI_add]
          · rw [pk_un y, ba_set_n y]; exact he k hk
        · rw [ba_lo, if_neg z]; exact h'
        · intro i hi hz
          by_cases y : i = j
          · rw [y, ba_sd, if_pos (Nat.le_refl _), g2 j (Nat.le_refl _), hc, pk_us]
          · rw [ba_sd, if_neg (by omega), if_neg z]
            exact g1 i (by omega) hz
        · intro i hi
          rw [g2 i (by omega), hc, pk_un (by omega)]
theorem ba_y4 {m D p : Nat} {L R : Nat → Nat} {al : Nat → Int32} {post : SY → Prop} (K : ba_OK m D L R) (hal : ∀ j, ¬ L j = 0 → al j = nI (L j)) (hp : p < 2 ^ 31) {ag : Nat → Int32}
    (H : ∀ ag' eb' : Nat → Int32, (∀ k, k < m → eb' k = nI (ba_E m L R p k)) → (∀ i, i < 8 → ¬ L i = 0 → ag' i = nI (ba_sd m L i 8 p % m)) →
      post (nI m, nI D, ba_ar R, ba_hd L, al, ag', eb')) :
    ∀ (t k n : Nat) (eb : Nat → Int32), k + t = m → t < n → (∀ i, i < k → eb i = nI (R i)) →
      wY_lay_4 post (nI p) (nI m) (nI D) n (nI k) (ba_ar R) (ba_hd L) al ag eb := by
  have h1 := K.1.1
  have h3 := K.1.2
  intro t
  induction t with
  | zero =>
    intro k n eb hk hn he
    cases n with
    | zero => omega
    | succ n =>
      refine br_t (nI_le (by omega) (by omega)) ⟨9, ?_⟩
      rw [ba_7]
      exact ba_y33 h1 h3 hal 8 9 p R ag eb (by omega) (by omega) hp (fun i hi => he i (by omega)) (fun ag' eb' h g _ => H ag' eb' h g)
  | succ t ih =>
    intro k n eb hk hn he
    cases n with
    | zero => omega
    | succ n =>
      have hin : vp_in (nI k) 3 := vp_in_nI (by omega) (by omega)
      refine br_f (nI_ge (by omega) (by omega)) ⟨hin, hin, nm_e (nm_r (nI_1 k) ?_)⟩
      refine ih (k + 1) n _ (by omega) (by omega) (fun i hi => ?_)
      rw [ba_arc R (show k < 2 ^ 31 by omega), nI_clamp (show k < 2 ^ 31 by omega)]
      by_cases z : i = k
      · rw [z, pk_us]
      · rw [pk_un z]; exact he i (by omega)
theorem ba_ylay {m D p : Nat} {L R : Nat → Nat} {al : Nat → Int32} {post : SY → Prop} (K : ba_OK m D L R) (hal : ∀ j, ¬ L j = 0 → al j = nI (L j)) (hp : p < 2 ^ 31) (ag eb : Nat → Int32)
    (H : ∀ ag' eb' : Nat → Int32, (∀ k, k < m → eb' k = nI (ba_E m L R p k)) → (∀ i, i < 8 → ¬ L i = 0 → ag' i = nI (ba_sd m L i 8 p % m)) →
      post (nI m, nI D, ba_ar R, ba_hd L, al, ag', eb')) :
    wpY_lay post (nI m, nI D, ba_ar R, ba_hd L, al, ag, eb) (nI p) := by
  unfold wpY_lay
  dsimp only
  exact ⟨m + 1, ba_y4 K hal hp H m 0 (m + 1) eb (by omega) (by omega) (fun i hi => by omega)⟩
theorem ba_ygr4 {m : Nat} {fd : Int32} {e : Nat → Nat} {aR ah al ag eb : Nat → Int32} {post : Int32 → Prop} (h3 : m ≤ 3) (hb : ∀ i, e i ≤ 540)
    (he : ∀ k, k < m → eb k = nI (e k)) (H : post (nI (ba_mx e m))) :
    ∀ (t k n : Nat), k + t = m → t < n → wY_greatest_4 post (nI m) fd aR ah al ag eb n (nI (ba_mx e k)) (nI k) := by
  intro t
  induction t with
  | zero =>
    intro k n hk hn
    cases n with
    | zero => omega
    | succ n =>
      have : k = m := by omega
      subst this
      exact br_t (nI_le (by omega) (by omega)) H
  | succ t ih =>
    intro k n hk hn
    cases n with
    | zero => omega
    | succ n =>
      have hin : vp_in (nI k) 3 := vp_in_nI (by omega) (by omega)
      have hx : eb (nI k).toNatClampNeg = nI (e k) := by rw [nI_clamp (by omega)]; exact he k (by omega)
      have hM : ba_mx e k ≤ 540 := ba_mx_le k (fun i _ => hb i)
      have hE := hb k
      have h := ih (k + 1) n (by omega) (by omega)
      rw [ba_mx] at h
      refine br_f (nI_ge (by omega) (by omega)) ⟨hin, pk_le (e k) (ba_mx e k) (fun hz => nm_r (nI_1 k) ?_) (fun hz => ⟨hin, nm_r hx (nm_r (nI_1 k) ?_)⟩) hx⟩
      · rw [if_pos hz] at h; exact h
      · rw [if_neg (by omega)] at h; exact h
theorem ba_ygr {m : Nat} {fd : Int32} {e : Nat → Nat} {aR ah al ag eb : Nat → Int32} {post : Int32 → Prop} (h3 : m ≤ 3) (hb : ∀ i, e i ≤ 540)
    (he : ∀ k, k < m → eb k = nI (e k)) (H : post (nI (ba_mx e m))) : wpY_greatest post (nI m, fd, aR, ah, al, ag, eb) := by
  unfold wpY_greatest
  dsimp only
  exact ⟨m + 1, ba_ygr4 h3 hb he H m 0 (m + 1) (by omega) (by omega)⟩
theorem ba_yjb4 {fm fd : Int32} {L : Nat → Nat} {aR al ag eb : Nat → Int32} {post : Int32 → Prop} (H : post (nI (ba_ct L 8))) :
    ∀ (t j n : Nat), j + t = 8 → t < n → wY_jobs_4 post fm fd aR (ba_hd L) al ag eb n (nI (ba_ct L j)) (nI j) := by
  intro t
  induction t with
  | zero =>
    intro j n hk hn
    cases n with
    | zero => omega
    | succ n =>
      have : j = 8 := by omega
      subst this
      exact br_t (nI_le (a := 8) (by omega) (by omega)) H
  | succ t ih =>
    intro j n hk hn
    cases n with
    | zero => omega
    | succ n =>
      have hin : vp_in (nI j) 8 := vp_in_nI (by omega) (by omega)
      have h := ih (j + 1) n (by omega) (by omega)
      rw [ba_ct] at h
      refine br_f (nI_ge (b := 8) (by omega) (by omega)) ⟨hin, ?_⟩
      by_cases z : L j = 0
      · rw [if_pos z] at h
        exact br_t (ba_hd_z (by omega) z) (nm_r (nI_1 j) h)
      · rw [if_neg z] at h
        exact br_f (ba_hd_nz (by omega) z) (nm_r (nI_1 _) (nm_r (nI_1 j) h))
theorem ba_yjb {fm fd : Int32} {L : Nat → Nat} {aR al ag eb : Nat → Int32} {post : Int32 → Prop} (H : post (nI (ba_ct L 8))) :
    wpY_jobs post (fm, fd, aR, ba_hd L, al, ag, eb) := by
  unfold wpY_jobs
  dsimp only
  exact ⟨9, ba_yjb4 H 8 0 9 (by omega) (by omega)⟩
theorem ba_ypw4 {m c : Nat} {post : Int32 → Prop} (hc : c < 2 ^ 31) (H : post (nI (m ^ c))) :
    ∀ (t i n : Nat), i + t = c → t < n → wY_power_4 post (nI m) (nI c) n (nI (m ^ i)) (nI i) := by
  intro t
  induction t with
  | zero =>
    intro i n hk hn
    cases n with
    | zero => omega
    | succ n =>
      have : i = c := by omega
      subst this
      exact br_t (nI_le (by omega) (by omega)) H
  | succ t ih =>
    intro i n hk hn
    cases n with
    | zero => omega
    | succ n =>
      have h := ih (i + 1) n (by omega) (by omega)
      rw [Nat.pow_succ] at h
      exact br_f (nI_ge (by omega) (by omega)) (nm_r (pk_mul _ _) (nm_r (nI_1 i) h))
theorem ba_ypl {m : Nat} {fd : Int32} {L : Nat → Nat} {aR al ag eb : Nat → Int32} {post : Int32 → Prop} (H : post (nI (ba_P m L))) :
    wpY_plans post (nI m, fd, aR, ba_hd L, al, ag, eb) := by
  unfold wpY_plans
  dsimp only
  have hc := ba_ct_le L 8
  refine ba_yjb ?_
  unfold wpY_power
  exact ⟨ba_ct L 8 + 1, ba_ypw4 (by omega) H (ba_ct L 8) 0 _ (by omega) (by omega)⟩
/-- left where every end is within the deadline -/
theorem ba_ylfA2 {m D k : Nat} {e : Nat → Nat} {aR ah al ag eb : Nat → Int32} {post : Int32 → Prop} (h3 : m ≤ 3) (hD : D ≤ 300) (hk : k < m) (hA : ∀ i, i < m → e i ≤ D)
    (he : ∀ i, i < m → eb i = nI (e i)) (H : post (nI (D - e k))) :
    ∀ (t q n : Nat), q + t = m → t < n → wY_left_2 post (nI k) (nI m) (nI D) aR ah al ag eb n (nI q) := by
  intro t
  induction t with
  | zero =>
    intro q n hq hn
    cases n with
    | zero => omega
    | succ n =>
      refine br_t (nI_le (by omega) (by omega)) ⟨vp_in_nI (by omega) (by omega), ?_⟩
      rw [nI_clamp (show k < 2 ^ 31 by omega), he k hk, pk_sub (hA k hk)]
      exact H
  | succ t ih =>
    intro q n hq hn
    cases n with
    | zero => omega
    | succ n =>
      have hin : vp_in (nI q) 3 := vp_in_nI (by omega) (by omega)
      have h := ih (q + 1) n (by omega) (by omega)
      have hx : eb (nI q).toNatClampNeg = nI (e q) := by rw [nI_clamp (by omega)]; exact he q (by omega)
      have hE := hA q (by omega)
      have hle : eb (nI q).toNatClampNeg ≤ nI D := by rw [hx]; exact nI_le hE (by omega)
      exact br_f (nI_ge (by omega) (by omega)) (br_c (fun _ => nm_r (nI_1 q) h) (fun _ => ⟨hin, br_t hle (nm_r (nI_1 q) h)⟩))
/-- left where some end is beyond the deadline: the answer is negative -/
theorem ba_ylfB2 {m D k : Nat} {e : Nat → Nat} {aR ah al ag eb : Nat → Int32} {post : Int32 → Prop} (h3 : m ≤ 3) (hD : D ≤ 300) (hk : k < m) (hb : ∀ i, e i ≤ 540)
    (hB : ¬ ∀ i, i < m → e i ≤ D)
    (he : ∀ i, i < m → eb i = nI (e i)) (H : ∀ r : Int32, r < 0 → post r) :
    ∀ (t q n : Nat), q + t = m → t < n → (∀ i, i < q → i ≠ k → e i ≤ D) → wY_left_2 post (nI k) (nI m) (nI D) aR ah al ag eb n (nI q) := by
  intro t
  induction t with
  | zero =>
    intro q n hq hn hi
    cases n with
    | zero => omega
    | succ n =>
      refine br_t (nI_le (by omega) (by omega)) ⟨vp_in_nI (by omega) (by omega), ?_⟩
      rw [nI_clamp (show k < 2 ^ 31 by omega), he k hk]
      have hkD : D < e k := by
        apply Nat.lt_of_not_le
        intro hle
        apply hB
        intro i him
        by_cases y : i = k
        · rw [y]; exact hle
        · exact hi i (by omega) y
      have := hb k
      exact H _ (pk_sneg (by omega) hkD)
  | succ t ih =>
    intro q n hq hn hi
    cases n with
    | zero => omega
    | succ n =>
      have hin : vp_in (nI q) 3 := vp_in_nI (by omega) (by omega)
      have hx : eb (nI q).toNatClampNeg = nI (e q) := by rw [nI_clamp (by omega)]; exact he q (by omega)
      have hE := hb q
      refine br_f (nI_ge (by omega) (by omega)) (pk_eq q k (fun y => nm_r (nI_1 q) (ih (q + 1) n (by omega) (by omega) ?_)) (fun y => ⟨hin, pk_le (e q) D (fun hle => nm_r (nI_1 q) (ih (q + 1) n (by omega) (by omega) ?_)) (fun _ => H _ (by decide)) hx⟩))
      · intro i h1 h2
        exact hi i (by omega) h2
      · intro i h1 h2
        by_cases w : i = q
        · rw [w]; exact hle
        · exact hi i (by omega) h2
theorem ba_ylfA {m D k : Nat} {e : Nat → Nat} {aR ah al ag eb : Nat → Int32} {post : Int32 → Prop} (h3 : m ≤ 3) (hD : D ≤ 300) (hk : k < m) (hA : ∀ i, i < m → e i ≤ D)
    (he : ∀ i, i < m → eb i = nI (e i)) (H : post (nI (D - e k))) : wpY_left post (nI m, nI D, aR, ah, al, ag, eb) (nI k) := by
  unfold wpY_left
  dsimp only
  exact ⟨m + 1, ba_ylfA2 h3 hD hk hA he H m 0 (m + 1) (by omega) (by omega)⟩
theorem ba_ylfB {m D k : Nat} {e : Nat → Nat} {aR ah al ag eb : Nat → Int32} {post : Int32 → Prop} (h3 : m ≤ 3) (hD : D ≤ 300) (hk : k < m) (hb : ∀ i, e i ≤ 540)
    (hB : ¬ ∀ i, i < m → e i ≤ D) (he : ∀ i, i < m → eb i = nI (e i)) (H : ∀ r : Int32, r < 0 → post r) : wpY_left post (nI m, nI D, aR, ah, al, ag, eb) (nI k) := by
  unfold wpY_left
  dsimp only
  exact ⟨m + 1, ba_ylfB2 h3 hD hk hb hB he H m 0 (m + 1) (by omega) (by omega) (fun i hi => by omega)⟩
/-- the most that one plan leaves, machine by machine -/
def ba_lf (e : Nat → Nat) (D w : Nat) : Nat → Nat
  | 0 => w
  | k + 1 => if D - e k ≤ ba_lf e D w k then ba_lf e D w k else D - e k
theorem ba_lf_le {e : Nat → Nat} {D w : Nat} (hw : w ≤ D) : ∀ k, ba_lf e D w k ≤ D := by
  intro k
  induction k with
  | zero => exact hw
  | succ k ih => rw [ba_lf]; split <;> omega
theorem ba_lf_is (e : Nat → Nat) (D w : Nat) : ∀ k, ba_lf e D w (k + 1) = if D - ba_mn e (k + 1) ≤ w then w else D - ba_mn e (k + 1) := by
  intro k
  induction k with
  | zero => rw [ba_mn1]; rfl
  | succ k ih =>
    have hmn : ba_mn e (k + 1 + 1) = if ba_mn e (k + 1) ≤ e (k + 1) then ba_mn e (k + 1) else e (k + 1) := rfl
    rw [ba_lf, ih, hmn]
    generalize ba_mn e (k + 1) = x
    generalize e (k + 1) = y
    by_cases a : D - x ≤ w
    · rw [if_pos a]
      by_cases b : x ≤ y
      · rw [if_pos b, if_pos a, if_pos (by omega)]
      · rw [if_neg b]
    · rw [if_neg a]
      by_cases b : x ≤ y
      · rw [if_pos b, if_neg a, if_pos (by omega)]
      · rw [if_neg b]
        by_cases c : D - y ≤ D - x
        · rw [if_pos c, if_neg (by omega)]; omega
        · rw [if_neg c, if_neg (by omega)]
