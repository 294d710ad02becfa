/-! the component's own methods, each with a general post -/
theorem ba_x33 {m D : Nat} {L : Nat → Nat} {aR : Nat → Int32} {post : SX → Prop} (h1 : 1 ≤ m) (h3 : m ≤ 3) (hL : ∀ j, L j ≤ 60) :
    ∀ (j n d : Nat) (e : Nat → Nat) (ea : Nat → Int32), j ≤ 8 → j < n → d < 2 ^ 31 → (∀ k, k < m → ea k = nI (e k)) →
      (∀ ea' : Nat → Int32, (∀ k, k < m → ea' k = nI (ba_lo m L j d e k)) → post (nI m, nI D, ba_ar L, aR, ea')) →
      wX_layOut_33 post (nI m) (nI D) n (nI d) (nI j + (-1)) (ba_ar L) aR ea := by
  intro j
  induction j with
  | zero =>
    intro n d e ea _ hn hd he hp
    cases n with
    | zero => omega
    | succ n => exact br_t (by decide) (hp ea he)
  | succ j ih =>
    intro n d e ea hj hn hd he hp
    cases n with
    | zero => omega
    | succ n =>
      rw [pk_m1]
      have hin : vp_in (nI j) 8 := vp_in_nI (by omega) (by omega)
      have hl : ba_ar L (nI j).toNatClampNeg = nI (L j) := ba_arc L (by omega)
      have hlj := hL j
      have hm0 : ¬ nI m = 0 := nI_ne0 (by omega) (by omega)
      have hr : d % m < m := Nat.mod_lt _ (by omega)
      have hin3 : vp_in (nI (d % m)) 3 := vp_in_nI (by omega) (by omega)
      have hq : d / m < 2 ^ 31 := Nat.lt_of_le_of_lt (Nat.div_le_self _ _) hd
      refine br_f (nI_pos (by omega)) ⟨hin, pk_le (L j) 0 (fun hz => nm_e ?_) (fun hz => ⟨hm0, nm_r (pk_rem hd (by omega) (by omega)) ⟨hin3, hin, hin3, nm_e ⟨hm0, nm_r (pk_div hd (by omega) (by omega)) (nm_e ?_)⟩⟩⟩) hl⟩
      · refine ih n d e ea (by omega) (by omega) hd he (fun ea' h' => hp ea' ?_)
        rw [ba_lo, if_pos (show L j = 0 by omega)]; exact h'
      · refine ih n (d / m) (ba_set e (d % m) (e (d % m) + L j)) _ (by omega) (by omega) hq ?_ (fun ea' h' => hp ea' ?_)
        · intro k hk
          rw [nI_clamp (show d % m < 2 ^ 31 by omega), nI_clamp (show j < 2 ^ 31 by omega)]
          by_cases z : k = d % m
          · rw [z, pk_us, ba_set_s, he _ hr, show ba_ar L j = nI (L j) from rfl, nI_add]
          · rw [pk_un z, ba_set_n z]; exact he k hk
        · rw [ba_lo, if_neg (show ¬ L j = 0 by omega)]; exact h'
theorem ba_x2 {m D p : Nat} {L R : Nat → Nat} {post : SX → Prop} (K : ba_OK m D L R) (hp : p < 2 ^ 31)
    (H : ∀ ea' : Nat → Int32, (∀ k, k < m → ea' k = nI (ba_E m L R p k)) → post (nI m, nI D, ba_ar L, ba_ar R, ea')) :
    ∀ (t k n : Nat) (ea : Nat → Int32), k + t = m → t < n → (∀ i, i < k → ea i = nI (R i)) →
      wX_layOut_2 post (nI p) (nI m) (nI D) n (nI k) (ba_ar L) (ba_ar R) ea := by
  have h1 := K.1.1
  have h3 := K.1.2
  intro t
  induction t with
  | zero =>
    intro k n ea hk hn he
    cases n with
    | zero => omega
    | succ n =>
      refine br_t (nI_le (by omega) (by omega)) ⟨9, ?_⟩
      rw [ba_7]
      exact ba_x33 h1 h3 K.2.2.1 8 9 p R ea (by omega) (by omega) hp (fun i hi => he i (by omega)) H
  | succ t ih =>
    intro k n ea hk hn he
    cases n with
    | zero => omega
    | succ n =>
      have hin : vp_in (nI k) 3 := vp_in_nI (by omega) (by omega)
      refine br_f (nI_ge (by omega) (by omega)) ⟨hin, hin, nm_e (nm_r (nI_1 k) ?_)⟩
      refine ih (k + 1) n _ (by omega) (by omega) (fun i hi => ?_)
      rw [ba_arc R (show k < 2 ^ 31 by omega), nI_clamp (show k < 2 ^ 31 by omega)]
      by_cases z : i = k
      · rw [z, pk_us]
      · rw [pk_un z]; exact he i (by omega)
theorem ba_xlay {m D p : Nat} {L R : Nat → Nat} {post : SX → Prop} (K : ba_OK m D L R) (hp : p < 2 ^ 31) (ea : Nat → Int32)
    (H : ∀ ea' : Nat → Int32, (∀ k, k < m → ea' k = nI (ba_E m L R p k)) → post (nI m, nI D, ba_ar L, ba_ar R, ea')) :
    wpX_layOut post (nI m, nI D, ba_ar L, ba_ar R, ea) (nI p) := by
  unfold wpX_layOut
  dsimp only
  exact ⟨m + 1, ba_x2 K hp H m 0 (m + 1) ea (by omega) (by omega) (fun i hi => by omega)⟩
theorem ba_xgr9 {m : Nat} {fd : Int32} {e : Nat → Nat} {aL aR ea : Nat → Int32} {post : Int32 → Prop} (h3 : m ≤ 3) (hb : ∀ i, e i ≤ 540)
    (he : ∀ k, k < m → ea k = nI (e k)) (H : post (nI (ba_mx e m))) :
    ∀ (t k n : Nat), k + t = m → t < n → wX_greatestEnd_9 post (nI m) fd aL aR ea n (nI (ba_mx e k)) (nI k) := by
  intro t
  induction t with
  | zero =>
    intro k n hk hn
    cases n with
    | zero => omega
    | succ n =>
      have : k = m := by omega
      subst this
      exact br_t (nI_le (by omega) (by omega)) H
  | succ t ih =>
    intro k n hk hn
    cases n with
    | zero => omega
    | succ n =>
      have hin : vp_in (nI k) 3 := vp_in_nI (by omega) (by omega)
      have hx : ea (nI k).toNatClampNeg = nI (e k) := by rw [nI_clamp (by omega)]; exact he k (by omega)
      have hM : ba_mx e k ≤ 540 := ba_mx_le k (fun i _ => hb i)
      have hE := hb k
      have h := ih (k + 1) n (by omega) (by omega)
      rw [ba_mx] at h
      refine br_f (nI_ge (by omega) (by omega)) ⟨hin, pk_le (e k) (ba_mx e k) (fun hz => nm_r (nI_1 k) ?_) (fun hz => ⟨hin, nm_r hx (nm_r (nI_1 k) ?_)⟩) hx⟩
      · rw [if_pos hz] at h; exact h
      · rw [if_neg (by omega)] at h; exact h
theorem ba_xgr {m : Nat} {fd : Int32} {e : Nat → Nat} {aL aR ea : Nat → Int32} {post : Int32 → Prop} (h1 : 1 ≤ m) (h3 : m ≤ 3) (hb : ∀ i, e i ≤ 540)
    (he : ∀ k, k < m → ea k = nI (e k)) (H : post (nI (ba_mx e m))) : wpX_greatestEnd post (nI m, fd, aL, aR, ea) := by
  unfold wpX_greatestEnd
  dsimp only
  refine nm_r (e' := nI (ba_mx e 1)) ?_ ⟨m, ba_xgr9 h3 hb he H (m - 1) 1 m (by omega) (by omega)⟩
  rw [ba_mx1]; exact he 0 (by omega)
theorem ba_xmn9 {m : Nat} {fd : Int32} {e : Nat → Nat} {aL aR ea : Nat → Int32} {post : Int32 → Prop} (h3 : m ≤ 3) (hb : ∀ i, e i ≤ 540)
    (he : ∀ k, k < m → ea k = nI (e k)) (H : post (nI (ba_mn e m))) :
    ∀ (t k n : Nat), k + t = m → t < n → wX_leastEnd_9 post (nI m) fd aL aR ea n (nI (ba_mn e k)) (nI k) := by
  intro t
  induction t with
  | zero =>
    intro k n hk hn
    cases n with
    | zero => omega
    | succ n =>
      have : k = m := by omega
      subst this
      exact br_t (nI_le (by omega) (by omega)) H
  | succ t ih =>
    intro k n hk hn
    cases n with
    | zero => omega
    | succ n =>
      have hin : vp_in (nI k) 3 := vp_in_nI (by omega) (by omega)
      have hx : ea (nI k).toNatClampNeg = nI (e k) := by rw [nI_clamp (by omega)]; exact he k (by omega)
      have hM : ba_mn e k ≤ 540 := Nat.le_trans (ba_mn_0 e k) (hb 0)
      have hE := hb k
      have h := ih (k + 1) n (by omega) (by omega)
      rw [ba_mn] at h
      refine br_f (nI_ge (by omega) (by omega)) ⟨hin, pk_le (ba_mn e k) (e k) (fun hz => nm_r (nI_1 k) ?_) (fun hz => ⟨hin, nm_r hx (nm_r (nI_1 k) ?_)⟩) rfl hx⟩
      · rw [if_pos hz] at h; exact h
      · rw [if_neg (by omega)] at h; exact h
theorem ba_xmn {m : Nat} {fd : Int32} {e : Nat → Nat} {aL aR ea : Nat → Int32} {post : Int32 → Prop} (h1 : 1 ≤ m) (h3 : m ≤ 3) (hb : ∀ i, e i ≤ 540)
    (he : ∀ k, k < m → ea k = nI (e k)) (H : post (nI (ba_mn e m))) : wpX_leastEnd post (nI m, fd, aL, aR, ea) := by
  unfold wpX_leastEnd
  dsimp only
  refine nm_r (e' := nI (ba_mn e 1)) ?_ ⟨m, ba_xmn9 h3 hb he H (m - 1) 1 m (by omega) (by omega)⟩
  rw [ba_mn1]; exact he 0 (by omega)
theorem ba_xpc4 {m : Nat} {fd : Int32} {L : Nat → Nat} {aR ea : Nat → Int32} {post : Int32 → Prop} (hL : ∀ j, L j ≤ 60) (H : post (nI (ba_P m L))) :
    ∀ (t j n : Nat), j + t = 8 → t < n → wX_planCount_4 post (nI m) fd (ba_ar L) aR ea n (nI (m ^ ba_ct L j)) (nI j) := by
  intro t
  induction t with
  | zero =>
    intro j n hk hn
    cases n with
    | zero => omega
    | succ n =>
      have : j = 8 := by omega
      subst this
      exact br_t (nI_le (a := 8) (by omega) (by omega)) H
  | succ t ih =>
    intro j n hk hn
    cases n with
    | zero => omega
    | succ n =>
      have hin : vp_in (nI j) 8 := vp_in_nI (by omega) (by omega)
      have hl : ba_ar L (nI j).toNatClampNeg = nI (L j) := ba_arc L (by omega)
      have hlj := hL j
      have h := ih (j + 1) n (by omega) (by omega)
      rw [ba_ct] at h
      refine br_f (nI_ge (b := 8) (by omega) (by omega)) ⟨hin, pk_le (L j) 0 (fun hz => nm_r (nI_1 j) ?_) (fun hz => nm_r (pk_mul _ _) (nm_r (nI_1 j) ?_)) hl⟩
      · rw [if_pos (by omega)] at h; exact h
      · rw [if_neg (by omega), Nat.pow_succ] at h; exact h
theorem ba_xpc {m : Nat} {fd : Int32} {L : Nat → Nat} {aR ea : Nat → Int32} {post : Int32 → Prop} (hL : ∀ j, L j ≤ 60) (H : post (nI (ba_P m L))) :
    wpX_planCount post (nI m, fd, ba_ar L, aR, ea) := by
  unfold wpX_planCount
  dsimp only
  exact ⟨9, ba_xpc4 hL H 8 0 9 (by omega) (by omega)⟩
theorem ba_xjb4 {fm fd : Int32} {L : Nat → Nat} {aR ea : Nat → Int32} {post : Int32 → Prop} (hL : ∀ j, L j ≤ 60) (H : post (nI (ba_ct L 8))) :
    ∀ (t j n : Nat), j + t = 8 → t < n → wX_jobs_4 post fm fd (ba_ar L) aR ea n (nI (ba_ct L j)) (nI j) := by
  intro t
  induction t with
  | zero =>
    intro j n hk hn
    cases n with
    | zero => omega
    | succ n =>
      have : j = 8 := by omega
      subst this
      exact br_t (nI_le (a := 8) (by omega) (by omega)) H
  | succ t ih =>
    intro j n hk hn
    cases n with
    | zero => omega
    | succ n =>
      have hin : vp_in (nI j) 8 := vp_in_nI (by omega) (by omega)
      have hl : ba_ar L (nI j).toNatClampNeg = nI (L j) := ba_arc L (by omega)
      have hlj := hL j
      have h := ih (j + 1) n (by omega) (by omega)
      rw [ba_ct] at h
      refine br_f (nI_ge (b := 8) (by omega) (by omega)) ⟨hin, pk_le (L j) 0 (fun hz => nm_r (nI_1 j) ?_) (fun hz => nm_r (nI_1 _) (nm_r (nI_1 j) ?_)) hl⟩
      · rw [if_pos (by omega)] at h; exact h
      · rw [if_neg (by omega)] at h; exact h
theorem ba_xjb {fm fd : Int32} {L : Nat → Nat} {aR ea : Nat → Int32} {post : Int32 → Prop} (hL : ∀ j, L j ≤ 60) (H : post (nI (ba_ct L 8))) :
    wpX_jobs post (fm, fd, ba_ar L, aR, ea) := by
  unfold wpX_jobs
  dsimp only
  exact ⟨9, ba_xjb4 hL H 8 0 9 (by omega) (by omega)⟩
theorem ba_xlf2 {fm fd : Int32} {L : Nat → Nat} {aR ea : Nat → Int32} {post : Int32 → Prop} {f : Nat} (hL : ∀ j, L j ≤ 60) (hf : f ≤ 8) (hz : f < 8 → L f = 0)
    (hb : ∀ i, i < f → ¬ L i = 0) (H : post (nI f)) :
    ∀ (t j n : Nat), j + t = f → t < n → wX_leastFreeNumber_2 post fm fd (ba_ar L) aR ea n (nI j) := by
  intro t
  induction t with
  | zero =>
    intro j n hk hn
    cases n with
    | zero => omega
    | succ n =>
      have : j = f := by omega
      subst this
      by_cases e : j = 8
      · subst e
        exact br_t (nI_le (a := 8) (by omega) (by omega)) H
      · have hin : vp_in (nI j) 8 := vp_in_nI (by omega) (by omega)
        have hl : ba_ar L (nI j).toNatClampNeg = 0 := by rw [ba_arc L (by omega), hz (by omega)]; rfl
        exact br_f (nI_ge (b := 8) (by omega) (by omega)) ⟨hin, br_t hl H⟩
  | succ t ih =>
    intro j n hk hn
    cases n with
    | zero => omega
    | succ n =>
      have hin : vp_in (nI j) 8 := vp_in_nI (by omega) (by omega)
      have hlj := hL j
      have hnz := hb j (by omega)
      have hl : ¬ ba_ar L (nI j).toNatClampNeg = 0 := by rw [ba_arc L (by omega)]; exact nI_ne0 (by omega) (by omega)
      exact br_f (nI_ge (b := 8) (by omega) (by omega)) ⟨hin, br_f hl (nm_r (nI_1 j) (ih (j + 1) n (by omega) (by omega)))⟩
theorem ba_xlf {fm fd : Int32} {L : Nat → Nat} {aR ea : Nat → Int32} {post : Int32 → Prop} {f : Nat} (hL : ∀ j, L j ≤ 60) (hf : f ≤ 8) (hz : f < 8 → L f = 0)
    (hb : ∀ i, i < f → ¬ L i = 0) (H : post (nI f)) : wpX_leastFreeNumber post (fm, fd, ba_ar L, aR, ea) := by
  unfold wpX_leastFreeNumber
  dsimp only
  exact ⟨f + 1, ba_xlf2 hL hf hz hb H f 0 (f + 1) (by omega) (by omega)⟩
/-- what clamp answers -/
def ba_cl (v : Int32) (c : Nat) : Nat := if v < 0 then 0 else if v ≤ nI c then v.toNatClampNeg else c
theorem ba_cl_le (v : Int32) {c : Nat} (hc : c < 2 ^ 31) : ba_cl v c ≤ c := by
  unfold ba_cl
  by_cases h : v < 0
  · rw [if_pos h]; exact Nat.zero_le _
  · rw [if_neg h]
    by_cases h2 : v ≤ nI c
    · rw [if_pos h2]
      obtain ⟨j, hj, rfl⟩ := nI_of h
      rw [nI_clamp hj]
      exact (nI_leI hj hc).mp h2
    · rw [if_neg h2]; exact Nat.le_refl _
theorem ba_xcl {post : Int32 → Prop} (v : Int32) (c : Nat) (H : post (nI (ba_cl v c))) : wpX_clamp post v 0 (nI c) := by
  unfold ba_cl at H
  by_cases h : v < 0
  · rw [if_pos h] at H
    exact br_f (Int32.not_le.mpr h) H
  · rw [if_neg h] at H
    by_cases h2 : v ≤ nI c
    · rw [if_pos h2] at H
      obtain ⟨j, hj, rfl⟩ := nI_of h
      rw [nI_clamp hj] at H
      exact br_t (Int32.not_lt.mp h) (br_t h2 H)
    · rw [if_neg h2] at H
      exact br_t (Int32.not_lt.mp h) (br_f h2 H)
