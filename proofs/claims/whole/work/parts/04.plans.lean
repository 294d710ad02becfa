/-! the walks over all plans -/
theorem ba_xch20 {m D : Nat} {L R : Nat → Nat} {post : Int32 → SX → Prop} (K : ba_OK m D L R)
    (H : ∀ ea' : Nat → Int32, post (nI (ba_ch (ba_G m L R) (ba_P m L - 1)).1) (nI m, nI D, ba_ar L, ba_ar R, ea')) :
    ∀ (t q n : Nat) (ea : Nat → Int32), q + 1 + t = ba_P m L → t < n →
      wX_chosenPlan_20 post (nI (ba_P m L)) n (nI (ba_ch (ba_G m L R) q).1) (nI (ba_ch (ba_G m L R) q).2) (nI (q + 1)) (nI m) (nI D) (ba_ar L) (ba_ar R) ea := by
  have hP := ba_P_in K
  intro t
  induction t with
  | zero =>
    intro q n ea hq hn
    cases n with
    | zero => omega
    | succ n =>
      have hh := H ea
      rw [show ba_P m L - 1 = q by omega] at hh
      exact br_t (nI_le (by omega) (by omega)) hh
  | succ t ih =>
    intro q n ea hq hn
    cases n with
    | zero => omega
    | succ n =>
      have hc := ba_ch_is (ba_G m L R) q
      have hb : (ba_ch (ba_G m L R) q).2 ≤ 540 := by rw [hc.2]; exact ba_G_le K _
      have hg : ba_G m L R (q + 1) ≤ 540 := ba_G_le K _
      refine br_f (nI_ge (by omega) (by omega)) (ba_xlay K (by omega) ea (fun ea' he => ba_xgr K.1.1 K.1.2 (ba_E_le K (q + 1)) he ?_))
      have h := ih (q + 1) n ea' (by omega) (by omega)
      rw [ba_ch] at h
      refine pk_le (ba_ch (ba_G m L R) q).2 (ba_G m L R (q + 1)) (fun hz => nm_r (nI_1 (q + 1)) ?_) (fun hz => nm_r (nI_1 (q + 1)) ?_)
      · rw [if_pos hz] at h; exact h
      · rw [if_neg (by omega)] at h; exact h
theorem ba_xch {m D : Nat} {L R : Nat → Nat} {post : Int32 → SX → Prop} (K : ba_OK m D L R) (ea : Nat → Int32)
    (H : ∀ ea' : Nat → Int32, post (nI (ba_ch (ba_G m L R) (ba_P m L - 1)).1) (nI m, nI D, ba_ar L, ba_ar R, ea')) :
    wpX_chosenPlan post (nI m, nI D, ba_ar L, ba_ar R, ea) := by
  have hP := ba_P_in K
  unfold wpX_chosenPlan
  dsimp only
  refine ba_xpc K.2.2.1 (ba_xlay (p := 0) K (by omega) ea (fun ea' he => ba_xgr K.1.1 K.1.2 (ba_E_le K 0) he ?_))
  exact ⟨ba_P m L, ba_xch20 K H (ba_P m L - 1) 0 (ba_P m L) ea' (by omega) (by omega)⟩
theorem ba_ych13 {m D : Nat} {L R : Nat → Nat} {al : Nat → Int32} {post : Int32 → SY → Prop} (K : ba_OK m D L R) (hal : ∀ j, ¬ L j = 0 → al j = nI (L j))
    (H : ∀ ag' eb' : Nat → Int32, (∀ k, k < m → eb' k = nI (ba_E m L R (ba_ch (ba_G m L R) (ba_P m L - 1)).1 k)) →
      (∀ i, i < 8 → ¬ L i = 0 → ag' i = nI (ba_sd m L i 8 (ba_ch (ba_G m L R) (ba_P m L - 1)).1 % m)) →
      post (nI (ba_ch (ba_G m L R) (ba_P m L - 1)).2) (nI m, nI D, ba_ar R, ba_hd L, al, ag', eb')) :
    ∀ (t q n : Nat) (ag eb : Nat → Int32), q + 1 + t = ba_P m L → t < n →
      wY_choose_13 post (nI (ba_P m L)) n (nI (ba_ch (ba_G m L R) q).1) (nI (ba_ch (ba_G m L R) q).2) (nI (q + 1)) (nI m) (nI D) (ba_ar R) (ba_hd L) al ag eb := by
  have hP := ba_P_in K
  intro t
  induction t with
  | zero =>
    intro q n ag eb hq hn
    cases n with
    | zero => omega
    | succ n =>
      have hh := H
      rw [show ba_P m L - 1 = q by omega] at hh
      have hc := (ba_ch_is (ba_G m L R) q).1
      exact br_t (nI_le (by omega) (by omega)) (ba_ylay K hal (by omega) ag eb hh)
  | succ t ih =>
    intro q n ag eb hq hn
    cases n with
    | zero => omega
    | succ n =>
      have hc := ba_ch_is (ba_G m L R) q
      have hb : (ba_ch (ba_G m L R) q).2 ≤ 540 := by rw [hc.2]; exact ba_G_le K _
      have hg : ba_G m L R (q + 1) ≤ 540 := ba_G_le K _
      refine br_f (nI_ge (by omega) (by omega)) (ba_ylay K hal (by omega) ag eb (fun ag' eb' he _ => ba_ygr K.1.2 (ba_E_le K (q + 1)) he ?_))
      have h := ih (q + 1) n ag' eb' (by omega) (by omega)
      rw [ba_ch] at h
      refine pk_le (ba_ch (ba_G m L R) q).2 (ba_G m L R (q + 1)) (fun hz => nm_r (nI_1 (q + 1)) ?_) (fun hz => nm_r (nI_1 (q + 1)) ?_)
      · rw [if_pos hz] at h; exact h
      · rw [if_neg (by omega)] at h; exact h
theorem ba_ych {m D : Nat} {L R : Nat → Nat} {al : Nat → Int32} {post : Int32 → SY → Prop} (K : ba_OK m D L R) (hal : ∀ j, ¬ L j = 0 → al j = nI (L j)) (ag eb : Nat → Int32)
    (H : ∀ ag' eb' : Nat → Int32, (∀ k, k < m → eb' k = nI (ba_E m L R (ba_ch (ba_G m L R) (ba_P m L - 1)).1 k)) →
      (∀ i, i < 8 → ¬ L i = 0 → ag' i = nI (ba_sd m L i 8 (ba_ch (ba_G m L R) (ba_P m L - 1)).1 % m)) →
      post (nI (ba_ch (ba_G m L R) (ba_P m L - 1)).2) (nI m, nI D, ba_ar R, ba_hd L, al, ag', eb')) :
    wpY_choose post (nI m, nI D, ba_ar R, ba_hd L, al, ag, eb) := by
  have hP := ba_P_in K
  unfold wpY_choose
  dsimp only
  refine ba_ypl ⟨ba_P m L + 1, ?_⟩
  refine br_f (nI_ge (a := 0) (by omega) (by omega)) (ba_ylay (p := 0) K hal (by omega) ag eb (fun ag' eb' he _ => ba_ygr K.1.2 (ba_E_le K 0) he ?_))
  have hg : ba_G m L R 0 ≤ 540 := ba_G_le K _
  refine br_f (nI_ge (a := ba_G m L R 0) (b := 100000) (by omega) (by omega)) (nm_r (nI_1 0) ?_)
  exact ba_ych13 K hal H (ba_P m L - 1) 0 (ba_P m L) ag' eb' (by omega) (by omega)
/-- the room's answer -/
def ba_rr (m D : Nat) (L R : Nat → Nat) : Nat := if ba_rm (ba_G m L R) (ba_M m L R) D (ba_P m L) ≤ 60 then ba_rm (ba_G m L R) (ba_M m L R) D (ba_P m L) else 60
theorem ba_rr_le (m D : Nat) (L R : Nat → Nat) : ba_rr m D L R ≤ 60 := by
  unfold ba_rr; split <;> omega
theorem ba_xrm9 {m D : Nat} {L R : Nat → Nat} {post : Int32 → SX → Prop} (K : ba_OK m D L R)
    (H : ∀ ea' : Nat → Int32, post (nI (ba_rr m D L R)) (nI m, nI D, ba_ar L, ba_ar R, ea')) :
    ∀ (t p n : Nat) (ea : Nat → Int32), p + t = ba_P m L → t < n →
      wX_room_9 post (nI (ba_P m L)) n (nI (ba_rm (ba_G m L R) (ba_M m L R) D p)) (nI p) (nI m) (nI D) (ba_ar L) (ba_ar R) ea := by
  have hP := ba_P_in K
  have hD := K.2.1
  intro t
  induction t with
  | zero =>
    intro p n ea hp hn
    cases n with
    | zero => omega
    | succ n =>
      have : p = ba_P m L := by omega
      subst this
      have hr := ba_rm_le (ba_G m L R) (ba_M m L R) D (ba_P m L)
      refine br_t (nI_le (by omega) (by omega)) (br_t (nI_pos' (by omega)) (pk_le (ba_rm (ba_G m L R) (ba_M m L R) D (ba_P m L)) 60 (fun hz => ?_) (fun hz => ?_)))
      · have hh := H ea
        rw [ba_rr, if_pos hz] at hh; exact hh
      · have hh := H ea
        rw [ba_rr, if_neg (by omega)] at hh; exact hh
  | succ t ih =>
    intro p n ea hp hn
    cases n with
    | zero => omega
    | succ n =>
      have hg : ba_G m L R p ≤ 540 := ba_G_le K _
      have hM := ba_M_le K p
      have hr := ba_rm_le (ba_G m L R) (ba_M m L R) D p
      refine br_f (nI_ge (by omega) (by omega)) (ba_xlay K (by omega) ea (fun ea' he => ba_xgr K.1.1 K.1.2 (ba_E_le K p) he ?_))
      have h := ih (p + 1) n ea' (by omega) (by omega)
      rw [ba_rm] at h
      refine pk_lt D (ba_G m L R p) (fun hz => nm_r (nI_1 p) ?_) (fun hz => ba_xmn K.1.1 K.1.2 (ba_E_le K p) he (nm_r (e' := nI (D - ba_M m L R p)) (pk_sub (Nat.le_trans hM hz)) ?_))
      · rw [if_pos hz] at h; exact h
      · rw [if_neg (by omega)] at h
        refine pk_le (D - ba_M m L R p) (ba_rm (ba_G m L R) (ba_M m L R) D p) (fun hy => nm_r (nI_1 p) ?_) (fun hy => nm_r (nI_1 p) ?_)
        · rw [if_pos hy] at h; exact h
        · rw [if_neg (by omega)] at h; exact h
theorem ba_xrm {m D : Nat} {L R : Nat → Nat} {post : Int32 → SX → Prop} (K : ba_OK m D L R) (ea : Nat → Int32)
    (H : ∀ ea' : Nat → Int32, post (nI (ba_rr m D L R)) (nI m, nI D, ba_ar L, ba_ar R, ea')) :
    wpX_room post (nI m, nI D, ba_ar L, ba_ar R, ea) := by
  unfold wpX_room
  dsimp only
  exact ba_xpc K.2.2.1 ⟨ba_P m L + 1, ba_xrm9 K H (ba_P m L) 0 (ba_P m L + 1) ea (by omega) (by omega)⟩
theorem ba_y22A {m D p : Nat} {e : Nat → Nat} {aR ah al ag eb : Nat → Int32} {x2 : Int32} {post : Int32 → SY → Prop}
    {J : Int32 → Int32 → Int32 → Int32 → (Nat → Int32) → (Nat → Int32) → (Nat → Int32) → (Nat → Int32) → (Nat → Int32) → Prop} {w : Nat}
    (h3 : m ≤ 3) (hD : D ≤ 300) (hw : w ≤ D) (hA : ∀ i, i < m → e i ≤ D) (he : ∀ i, i < m → eb i = nI (e i))
    (H : J (nI (ba_lf e D w m)) (nI (p + 1)) (nI m) (nI D) aR ah al ag eb) :
    ∀ (t k n : Nat), k + t = m → t < n → wY_most_22 post J x2 (nI p) (nI m) (nI D) aR ah al ag eb n (nI (ba_lf e D w k)) (nI k) := by
  intro t
  induction t with
  | zero =>
    intro k n hk hn
    cases n with
    | zero => omega
    | succ n =>
      have : k = m := by omega
      subst this
      exact br_t (nI_le (by omega) (by omega)) (nm_r (nI_1 p) H)
  | succ t ih =>
    intro k n hk hn
    cases n with
    | zero => omega
    | succ n =>
      have h := ih (k + 1) n (by omega) (by omega)
      rw [ba_lf] at h
      have hl := ba_lf_le (e := e) hw k
      refine br_f (nI_ge (by omega) (by omega)) (ba_ylfA h3 hD (by omega) hA he ?_)
      refine pk_le (D - e k) (ba_lf e D w k) (fun hy => nm_r (nI_1 k) ?_) (fun hy => nm_r (nI_1 k) ?_)
      · rw [if_pos hy] at h; exact h
      · rw [if_neg (by omega)] at h; exact h
theorem ba_y22B {m D p : Nat} {e : Nat → Nat} {aR ah al ag eb : Nat → Int32} {x2 : Int32} {post : Int32 → SY → Prop}
    {J : Int32 → Int32 → Int32 → Int32 → (Nat → Int32) → (Nat → Int32) → (Nat → Int32) → (Nat → Int32) → (Nat → Int32) → Prop} {w : Nat}
    (h3 : m ≤ 3) (hD : D ≤ 300) (hw : w ≤ D) (hb : ∀ i, e i ≤ 540) (hB : ¬ ∀ i, i < m → e i ≤ D) (he : ∀ i, i < m → eb i = nI (e i))
    (H : J (nI w) (nI (p + 1)) (nI m) (nI D) aR ah al ag eb) :
    ∀ (t k n : Nat), k + t = m → t < n → wY_most_22 post J x2 (nI p) (nI m) (nI D) aR ah al ag eb n (nI w) (nI k) := by
  intro t
  induction t with
  | zero =>
    intro k n hk hn
    cases n with
    | zero => omega
    | succ n => exact br_t (nI_le (by omega) (by omega)) (nm_r (nI_1 p) H)
  | succ t ih =>
    intro k n hk hn
    cases n with
    | zero => omega
    | succ n =>
      have h := ih (k + 1) n (by omega) (by omega)
      refine br_f (nI_ge (by omega) (by omega)) (ba_ylfB h3 hD (by omega) hb hB he (fun r hr => ?_))
      exact br_t (Int32.le_trans (Int32.le_of_lt hr) (nI_pos' (by omega))) (nm_r (nI_1 k) h)
theorem ba_ymo9 {m D : Nat} {L R : Nat → Nat} {al : Nat → Int32} {post : Int32 → SY → Prop} (K : ba_OK m D L R) (hal : ∀ j, ¬ L j = 0 → al j = nI (L j))
    (H : ∀ ag' eb' : Nat → Int32, post (nI (ba_rr m D L R)) (nI m, nI D, ba_ar R, ba_hd L, al, ag', eb')) :
    ∀ (t p n : Nat) (ag eb : Nat → Int32), p + t = ba_P m L → t < n →
      wY_most_9 post (nI (ba_P m L)) n (nI (ba_rm (ba_G m L R) (ba_M m L R) D p)) (nI p) (nI m) (nI D) (ba_ar R) (ba_hd L) al ag eb := by
  have hP := ba_P_in K
  have hD := K.2.1
  have h1 := K.1.1
  intro t
  induction t with
  | zero =>
    intro p n ag eb hp hn
    cases n with
    | zero => omega
    | succ n =>
      have : p = ba_P m L := by omega
      subst this
      have hr := ba_rm_le (ba_G m L R) (ba_M m L R) D (ba_P m L)
      refine br_t (nI_le (by omega) (by omega)) (pk_le (ba_rm (ba_G m L R) (ba_M m L R) D (ba_P m L)) 60 (fun hz => ?_) (fun hz => ?_))
      · have hh := H ag eb
        rw [ba_rr, if_pos hz] at hh; exact hh
      · have hh := H ag eb
        rw [ba_rr, if_neg (by omega)] at hh; exact hh
  | succ t ih =>
    intro p n ag eb hp hn
    cases n with
    | zero => omega
    | succ n =>
      have hr := ba_rm_le (ba_G m L R) (ba_M m L R) D p
      refine br_f (nI_ge (by omega) (by omega)) (ba_ylay K hal (by omega) ag eb (fun ag' eb' he _ => ⟨m + 1, ?_⟩))
      have h := ih (p + 1) n ag' eb' (by omega) (by omega)
      rw [ba_rm] at h
      by_cases hz : D < ba_G m L R p
      · rw [if_pos hz] at h
        refine ba_y22B K.1.2 hD hr (ba_E_le K p) (fun hA => ?_) he h m 0 (m + 1) (by omega) (by omega)
        have : ba_G m L R p ≤ D := ba_mx_le m hA
        omega
      · rw [if_neg hz] at h
        refine ba_y22A K.1.2 hD hr (fun i hi => ?_) he ?_ m 0 (m + 1) (by omega) (by omega)
        · have : ba_E m L R p i ≤ ba_G m L R p := ba_mx_ge _ m i hi
          omega
        · have hm := ba_lf_is (ba_E m L R p) D (ba_rm (ba_G m L R) (ba_M m L R) D p) (m - 1)
          rw [show m - 1 + 1 = m by omega] at hm
          rw [hm]
          exact h
theorem ba_ymo {m D : Nat} {L R : Nat → Nat} {al : Nat → Int32} {post : Int32 → SY → Prop} (K : ba_OK m D L R) (hal : ∀ j, ¬ L j = 0 → al j = nI (L j)) (ag eb : Nat → Int32)
    (H : ∀ ag' eb' : Nat → Int32, post (nI (ba_rr m D L R)) (nI m, nI D, ba_ar R, ba_hd L, al, ag', eb')) :
    wpY_most post (nI m, nI D, ba_ar R, ba_hd L, al, ag, eb) := by
  unfold wpY_most
  dsimp only
  exact ba_ypl ⟨ba_P m L + 1, ba_ymo9 K hal H (ba_P m L) 0 (ba_P m L + 1) ag eb (by omega) (by omega)⟩
