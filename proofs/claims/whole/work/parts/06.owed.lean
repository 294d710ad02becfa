theorem i_up {k : Nat} {u : SX} {v : SY} (h : i_Rel k u v) : i_Rel (k + 3) u v := h
theorem ba_hd00 : ba_hd (fun _ => 0) = fun _ => 0 := by
  funext j; exact if_pos rfl
theorem ba_ini {m D : Nat} (h1 : 1 ≤ m) (h3 : m ≤ 3) (hD : D ≤ 300) : i_Rel 2 (nI m, nI D, (fun _ => 0), (fun _ => 0), (fun _ => 0)) (nI m, nI D, (fun _ => 0), (fun _ => 0), (fun _ => 0), (fun _ => 0), (fun _ => 0)) :=
  ⟨m, D, fun _ => 0, fun _ => 0, fun _ => 0, fun _ => 0, fun _ => 0, fun _ => 0, rfl, by rw [ba_hd00]; rfl, ⟨⟨h1, h3⟩, hD, fun _ => Nat.zero_le _, fun _ => Nat.zero_le _⟩, fun _ h => absurd rfl h⟩
theorem ba_y62 {m : Nat} (h1 : 1 ≤ m) (h3 : m ≤ 3) (v : Int32) : wpX_clamp (fun r_2 => wY_init_62 (fun w => i_Rel 2 (nI m, r_2, (fun _ => 0), (fun _ => 0), (fun _ => 0)) w) v (nI m) 0 0 (fun _ => 0) (fun _ => 0) (fun _ => 0) (fun _ => 0) (fun _ => 0)) v 0 (nI 300) := by
  have hD : ba_cl v 300 ≤ 300 := ba_cl_le v (by decide)
  refine ba_xcl v 300 ?_
  unfold wY_init_62
  exact ba_ycl (P := fun d => i_Rel 2 (nI m, nI (ba_cl v 300), (fun _ => 0), (fun _ => 0), (fun _ => 0)) (nI m, d, (fun _ => 0), (fun _ => 0), (fun _ => 0), (fun _ => 0), (fun _ => 0))) v 300 (ba_ini h1 h3 hD)
theorem i_vc0 (k0 : Int32) (k1 : Int32) : wpX_init (fun u => wpY_init (fun v => i_Rel 2 u v) k0 k1) k0 k1 := by
  unfold wpX_init wpY_init
  by_cases a : 1 ≤ k0
  · by_cases b : k0 ≤ 3
    · obtain ⟨m, hm, rfl⟩ := nI_of2 (x := k0) (M := 3) (n := 3) (by decide) (Int32.not_lt.mpr (Int32.le_trans (by decide) a)) b
      have h1 : 1 ≤ m := (nI_leI (a := 1) (by decide) (by omega)).mp a
      refine br_t a (br_t b ?_)
      have h := ba_y62 h1 hm k1
      unfold wpX_clamp at h ⊢
      exact ⟨fun c => ⟨fun d => br_t a (br_t b ((h.1 c).1 d)), fun d => br_t a (br_t b ((h.1 c).2 d))⟩, fun c => br_t a (br_t b (h.2 c))⟩
    · refine br_t a (br_f b ?_)
      have h := ba_y62 (m := 3) (by decide) (by decide) k1
      unfold wpX_clamp at h ⊢
      exact ⟨fun c => ⟨fun d => br_t a (br_f b ((h.1 c).1 d)), fun d => br_t a (br_f b ((h.1 c).2 d))⟩, fun c => br_t a (br_f b (h.2 c))⟩
  · refine br_f a ?_
    have h := ba_y62 (m := 1) (by decide) (by decide) k1
    unfold wpX_clamp at h ⊢
    exact ⟨fun c => ⟨fun d => br_f a ((h.1 c).1 d), fun d => br_f a ((h.1 c).2 d)⟩, fun c => br_f a (h.2 c)⟩
theorem i_vc_offer {k : Nat} {u : SX} {v : SY} (I : i_Rel k u v) (hk : k + 3 ≤ 1538) (v1 : Int32) : wpX_offer (fun r u' => wpY_offer (fun r' v' => r' = r ∧ i_Rel (k + 3) u' v') v v1) u v1 := by
  obtain ⟨m, D, L, R, ea, al, ag, eb, rfl, rfl, K, hal⟩ := I
  have hL := K.2.2.1
  unfold wpX_offer wpY_offer
  dsimp only
  by_cases a : v1 < 1
  · exact br_t a (br_t a ⟨rfl, ba_rel K hal⟩)
  · by_cases b : v1 ≤ 60
    · obtain ⟨l, hl, rfl⟩ := nI_of2 (x := v1) (M := 60) (n := 60) (by decide) (fun h => a (Int32.lt_trans h (by decide))) b
      have h1 : 1 ≤ l := Nat.le_of_not_lt (fun h => a (nI_lt (b := 1) h (by decide)))
      rcases ba_first L 8 with h | ⟨f, hf, z, h⟩
      · refine br_f a (br_t b (ba_xlf (f := 8) hL (by decide) (fun y => by omega) h (br_t rfl (br_f a (br_t b (ba_yjb (br_t ?_ ⟨rfl, ba_rel K hal⟩)))))))
        rw [ba_ct_all 8 h]; rfl
      · have hct := ba_ct_lt z 8 hf
        have hrr := ba_rr_le m D L R
        have hne : ¬ nI f = 8 := fun e => by have := (nI_eq (b := 8) (by omega) (by decide)).mp e; omega
        have hce : ¬ nI (ba_ct L 8) = 8 := fun e => by have := (nI_eq (b := 8) (by omega) (by decide)).mp e; omega
        refine br_f a (br_t b (ba_xlf (f := f) hL (by omega) (fun _ => z) h (br_f hne (ba_xrm K ea (fun ea' => pk_le l (ba_rr m D L R) (fun hle => ⟨vp_in_nI hf (by decide), nm_e (br_f a (br_t b (ba_yjb (br_f hce (ba_ymo K hal ag eb (fun ag' eb' => br_t (nI_le hle (by omega)) ⟨f + 1, ba_yof38 hf z h ⟨rfl, ?_⟩ f 0 (f + 1) (by omega) (by omega)⟩))))))⟩) (fun hgt => br_f a (br_t b (ba_yjb (br_f hce (ba_ymo K hal ag eb (fun ag' eb' => br_f (nI_ge hgt (by omega)) ⟨rfl, ba_rel K hal⟩)))))))))))
        · dsimp only
          rw [nI_clamp (by omega), ba_upd, ba_hd_s (x := l) (by omega)]
          refine ba_rel ⟨K.1, K.2.1, ba_set_le hL hl, K.2.2.2⟩ (fun j hj => ?_)
          by_cases y : j = f
          · rw [y, pk_us, ba_set_s]
          · rw [pk_un y, ba_set_n y]
            rw [ba_set_n y] at hj
            exact hal j hj
    · exact br_f a (br_f b (br_f a (br_f b ⟨rfl, ba_rel K hal⟩)))
theorem i_vc_withdraw {k : Nat} {u : SX} {v : SY} (I : i_Rel k u v) (hk : k + 3 ≤ 1538) (v1 : Int32) : wpX_withdraw (fun r u' => wpY_withdraw (fun r' v' => r' = r ∧ i_Rel (k + 3) u' v') v v1) u v1 := by
  obtain ⟨m, D, L, R, ea, al, ag, eb, rfl, rfl, K, hal⟩ := I
  have hL := K.2.2.1
  unfold wpX_withdraw wpY_withdraw
  dsimp only
  by_cases hh : ba_H L v1
  · obtain ⟨j, hj, rfl, z⟩ := hh
    have hin : vp_in (nI j) 8 := vp_in_nI hj (by decide)
    have hc : (nI j).toNatClampNeg = j := nI_clamp (by omega)
    refine ba_xhd_y hL hj z (br_f (by decide) ⟨hin, nm_r (ba_arc L (by omega)) ⟨hin, nm_e (ba_yhd_y hj z ⟨hin, nm_e ⟨hin, ?_, ?_⟩⟩)⟩⟩)
    · rw [hc]; exact hal j z
    · rw [hc, ba_b0, ba_hd_0, show upd (ba_ar L) j 0 = ba_ar (ba_set L j 0) from ba_upd L j 0]
      refine ba_rel ⟨K.1, K.2.1, ba_set_le hL (Nat.zero_le _), K.2.2.2⟩ (fun i hi => ?_)
      by_cases y : i = j
      · rw [y, ba_set_s] at hi; exact absurd rfl hi
      · rw [ba_set_n y] at hi ⊢; exact hal i hi
  · exact ba_xhd_n hL hh (br_t rfl (ba_yhd_n hh ⟨rfl, ba_rel K hal⟩))
theorem i_vc_ready {k : Nat} {u : SX} {v : SY} (I : i_Rel k u v) (hk : k + 3 ≤ 1538) (v1 : Int32) (v2 : Int32) : wpX_ready (fun r u' => wpY_ready (fun r' v' => r' = r ∧ i_Rel (k + 3) u' v') v v1 v2) u v1 v2 := by
  obtain ⟨m, D, L, R, ea, al, ag, eb, rfl, rfl, K, hal⟩ := I
  have h3 := K.1.2
  unfold wpX_ready wpY_ready
  dsimp only
  by_cases hh : ba_I m v1
  · obtain ⟨j, hj, rfl⟩ := hh
    have hin : vp_in (nI j) 3 := vp_in_nI (by omega) (by decide)
    have hc : (nI j).toNatClampNeg = j := nI_clamp (by omega)
    have hcl : ba_cl v2 60 ≤ 60 := ba_cl_le v2 (by decide)
    refine ba_xmc_y h3 hj (br_f (by decide) ⟨hin, nm_e (ba_xcl v2 60 ⟨hin, nm_e (ba_ymc_y h3 hj ⟨hin, nm_e ?_⟩)⟩)⟩)
    refine ba_ycl (P := fun x => vp_in (nI j) 3 ∧ ∀ a : Nat → Int32, a = upd (ba_ar R) (nI j).toNatClampNeg x → ba_ar R (nI j).toNatClampNeg = ba_ar R (nI j).toNatClampNeg ∧ i_Rel (k + 3) (nI m, nI D, ba_ar L, upd (ba_ar R) (nI j).toNatClampNeg (nI (ba_cl v2 60)), ea) (nI m, nI D, a, ba_hd L, al, ag, eb)) v2 60 ?_
    refine ⟨hin, nm_e ⟨rfl, ?_⟩⟩
    rw [hc, ba_upd]
    exact ba_rel ⟨K.1, K.2.1, K.2.2.1, ba_set_le K.2.2.2 hcl⟩ hal
  · exact ba_xmc_n h3 hh (br_t rfl (ba_ymc_n h3 hh ⟨rfl, ba_rel K hal⟩))
theorem i_vc_end {k : Nat} {u : SX} {v : SY} (I : i_Rel k u v) (hk : k + 3 ≤ 1538) : wpX_end (fun r u' => wpY_end (fun r' v' => r' = r ∧ i_Rel (k + 3) u' v') v) u := by
  obtain ⟨m, D, L, R, ea, al, ag, eb, rfl, rfl, K, hal⟩ := I
  have hP := ba_P_in K
  have hc := ba_ch_is (ba_G m L R) (ba_P m L - 1)
  unfold wpX_end wpY_end
  dsimp only
  refine ba_xch K ea (fun ea' => ba_xlay K (by omega) ea' (fun ea'' he => ba_xgr K.1.1 K.1.2 (ba_E_le K _) he (ba_ych K hal ag eb (fun ag' eb' _ _ => ⟨?_, ba_rel K hal⟩))))
  rw [hc.2]; rfl
theorem i_vc_machineOf {k : Nat} {u : SX} {v : SY} (I : i_Rel k u v) (hk : k + 3 ≤ 1538) (v1 : Int32) : wpX_machineOf (fun r u' => wpY_machineOf (fun r' v' => r' = r ∧ i_Rel (k + 3) u' v') v v1) u v1 := by
  obtain ⟨m, D, L, R, ea, al, ag, eb, rfl, rfl, K, hal⟩ := I
  have hL := K.2.2.1
  have hP := ba_P_in K
  have hc := ba_ch_is (ba_G m L R) (ba_P m L - 1)
  unfold wpX_machineOf wpY_machineOf
  dsimp only
  by_cases hh : ba_H L v1
  · obtain ⟨j, hj, rfl, z⟩ := hh
    have hin : vp_in (nI j) 8 := vp_in_nI hj (by decide)
    refine ba_xhd_y hL hj z (br_f (by decide) (ba_xch K ea (fun ea' => ⟨9, ?_⟩)))
    rw [ba_7]
    refine ba_xmo19 K.1.1 K.1.2 hL 8 9 _ hj (by decide) (by decide) (by omega) (ba_yhd_y hj z (ba_ych K hal ag eb (fun ag' eb' _ hg => ⟨hin, ?_, ba_rel K hal⟩)))
    rw [nI_clamp (by omega)]; exact hg j hj z
  · exact ba_xhd_n hL hh (br_t rfl (ba_yhd_n hh ⟨rfl, ba_rel K hal⟩))
theorem i_vc_endOf {k : Nat} {u : SX} {v : SY} (I : i_Rel k u v) (hk : k + 3 ≤ 1538) (v1 : Int32) : wpX_endOf (fun r u' => wpY_endOf (fun r' v' => r' = r ∧ i_Rel (k + 3) u' v') v v1) u v1 := by
  obtain ⟨m, D, L, R, ea, al, ag, eb, rfl, rfl, K, hal⟩ := I
  have h3 := K.1.2
  have hP := ba_P_in K
  have hc := ba_ch_is (ba_G m L R) (ba_P m L - 1)
  unfold wpX_endOf wpY_endOf
  dsimp only
  by_cases hh : ba_I m v1
  · obtain ⟨j, hj, rfl⟩ := hh
    have hin : vp_in (nI j) 3 := vp_in_nI (by omega) (by decide)
    refine ba_xmc_y h3 hj (br_f (by decide) (ba_xch K ea (fun ea' => ba_xlay K (by omega) ea' (fun ea'' he => ⟨hin, ba_ymc_y h3 hj (ba_ych K hal ag eb (fun ag' eb' hb _ => ⟨hin, ?_, ba_rel K hal⟩))⟩))))
    dsimp only
    rw [nI_clamp (by omega), hb j hj, he j hj]
  · exact ba_xmc_n h3 hh (br_t rfl (ba_ymc_n h3 hh ⟨rfl, ba_rel K hal⟩))
theorem i_vc_room {k : Nat} {u : SX} {v : SY} (I : i_Rel k u v) (hk : k + 3 ≤ 1538) : wpX_room (fun r u' => wpY_room (fun r' v' => r' = r ∧ i_Rel (k + 3) u' v') v) u := by
  obtain ⟨m, D, L, R, ea, al, ag, eb, rfl, rfl, K, hal⟩ := I
  refine ba_xrm K ea (fun ea' => ?_)
  unfold wpY_room
  dsimp only
  exact ba_ymo K hal ag eb (fun ag' eb' => ⟨rfl, ba_rel K hal⟩)
theorem i_vc_jobs {k : Nat} {u : SX} {v : SY} (I : i_Rel k u v) (hk : k + 3 ≤ 1538) : wpX_jobs (fun r => wpY_jobs (fun r' => r' = r ∧ i_Rel (k + 3) u v) v) u := by
  obtain ⟨m, D, L, R, ea, al, ag, eb, rfl, rfl, K, hal⟩ := I
  exact ba_xjb K.2.2.1 (ba_yjb ⟨rfl, ba_rel K hal⟩)
