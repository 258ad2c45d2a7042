/-! the law's loop and its beginning -/
section LL
variable {l : Launch} {L : Nat} {xs : Nat → Int32}
set_option maxRecDepth 100000 in
theorem sq_law (hL : L ≤ 2048) : ∀ (n t : Nat) (h : sd_H) (cs ss : Nat), t + n = 513 → LI h t cs ss → sd_Wq l (some (L, xs)) y_L_law true lw_Qr 18 (lw_S (4 * t)) [] h cs ss := by
  have e4 : (4 : Int32).toInt = 4 := rfl
  have eL : (nI L).toInt = L := nI_toInt (by omega)
  have eS : (nI L - 4).toInt = L - 4 := by rw [i_subI (by omega) (by omega), eL, e4]
  intro n
  induction n with
  | zero =>
    intro t h cs ss ht I
    refine sd_go [18] 40 (cd := cd_L_law) (by decide) rfl ?_
    refine ⟨fun _ => ⟨Or.inr rfl, rfl⟩, fun c => absurd ?_ c⟩
    show nI L - 4 < nI (4 * t)
    rw [Int32.lt_iff_toInt_lt, eS, nI_toInt (by omega)]
    omega
  | succ n ih =>
    intro t h cs ss ht I
    obtain ⟨⟨sz, g, nw, sn, e, R⟩, c1, c2⟩ := I
    refine sd_go [18, 618, 120, 183, 196, 229, 252, 285, 298, 321, 344, 367, 400, 424, 488, 522, 545, 558, 581, 604] 40 (cd := cd_L_law) (by decide) rfl ?_
    refine ⟨fun _ => ⟨Or.inr rfl, rfl⟩, fun (c : ¬ nI L - 4 < nI (4 * t)) => ?_⟩
    rw [Int32.lt_iff_toInt_lt, eS, nI_toInt (by omega)] at c
    have hi : 4 * t + 3 < L := by omega
    have K : KT l L xs (4 * t) t := by
      intro h' cs' ss' I'
      refine sd_go [18] 40 (cd := cd_L_law) (by decide) rfl ?_
      show sd_Wq l (some (L, xs)) y_L_law true lw_Qr 18 [some (v_r 46 0), some (v_r 0 0), some (v_r 7 0), some (v_i (nI (4 * t) + 4))] [] h' cs' ss'
      rw [show nI (4 * t) + 4 = nI (4 * (t + 1)) from nI_add (4 * t) 4]
      exact ih (t + 1) h' cs' ss' (by omega) I'
    have h512 : t ≤ 512 := by omega
    refine ⟨rfl, 4 * t, ⟨by omega, by omega, rfl⟩, ?_⟩
    exact ⟨fun _ => l_0 K R c1 c2 hi hL, fun _ => ⟨fun _ => l_1 K R c1 c2 hi hL, fun _ => ⟨fun _ => l_2 K R c1 c2 hi hL, fun _ => ⟨fun _ => l_3 K R c1 c2 hi hL, fun _ => ⟨fun _ => l_4 K R c1 c2 hi hL, fun _ => ⟨fun _ => l_5 K R h512 c1 c2 hi hL, fun _ => ⟨fun _ => l_6 K R c1 c2 hi hL, fun _ => ⟨fun _ => l_7 K R h512 c1 c2 hi hL, fun _ => ⟨fun _ => l_8 K R c1 c2 hi hL, fun _ => ⟨fun _ => l_9 K R c1 c2 hi hL, fun _ => ⟨fun _ => l_10 K R c1 c2 hi hL, fun _ => ⟨fun _ => l_11 K R c1 c2 hi hL, fun _ => ⟨fun _ => l_12 K R h512 c1 c2 hi hL, fun _ => ⟨fun _ => l_13 K R h512 c1 c2 hi hL, fun _ => ⟨fun _ => l_14 K R h512 c1 c2 hi hL, fun _ => ⟨fun _ => l_15 K R c1 c2 hi hL, fun _ => ⟨fun _ => l_16 K R c1 c2 hi hL, fun _ => ⟨fun _ => l_17 K R c1 c2 hi hL, fun _ => K.same R c1 c2⟩⟩⟩⟩⟩⟩⟩⟩⟩⟩⟩⟩⟩⟩⟩⟩⟩⟩
theorem sq_start (hL : L ≤ 2048) : sd_Wq l (some (L, xs)) y_L_law false lw_Qr 0 [some (v_r 46 0), none, none, none] [] h00 0 0 := by
  refine sd_go [18] 40 (cd := cd_L_law) (by decide) rfl ?_
  refine ⟨by decide, ?_⟩
  refine sp_dkinit ?_
  refine ⟨by decide, ?_⟩
  refine sm_init ?_
  show sd_Wq l (some (L, xs)) y_L_law false lw_Qr 18 (lw_S (4 * 0)) [] hI 39 1989
  exact sd_up hI_ok (sq_law hL 513 0 hI 39 1989 rfl ⟨⟨_, _, _, _, _, hI_RR⟩, by omega, by omega⟩)
end LL
theorem sd_inst : ∀ T, T < 8 → Cond.instantiable (sd_cn T) (sd_tn T) ∈ lw_tbl := sd_lt8 (by decide +kernel) (by decide +kernel) (by decide +kernel) (by decide +kernel) (by decide +kernel) (by decide +kernel) (by decide +kernel) (by decide +kernel)
