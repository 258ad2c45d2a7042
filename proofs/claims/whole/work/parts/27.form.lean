/-! the reference: formOf, senderOf, faultOf, data -/
section FO
variable {l : Launch} {Q : Option sd_V → sd_H → Prop} {hc hm : sd_H} {sz : Nat} {g : Nat → Nat}
theorem sm_formOf (hp : PK hc hm sz g) (k : ∀ hm', Fx (fun T _ i => T = 7 ∧ 5 ≤ i ∧ i ≤ 7) hm hm' → (df_shape hc = 0 → 12 ≤ sz ∧ hm'.1 7 0 5 = df_pay hc ∧ hm'.1 7 0 6 = pk_s hc - df_pay hc - df_fill hc ∧ hm'.1 7 0 7 = (if df_has hc 16 = 0 then 0 else pk_2 hc (df_we hc))) → Q (some (v_i (df_shape hc))) hm') : sd_E1 l y_X9_formOf [v_r 7 0] hm Q := by
  have hp' := hp
  obtain ⟨p1, p2, p3, p4⟩ := hp
  have kE : ∀ (n : Int32) hm', df_shape hc = n → ¬ n = 0 → Fx (fun T _ i => T = 7 ∧ 5 ≤ i ∧ i ≤ 7) hm hm' → Q (some (v_i n)) hm' := fun n hm' e z f => by
    rw [← e]; exact k hm' f (fun q => absurd (e.symm.trans q) z)
  refine sd_e1 [139] 80 (cd := cd_X9_formOf) (by decide) rfl (Nat.le_of_ble_eq_true rfl) ?_
  refine ⟨fun (c1 : 12 ≤ hm.1 7 0 2) => ?_, fun (c1 : ¬ 12 ≤ hm.1 7 0 2) => ?_⟩
  rotate_left
  · rw [p2, ← p1] at c1
    exact kE 1 hm (by unfold df_shape; rw [if_neg c1]) (by decide) .rf
  rw [p2, ← p1] at c1
  have hs : 12 ≤ sz := by
    have := c1; rw [p1] at this
    exact (nI_leI (a := 12) (by decide) (by omega)).mp this
  have hb0 := hp'.b (j := 0) (by omega)
  have hb0 : pk_b hc 0 = nI (g 0) := hb0
  have hm0 := hp'.m (j := 0) (by omega)
  have hl0 := hp'.lt (j := 0) (by omega)
  refine ⟨0, ⟨show 0 < 300 by decide, rfl⟩, ?_⟩
  refine ⟨fun (c2 : hm.1 19 0 0 >>> 6 = 2) => ?_, fun (c2 : ¬ hm.1 19 0 0 >>> 6 = 2) => ?_⟩
  rotate_left
  · rw [hm0, ← hb0] at c2
    exact kE 2 hm (by unfold df_shape; rw [if_pos c1, if_neg c2]) (by decide) .rf
  rw [hm0, ← hb0] at c2
  refine ⟨0, ⟨show 0 < 300 by decide, rfl⟩, ?_⟩
  have eW : 12 + 4 * (hm.1 19 0 0 &&& 15) = df_we hc := by unfold df_we df_wd; rw [hm0, hb0]
  have eW2 : df_we hc = nI (12 + 4 * (g 0 % 16)) := by
    unfold df_we df_wd
    rw [hb0, by_15 _ hl0, show (4 : Int32) = nI 4 from rfl, pk_mul, show (12 : Int32) = nI 12 from rfl, nI_add]
  have hW : 12 + 4 * (g 0 % 16) ≤ 72 := by omega
  generalize hWn : 12 + 4 * (g 0 % 16) = W at eW2 hW
  refine ⟨fun (c3 : 12 + 4 * (hm.1 19 0 0 &&& 15) ≤ hm.1 7 0 2) => ?_, fun (c3 : ¬ 12 + 4 * (hm.1 19 0 0 &&& 15) ≤ hm.1 7 0 2) => ?_⟩
  rotate_left
  · rw [p2, ← p1, eW] at c3
    exact kE 3 _ (by unfold df_shape; rw [if_pos c1, if_pos c2, if_neg c3]) (by decide) ((Fx.rf.pi (by decide)).pi (by decide))
  rw [p2, ← p1, eW] at c3
  have hWs : W ≤ sz := by rw [p1, eW2] at c3; exact (nI_leI (by omega) (by omega)).mp c3
  have rest : ∀ hm1, Fx (fun T _ i => T = 7 ∧ 5 ≤ i ∧ i ≤ 7) hm hm1 → hm1.1 7 0 5 = df_pay hc → df_pay hc ≤ pk_s hc → hm1.1 7 0 7 = (if df_has hc 16 = 0 then 0 else pk_2 hc (df_we hc)) → sd_Wq l none y_X9_formOf true Q 139 [some (v_r 7 0), none] [] hm1 0 0 := by
    intro hm1 f1 e5 c4 e7
    have f19 : ∀ i, hm1.1 19 0 i = hm.1 19 0 i := fun i => f1.1 19 0 i (by omega)
    have f2 : hm1.1 7 0 2 = hm.1 7 0 2 := f1.1 7 0 2 (by omega)
    refine sd_go [] 80 (cd := cd_X9_formOf) (by decide) rfl ?_
    refine ⟨0, ⟨show 0 < 300 by decide, rfl⟩, ?_⟩
    have h5 := by_32 (g 0) hl0
    have eh : df_has hc 32 = if nI (g 0) &&& 32 = 0 then 0 else 1 := by unfold df_has; rw [hb0]
    refine ⟨fun (c5 : ¬ hm1.1 19 0 0 >>> 5 &&& 1 = 1) => ?_, fun (c5 : hm1.1 19 0 0 >>> 5 &&& 1 = 1) => ?_⟩
    · rw [f19, hm0, h5, Classical.not_not] at c5
      rw [if_pos c5] at eh
      have es : df_shape hc = 0 := by unfold df_shape; rw [if_pos c1, if_pos c2, if_pos c3, if_pos c4, if_pos eh]
      have ef : df_fill hc = 0 := by unfold df_fill; rw [if_pos eh]
      have := k (sd_pi hm1 7 0 6 (hm1.1 7 0 2 - hm1.1 7 0 5)) (f1.pi (by decide)) (fun _ => ⟨hs, e5, ?_, e7⟩)
      · rw [es] at this; exact this
      · show hm1.1 7 0 2 - hm1.1 7 0 5 = _
        rw [f2, p2, ← p1, e5, ef]; exact (Int32.sub_zero _).symm
    · rw [f19, hm0, h5] at c5
      rw [if_neg c5] at eh
      have eh1 : ¬ df_has hc 32 = 0 := by rw [eh]; decide
      refine ⟨sz - 1, ⟨show sz - 1 < 300 by omega, ?_⟩, ?_⟩
      · show hm1.1 7 0 2 - 1 = nI (sz - 1)
        rw [f2, p2, show (1 : Int32) = nI 1 from rfl, pk_sub (by omega)]
      have ef : df_fill hc = nI (g (sz - 1)) := by
        unfold df_fill
        rw [if_neg eh1, show pk_s hc - 1 = nI (sz - 1) by show hc.1 1 0 1 - 1 = _; rw [p1, show (1 : Int32) = nI 1 from rfl, pk_sub (by omega)]]
        exact hp'.b (by omega)
      have em : hm1.1 19 0 (sz - 1) = df_fill hc := by rw [f19, hp'.m (by omega), ef]
      have hlt := hp'.lt (j := sz - 1) (by omega)
      have ep : hm1.1 7 0 2 - hm1.1 7 0 5 = pk_s hc - df_pay hc := by rw [f2, p2, ← p1, e5]
      have F2 := (f1.pi (T := 7) (k := 0) (i := 6) (v := hm1.1 7 0 2 - hm1.1 7 0 5) (by decide))
      refine ⟨fun (c6 : hm1.1 19 0 (sz - 1) = 0) => ?_, fun (c6 : ¬ hm1.1 19 0 (sz - 1) = 0) => ?_⟩
      · rw [em] at c6
        exact kE 5 _ (by unfold df_shape; rw [if_pos c1, if_pos c2, if_pos c3, if_pos c4, if_neg eh1, if_pos (by rw [c6]; decide)]) (by decide) F2
      rw [em] at c6
      have c6' : ¬ df_fill hc ≤ 0 := by
        rw [ef] at c6 ⊢
        intro q
        have := (nI_leI (a := g (sz - 1)) (b := 0) (by omega) (by decide)).mp q
        exact c6 (by rw [show g (sz - 1) = 0 by omega]; rfl)
      refine ⟨fun (c7 : hm1.1 19 0 (sz - 1) ≤ hm1.1 7 0 2 - hm1.1 7 0 5) => ?_, fun (c7 : ¬ hm1.1 19 0 (sz - 1) ≤ hm1.1 7 0 2 - hm1.1 7 0 5) => ?_⟩
      · rw [em, ep] at c7
        have es : df_shape hc = 0 := by unfold df_shape; rw [if_pos c1, if_pos c2, if_pos c3, if_pos c4, if_neg eh1, if_neg c6', if_neg (Int32.not_lt.mpr c7)]
        have := k (sd_pi (sd_pi hm1 7 0 6 (hm1.1 7 0 2 - hm1.1 7 0 5)) 7 0 6 (hm1.1 7 0 2 - hm1.1 7 0 5 - hm1.1 19 0 (sz - 1))) (F2.pi (by decide)) (fun _ => ⟨hs, e5, ?_, e7⟩)
        · rw [es] at this; exact this
        · show hm1.1 7 0 2 - hm1.1 7 0 5 - hm1.1 19 0 (sz - 1) = _
          rw [ep, em]
      · rw [em, ep] at c7
        exact kE 5 _ (by unfold df_shape; rw [if_pos c1, if_pos c2, if_pos c3, if_pos c4, if_neg eh1, if_neg c6', if_pos (i_nle c7)]) (by decide) F2
  refine ⟨0, ⟨show 0 < 300 by decide, rfl⟩, ?_⟩
  have h4 := by_16 (g 0) hl0
  have eh : df_has hc 16 = if nI (g 0) &&& 16 = 0 then 0 else 1 := by unfold df_has; rw [hb0]
  have F1 : Fx (fun T _ i => T = 7 ∧ 5 ≤ i ∧ i ≤ 7) hm (sd_pi (sd_pi hm 7 0 5 (12 + 4 * (hm.1 19 0 0 &&& 15))) 7 0 7 0) := (Fx.rf.pi (by decide)).pi (by decide)
  refine ⟨fun (c4 : ¬ hm.1 19 0 0 >>> 4 &&& 1 = 1) => ?_, fun (c4 : hm.1 19 0 0 >>> 4 &&& 1 = 1) => ?_⟩
  · rw [hm0, h4, Classical.not_not] at c4
    rw [if_pos c4] at eh
    have epay : df_pay hc = df_we hc := by unfold df_pay; rw [if_pos eh]
    refine rest _ F1 ?_ ?_ ?_
    · show 12 + 4 * (hm.1 19 0 0 &&& 15) = _
      rw [eW, epay]
    · rw [epay]; exact c3
    · rw [if_pos eh]; rfl
  · rw [hm0, h4] at c4
    rw [if_neg c4] at eh
    have eh1 : ¬ df_has hc 16 = 0 := by rw [eh]; decide
    have epay : df_pay hc = df_we hc + 4 + 4 * pk_2 hc (df_we hc + 2) := by unfold df_pay; rw [if_neg eh1]
    refine ⟨fun (c5 : 12 + 4 * (hm.1 19 0 0 &&& 15) + 4 ≤ hm.1 7 0 2) => ?_, fun (c5 : ¬ 12 + 4 * (hm.1 19 0 0 &&& 15) + 4 ≤ hm.1 7 0 2) => ?_⟩
    rotate_left
    · rw [p2, eW, eW2, show (4 : Int32) = nI 4 from rfl, nI_add] at c5
      have c5 : ¬ W + 4 ≤ sz := fun q => c5 (nI_le q (by omega))
      refine kE 4 _ ?_ (by decide) F1
      obtain ⟨b, b1, b2, -⟩ := hp'.h0 (j := W + 2) (by omega)
      unfold df_shape
      rw [if_pos c1, if_pos c2, if_pos c3, if_neg]
      rw [epay, eW2, show (2 : Int32) = nI 2 from rfl, nI_add, b2, show (4 : Int32) = nI 4 from rfl, pk_mul, nI_add, nI_add]
      show ¬ nI _ ≤ hc.1 1 0 1
      rw [p1]
      intro q
      have := (nI_leI (by omega) (by omega)).mp q
      omega
    · rw [p2, eW, eW2, show (4 : Int32) = nI 4 from rfl, nI_add] at c5
      have c5 : W + 4 ≤ sz := (nI_leI (by omega) (by omega)).mp c5
      have eF : (sd_pi (sd_pi hm 7 0 5 (12 + 4 * (hm.1 19 0 0 &&& 15))) 7 0 7 0).1 7 0 5 = nI W := by
        show 12 + 4 * (hm.1 19 0 0 &&& 15) = _
        rw [eW, eW2]
      refine sm_two (j := W) (by omega) eF ?_
      refine sm_two (j := W + 2) (by omega) ?_ ?_
      · show 12 + 4 * (hm.1 19 0 0 &&& 15) + 2 = _
        rw [eW, eW2, show (2 : Int32) = nI 2 from rfl, nI_add]
      have t1 : m2 (sd_pi (sd_pi hm 7 0 5 (12 + 4 * (hm.1 19 0 0 &&& 15))) 7 0 7 0) W = pk_2 hc (df_we hc) := by
        show m2 hm W = _
        rw [hp'.two (by omega), eW2]
      have t2 : ∀ v, m2 (sd_pi (sd_pi (sd_pi hm 7 0 5 (12 + 4 * (hm.1 19 0 0 &&& 15))) 7 0 7 0) 7 0 7 v) (W + 2) = pk_2 hc (df_we hc + 2) := by
        intro v
        show m2 hm (W + 2) = _
        rw [hp'.two (by omega), eW2, show (2 : Int32) = nI 2 from rfl, nI_add]
      have t3 : 12 + 4 * (hm.1 19 0 0 &&& 15) + (4 + 4 * m2 (sd_pi (sd_pi (sd_pi hm 7 0 5 (12 + 4 * (hm.1 19 0 0 &&& 15))) 7 0 7 0) 7 0 7 (m2 (sd_pi (sd_pi hm 7 0 5 (12 + 4 * (hm.1 19 0 0 &&& 15))) 7 0 7 0) W)) (W + 2)) = df_pay hc := by
        rw [t2, eW, epay, Int32.add_assoc]
      refine ⟨fun c6 => ?_, fun c6 => ?_⟩
      · have c6 : 12 + 4 * (hm.1 19 0 0 &&& 15) + (4 + 4 * m2 (sd_pi (sd_pi (sd_pi hm 7 0 5 (12 + 4 * (hm.1 19 0 0 &&& 15))) 7 0 7 0) 7 0 7 (m2 (sd_pi (sd_pi hm 7 0 5 (12 + 4 * (hm.1 19 0 0 &&& 15))) 7 0 7 0) W)) (W + 2)) ≤ hm.1 7 0 2 := c6
        rw [t3, p2, ← p1] at c6
        refine rest _ ((F1.pi (by decide)).pi (by decide)) t3 c6 ?_
        rw [if_neg eh1]
        exact t1
      · have c6 : ¬ 12 + 4 * (hm.1 19 0 0 &&& 15) + (4 + 4 * m2 (sd_pi (sd_pi (sd_pi hm 7 0 5 (12 + 4 * (hm.1 19 0 0 &&& 15))) 7 0 7 0) 7 0 7 (m2 (sd_pi (sd_pi hm 7 0 5 (12 + 4 * (hm.1 19 0 0 &&& 15))) 7 0 7 0) W)) (W + 2)) ≤ hm.1 7 0 2 := c6
        rw [t3, p2, ← p1] at c6
        exact kE 4 _ (by unfold df_shape; rw [if_pos c1, if_pos c2, if_pos c3, if_neg c6]) (by decide) ((F1.pi (by decide)).pi (by decide))
/-- the reference's answer for a sender -/
def m_o (o : Option Nat) : Int32 := match o with
  | some s => nI s
  | none => -1
theorem sq_senderOf {b : Int32} {sn : Nat} (hN : hm.1 7 0 8 = nI sn) (hn6 : sn ≤ 6) (hn : ∀ s, s < sn → hm.1 21 0 s = hc.1 3 s 0) : ∀ (n i : Nat), i + n = sn → Q (some (v_i (m_o (dk_find hc b i n)))) hm → sd_Wq l none y_X9_senderOf true Q 2 [some (v_r 7 0), some (v_i b), some (v_i (nI i))] [] hm 0 0
  | 0, i, hi, k => by
    refine sd_go [2] 60 (cd := cd_X9_senderOf) (by decide) rfl ?_
    refine ⟨fun _ => k, fun c => absurd ?_ c⟩
    show hm.1 7 0 8 ≤ nI i
    rw [hN, show sn = i by omega]
    exact Int32.le_refl _
  | n + 1, i, hi, k => by
    refine sd_go [2] 60 (cd := cd_X9_senderOf) (by decide) rfl ?_
    refine ⟨fun c => absurd c ?_, fun _ => ?_⟩
    · show ¬ hm.1 7 0 8 ≤ nI i
      rw [hN]
      exact nI_ge (by omega) (by omega)
    refine ⟨i, ⟨show i < 6 by omega, rfl⟩, ?_⟩
    unfold dk_find at k
    refine ⟨fun (c2 : ¬ hm.1 21 0 i = b) => ?_, fun (c2 : hm.1 21 0 i = b) => ?_⟩
    · rw [hn i (by omega)] at c2
      rw [if_neg c2] at k
      show sd_Wq l none y_X9_senderOf true Q 2 [some (v_r 7 0), some (v_i b), some (v_i (nI i + 1))] [] hm 0 0
      rw [nI_1]
      exact sq_senderOf hN hn6 hn n (i + 1) (by omega) k
    · rw [hn i (by omega)] at c2
      rw [if_pos c2] at k
      exact k
theorem sm_senderOf {b : Int32} {sn : Nat} (hN : hm.1 7 0 8 = nI sn) (hn6 : sn ≤ 6) (hn : ∀ s, s < sn → hm.1 21 0 s = hc.1 3 s 0) (k : Q (some (v_i (m_o (dk_find hc b 0 sn)))) hm) : sd_E1 l y_X9_senderOf [v_r 7 0, v_i b] hm Q := by
  refine sd_e1 [2] 60 (cd := cd_X9_senderOf) (by decide) rfl (Nat.le_of_ble_eq_true rfl) ?_
  exact sq_senderOf hN hn6 hn sn 0 (by omega) k
end FO
