/-! a step of the class and an EVENT of the reference -/
section ST
variable {hc hm : sd_H} {e s j : Nat}
theorem sl_ne {n : Int64} {k j : Nat} (hk : k < 32) (hj : j < 32) (h : k ≠ j) : sl (n + lN k) ≠ sl (n + lN j) := by
  rw [sl_add n k (by omega), sl_add n j (by omega)]
  omega
theorem PM.step {c : Nat} {nw : Int32} (p : PM hc hm s e j) (v : EV hc hm e) (hj : j < 32) (hs : s < 6) (h1 : 1 ≤ c) (h5 : c ≤ 5) (hnw : hm.1 7 0 0 = nw) : PM (pl_step hc s e c nw) (mh2 hm e c s (hm.2.1 38 0 s + lN j)) s (e + 1) (j + 1) ∧ EV (pl_step hc s e c nw) (mh2 hm e c s (hm.2.1 38 0 s + lN j)) (e + 1) := by
  obtain ⟨a1, a2, a3, a4, a5, a6, a7, a8, a9, a10, a11⟩ := p
  have f := mh2_fx (hm := hm) (e := e) (c := c) (s := s) (n := hm.2.1 38 0 s + lN j)
  generalize hm2 : mh2 hm e c s (hm.2.1 38 0 s + lN j) = hm' at f ⊢
  have f38 : hm'.2.1 38 0 s = hm.2.1 38 0 s := f.2.1 38 0 s (by omega)
  have f41 : ∀ i, hm'.1 41 0 i = hm.1 41 0 i := fun i => f.1 41 0 i (by omega)
  have f42 : ∀ i, hm'.2.1 42 0 i = hm.2.1 42 0 i := fun i => f.2.1 42 0 i (by omega)
  have e18 : ∀ x, (pl_step hc s e c nw).1 18 s x = if x = sl (hc.2.1 6 s 6) then 0 else hc.1 18 s x := by
    intro x
    show (sd_pi (sd_pi hc 6 s 5 (hc.1 6 s 5 - if hc.1 18 s (sl (hc.2.1 6 s 6)) = 0 then 0 else 1)) 18 s (sl (hc.2.1 6 s 6)) 0).1 18 s x = _
    by_cases q : x = sl (hc.2.1 6 s 6)
    · rw [if_pos q, q, sd_pi_eq]
    · rw [if_neg q, sd_pi_ne (fun z => q z.2.2)]
      rfl
  have hh : hc.1 18 s (sl (hc.2.1 6 s 6)) = hm.1 41 0 (32 * s + j) := by
    rw [a2, a3 j hj, if_neg (by omega)]
  refine ⟨⟨?_, ?_, ?_, ?_, ?_, ?_, ?_, ?_, ?_, ?_, ?_⟩, ?_⟩
  · have : (pl_step hc s e c nw).1 6 s 1 = hc.1 6 s 1 := by
      show (sd_pi hc 6 s 5 _).1 6 s 1 = _
      exact sd_pi_ne (by omega)
    rw [this, a1]
  · have : (pl_step hc s e c nw).2.1 6 s 6 = hc.2.1 6 s 6 + 1 := sd_pl_eq
    rw [this, a2, f38, Int64.add_assoc, lN_1]
  · intro k hk
    rw [f38, e18, a2, f41]
    by_cases q : k = j
    · subst q
      rw [if_pos rfl, if_pos (by omega)]
    · rw [if_neg (sl_ne hk hj q), a3 k hk]
      by_cases q2 : k < j
      · rw [if_pos q2, if_pos (by omega)]
      · rw [if_neg q2, if_neg (by omega)]
  · intro k hk hjk hw
    rw [f41] at hw
    rw [f42, f38, a4 k hk (by omega) hw]
    rfl
  · intro k hk
    rw [f41]; exact a5 k hk
  · have : (pl_step hc s e c nw).1 6 s 5 = hc.1 6 s 5 - if hc.1 18 s (sl (hc.2.1 6 s 6)) = 0 then 0 else 1 := by
      show (sd_pi hc 6 s 5 _).1 6 s 5 = _
      exact sd_pi_eq
    rw [this, a6, hh]
    have ew : wc (fun k => hm.1 41 0 (32 * s + k)) j (32 - j) = (if hm.1 41 0 (32 * s + j) = 0 then 0 else 1) + wc (fun k => hm.1 41 0 (32 * s + k)) (j + 1) (32 - (j + 1)) := by
      rw [show 32 - j = (32 - (j + 1)) + 1 by omega]; rfl
    rw [ew]
    have e2 : wc (fun k => hm'.1 41 0 (32 * s + k)) (j + 1) (32 - (j + 1)) = wc (fun k => hm.1 41 0 (32 * s + k)) (j + 1) (32 - (j + 1)) := wc_cg _ _ _ (fun k _ => f41 _)
    rw [e2]
    by_cases q : hm.1 41 0 (32 * s + j) = 0
    · rw [if_pos q, if_pos q, Nat.zero_add]; exact Int32.sub_zero _
    · rw [if_neg q, if_neg q, show (1 : Int32) = nI 1 from rfl, pk_sub (by omega)]
      congr 1; omega
  · intro c' hc1 hc5
    have e16 : (pl_step hc s e c nw).1 16 s c' = (sd_pi (sd_pi (sd_pi hc 6 s 5 (hc.1 6 s 5 - if hc.1 18 s (sl (hc.2.1 6 s 6)) = 0 then 0 else 1)) 18 s (sl (hc.2.1 6 s 6)) 0) 16 s c (hc.1 16 s c + 1)).1 16 s c' := rfl
    rw [e16]
    by_cases q : c' = c
    · rw [q, sd_pi_eq, ← hm2, mh2_43 h5, a7 c h1 h5]
    · rw [sd_pi_ne (fun z => q z.2.2), f.1 43 0 _ (by omega)]
      exact a7 c' hc1 hc5
  · rw [f.2.1 39 0 s (by omega), a8]
    show _ = (sd_pl _ 6 s 6 _).2.1 6 s 7
    rw [sd_pl_ne (by omega)]
    rfl
  · rw [f.1 40 0 s (by omega), a9]
    show _ = (sd_pi hc 6 s 5 _).1 6 s 8
    rw [sd_pi_ne (by omega)]
  · rw [f38]; exact a10
  · rw [f38]; omega
  · have v' : EV (sd_pi (sd_pi (sd_pi hc 6 s 5 (hc.1 6 s 5 - if hc.1 18 s (sl (hc.2.1 6 s 6)) = 0 then 0 else 1)) 18 s (sl (hc.2.1 6 s 6)) 0) 16 s c (hc.1 16 s c + 1)) hm e := v.cg rfl (fun _ => rfl) (fun _ => rfl) (fun _ => rfl) (fun _ => rfl) rfl (fun _ => rfl)
    have v2 := v'.add (c := c) (s := s) (n := hm.2.1 38 0 s + lN j) (nw := nw) (kd := 0) hnw
    rw [hm2] at v2
    have e1 : ∀ x, (sd_pi hc 6 s 5 x).1 6 s 1 = nI s := fun x => by rw [sd_pi_ne (by omega), a1]
    have e13 : pl_step hc s e c nw = sd_pl (ev_add (sd_pi (sd_pi (sd_pi hc 6 s 5 (hc.1 6 s 5 - if hc.1 18 s (sl (hc.2.1 6 s 6)) = 0 then 0 else 1)) 18 s (sl (hc.2.1 6 s 6)) 0) 16 s c (hc.1 16 s c + 1)) e (nI c) (nI s) (hm.2.1 38 0 s + lN j) nw) 6 s 6 (hc.2.1 6 s 6 + 1) := by
      rw [← a2, ← e1 (hc.1 6 s 5 - if hc.1 18 s (sl (hc.2.1 6 s 6)) = 0 then 0 else 1)]
      rfl
    rw [e13]
    exact v2.cg rfl (fun _ => rfl) (fun _ => rfl) (fun _ => rfl) (fun _ => rfl) rfl (fun _ => rfl)
end ST
