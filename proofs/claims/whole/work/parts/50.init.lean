/-! both constructors; the heap that they make -/
def mk (h : sd_H) (T k i U : Nat) : sd_H := sd_pr (sd_nw h U) T k i (some (h.2.2.2 U))
def dk_in1 (h : sd_H) (k : Nat) : sd_H := sd_pr (pk_ini (sd_nw h 1) (h.2.2.2 1)) 0 k 0 (some (h.2.2.2 1))
def dk_in2 (h : sd_H) (k : Nat) : sd_H := sd_pr (ev_ini (sd_nw h 2) (h.2.2.2 2)) 0 k 1 (some (h.2.2.2 2))
def dk_ini (h : sd_H) (k : Nat) : sd_H := sd_pi (mk (mk (mk (dk_in2 (dk_in1 h k) k) 0 k 2 8) 0 k 3 9) 0 k 4 10) 0 k 7 100
def md_in1 (h : sd_H) (k : Nat) : sd_H := mk (mk (mk (mk (mk (mk (mk (mk (mk (mk (mk (sd_pi h 7 k 1 100) 7 k 3 19) 7 k 4 20) 7 k 9 21) 7 k 10 22) 7 k 11 23) 7 k 12 24) 7 k 13 25) 7 k 14 26) 7 k 15 27) 7 k 16 28) 7 k 17 29
def md_in2 (h : sd_H) (k : Nat) : sd_H := mk (mk (mk (mk (mk (mk (mk (mk h 7 k 18 30) 7 k 19 31) 7 k 20 32) 7 k 21 33) 7 k 22 34) 7 k 23 35) 7 k 24 36) 7 k 25 37
def md_ini (h : sd_H) (k : Nat) : sd_H := mk (mk (mk (mk (mk (mk (mk (mk (md_in2 (md_in1 h k) k) 7 k 26 38) 7 k 27 39) 7 k 28 40) 7 k 29 41) 7 k 30 42) 7 k 31 43) 7 k 36 44) 7 k 40 45
section IN
variable {l : Launch} {Q : Option sd_V → sd_H → Prop} {h : sd_H} {k : Nat}
theorem sp_dkinit (q : Q none (dk_ini h k)) : sd_E l y_X8_init [v_r 0 k] h Q := by
  refine sd_e0 [] 60 (cd := cd_X8_init) (by decide) rfl (Nat.le_of_ble_eq_true rfl) ?_
  refine ⟨by decide, ?_⟩
  refine sp_pkinit ?_
  refine ⟨by decide, ?_⟩
  refine sp_evinit ?_
  refine ⟨rfl, ?_⟩
  refine ⟨rfl, ?_⟩
  refine ⟨rfl, ?_⟩
  exact q
theorem sm_init (q : Q none (md_ini h k)) : sd_E l y_X9_init [v_r 7 k] h Q := by
  refine sd_e0 [] 120 (cd := cd_X9_init) (by decide) rfl (Nat.le_of_ble_eq_true rfl) ?_
  refine ⟨rfl, ?_⟩
  refine ⟨rfl, ?_⟩
  refine ⟨rfl, ?_⟩
  refine ⟨rfl, ?_⟩
  refine ⟨rfl, ?_⟩
  refine ⟨rfl, ?_⟩
  refine ⟨rfl, ?_⟩
  refine ⟨rfl, ?_⟩
  refine ⟨rfl, ?_⟩
  refine ⟨rfl, ?_⟩
  refine ⟨rfl, ?_⟩
  refine ⟨rfl, ?_⟩
  refine ⟨rfl, ?_⟩
  refine ⟨rfl, ?_⟩
  refine ⟨rfl, ?_⟩
  refine ⟨rfl, ?_⟩
  refine ⟨rfl, ?_⟩
  refine ⟨rfl, ?_⟩
  refine ⟨rfl, ?_⟩
  refine ⟨rfl, ?_⟩
  refine ⟨rfl, ?_⟩
  refine ⟨rfl, ?_⟩
  refine ⟨rfl, ?_⟩
  refine ⟨rfl, ?_⟩
  refine ⟨rfl, ?_⟩
  refine ⟨rfl, ?_⟩
  refine ⟨rfl, ?_⟩
  exact q
end IN
/-- all zero, but the two delays -/
def ZH (h : sd_H) : Prop := (∀ T k i, ¬ (T = 0 ∧ i = 7) → ¬ (T = 7 ∧ i = 1) → h.1 T k i = 0) ∧ ∀ T k i, h.2.1 T k i = 0
theorem ZH.nw {h : sd_H} {U : Nat} (z : ZH h) : ZH (sd_nw h U) := by
  refine ⟨fun T k i a b => ?_, fun T k i => ?_⟩
  · show (if T = U then (fun k' => if k' = h.2.2.2 U then (fun _ => 0) else h.1 U k') else h.1 T) k i = (0 : Int32)
    split
    · next q =>
      subst q
      dsimp only
      split
      · rfl
      · exact z.1 T k i a b
    · exact z.1 T k i a b
  · show (if T = U then (fun k' => if k' = h.2.2.2 U then (fun _ => 0) else h.2.1 U k') else h.2.1 T) k i = (0 : Int64)
    split
    · next q =>
      subst q
      dsimp only
      split
      · rfl
      · exact z.2 T k i
    · exact z.2 T k i
theorem ZH.pr {h : sd_H} {T k i : Nat} {v : Option Nat} (z : ZH h) : ZH (sd_pr h T k i v) := z
theorem ZH.mk {h : sd_H} {T k i U : Nat} (z : ZH h) : ZH (mk h T k i U) := z.nw.pr
theorem ZH.pi {h : sd_H} {T k i : Nat} {v : Int32} (z : ZH h) (q : (T = 0 ∧ i = 7) ∨ (T = 7 ∧ i = 1)) : ZH (sd_pi h T k i v) := by
  refine ⟨fun T' k' i' a b => ?_, z.2⟩
  rw [sd_pi_ne (fun e => by obtain ⟨rfl, rfl, rfl⟩ := e; omega)]
  exact z.1 T' k' i' a b
def h00 : sd_H := (fun _ _ _ => 0, fun _ _ _ => 0, fun _ _ _ => none, fun _ => 0)
def hI : sd_H := md_ini (sd_nw (dk_ini (sd_nw h00 0) 0) 7) 0
theorem hI_z : ZH hI := by
  have z0 : ZH h00 := ⟨fun _ _ _ _ _ => rfl, fun _ _ _ => rfl⟩
  have z1 : ZH (dk_ini (sd_nw h00 0) 0) := by
    unfold dk_ini dk_in2 dk_in1 pk_ini ev_ini
    exact ZH.pi (ZH.mk (ZH.mk (ZH.mk (ZH.pr (ZH.pr (ZH.nw (ZH.pr (ZH.nw (ZH.pr (ZH.nw (ZH.pr (ZH.nw (ZH.nw (ZH.pr (ZH.pr (ZH.nw (ZH.nw z0.nw))))))))))))))))) (Or.inl ⟨rfl, rfl⟩)
  unfold hI md_ini md_in2 md_in1
  exact ZH.mk (ZH.mk (ZH.mk (ZH.mk (ZH.mk (ZH.mk (ZH.mk (ZH.mk (ZH.mk (ZH.mk (ZH.mk (ZH.mk (ZH.mk (ZH.mk (ZH.mk (ZH.mk (ZH.mk (ZH.mk (ZH.mk (ZH.mk (ZH.mk (ZH.mk (ZH.mk (ZH.mk (ZH.mk (ZH.mk (ZH.mk (ZH.pi z1.nw (Or.inr ⟨rfl, rfl⟩))))))))))))))))))))))))))))
theorem sd_nth_ge {α : Type} : ∀ (l : List α) (i : Nat), l.length ≤ i → sd_nth l i = none
  | [], _, _ => rfl
  | _ :: t, 0, h => by simp at h
  | _ :: t, i + 1, h => sd_nth_ge t i (by simpa using h)
theorem sd_wn_ge {T i : Nat} (hT : T < 8) (hi : 41 ≤ i) : sd_wn T i = 0 := by
  rcases (show T = 0 ∨ T = 1 ∨ T = 2 ∨ T = 3 ∨ T = 4 ∨ T = 5 ∨ T = 6 ∨ T = 7 by omega) with rfl | rfl | rfl | rfl | rfl | rfl | rfl | rfl
  all_goals
    show (sd_nth _ i).getD 0 = 0
    rw [sd_nth_ge _ _ (by simp; omega)]
    rfl
theorem hI_c : ∀ T, T < 47 → hI.2.2.2 T = if T = 3 ∨ T = 4 ∨ T = 5 ∨ T = 6 ∨ T = 16 ∨ T = 17 ∨ T = 18 ∨ T = 46 then 0 else 1 := by decide +kernel
theorem hI_r : ∀ T, T < 8 → T = 3 ∨ T = 4 ∨ T = 5 ∨ T = 6 ∨ ∀ i, i < 41 → (sd_wn T i = 1 → hI.2.2.1 T 0 i = some 0) ∧ (sd_wn T i = 2 → hI.2.2.1 T 0 i = some 0) := by decide +kernel
theorem hI_ok : sd_OK hI := by
  intro T k i hT hk
  have c := hI_c T (by omega)
  rcases Nat.lt_or_ge i 41 with q | q
  · rcases hI_r T hT with e | e | e | e | e
    · rw [c, if_pos (by omega)] at hk; omega
    · rw [c, if_pos (by omega)] at hk; omega
    · rw [c, if_pos (by omega)] at hk; omega
    · rw [c, if_pos (by omega)] at hk; omega
    · have k0 : k = 0 := by rw [c] at hk; split at hk <;> omega
      rw [k0]; exact e i q
  · rw [sd_wn_ge hT q]
    exact ⟨fun z => by omega, fun z => by omega⟩
theorem hI_RR : RR hI hI 0 (fun _ => 0) 0 0 0 0 := by
  obtain ⟨z1, z2⟩ := hI_z
  have c := fun T h => hI_c T h
  have zi : ∀ T k i, T ≠ 0 → T ≠ 7 → hI.1 T k i = 0 := fun T k i a b => z1 T k i (by omega) (by omega)
  have d0 : hI.1 0 0 7 = 100 := by decide +kernel
  have d7 : hI.1 7 0 1 = 100 := by decide +kernel
  refine ⟨⟨z1 _ _ _ (by omega) (by omega), z1 _ _ _ (by omega) (by omega), by omega, fun i hi => ⟨zi _ _ _ (by omega) (by omega), zi _ _ _ (by omega) (by omega), (by decide : 0 < 256)⟩⟩, ⟨fun i hi => ?_, ⟨z1 _ _ _ (by omega) (by omega), z1 _ _ _ (by omega) (by omega), by omega⟩, d7.trans d0.symm, ?_, ?_, ?_, ?_, ?_, fun i hi => ?_, z1 _ _ _ (by omega) (by omega)⟩, ⟨z1 _ _ _ (by omega) (by omega), by omega, fun s hs => by omega⟩, ?_, ⟨z1 _ _ _ (by omega) (by omega), z1 _ _ _ (by omega) (by omega), fun j hj => ?_⟩, by omega, fun s hs => by omega, fun s h1 h2 => ⟨fun T h3 h4 => ⟨zi _ _ _ (by omega) (by omega), z2 _ _ _⟩, fun k hk => zi _ _ _ (by omega) (by omega), fun x hx => zi _ _ _ (by omega) (by omega)⟩⟩
  · rw [zi _ _ _ (by omega) (by omega), zi _ _ _ (by omega) (by omega)]; decide
  · rw [z1 _ _ _ (by omega) (by omega), z1 _ _ _ (by omega) (by omega)]
  · rw [z1 _ _ _ (by omega) (by omega), z1 _ _ _ (by omega) (by omega)]
  · rw [z1 _ _ _ (by omega) (by omega), z1 _ _ _ (by omega) (by omega)]
  · rw [z1 _ _ _ (by omega) (by omega), z1 _ _ _ (by omega) (by omega)]
  · rw [z1 _ _ _ (by omega) (by omega), z1 _ _ _ (by omega) (by omega)]
  · rw [zi _ _ _ (by omega) (by omega), zi _ _ _ (by omega) (by omega)]
  · unfold SC
    rw [c 3 (by omega), c 4 (by omega), c 5 (by omega), c 6 (by omega), c 16 (by omega), c 17 (by omega), c 18 (by omega), c 0 (by omega), c 1 (by omega), c 2 (by omega)]
    decide
  · rw [z2, z2, z2, z2, z2, zi _ _ _ (by omega) (by omega), zi _ _ _ (by omega) (by omega), zi _ _ _ (by omega) (by omega)]
    decide
