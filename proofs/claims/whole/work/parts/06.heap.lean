/-! facts of the classes' tables, the heap under writes and makings -/
def sd_fy (T : Nat) : Nat → FieldType := match T with
  | 0 => sd_Y0
  | 1 => sd_Y1
  | 2 => sd_Y2
  | 3 => sd_Y3
  | 4 => sd_Y4
  | 5 => sd_Y5
  | 6 => sd_Y6
  | _ => sd_Y7
theorem sd_lt8 {P : Nat → Prop} (h0 : P 0) (h1 : P 1) (h2 : P 2) (h3 : P 3) (h4 : P 4) (h5 : P 5) (h6 : P 6) (h7 : P 7) : ∀ T, T < 8 → P T := by
  intro T hT
  rcases (show T = 0 ∨ T = 1 ∨ T = 2 ∨ T = 3 ∨ T = 4 ∨ T = 5 ∨ T = 6 ∨ T = 7 by omega) with rfl | rfl | rfl | rfl | rfl | rfl | rfl | rfl <;> assumption
theorem sd_cl8 : ∀ T, T < 8 → sd_cl[T]? = some (sd_cn T, sd_ft T, sd_tn T) := sd_lt8 rfl rfl rfl rfl rfl rfl rfl rfl
theorem sd_obA : ∀ T, T < sd_nT → sd_ob T = decide (T < 8) := by decide
theorem sd_ob8 {T : Nat} (h : T < 8) : sd_ob T = true := by
  rw [sd_obA T (by show T < 46; omega)]; simp [h]
theorem sd_ob0 {T : Nat} (h : 8 ≤ T) (h2 : T < sd_nT) : sd_ob T = false := by
  rw [sd_obA T h2]; simp [h]
set_option maxRecDepth 100000 in
theorem sd_uw0 : ∀ w ∈ u_ws (sd_cn 0) (sd_ft 0) (sd_tn 0), w ∈ lw_tbl := by decide +kernel
set_option maxRecDepth 100000 in
theorem sd_uw1 : ∀ w ∈ u_ws (sd_cn 1) (sd_ft 1) (sd_tn 1), w ∈ lw_tbl := by decide +kernel
set_option maxRecDepth 100000 in
theorem sd_uw2 : ∀ w ∈ u_ws (sd_cn 2) (sd_ft 2) (sd_tn 2), w ∈ lw_tbl := by decide +kernel
set_option maxRecDepth 100000 in
theorem sd_uw3 : ∀ w ∈ u_ws (sd_cn 3) (sd_ft 3) (sd_tn 3), w ∈ lw_tbl := by decide +kernel
set_option maxRecDepth 100000 in
theorem sd_uw4 : ∀ w ∈ u_ws (sd_cn 4) (sd_ft 4) (sd_tn 4), w ∈ lw_tbl := by decide +kernel
set_option maxRecDepth 100000 in
theorem sd_uw5 : ∀ w ∈ u_ws (sd_cn 5) (sd_ft 5) (sd_tn 5), w ∈ lw_tbl := by decide +kernel
set_option maxRecDepth 100000 in
theorem sd_uw6 : ∀ w ∈ u_ws (sd_cn 6) (sd_ft 6) (sd_tn 6), w ∈ lw_tbl := by decide +kernel
set_option maxRecDepth 100000 in
theorem sd_uw7 : ∀ w ∈ u_ws (sd_cn 7) (sd_ft 7) (sd_tn 7), w ∈ lw_tbl := by decide +kernel
theorem sd_uw : ∀ T, T < 8 → ∀ w ∈ u_ws (sd_cn T) (sd_ft T) (sd_tn T), w ∈ lw_tbl := sd_lt8 sd_uw0 sd_uw1 sd_uw2 sd_uw3 sd_uw4 sd_uw5 sd_uw6 sd_uw7
theorem sd_tyA : ∀ T, T < 8 → ∀ k, k < sd_tn T → parseFieldDescriptor ((sd_ft T) k).2.2.1 = some (sd_fy T k) := sd_lt8 (by decide +kernel) (by decide +kernel) (by decide +kernel) (by decide +kernel) (by decide +kernel) (by decide +kernel) (by decide +kernel) (by decide +kernel)
theorem sd_nmA : ∀ T, T < 8 → ∀ a, a < sd_tn T → ∀ b, b < sd_tn T → a ≠ b → ((sd_ft T) a).2.1 ≠ ((sd_ft T) b).2.1 := sd_lt8 (by decide +kernel) (by decide +kernel) (by decide +kernel) (by decide +kernel) (by decide +kernel) (by decide +kernel) (by decide +kernel) (by decide +kernel)
theorem sd_dcA : ∀ T, T < 8 → ∀ k, k < sd_tn T → ((sd_ft T) k).1 = sd_cn T := sd_lt8 (by decide +kernel) (by decide +kernel) (by decide +kernel) (by decide +kernel) (by decide +kernel) (by decide +kernel) (by decide +kernel) (by decide +kernel)
/-- a field's type by its code -/
def sd_fk (c : Nat) (t : FieldType) : Bool := match c, t with
  | 0, .int => true
  | 1, .long => true
  | 2, .boolean => true
  | _ + 3, .object _ => true
  | _ + 3, .array _ => true
  | _, _ => false
theorem sd_fkA : ∀ T, T < 8 → ∀ k, k < sd_tn T → sd_fk (sd_fc T k) (sd_fy T k) = true := sd_lt8 (by decide +kernel) (by decide +kernel) (by decide +kernel) (by decide +kernel) (by decide +kernel) (by decide +kernel) (by decide +kernel) (by decide +kernel)
/-- a value of the shape of a code -/
def sd_vc (c : Nat) (v : Value) : Prop := match c with
  | 0 => ∃ x, v = .int x
  | 1 => ∃ x, v = .long x
  | 2 => v = .int 0 ∨ v = .int 1
  | _ => v = .null ∨ ∃ a, v = .ref a
theorem sd_fits {c : Nat} {t : FieldType} {v : Value} (h : sd_fk c t = true) (hv : sd_vc c v) : narrow t v = v ∧ fits t v = true := by
  match c, t, h, hv with
  | 0, .int, _, hv => obtain ⟨x, rfl⟩ := hv; exact ⟨rfl, rfl⟩
  | 1, .long, _, hv => obtain ⟨x, rfl⟩ := hv; exact ⟨rfl, rfl⟩
  | 2, .boolean, _, hv => rcases hv with rfl | rfl <;> exact ⟨by decide, by decide⟩
  | _ + 3, .object _, _, hv => rcases hv with rfl | ⟨a, rfl⟩ <;> exact ⟨rfl, rfl⟩
  | _ + 3, .array _, _, hv => rcases hv with rfl | ⟨a, rfl⟩ <;> exact ⟨rfl, rfl⟩
theorem sd_fv_i {ad : sd_A} {h : sd_H} {T k i : Nat} (hc : sd_fc T i = 0 ∨ sd_fc T i = 2) : sd_fv ad h T k i = .int (h.1 T k i) := by
  unfold sd_fv; rcases hc with hc | hc <;> rw [hc]
theorem sd_fv_l {ad : sd_A} {h : sd_H} {T k i : Nat} (hc : sd_fc T i = 1) : sd_fv ad h T k i = .long (h.2.1 T k i) := by
  unfold sd_fv; rw [hc]
theorem sd_fv_r {ad : sd_A} {h : sd_H} {T k i t : Nat} (hc : sd_fc T i = t + 3) : sd_fv ad h T k i = va_rf ((h.2.2.1 T k i).map (ad t)) := by
  unfold sd_fv; rw [hc]
theorem sd_fv_congr {ad : sd_A} {h h' : sd_H} {T k i : Nat} (e1 : h'.1 T k i = h.1 T k i) (e2 : h'.2.1 T k i = h.2.1 T k i) (e3 : h'.2.2.1 T k i = h.2.2.1 T k i) : sd_fv ad h' T k i = sd_fv ad h T k i := by
  unfold sd_fv; rw [e1, e2, e3]
theorem sd_pi_ne {h : sd_H} {T k i : Nat} {v : Int32} {T' k' i' : Nat} (hn : ¬ (T' = T ∧ k' = k ∧ i' = i)) : (sd_pi h T k i v).1 T' k' i' = h.1 T' k' i' := by
  by_cases h1 : T' = T
  · subst h1
    by_cases h2 : k' = k
    · subst h2
      have h3 : ¬ i' = i := fun e => hn ⟨rfl, rfl, e⟩
      simp [sd_pi, h3]
    · simp [sd_pi, h2]
  · simp [sd_pi, h1]
theorem sd_pi_eq {h : sd_H} {T k i : Nat} {v : Int32} : (sd_pi h T k i v).1 T k i = v := by simp [sd_pi]
theorem sd_pl_ne {h : sd_H} {T k i : Nat} {v : Int64} {T' k' i' : Nat} (hn : ¬ (T' = T ∧ k' = k ∧ i' = i)) : (sd_pl h T k i v).2.1 T' k' i' = h.2.1 T' k' i' := by
  by_cases h1 : T' = T
  · subst h1
    by_cases h2 : k' = k
    · subst h2
      have h3 : ¬ i' = i := fun e => hn ⟨rfl, rfl, e⟩
      simp [sd_pl, h3]
    · simp [sd_pl, h2]
  · simp [sd_pl, h1]
theorem sd_pl_eq {h : sd_H} {T k i : Nat} {v : Int64} : (sd_pl h T k i v).2.1 T k i = v := by simp [sd_pl]
theorem sd_pr_ne {h : sd_H} {T k i : Nat} {v : Option Nat} {T' k' i' : Nat} (hn : ¬ (T' = T ∧ k' = k ∧ i' = i)) : (sd_pr h T k i v).2.2.1 T' k' i' = h.2.2.1 T' k' i' := by
  by_cases h1 : T' = T
  · subst h1
    by_cases h2 : k' = k
    · subst h2
      have h3 : ¬ i' = i := fun e => hn ⟨rfl, rfl, e⟩
      simp [sd_pr, h3]
    · simp [sd_pr, h2]
  · simp [sd_pr, h1]
theorem sd_pr_eq {h : sd_H} {T k i : Nat} {v : Option Nat} : (sd_pr h T k i v).2.2.1 T k i = v := by simp [sd_pr]
/-- one place of one cell changes -/
theorem sd_at_kept {D : va_G} {U : State} {ad : sd_A} {h h' : sd_H} {H H' : Heap} {T k : Nat} (a : sd_at D U ad h H T k) (hf : ∀ i, sd_fv ad h' T k i = sd_fv ad h T k i) (hq : H'[ad T k]? = H[ad T k]?) : sd_at D U ad h' H' T k := by
  have e : sd_fv ad h' T k = sd_fv ad h T k := funext hf
  unfold sd_at at a ⊢
  rw [e]
  cases hb : sd_ob T with
  | true => rw [hb] at a; exact t_OB.kept a hq
  | false => rw [hb] at a; obtain ⟨cA, a1, a2⟩ := a; exact ⟨cA, by rw [hq]; exact a1, a2⟩
theorem sd_S_put {D : va_G} {base : Nat} {ad : sd_A} {h h' : sd_H} {U : State} {H H' : Heap} {T k : Nat} (hS : sd_S D base ad h U H) (hT : T < sd_nT) (hk : k < h.2.2.2 T) (hc : h'.2.2.2 = h.2.2.2) (hf : ∀ T' k' i, ¬ (T' = T ∧ k' = k) → sd_fv ad h' T' k' i = sd_fv ad h T' k' i)
    (hr : ∀ T' k' i t : Nat, T' < sd_nT → k' < h.2.2.2 T' → sd_fc T' i = t + 3 → ∀ o : Nat, h'.2.2.1 T' k' i = some o → t < sd_nT ∧ o < h.2.2.2 t) (hz : H'.size = H.size) (ho : ∀ q : Nat, q ≠ ad T k → H'[q]? = H[q]?) (ha : sd_at D U ad h' H' T k) : sd_S D base ad h' U H' := by
  obtain ⟨s1, s2, s3, s4, s5⟩ := hS
  refine ⟨s1, by rw [hz]; exact s2, ?_, ?_, ?_⟩
  · intro T' k' h1 h2
    rw [hc] at h2
    obtain ⟨q1, q2, q3⟩ := s3 T' k' h1 h2
    refine ⟨?_, q2, by rw [hz]; exact q3⟩
    by_cases he : T' = T ∧ k' = k
    · obtain ⟨rfl, rfl⟩ := he; exact ha
    · exact sd_at_kept q1 (fun i => hf T' k' i he) (ho _ fun e => he (s4 T' k' T k h1 h2 hT hk e))
  · rw [hc]; exact s4
  · rw [hc]; exact hr
theorem sd_S.moved {D : va_G} {base : Nat} {ad : sd_A} {h : sd_H} {u U : State} {H : Heap} (hvm : u.vm.Alike U.vm) (hS : sd_S D base ad h u H) : sd_S D base ad h U H := by
  obtain ⟨s1, s2, s3, s4, s5⟩ := hS
  refine ⟨va_K.moved hvm s1, s2, fun T k h1 h2 => ?_, s4, s5⟩
  obtain ⟨q1, q2⟩ := s3 T k h1 h2
  refine ⟨?_, q2⟩
  unfold sd_at at q1 ⊢
  cases hb : sd_ob T with
  | true => rw [hb] at q1; exact q1
  | false => rw [hb] at q1; obtain ⟨cA, a1, a2, a3⟩ := q1; exact ⟨cA, a1, arrOfT_moved hvm a2, a3.moved hvm⟩
/-- a cell of an object, a cell of a row -/
theorem sd_S.ob {D : va_G} {base : Nat} {ad : sd_A} {h : sd_H} {U : State} {H : Heap} {T k : Nat} (hS : sd_S D base ad h U H) (hT : T < 8) (hk : k < h.2.2.2 T) : t_OB (ad T k) (D.1 T) (sd_tn T) (D.2 T) H (sd_fv ad h T k) := by
  have a := (hS.2.2.1 T k (by show T < 46; omega) hk).1
  unfold sd_at at a
  rw [sd_ob8 hT] at a
  exact a
theorem sd_S.ar {D : va_G} {base : Nat} {ad : sd_A} {h : sd_H} {U : State} {H : Heap} {T k : Nat} (hS : sd_S D base ad h U H) (h8 : 8 ≤ T) (hT : T < sd_nT) (hk : k < h.2.2.2 T) : ∃ cA : ClassId, H[ad T k]? = some (arrV cA (sd_tn T) (sd_fv ad h T k)) ∧ ArrOfT U cA (sd_aty (sd_fc T 0)) ∧ va_RA U cA (sd_aty (sd_fc T 0)) := by
  have a := (hS.2.2.1 T k hT hk).1
  unfold sd_at at a
  rw [sd_ob0 h8 hT] at a
  exact a
theorem sd_ar_at {D : va_G} {U : State} {ad : sd_A} {h : sd_H} {H : Heap} {T k : Nat} (h8 : 8 ≤ T) (hT : T < sd_nT) {cA : ClassId} (a1 : H[ad T k]? = some (arrV cA (sd_tn T) (sd_fv ad h T k))) (a2 : ArrOfT U cA (sd_aty (sd_fc T 0)) ∧ va_RA U cA (sd_aty (sd_fc T 0))) : sd_at D U ad h H T k := by
  unfold sd_at
  rw [sd_ob0 h8 hT]
  exact ⟨cA, a1, a2⟩
theorem sd_ob_at {D : va_G} {U : State} {ad : sd_A} {h : sd_H} {H : Heap} {T k : Nat} (h8 : T < 8) (a : t_OB (ad T k) (D.1 T) (sd_tn T) (D.2 T) H (sd_fv ad h T k)) : sd_at D U ad h H T k := by
  unfold sd_at
  rw [sd_ob8 h8]
  exact a
/-- what a place of a cell holds behind a write, by its code -/
theorem sd_up_i {ad : sd_A} {h : sd_H} {T k i : Nat} {v : Int32} (hc : sd_fc T i = 0 ∨ sd_fc T i = 2) : updV (sd_fv ad h T k) i (.int v) = sd_fv ad (sd_pi h T k i v) T k := by
  funext j
  unfold updV
  by_cases hj : j = i
  · subst hj; rw [if_pos rfl, sd_fv_i hc, sd_pi_eq]
  · rw [if_neg hj]; exact (sd_fv_congr (sd_pi_ne (fun q => hj q.2.2)) rfl rfl).symm
theorem sd_up_l {ad : sd_A} {h : sd_H} {T k i : Nat} {v : Int64} (hc : sd_fc T i = 1) : updV (sd_fv ad h T k) i (.long v) = sd_fv ad (sd_pl h T k i v) T k := by
  funext j
  unfold updV
  by_cases hj : j = i
  · subst hj; rw [if_pos rfl, sd_fv_l hc, sd_pl_eq]
  · rw [if_neg hj]; exact (sd_fv_congr (h := h) (h' := sd_pl h T k i v) rfl (sd_pl_ne (fun q => hj q.2.2)) rfl).symm
theorem sd_up_r {ad : sd_A} {h : sd_H} {T k i t : Nat} {v : Option Nat} (hc : sd_fc T i = t + 3) : updV (sd_fv ad h T k) i (va_rf (v.map (ad t))) = sd_fv ad (sd_pr h T k i v) T k := by
  funext j
  unfold updV
  by_cases hj : j = i
  · subst hj; rw [if_pos rfl, sd_fv_r hc, sd_pr_eq]
  · rw [if_neg hj]; exact (sd_fv_congr (h := h) (h' := sd_pr h T k i v) rfl rfl (sd_pr_ne (fun q => hj q.2.2))).symm
theorem sd_S_pi {D : va_G} {base : Nat} {ad : sd_A} {h : sd_H} {U : State} {H H' : Heap} {T k i : Nat} {v : Int32} (hS : sd_S D base ad h U H) (hT : T < sd_nT) (hk : k < h.2.2.2 T) (hz : H'.size = H.size) (ho : ∀ q : Nat, q ≠ ad T k → H'[q]? = H[q]?) (ha : sd_at D U ad (sd_pi h T k i v) H' T k) : sd_S D base ad (sd_pi h T k i v) U H' :=
  sd_S_put hS hT hk rfl (fun T' k' j hn => sd_fv_congr (sd_pi_ne fun q => hn ⟨q.1, q.2.1⟩) rfl rfl) hS.2.2.2.2 hz ho ha
theorem sd_S_pl {D : va_G} {base : Nat} {ad : sd_A} {h : sd_H} {U : State} {H H' : Heap} {T k i : Nat} {v : Int64} (hS : sd_S D base ad h U H) (hT : T < sd_nT) (hk : k < h.2.2.2 T) (hz : H'.size = H.size) (ho : ∀ q : Nat, q ≠ ad T k → H'[q]? = H[q]?) (ha : sd_at D U ad (sd_pl h T k i v) H' T k) : sd_S D base ad (sd_pl h T k i v) U H' :=
  sd_S_put hS hT hk rfl (fun T' k' j hn => sd_fv_congr rfl (sd_pl_ne fun q => hn ⟨q.1, q.2.1⟩) rfl) hS.2.2.2.2 hz ho ha
theorem sd_S_pr {D : va_G} {base : Nat} {ad : sd_A} {h : sd_H} {U : State} {H H' : Heap} {T k i t : Nat} {v : Option Nat} (hS : sd_S D base ad h U H) (hT : T < sd_nT) (hk : k < h.2.2.2 T) (hc : sd_fc T i = t + 3) (hv : ∀ o, v = some o → t < sd_nT ∧ o < h.2.2.2 t) (hz : H'.size = H.size) (ho : ∀ q : Nat, q ≠ ad T k → H'[q]? = H[q]?) (ha : sd_at D U ad (sd_pr h T k i v) H' T k) : sd_S D base ad (sd_pr h T k i v) U H' := by
  refine sd_S_put hS hT hk rfl (fun T' k' j hn => sd_fv_congr rfl rfl (sd_pr_ne fun q => hn ⟨q.1, q.2.1⟩)) (fun T' k' j t' h1 h2 h3 o h4 => ?_) hz ho ha
  by_cases he : T' = T ∧ k' = k ∧ j = i
  · obtain ⟨rfl, rfl, rfl⟩ := he
    rw [sd_pr_eq] at h4
    rw [hc] at h3
    rw [show t' = t by omega]
    exact hv o h4
  · rw [sd_pr_ne he] at h4
    exact hS.2.2.2.2 T' k' j t' h1 h2 h3 o h4
/-- a new cell -/
def sd_ad (ad : sd_A) (h : sd_H) (T a : Nat) : sd_A := fun T' k' => if T' = T ∧ k' = h.2.2.2 T then a else ad T' k'
theorem sd_ad_new {ad : sd_A} {h : sd_H} {T a : Nat} : sd_ad ad h T a T (h.2.2.2 T) = a := by simp [sd_ad]
theorem sd_ad_old {ad : sd_A} {h : sd_H} {T a T' k' : Nat} (hn : ¬ (T' = T ∧ k' = h.2.2.2 T)) : sd_ad ad h T a T' k' = ad T' k' := by simp [sd_ad, hn]
theorem sd_nw_old {h : sd_H} {T T' k' : Nat} (hn : ¬ (T' = T ∧ k' = h.2.2.2 T)) (i : Nat) : (sd_nw h T).1 T' k' i = h.1 T' k' i ∧ (sd_nw h T).2.1 T' k' i = h.2.1 T' k' i ∧ (sd_nw h T).2.2.1 T' k' i = h.2.2.1 T' k' i := by
  by_cases h1 : T' = T
  · subst h1
    have h2 : ¬ k' = h.2.2.2 T' := fun e => hn ⟨rfl, e⟩
    simp [sd_nw, h2]
  · simp [sd_nw, h1]
theorem sd_nw_new {h : sd_H} {T : Nat} (i : Nat) : (sd_nw h T).1 T (h.2.2.2 T) i = 0 ∧ (sd_nw h T).2.1 T (h.2.2.2 T) i = 0 ∧ (sd_nw h T).2.2.1 T (h.2.2.2 T) i = none := by simp [sd_nw]
theorem sd_nw_cnt (h : sd_H) (T T' : Nat) : (sd_nw h T).2.2.2 T' = if T' = T then h.2.2.2 T + 1 else h.2.2.2 T' := rfl
theorem sd_nw_ext {ad : sd_A} {h : sd_H} {T a : Nat} (hT : T < sd_nT) : sd_ext h ad (sd_nw h T) (sd_ad ad h T a) := by
  refine ⟨fun T' k' hk => ?_, fun T' => ?_⟩
  · refine sd_ad_old fun q => ?_
    obtain ⟨rfl, rfl⟩ := q
    rcases hk with hk | hk <;> omega
  · rw [sd_nw_cnt]; split
    · next e => subst e; omega
    · exact Nat.le_refl _
theorem sd_S_nw {D : va_G} {base : Nat} {ad : sd_A} {h : sd_H} {U : State} {H H' : Heap} {T : Nat} (hS : sd_S D base ad h U H) (hT : T < sd_nT) (hz : H'.size = H.size + 1) (ho : ∀ q : Nat, q < H.size → H'[q]? = H[q]?)
    (ha : sd_at D U (sd_ad ad h T H.size) (sd_nw h T) H' T (h.2.2.2 T)) : sd_S D base (sd_ad ad h T H.size) (sd_nw h T) U H' := by
  obtain ⟨s1, s2, s3, s4, s5⟩ := hS
  have cnt : ∀ T' k', k' < (sd_nw h T).2.2.2 T' → (T' = T ∧ k' = h.2.2.2 T) ∨ (¬ (T' = T ∧ k' = h.2.2.2 T) ∧ k' < h.2.2.2 T') := by
    intro T' k' hk
    rw [sd_nw_cnt] at hk
    by_cases he : T' = T ∧ k' = h.2.2.2 T
    · exact Or.inl he
    · refine Or.inr ⟨he, ?_⟩
      split at hk
      · next e => subst e; have : k' ≠ h.2.2.2 T' := fun q => he ⟨rfl, q⟩
                  omega
      · exact hk
  have wf : ∀ T' k' i t, T' < sd_nT → k' < (sd_nw h T).2.2.2 T' → sd_fc T' i = t + 3 → ∀ o, (sd_nw h T).2.2.1 T' k' i = some o → t < sd_nT ∧ o < h.2.2.2 t := by
    intro T' k' i t h1 h2 h3 o h4
    rcases cnt T' k' h2 with ⟨rfl, rfl⟩ | ⟨hn, hk⟩
    · rw [(sd_nw_new i).2.2] at h4; cases h4
    · rw [(sd_nw_old hn i).2.2] at h4
      exact s5 T' k' i t h1 hk h3 o h4
  refine ⟨s1, by omega, fun T' k' h1 h2 => ?_, fun T1 k1 T2 k2 h1 h2 h3 h4 he => ?_, fun T' k' i t h1 h2 h3 o h4 => ?_⟩
  · rcases cnt T' k' h2 with ⟨rfl, rfl⟩ | ⟨hn, hk⟩
    · refine ⟨ha, ?_, ?_⟩ <;> rw [sd_ad_new] <;> omega
    · obtain ⟨q1, q2, q3⟩ := s3 T' k' h1 hk
      rw [sd_ad_old hn]
      refine ⟨?_, q2, by omega⟩
      have hfv : sd_fv (sd_ad ad h T H.size) (sd_nw h T) T' k' = sd_fv ad h T' k' := by
        funext i
        obtain ⟨e1, e2, e3⟩ := sd_nw_old hn i
        unfold sd_fv
        split
        · rw [e1]
        · rw [e2]
        · rw [e1]
        · next t hc =>
          rw [e3]
          cases hr : h.2.2.1 T' k' i with
          | none => rfl
          | some o =>
            have hlt := (s5 T' k' i t h1 hk hc o hr).2
            show va_rf (some (sd_ad ad h T H.size t o)) = _
            rw [sd_ad_old fun q => by obtain ⟨rfl, rfl⟩ := q; omega]
            rfl
      unfold sd_at at q1 ⊢
      rw [hfv, sd_ad_old hn]
      cases hb : sd_ob T' with
      | true => rw [hb] at q1; exact t_OB.kept q1 (ho _ q3)
      | false => rw [hb] at q1; obtain ⟨cA, a1, a2⟩ := q1; exact ⟨cA, by rw [ho _ q3]; exact a1, a2⟩
  · rcases cnt T1 k1 h2 with ⟨rfl, rfl⟩ | ⟨hn1, hk1⟩
    · rcases cnt T2 k2 h4 with ⟨rfl, rfl⟩ | ⟨hn2, hk2⟩
      · exact ⟨rfl, rfl⟩
      · rw [sd_ad_new, sd_ad_old hn2] at he
        have := (s3 T2 k2 h3 hk2).2.2
        omega
    · rcases cnt T2 k2 h4 with ⟨rfl, rfl⟩ | ⟨hn2, hk2⟩
      · rw [sd_ad_new, sd_ad_old hn1] at he
        have := (s3 T1 k1 h1 hk1).2.2
        omega
      · rw [sd_ad_old hn1, sd_ad_old hn2] at he
        exact s4 T1 k1 T2 k2 h1 hk1 h3 hk2 he
  · obtain ⟨q1, q2⟩ := wf T' k' i t h1 h2 h3 o h4
    refine ⟨q1, ?_⟩
    rw [sd_nw_cnt]; split
    · next e => subst e; omega
    · exact q2
/-- the fields of a new object, the places of a new row -/
def sd_zv (c : Nat) : Value := match c with
  | 0 => .int 0
  | 1 => .long 0
  | 2 => .int 0
  | _ + 3 => .null
theorem sd_fv_new {ad : sd_A} {h : sd_H} {T i : Nat} : sd_fv ad (sd_nw h T) T (h.2.2.2 T) i = sd_zv (sd_fc T i) := by
  obtain ⟨e1, e2, e3⟩ := sd_nw_new (h := h) (T := T) i
  unfold sd_fv
  rw [e1, e2, e3]
  generalize sd_fc T i = c
  match c with
  | 0 => rfl
  | 1 => rfl
  | 2 => rfl
  | _ + 3 => rfl
theorem sd_dv {c : Nat} {t : FieldType} (h : sd_fk c t = true) : defaultValue t = sd_zv c := by
  match c, t, h with
  | 0, .int, _ => rfl
  | 1, .long, _ => rfl
  | 2, .boolean, _ => rfl
  | _ + 3, .object _, _ => rfl
  | _ + 3, .array _, _ => rfl
theorem sd_rv_ext {h h' : sd_H} {ad ad' : sd_A} (hx : sd_ext h ad h' ad') {v : sd_V} (hv : sd_ok h v) : sd_rv ad' v = sd_rv ad v := by
  rcases v with x | x | ⟨t, _ | k⟩
  · rfl
  · rfl
  · rfl
  · show va_rf (some (ad' t k)) = va_rf (some (ad t k))
    rw [hx.1 t k (hv t k rfl)]
theorem sd_ok_ext {h h' : sd_H} {ad ad' : sd_A} (hx : sd_ext h ad h' ad') {v : sd_V} (hv : sd_ok h v) : sd_ok h' v := by
  intro t k e
  rcases hv t k e with ⟨q1, q2⟩ | q
  · exact Or.inl ⟨q1, Nat.lt_of_lt_of_le q2 (hx.2 t)⟩
  · exact Or.inr q
theorem sd_map_ext {h h' : sd_H} {ad ad' : sd_A} (hx : sd_ext h ad h' ad') {st : List sd_V} (hv : ∀ v ∈ st, sd_ok h v) : st.map (sd_rv ad') = st.map (sd_rv ad) := List.map_congr_left fun v h => sd_rv_ext hx (hv v h)
theorem sd_al_ext {h h' : sd_H} {ad ad' : sd_A} (hx : sd_ext h ad h' ad') : ∀ (ls : List (Option sd_V)) (b : Nat), (∀ v, some v ∈ ls → sd_ok h v) → sd_al ad' b ls = sd_al ad b ls
  | [], _, _ => rfl
  | none :: t, b, hv => sd_al_ext hx t (b + 1) fun v h => hv v (List.mem_cons_of_mem _ h)
  | some u :: t, b, hv => by
    show (b, sd_rv ad' u) :: sd_al ad' (b + 1) t = (b, sd_rv ad u) :: sd_al ad (b + 1) t
    rw [sd_rv_ext hx (hv u List.mem_cons_self), sd_al_ext hx t (b + 1) fun v h => hv v (List.mem_cons_of_mem _ h)]
theorem sd_ext.rf (h : sd_H) (ad : sd_A) : sd_ext h ad h ad := ⟨fun _ _ _ => rfl, fun _ => Nat.le_refl _⟩
theorem sd_ext.tr {h1 h2 h3 : sd_H} {a1 a2 a3 : sd_A} (x : sd_ext h1 a1 h2 a2) (z : sd_ext h2 a2 h3 a3) : sd_ext h1 a1 h3 a3 := by
  refine ⟨fun T k hk => ?_, fun T => Nat.le_trans (x.2 T) (z.2 T)⟩
  rw [z.1 T k (by rcases hk with ⟨q1, q2⟩ | q; exact Or.inl ⟨q1, Nat.lt_of_lt_of_le q2 (x.2 T)⟩; exact Or.inr q), x.1 T k hk]
theorem sd_wd_mem {w : Nat} {q : Cond} (h : sd_wd w = some q) : q ∈ lw_tbl := List.mem_of_getElem? h
